theorem dX5_countBefore_111 : decode cX5_countBefore 111 = .ok (.getfield 40, 3) := by decide +kernel
theorem dX5_countBefore_114 : decode cX5_countBefore 114 = .ok (.iload_n 2, 1) := by decide +kernel
theorem dX5_countBefore_115 : decode cX5_countBefore 115 = .ok (.iaload, 1) := by decide +kernel
theorem dX5_countBefore_116 : decode cX5_countBefore 116 = .ok (.if_icmp .ge 31, 3) := by decide +kernel
theorem dX5_countBefore_119 : decode cX5_countBefore 119 = .ok (.lload 7, 2) := by decide +kernel
theorem dX5_countBefore_121 : decode cX5_countBefore 121 = .ok (.aload_n 1, 1) := by decide +kernel
theorem dX5_countBefore_122 : decode cX5_countBefore 122 = .ok (.iload_n 3, 1) := by decide +kernel
theorem dX5_countBefore_123 : decode cX5_countBefore 123 = .ok (.iload 5, 2) := by decide +kernel
theorem dX5_countBefore_125 : decode cX5_countBefore 125 = .ok (.iload 6, 2) := by decide +kernel
theorem dX5_countBefore_127 : decode cX5_countBefore 127 = .ok (.aload_n 0, 1) := by decide +kernel
theorem dX5_countBefore_128 : decode cX5_countBefore 128 = .ok (.getfield 37, 3) := by decide +kernel
theorem dX5_countBefore_131 : decode cX5_countBefore 131 = .ok (.iload_n 2, 1) := by decide +kernel
theorem dX5_countBefore_132 : decode cX5_countBefore 132 = .ok (.iaload, 1) := by decide +kernel
theorem dX5_countBefore_133 : decode cX5_countBefore 133 = .ok (.iload 9, 2) := by decide +kernel
theorem dX5_countBefore_135 : decode cX5_countBefore 135 = .ok (.invokevirtual 118, 3) := by decide +kernel
theorem dX5_countBefore_138 : decode cX5_countBefore 138 = .ok (.ladd, 1) := by decide +kernel
theorem dX5_countBefore_139 : decode cX5_countBefore 139 = .ok (.lstore 7, 2) := by decide +kernel
theorem dX5_countBefore_141 : decode cX5_countBefore 141 = .ok (.iinc 9 1, 3) := by decide +kernel
theorem dX5_countBefore_144 : decode cX5_countBefore 144 = .ok (.goto (-36), 3) := by decide +kernel
theorem dX5_countBefore_147 : decode cX5_countBefore 147 = .ok (.lload 7, 2) := by decide +kernel
theorem dX5_countBefore_149 : decode cX5_countBefore 149 = .ok (.lreturn, 1) := by decide +kernel
theorem dX6_init_0 : decode cX6_init 0 = .ok (.aload_n 0, 1) := by decide +kernel
theorem dX6_init_1 : decode cX6_init 1 = .ok (.invokespecial 3, 3) := by decide +kernel
theorem dX6_init_4 : decode cX6_init 4 = .ok (.aload_n 0, 1) := by decide +kernel
theorem dX6_init_5 : decode cX6_init 5 = .ok (.iconst 0, 1) := by decide +kernel
theorem dX6_init_6 : decode cX6_init 6 = .ok (.putfield 9, 3) := by decide +kernel
theorem dX6_init_9 : decode cX6_init 9 = .ok (.aload_n 0, 1) := by decide +kernel
theorem dX6_init_10 : decode cX6_init 10 = .ok (.bipush 8, 2) := by decide +kernel
theorem dX6_init_12 : decode cX6_init 12 = .ok (.newarray .int, 2) := by decide +kernel
theorem dX6_init_14 : decode cX6_init 14 = .ok (.putfield 15, 3) := by decide +kernel
theorem dX6_init_17 : decode cX6_init 17 = .ok (.return_, 1) := by decide +kernel
theorem dX6_copy_0 : decode cX6_copy 0 = .ok (.aload_n 0, 1) := by decide +kernel
theorem dX6_copy_1 : decode cX6_copy 1 = .ok (.aload_n 1, 1) := by decide +kernel
theorem dX6_copy_2 : decode cX6_copy 2 = .ok (.getfield 9, 3) := by decide +kernel
theorem dX6_copy_5 : decode cX6_copy 5 = .ok (.putfield 9, 3) := by decide +kernel
theorem dX6_copy_8 : decode cX6_copy 8 = .ok (.iconst 0, 1) := by decide +kernel
theorem dX6_copy_9 : decode cX6_copy 9 = .ok (.istore_n 2, 1) := by decide +kernel
theorem dX6_copy_10 : decode cX6_copy 10 = .ok (.iload_n 2, 1) := by decide +kernel
theorem dX6_copy_11 : decode cX6_copy 11 = .ok (.bipush 8, 2) := by decide +kernel
theorem dX6_copy_13 : decode cX6_copy 13 = .ok (.if_icmp .ge 21, 3) := by decide +kernel
theorem dX6_copy_16 : decode cX6_copy 16 = .ok (.aload_n 0, 1) := by decide +kernel
theorem dX6_copy_17 : decode cX6_copy 17 = .ok (.getfield 15, 3) := by decide +kernel
theorem dX6_copy_20 : decode cX6_copy 20 = .ok (.iload_n 2, 1) := by decide +kernel
theorem dX6_copy_21 : decode cX6_copy 21 = .ok (.aload_n 1, 1) := by decide +kernel
theorem dX6_copy_22 : decode cX6_copy 22 = .ok (.getfield 15, 3) := by decide +kernel
theorem dX6_copy_25 : decode cX6_copy 25 = .ok (.iload_n 2, 1) := by decide +kernel
theorem dX6_copy_26 : decode cX6_copy 26 = .ok (.iaload, 1) := by decide +kernel
theorem dX6_copy_27 : decode cX6_copy 27 = .ok (.iastore, 1) := by decide +kernel
theorem dX6_copy_28 : decode cX6_copy 28 = .ok (.iinc 2 1, 3) := by decide +kernel
theorem dX6_copy_31 : decode cX6_copy 31 = .ok (.goto (-21), 3) := by decide +kernel
theorem dX6_copy_34 : decode cX6_copy 34 = .ok (.return_, 1) := by decide +kernel
theorem dX6_letter_0 : decode cX6_letter 0 = .ok (.iload_n 1, 1) := by decide +kernel
theorem dX6_letter_1 : decode cX6_letter 1 = .ok (.ifCond .lt 18, 3) := by decide +kernel
theorem dX6_letter_4 : decode cX6_letter 4 = .ok (.iload_n 1, 1) := by decide +kernel
theorem dX6_letter_5 : decode cX6_letter 5 = .ok (.bipush 8, 2) := by decide +kernel
theorem dX6_letter_7 : decode cX6_letter 7 = .ok (.if_icmp .ge 12, 3) := by decide +kernel
theorem dX6_letter_10 : decode cX6_letter 10 = .ok (.aload_n 0, 1) := by decide +kernel
theorem dX6_letter_11 : decode cX6_letter 11 = .ok (.getfield 15, 3) := by decide +kernel
theorem dX6_letter_14 : decode cX6_letter 14 = .ok (.iload_n 1, 1) := by decide +kernel
theorem dX6_letter_15 : decode cX6_letter 15 = .ok (.iaload, 1) := by decide +kernel
theorem dX6_letter_16 : decode cX6_letter 16 = .ok (.goto 4, 3) := by decide +kernel
theorem dX6_letter_19 : decode cX6_letter 19 = .ok (.iconst 0, 1) := by decide +kernel
theorem dX6_letter_20 : decode cX6_letter 20 = .ok (.ireturn, 1) := by decide +kernel
theorem dX6_put_0 : decode cX6_put 0 = .ok (.iload_n 1, 1) := by decide +kernel
theorem dX6_put_1 : decode cX6_put 1 = .ok (.ifCond .lt 16, 3) := by decide +kernel
theorem dX6_put_4 : decode cX6_put 4 = .ok (.iload_n 1, 1) := by decide +kernel
theorem dX6_put_5 : decode cX6_put 5 = .ok (.bipush 8, 2) := by decide +kernel
theorem dX6_put_7 : decode cX6_put 7 = .ok (.if_icmp .ge 10, 3) := by decide +kernel
theorem dX6_put_10 : decode cX6_put 10 = .ok (.aload_n 0, 1) := by decide +kernel
theorem dX6_put_11 : decode cX6_put 11 = .ok (.getfield 15, 3) := by decide +kernel
theorem dX6_put_14 : decode cX6_put 14 = .ok (.iload_n 1, 1) := by decide +kernel
theorem dX6_put_15 : decode cX6_put 15 = .ok (.iload_n 2, 1) := by decide +kernel
theorem dX6_put_16 : decode cX6_put 16 = .ok (.iastore, 1) := by decide +kernel
theorem dX6_put_17 : decode cX6_put 17 = .ok (.return_, 1) := by decide +kernel
set_option maxRecDepth 20000 in
theorem ggX6_key_X6_letter : GoodIn wsX6_key wsX6_letter := goodIn_r _ [6, 7, 8, 9] (by decide +kernel) (by decide +kernel)
set_option maxRecDepth 20000 in
theorem gX6_key_X6_letter : GoodIn wsX6_key (wsV RX6 19 RX6 yX6_letter wsX6_letter) := goodIn_app (goodIn_of _ (by decide +kernel)) ggX6_key_X6_letter
theorem dX6_key_0 : decode cX6_key 0 = .ok (.iconst 0, 1) := by decide +kernel
theorem dX6_key_1 : decode cX6_key 1 = .ok (.istore_n 2, 1) := by decide +kernel
theorem dX6_key_2 : decode cX6_key 2 = .ok (.iconst 0, 1) := by decide +kernel
theorem dX6_key_3 : decode cX6_key 3 = .ok (.istore_n 3, 1) := by decide +kernel
theorem dX6_key_4 : decode cX6_key 4 = .ok (.iload_n 3, 1) := by decide +kernel
theorem dX6_key_5 : decode cX6_key 5 = .ok (.aload_n 0, 1) := by decide +kernel
theorem dX6_key_6 : decode cX6_key 6 = .ok (.getfield 9, 3) := by decide +kernel
theorem dX6_key_9 : decode cX6_key 9 = .ok (.if_icmp .ge 19, 3) := by decide +kernel
theorem dX6_key_12 : decode cX6_key 12 = .ok (.iload_n 2, 1) := by decide +kernel
theorem dX6_key_13 : decode cX6_key 13 = .ok (.iload_n 1, 1) := by decide +kernel
theorem dX6_key_14 : decode cX6_key 14 = .ok (.imul, 1) := by decide +kernel
theorem dX6_key_15 : decode cX6_key 15 = .ok (.aload_n 0, 1) := by decide +kernel
theorem dX6_key_16 : decode cX6_key 16 = .ok (.iload_n 3, 1) := by decide +kernel
theorem dX6_key_17 : decode cX6_key 17 = .ok (.invokevirtual 19, 3) := by decide +kernel
theorem dX6_key_20 : decode cX6_key 20 = .ok (.iadd, 1) := by decide +kernel
theorem dX6_key_21 : decode cX6_key 21 = .ok (.istore_n 2, 1) := by decide +kernel
theorem dX6_key_22 : decode cX6_key 22 = .ok (.iinc 3 1, 3) := by decide +kernel
theorem dX6_key_25 : decode cX6_key 25 = .ok (.goto (-21), 3) := by decide +kernel
theorem dX6_key_28 : decode cX6_key 28 = .ok (.iload_n 2, 1) := by decide +kernel
theorem dX6_key_29 : decode cX6_key 29 = .ok (.ireturn, 1) := by decide +kernel
set_option maxRecDepth 20000 in
theorem ggX6_set_X6_put : GoodIn wsX6_set wsX6_put := goodIn_r _ [10, 11, 12, 13] (by decide +kernel) (by decide +kernel)
set_option maxRecDepth 20000 in
theorem gX6_set_X6_put : GoodIn wsX6_set (wsV RX6 29 RX6 yX6_put wsX6_put) := goodIn_app (goodIn_of _ (by decide +kernel)) ggX6_set_X6_put
theorem dX6_set_0 : decode cX6_set 0 = .ok (.iconst 1, 1) := by decide +kernel
theorem dX6_set_1 : decode cX6_set 1 = .ok (.iload_n 3, 1) := by decide +kernel
theorem dX6_set_2 : decode cX6_set 2 = .ok (.invokestatic 23, 3) := by decide +kernel
theorem dX6_set_5 : decode cX6_set 5 = .ok (.istore 4, 2) := by decide +kernel
theorem dX6_set_7 : decode cX6_set 7 = .ok (.iload_n 2, 1) := by decide +kernel
theorem dX6_set_8 : decode cX6_set 8 = .ok (.istore 5, 2) := by decide +kernel
theorem dX6_set_10 : decode cX6_set 10 = .ok (.aload_n 0, 1) := by decide +kernel
theorem dX6_set_11 : decode cX6_set 11 = .ok (.iload_n 1, 1) := by decide +kernel
theorem dX6_set_12 : decode cX6_set 12 = .ok (.putfield 9, 3) := by decide +kernel
theorem dX6_set_15 : decode cX6_set 15 = .ok (.iload_n 1, 1) := by decide +kernel
theorem dX6_set_16 : decode cX6_set 16 = .ok (.iconst 1, 1) := by decide +kernel
theorem dX6_set_17 : decode cX6_set 17 = .ok (.isub, 1) := by decide +kernel
theorem dX6_set_18 : decode cX6_set 18 = .ok (.istore 6, 2) := by decide +kernel
theorem dX6_set_20 : decode cX6_set 20 = .ok (.iload 6, 2) := by decide +kernel
theorem dX6_set_22 : decode cX6_set 22 = .ok (.ifCond .lt 27, 3) := by decide +kernel
theorem dX6_set_25 : decode cX6_set 25 = .ok (.aload_n 0, 1) := by decide +kernel
theorem dX6_set_26 : decode cX6_set 26 = .ok (.iload 6, 2) := by decide +kernel
theorem dX6_set_28 : decode cX6_set 28 = .ok (.iload 5, 2) := by decide +kernel
theorem dX6_set_30 : decode cX6_set 30 = .ok (.iload 4, 2) := by decide +kernel
theorem dX6_set_32 : decode cX6_set 32 = .ok (.irem, 1) := by decide +kernel
theorem dX6_set_33 : decode cX6_set 33 = .ok (.invokevirtual 29, 3) := by decide +kernel
theorem dX6_set_36 : decode cX6_set 36 = .ok (.iload 5, 2) := by decide +kernel
theorem dX6_set_38 : decode cX6_set 38 = .ok (.iload 4, 2) := by decide +kernel
theorem dX6_set_40 : decode cX6_set 40 = .ok (.idiv, 1) := by decide +kernel
theorem dX6_set_41 : decode cX6_set 41 = .ok (.istore 5, 2) := by decide +kernel
theorem dX6_set_43 : decode cX6_set 43 = .ok (.iinc 6 (-1), 3) := by decide +kernel
theorem dX6_set_46 : decode cX6_set 46 = .ok (.goto (-26), 3) := by decide +kernel
theorem dX6_set_49 : decode cX6_set 49 = .ok (.return_, 1) := by decide +kernel
theorem dX7_init_0 : decode cX7_init 0 = .ok (.aload_n 0, 1) := by decide +kernel
theorem dX7_init_1 : decode cX7_init 1 = .ok (.invokespecial 3, 3) := by decide +kernel
theorem dX7_init_4 : decode cX7_init 4 = .ok (.aload_n 0, 1) := by decide +kernel
theorem dX7_init_5 : decode cX7_init 5 = .ok (.aload_n 1, 1) := by decide +kernel
theorem dX7_init_6 : decode cX7_init 6 = .ok (.putfield 9, 3) := by decide +kernel
theorem dX7_init_9 : decode cX7_init 9 = .ok (.aload_n 0, 1) := by decide +kernel
theorem dX7_init_10 : decode cX7_init 10 = .ok (.aload_n 2, 1) := by decide +kernel
theorem dX7_init_11 : decode cX7_init 11 = .ok (.putfield 15, 3) := by decide +kernel
theorem dX7_init_14 : decode cX7_init 14 = .ok (.aload_n 0, 1) := by decide +kernel
theorem dX7_init_15 : decode cX7_init 15 = .ok (.sipush 10930, 3) := by decide +kernel
theorem dX7_init_18 : decode cX7_init 18 = .ok (.newarray .long, 2) := by decide +kernel
theorem dX7_init_20 : decode cX7_init 20 = .ok (.putfield 19, 3) := by decide +kernel
theorem dX7_init_23 : decode cX7_init 23 = .ok (.aload_n 0, 1) := by decide +kernel
theorem dX7_init_24 : decode cX7_init 24 = .ok (.iconst 0, 1) := by decide +kernel
theorem dX7_init_25 : decode cX7_init 25 = .ok (.putfield 23, 3) := by decide +kernel
theorem dX7_init_28 : decode cX7_init 28 = .ok (.iconst 0, 1) := by decide +kernel
theorem dX7_init_29 : decode cX7_init 29 = .ok (.istore_n 3, 1) := by decide +kernel
theorem dX7_init_30 : decode cX7_init 30 = .ok (.iload_n 3, 1) := by decide +kernel
theorem dX7_init_31 : decode cX7_init 31 = .ok (.iconst 3, 1) := by decide +kernel
theorem dX7_init_32 : decode cX7_init 32 = .ok (.if_icmp .ge 31, 3) := by decide +kernel
theorem dX7_init_35 : decode cX7_init 35 = .ok (.aload_n 0, 1) := by decide +kernel
theorem dX7_init_36 : decode cX7_init 36 = .ok (.getfield 19, 3) := by decide +kernel
theorem dX7_init_39 : decode cX7_init 39 = .ok (.bipush 6, 2) := by decide +kernel
theorem dX7_init_41 : decode cX7_init 41 = .ok (.iload_n 3, 1) := by decide +kernel
theorem dX7_init_42 : decode cX7_init 42 = .ok (.iadd, 1) := by decide +kernel
theorem dX7_init_43 : decode cX7_init 43 = .ok (.sipush 1093, 3) := by decide +kernel
theorem dX7_init_46 : decode cX7_init 46 = .ok (.imul, 1) := by decide +kernel
theorem dX7_init_47 : decode cX7_init 47 = .ok (.getstatic 27, 3) := by decide +kernel
theorem dX7_init_50 : decode cX7_init 50 = .ok (.iconst 1, 1) := by decide +kernel
theorem dX7_init_51 : decode cX7_init 51 = .ok (.iaload, 1) := by decide +kernel
theorem dX7_init_52 : decode cX7_init 52 = .ok (.iadd, 1) := by decide +kernel
theorem dX7_init_53 : decode cX7_init 53 = .ok (.iload_n 3, 1) := by decide +kernel
theorem dX7_init_54 : decode cX7_init 54 = .ok (.iadd, 1) := by decide +kernel
theorem dX7_init_55 : decode cX7_init 55 = .ok (.lconst 1, 1) := by decide +kernel
theorem dX7_init_56 : decode cX7_init 56 = .ok (.lastore, 1) := by decide +kernel
theorem dX7_init_57 : decode cX7_init 57 = .ok (.iinc 3 1, 3) := by decide +kernel
theorem dX7_init_60 : decode cX7_init 60 = .ok (.goto (-30), 3) := by decide +kernel
theorem dX7_init_63 : decode cX7_init 63 = .ok (.aload_n 0, 1) := by decide +kernel
theorem dX7_init_64 : decode cX7_init 64 = .ok (.getfield 19, 3) := by decide +kernel
theorem dX7_init_67 : decode cX7_init 67 = .ok (.sipush 9837, 3) := by decide +kernel
theorem dX7_init_70 : decode cX7_init 70 = .ok (.lconst 1, 1) := by decide +kernel
theorem dX7_init_71 : decode cX7_init 71 = .ok (.lastore, 1) := by decide +kernel
theorem dX7_init_72 : decode cX7_init 72 = .ok (.return_, 1) := by decide +kernel
theorem dX7_forget_0 : decode cX7_forget 0 = .ok (.aload_n 0, 1) := by decide +kernel
theorem dX7_forget_1 : decode cX7_forget 1 = .ok (.iconst 0, 1) := by decide +kernel
theorem dX7_forget_2 : decode cX7_forget 2 = .ok (.putfield 23, 3) := by decide +kernel
theorem dX7_forget_5 : decode cX7_forget 5 = .ok (.return_, 1) := by decide +kernel
set_option maxRecDepth 20000 in
theorem ggX7_fill_X7_clear : GoodIn wsX7_fill wsX7_clear := goodIn_r _ [12, 13, 14, 15, 16, 11, 17, 18, 19, 20, 21, 2, 83, 84, 85, 86, 87, 88, 89, 90, 91, 92, 93] (by decide +kernel) (by decide +kernel)
set_option maxRecDepth 20000 in
theorem gX7_fill_X7_clear : GoodIn wsX7_fill (wsV RX7 36 RX7 yX7_clear wsX7_clear) := goodIn_app (goodIn_of _ (by decide +kernel)) ggX7_fill_X7_clear
set_option maxRecDepth 20000 in
theorem ggX7_fill_X0_ofSecond : GoodIn wsX7_fill wsX0_ofSecond := goodIn_r _ [27, 28, 29, 30, 31, 32, 33, 34, 35, 36, 37, 38, 39, 40, 41, 42, 43, 44, 45, 46, 47, 48, 26, 49, 50, 51, 52, 53, 54, 55, 56, 57, 58, 59, 60, 61, 62, 63, 64, 65, 66, 67, 68, 69, 70, 71, 72, 73, 74, 94, 95, 96, 97, 98, 99, 100, 87, 88, 89, 90, 91, 92, 93, 101, 102] (by decide +kernel) (by decide +kernel)
set_option maxRecDepth 20000 in
theorem gX7_fill_X0_ofSecond_u43X2 : GoodIn wsX7_fill (va_wsU RX7 43 RX2 "GrammarAmbiguity$Counts" ⟨"GrammarAmbiguity$LengthCounts", "ofSecond", "(IIIII)J"⟩ yX0_ofSecond wsX0_ofSecond) := goodIn_app (goodIn_of _ (by decide +kernel)) ggX7_fill_X0_ofSecond
set_option maxRecDepth 20000 in
theorem ggX7_fill_X7_addWords : GoodIn wsX7_fill wsX7_addWords := goodIn_r _ [78, 2, 13, 29, 30, 31, 32, 33, 34, 14, 15, 16, 11, 17, 18, 19, 20, 21, 79, 80, 81, 82, 83, 84, 85, 86, 87, 88, 89, 90, 91, 92, 93] (by decide +kernel) (by decide +kernel)
set_option maxRecDepth 20000 in
theorem gX7_fill_X7_addWords : GoodIn wsX7_fill (wsV RX7 49 RX7 yX7_addWords wsX7_addWords) := goodIn_app (goodIn_of _ (by decide +kernel)) ggX7_fill_X7_addWords
theorem dX7_fill_0 : decode cX7_fill 0 = .ok (.aload_n 0, 1) := by decide +kernel
theorem dX7_fill_1 : decode cX7_fill 1 = .ok (.getfield 23, 3) := by decide +kernel
theorem dX7_fill_4 : decode cX7_fill 4 = .ok (.iconst 1, 1) := by decide +kernel
theorem dX7_fill_5 : decode cX7_fill 5 = .ok (.iadd, 1) := by decide +kernel
theorem dX7_fill_6 : decode cX7_fill 6 = .ok (.istore_n 2, 1) := by decide +kernel
theorem dX7_fill_7 : decode cX7_fill 7 = .ok (.iload_n 2, 1) := by decide +kernel
theorem dX7_fill_8 : decode cX7_fill 8 = .ok (.iload_n 1, 1) := by decide +kernel
theorem dX7_fill_9 : decode cX7_fill 9 = .ok (.if_icmp .gt 115, 3) := by decide +kernel
theorem dX7_fill_12 : decode cX7_fill 12 = .ok (.iconst 0, 1) := by decide +kernel
theorem dX7_fill_13 : decode cX7_fill 13 = .ok (.istore_n 3, 1) := by decide +kernel
theorem dX7_fill_14 : decode cX7_fill 14 = .ok (.iload_n 3, 1) := by decide +kernel
theorem dX7_fill_15 : decode cX7_fill 15 = .ok (.aload_n 0, 1) := by decide +kernel
theorem dX7_fill_16 : decode cX7_fill 16 = .ok (.getfield 9, 3) := by decide +kernel
theorem dX7_fill_19 : decode cX7_fill 19 = .ok (.getfield 31, 3) := by decide +kernel
theorem dX7_fill_22 : decode cX7_fill 22 = .ok (.if_icmp .ge 15, 3) := by decide +kernel
theorem dX7_fill_25 : decode cX7_fill 25 = .ok (.aload_n 0, 1) := by decide +kernel
theorem dX7_fill_26 : decode cX7_fill 26 = .ok (.iload_n 3, 1) := by decide +kernel
theorem dX7_fill_27 : decode cX7_fill 27 = .ok (.iload_n 2, 1) := by decide +kernel
theorem dX7_fill_28 : decode cX7_fill 28 = .ok (.invokevirtual 36, 3) := by decide +kernel
theorem dX7_fill_31 : decode cX7_fill 31 = .ok (.iinc 3 1, 3) := by decide +kernel
theorem dX7_fill_34 : decode cX7_fill 34 = .ok (.goto (-20), 3) := by decide +kernel
theorem dX7_fill_37 : decode cX7_fill 37 = .ok (.iconst 0, 1) := by decide +kernel
theorem dX7_fill_38 : decode cX7_fill 38 = .ok (.istore_n 3, 1) := by decide +kernel
theorem dX7_fill_39 : decode cX7_fill 39 = .ok (.iload_n 3, 1) := by decide +kernel
theorem dX7_fill_40 : decode cX7_fill 40 = .ok (.aload_n 0, 1) := by decide +kernel
theorem dX7_fill_41 : decode cX7_fill 41 = .ok (.getfield 9, 3) := by decide +kernel
theorem dX7_fill_44 : decode cX7_fill 44 = .ok (.getfield 40, 3) := by decide +kernel
theorem dX7_fill_47 : decode cX7_fill 47 = .ok (.if_icmp .ge 71, 3) := by decide +kernel
theorem dX7_fill_50 : decode cX7_fill 50 = .ok (.iconst 1, 1) := by decide +kernel
theorem dX7_fill_51 : decode cX7_fill 51 = .ok (.istore 4, 2) := by decide +kernel
theorem dX7_fill_53 : decode cX7_fill 53 = .ok (.iload 4, 2) := by decide +kernel
theorem dX7_fill_55 : decode cX7_fill 55 = .ok (.iload_n 2, 1) := by decide +kernel
theorem dX7_fill_56 : decode cX7_fill 56 = .ok (.if_icmp .gt 56, 3) := by decide +kernel
theorem dX7_fill_59 : decode cX7_fill 59 = .ok (.iconst 0, 1) := by decide +kernel
theorem dX7_fill_60 : decode cX7_fill 60 = .ok (.istore 5, 2) := by decide +kernel
theorem dX7_fill_62 : decode cX7_fill 62 = .ok (.iload 5, 2) := by decide +kernel
theorem dX7_fill_64 : decode cX7_fill 64 = .ok (.iload_n 2, 1) := by decide +kernel
theorem dX7_fill_65 : decode cX7_fill 65 = .ok (.iload 4, 2) := by decide +kernel
theorem dX7_fill_67 : decode cX7_fill 67 = .ok (.isub, 1) := by decide +kernel
theorem dX7_fill_68 : decode cX7_fill 68 = .ok (.if_icmp .gt 38, 3) := by decide +kernel
theorem dX7_fill_71 : decode cX7_fill 71 = .ok (.aload_n 0, 1) := by decide +kernel
theorem dX7_fill_72 : decode cX7_fill 72 = .ok (.getfield 15, 3) := by decide +kernel
theorem dX7_fill_75 : decode cX7_fill 75 = .ok (.iload_n 3, 1) := by decide +kernel
theorem dX7_fill_76 : decode cX7_fill 76 = .ok (.iload_n 2, 1) := by decide +kernel
theorem dX7_fill_77 : decode cX7_fill 77 = .ok (.iconst 0, 1) := by decide +kernel
theorem dX7_fill_78 : decode cX7_fill 78 = .ok (.iload 4, 2) := by decide +kernel
theorem dX7_fill_80 : decode cX7_fill 80 = .ok (.iload 5, 2) := by decide +kernel
theorem dX7_fill_82 : decode cX7_fill 82 = .ok (.invokevirtual 43, 3) := by decide +kernel
theorem dX7_fill_85 : decode cX7_fill 85 = .ok (.lconst 0, 1) := by decide +kernel
theorem dX7_fill_86 : decode cX7_fill 86 = .ok (.lcmp, 1) := by decide +kernel
theorem dX7_fill_87 : decode cX7_fill 87 = .ok (.ifCond .eq 13, 3) := by decide +kernel
theorem dX7_fill_90 : decode cX7_fill 90 = .ok (.aload_n 0, 1) := by decide +kernel
theorem dX7_fill_91 : decode cX7_fill 91 = .ok (.iload_n 3, 1) := by decide +kernel
theorem dX7_fill_92 : decode cX7_fill 92 = .ok (.iload_n 2, 1) := by decide +kernel
theorem dX7_fill_93 : decode cX7_fill 93 = .ok (.iload 4, 2) := by decide +kernel
theorem dX7_fill_95 : decode cX7_fill 95 = .ok (.iload 5, 2) := by decide +kernel
theorem dX7_fill_97 : decode cX7_fill 97 = .ok (.invokevirtual 49, 3) := by decide +kernel
theorem dX7_fill_100 : decode cX7_fill 100 = .ok (.iinc 5 1, 3) := by decide +kernel
theorem dX7_fill_103 : decode cX7_fill 103 = .ok (.goto (-41), 3) := by decide +kernel
theorem dX7_fill_106 : decode cX7_fill 106 = .ok (.iinc 4 1, 3) := by decide +kernel
theorem dX7_fill_109 : decode cX7_fill 109 = .ok (.goto (-56), 3) := by decide +kernel
theorem dX7_fill_112 : decode cX7_fill 112 = .ok (.iinc 3 1, 3) := by decide +kernel
theorem dX7_fill_115 : decode cX7_fill 115 = .ok (.goto (-76), 3) := by decide +kernel
theorem dX7_fill_118 : decode cX7_fill 118 = .ok (.iinc 2 1, 3) := by decide +kernel
theorem dX7_fill_121 : decode cX7_fill 121 = .ok (.goto (-114), 3) := by decide +kernel
theorem dX7_fill_124 : decode cX7_fill 124 = .ok (.aload_n 0, 1) := by decide +kernel
theorem dX7_fill_125 : decode cX7_fill 125 = .ok (.aload_n 0, 1) := by decide +kernel
theorem dX7_fill_126 : decode cX7_fill 126 = .ok (.getfield 23, 3) := by decide +kernel
theorem dX7_fill_129 : decode cX7_fill 129 = .ok (.iload_n 1, 1) := by decide +kernel
theorem dX7_fill_130 : decode cX7_fill 130 = .ok (.invokestatic 53, 3) := by decide +kernel
theorem dX7_fill_133 : decode cX7_fill 133 = .ok (.putfield 23, 3) := by decide +kernel
theorem dX7_fill_136 : decode cX7_fill 136 = .ok (.return_, 1) := by decide +kernel
theorem dX7_begin_0 : decode cX7_begin 0 = .ok (.iload_n 1, 1) := by decide +kernel
theorem dX7_begin_1 : decode cX7_begin 1 = .ok (.istore_n 3, 1) := by decide +kernel
theorem dX7_begin_2 : decode cX7_begin 2 = .ok (.iload_n 1, 1) := by decide +kernel
theorem dX7_begin_3 : decode cX7_begin 3 = .ok (.iconst (-1), 1) := by decide +kernel
theorem dX7_begin_4 : decode cX7_begin 4 = .ok (.if_icmp .ne 9, 3) := by decide +kernel
theorem dX7_begin_7 : decode cX7_begin 7 = .ok (.bipush 9, 2) := by decide +kernel
theorem dX7_begin_9 : decode cX7_begin 9 = .ok (.istore_n 3, 1) := by decide +kernel
theorem dX7_begin_10 : decode cX7_begin 10 = .ok (.goto 17, 3) := by decide +kernel
theorem dX7_begin_13 : decode cX7_begin 13 = .ok (.iload_n 1, 1) := by decide +kernel
theorem dX7_begin_14 : decode cX7_begin 14 = .ok (.bipush 10, 2) := by decide +kernel
theorem dX7_begin_16 : decode cX7_begin 16 = .ok (.if_icmp .lt 11, 3) := by decide +kernel
theorem dX7_begin_19 : decode cX7_begin 19 = .ok (.bipush 6, 2) := by decide +kernel
theorem dX7_begin_21 : decode cX7_begin 21 = .ok (.iload_n 1, 1) := by decide +kernel
theorem dX7_begin_22 : decode cX7_begin 22 = .ok (.iadd, 1) := by decide +kernel
theorem dX7_begin_23 : decode cX7_begin 23 = .ok (.bipush 10, 2) := by decide +kernel
theorem dX7_begin_25 : decode cX7_begin 25 = .ok (.isub, 1) := by decide +kernel
theorem dX7_begin_26 : decode cX7_begin 26 = .ok (.istore_n 3, 1) := by decide +kernel
theorem dX7_begin_27 : decode cX7_begin 27 = .ok (.iload_n 3, 1) := by decide +kernel
theorem dX7_begin_28 : decode cX7_begin 28 = .ok (.ifCond .lt 19, 3) := by decide +kernel
theorem dX7_begin_31 : decode cX7_begin 31 = .ok (.iload_n 3, 1) := by decide +kernel
theorem dX7_begin_32 : decode cX7_begin 32 = .ok (.bipush 10, 2) := by decide +kernel
theorem dX7_begin_34 : decode cX7_begin 34 = .ok (.if_icmp .ge 13, 3) := by decide +kernel
theorem dX7_begin_37 : decode cX7_begin 37 = .ok (.iload_n 2, 1) := by decide +kernel
theorem dX7_begin_38 : decode cX7_begin 38 = .ok (.ifCond .lt 9, 3) := by decide +kernel
theorem dX7_begin_41 : decode cX7_begin 41 = .ok (.iload_n 2, 1) := by decide +kernel
theorem dX7_begin_42 : decode cX7_begin 42 = .ok (.bipush 6, 2) := by decide +kernel
theorem dX7_begin_44 : decode cX7_begin 44 = .ok (.if_icmp .le 5, 3) := by decide +kernel
theorem dX7_begin_47 : decode cX7_begin 47 = .ok (.iconst (-1), 1) := by decide +kernel
theorem dX7_begin_48 : decode cX7_begin 48 = .ok (.ireturn, 1) := by decide +kernel
theorem dX7_begin_49 : decode cX7_begin 49 = .ok (.iload_n 3, 1) := by decide +kernel
theorem dX7_begin_50 : decode cX7_begin 50 = .ok (.sipush 1093, 3) := by decide +kernel
theorem dX7_begin_53 : decode cX7_begin 53 = .ok (.imul, 1) := by decide +kernel
theorem dX7_begin_54 : decode cX7_begin 54 = .ok (.getstatic 27, 3) := by decide +kernel
theorem dX7_begin_57 : decode cX7_begin 57 = .ok (.iload_n 2, 1) := by decide +kernel
theorem dX7_begin_58 : decode cX7_begin 58 = .ok (.iaload, 1) := by decide +kernel
theorem dX7_begin_59 : decode cX7_begin 59 = .ok (.iadd, 1) := by decide +kernel
theorem dX7_begin_60 : decode cX7_begin 60 = .ok (.ireturn, 1) := by decide +kernel
theorem dX7_ofLength_0 : decode cX7_ofLength 0 = .ok (.aload_n 0, 1) := by decide +kernel
theorem dX7_ofLength_1 : decode cX7_ofLength 1 = .ok (.getfield 9, 3) := by decide +kernel
theorem dX7_ofLength_4 : decode cX7_ofLength 4 = .ok (.getfield 59, 3) := by decide +kernel
theorem dX7_ofLength_7 : decode cX7_ofLength 7 = .ok (.iconst 1, 1) := by decide +kernel
theorem dX7_ofLength_8 : decode cX7_ofLength 8 = .ok (.isub, 1) := by decide +kernel
theorem dX7_ofLength_9 : decode cX7_ofLength 9 = .ok (.bipush 7, 2) := by decide +kernel
theorem dX7_ofLength_11 : decode cX7_ofLength 11 = .ok (.imul, 1) := by decide +kernel
theorem dX7_ofLength_12 : decode cX7_ofLength 12 = .ok (.iload_n 1, 1) := by decide +kernel
theorem dX7_ofLength_13 : decode cX7_ofLength 13 = .ok (.iadd, 1) := by decide +kernel
theorem dX7_ofLength_14 : decode cX7_ofLength 14 = .ok (.istore_n 2, 1) := by decide +kernel
theorem dX7_ofLength_15 : decode cX7_ofLength 15 = .ok (.iload_n 1, 1) := by decide +kernel
theorem dX7_ofLength_16 : decode cX7_ofLength 16 = .ok (.ifCond .lt 21, 3) := by decide +kernel
theorem dX7_ofLength_19 : decode cX7_ofLength 19 = .ok (.iload_n 1, 1) := by decide +kernel
theorem dX7_ofLength_20 : decode cX7_ofLength 20 = .ok (.bipush 6, 2) := by decide +kernel
theorem dX7_ofLength_22 : decode cX7_ofLength 22 = .ok (.if_icmp .gt 15, 3) := by decide +kernel
theorem dX7_ofLength_25 : decode cX7_ofLength 25 = .ok (.iload_n 2, 1) := by decide +kernel
theorem dX7_ofLength_26 : decode cX7_ofLength 26 = .ok (.ifCond .lt 11, 3) := by decide +kernel
theorem dX7_ofLength_29 : decode cX7_ofLength 29 = .ok (.iload_n 2, 1) := by decide +kernel
theorem dX7_ofLength_30 : decode cX7_ofLength 30 = .ok (.getstatic 62, 3) := by decide +kernel
theorem dX7_ofLength_33 : decode cX7_ofLength 33 = .ok (.arraylength, 1) := by decide +kernel
theorem dX7_ofLength_34 : decode cX7_ofLength 34 = .ok (.if_icmp .lt 5, 3) := by decide +kernel
theorem dX7_ofLength_37 : decode cX7_ofLength 37 = .ok (.iconst 0, 1) := by decide +kernel
theorem dX7_ofLength_38 : decode cX7_ofLength 38 = .ok (.ireturn, 1) := by decide +kernel
theorem dX7_ofLength_39 : decode cX7_ofLength 39 = .ok (.getstatic 62, 3) := by decide +kernel
theorem dX7_ofLength_42 : decode cX7_ofLength 42 = .ok (.iload_n 2, 1) := by decide +kernel
theorem dX7_ofLength_43 : decode cX7_ofLength 43 = .ok (.iaload, 1) := by decide +kernel
theorem dX7_ofLength_44 : decode cX7_ofLength 44 = .ok (.ireturn, 1) := by decide +kernel
set_option maxRecDepth 20000 in
theorem ggX7_clear_X7_begin : GoodIn wsX7_clear wsX7_begin := goodIn_r _ [6] (by decide +kernel) (by decide +kernel)
set_option maxRecDepth 20000 in
theorem gX7_clear_X7_begin : GoodIn wsX7_clear (wsV RX7 65 RX7 yX7_begin wsX7_begin) := goodIn_app (goodIn_of _ (by decide +kernel)) ggX7_clear_X7_begin
set_option maxRecDepth 20000 in
theorem ggX7_clear_X7_ofLength : GoodIn wsX7_clear wsX7_ofLength := goodIn_r _ [10, 11, 12, 13, 14, 15, 16, 17, 18, 19, 20, 21, 22] (by decide +kernel) (by decide +kernel)
set_option maxRecDepth 20000 in
theorem gX7_clear_X7_ofLength : GoodIn wsX7_clear (wsV RX7 68 RX7 yX7_ofLength wsX7_ofLength) := goodIn_app (goodIn_of _ (by decide +kernel)) ggX7_clear_X7_ofLength
theorem dX7_clear_0 : decode cX7_clear 0 = .ok (.aload_n 0, 1) := by decide +kernel
theorem dX7_clear_1 : decode cX7_clear 1 = .ok (.iload_n 1, 1) := by decide +kernel
theorem dX7_clear_2 : decode cX7_clear 2 = .ok (.iload_n 2, 1) := by decide +kernel
theorem dX7_clear_3 : decode cX7_clear 3 = .ok (.invokevirtual 65, 3) := by decide +kernel
theorem dX7_clear_6 : decode cX7_clear 6 = .ok (.istore_n 3, 1) := by decide +kernel
theorem dX7_clear_7 : decode cX7_clear 7 = .ok (.iload_n 3, 1) := by decide +kernel
theorem dX7_clear_8 : decode cX7_clear 8 = .ok (.ifCond .ge 4, 3) := by decide +kernel
theorem dX7_clear_11 : decode cX7_clear 11 = .ok (.return_, 1) := by decide +kernel
theorem dX7_clear_12 : decode cX7_clear 12 = .ok (.iload_n 3, 1) := by decide +kernel
theorem dX7_clear_13 : decode cX7_clear 13 = .ok (.aload_n 0, 1) := by decide +kernel
theorem dX7_clear_14 : decode cX7_clear 14 = .ok (.iload_n 2, 1) := by decide +kernel
theorem dX7_clear_15 : decode cX7_clear 15 = .ok (.invokevirtual 68, 3) := by decide +kernel
theorem dX7_clear_18 : decode cX7_clear 18 = .ok (.iadd, 1) := by decide +kernel
theorem dX7_clear_19 : decode cX7_clear 19 = .ok (.istore 4, 2) := by decide +kernel
theorem dX7_clear_21 : decode cX7_clear 21 = .ok (.iload_n 3, 1) := by decide +kernel
theorem dX7_clear_22 : decode cX7_clear 22 = .ok (.istore 5, 2) := by decide +kernel
theorem dX7_clear_24 : decode cX7_clear 24 = .ok (.iload 5, 2) := by decide +kernel
theorem dX7_clear_26 : decode cX7_clear 26 = .ok (.iload 4, 2) := by decide +kernel
theorem dX7_clear_28 : decode cX7_clear 28 = .ok (.if_icmp .ge 27, 3) := by decide +kernel
theorem dX7_clear_31 : decode cX7_clear 31 = .ok (.iload 5, 2) := by decide +kernel
theorem dX7_clear_33 : decode cX7_clear 33 = .ok (.aload_n 0, 1) := by decide +kernel
theorem dX7_clear_34 : decode cX7_clear 34 = .ok (.getfield 19, 3) := by decide +kernel
theorem dX7_clear_37 : decode cX7_clear 37 = .ok (.arraylength, 1) := by decide +kernel
theorem dX7_clear_38 : decode cX7_clear 38 = .ok (.if_icmp .ge 17, 3) := by decide +kernel
theorem dX7_clear_41 : decode cX7_clear 41 = .ok (.aload_n 0, 1) := by decide +kernel
theorem dX7_clear_42 : decode cX7_clear 42 = .ok (.getfield 19, 3) := by decide +kernel
theorem dX7_clear_45 : decode cX7_clear 45 = .ok (.iload 5, 2) := by decide +kernel
theorem dX7_clear_47 : decode cX7_clear 47 = .ok (.lconst 0, 1) := by decide +kernel
theorem dX7_clear_48 : decode cX7_clear 48 = .ok (.lastore, 1) := by decide +kernel
theorem dX7_clear_49 : decode cX7_clear 49 = .ok (.iinc 5 1, 3) := by decide +kernel
theorem dX7_clear_52 : decode cX7_clear 52 = .ok (.goto (-28), 3) := by decide +kernel
theorem dX7_clear_55 : decode cX7_clear 55 = .ok (.return_, 1) := by decide +kernel
set_option maxRecDepth 20000 in
theorem ggX7_addWords_X1_symbol : GoodIn wsX7_addWords wsX1_symbol := goodIn_r _ [6, 7, 8, 26, 27, 28, 29, 30, 31, 32] (by decide +kernel) (by decide +kernel)
set_option maxRecDepth 20000 in
theorem gX7_addWords_X1_symbol_n72 : GoodIn wsX7_addWords (wsX1_symbol) := ggX7_addWords_X1_symbol
set_option maxRecDepth 20000 in
theorem ggX7_addWords_X7_begin : GoodIn wsX7_addWords wsX7_begin := goodIn_r _ [13] (by decide +kernel) (by decide +kernel)
set_option maxRecDepth 20000 in
theorem gX7_addWords_X7_begin : GoodIn wsX7_addWords (wsV RX7 65 RX7 yX7_begin wsX7_begin) := goodIn_app (goodIn_of _ (by decide +kernel)) ggX7_addWords_X7_begin
set_option maxRecDepth 20000 in
theorem ggX7_addWords_X7_ofLength : GoodIn wsX7_addWords wsX7_ofLength := goodIn_r _ [17, 1, 22, 23, 24, 25, 26, 27, 28, 29, 30, 31, 32] (by decide +kernel) (by decide +kernel)
set_option maxRecDepth 20000 in
theorem gX7_addWords_X7_ofLength : GoodIn wsX7_addWords (wsV RX7 68 RX7 yX7_ofLength wsX7_ofLength) := goodIn_app (goodIn_of _ (by decide +kernel)) ggX7_addWords_X7_ofLength
set_option maxRecDepth 20000 in
theorem ggX7_addWords_X7_addTimes : GoodIn wsX7_addWords wsX7_addTimes := goodIn_r _ [21, 2, 22, 23, 24, 25] (by decide +kernel) (by decide +kernel)
set_option maxRecDepth 20000 in
theorem gX7_addWords_X7_addTimes : GoodIn wsX7_addWords (wsV RX7 75 RX7 yX7_addTimes wsX7_addTimes) := goodIn_app (goodIn_of _ (by decide +kernel)) ggX7_addWords_X7_addTimes
theorem dX7_addWords_0 : decode cX7_addWords 0 = .ok (.iload_n 2, 1) := by decide +kernel
theorem dX7_addWords_1 : decode cX7_addWords 1 = .ok (.iload_n 3, 1) := by decide +kernel
theorem dX7_addWords_2 : decode cX7_addWords 2 = .ok (.isub, 1) := by decide +kernel
theorem dX7_addWords_3 : decode cX7_addWords 3 = .ok (.iload 4, 2) := by decide +kernel
theorem dX7_addWords_5 : decode cX7_addWords 5 = .ok (.isub, 1) := by decide +kernel
theorem dX7_addWords_6 : decode cX7_addWords 6 = .ok (.istore 5, 2) := by decide +kernel
theorem dX7_addWords_8 : decode cX7_addWords 8 = .ok (.aload_n 0, 1) := by decide +kernel
theorem dX7_addWords_9 : decode cX7_addWords 9 = .ok (.aload_n 0, 1) := by decide +kernel
theorem dX7_addWords_10 : decode cX7_addWords 10 = .ok (.getfield 9, 3) := by decide +kernel
theorem dX7_addWords_13 : decode cX7_addWords 13 = .ok (.iload_n 1, 1) := by decide +kernel
theorem dX7_addWords_14 : decode cX7_addWords 14 = .ok (.iconst 0, 1) := by decide +kernel
theorem dX7_addWords_15 : decode cX7_addWords 15 = .ok (.invokevirtual 72, 3) := by decide +kernel
theorem dX7_addWords_18 : decode cX7_addWords 18 = .ok (.iload_n 2, 1) := by decide +kernel
theorem dX7_addWords_19 : decode cX7_addWords 19 = .ok (.invokevirtual 65, 3) := by decide +kernel
theorem dX7_addWords_22 : decode cX7_addWords 22 = .ok (.istore 6, 2) := by decide +kernel
theorem dX7_addWords_24 : decode cX7_addWords 24 = .ok (.aload_n 0, 1) := by decide +kernel
theorem dX7_addWords_25 : decode cX7_addWords 25 = .ok (.aload_n 0, 1) := by decide +kernel
theorem dX7_addWords_26 : decode cX7_addWords 26 = .ok (.getfield 9, 3) := by decide +kernel
theorem dX7_addWords_29 : decode cX7_addWords 29 = .ok (.iload_n 1, 1) := by decide +kernel
theorem dX7_addWords_30 : decode cX7_addWords 30 = .ok (.iconst 1, 1) := by decide +kernel
theorem dX7_addWords_31 : decode cX7_addWords 31 = .ok (.invokevirtual 72, 3) := by decide +kernel
theorem dX7_addWords_34 : decode cX7_addWords 34 = .ok (.iload_n 3, 1) := by decide +kernel
theorem dX7_addWords_35 : decode cX7_addWords 35 = .ok (.invokevirtual 65, 3) := by decide +kernel
theorem dX7_addWords_38 : decode cX7_addWords 38 = .ok (.istore 7, 2) := by decide +kernel
theorem dX7_addWords_40 : decode cX7_addWords 40 = .ok (.aload_n 0, 1) := by decide +kernel
theorem dX7_addWords_41 : decode cX7_addWords 41 = .ok (.aload_n 0, 1) := by decide +kernel
theorem dX7_addWords_42 : decode cX7_addWords 42 = .ok (.getfield 9, 3) := by decide +kernel
theorem dX7_addWords_45 : decode cX7_addWords 45 = .ok (.iload_n 1, 1) := by decide +kernel
theorem dX7_addWords_46 : decode cX7_addWords 46 = .ok (.iconst 2, 1) := by decide +kernel
theorem dX7_addWords_47 : decode cX7_addWords 47 = .ok (.invokevirtual 72, 3) := by decide +kernel
theorem dX7_addWords_50 : decode cX7_addWords 50 = .ok (.iload 4, 2) := by decide +kernel
theorem dX7_addWords_52 : decode cX7_addWords 52 = .ok (.invokevirtual 65, 3) := by decide +kernel
theorem dX7_addWords_55 : decode cX7_addWords 55 = .ok (.istore 8, 2) := by decide +kernel
theorem dX7_addWords_57 : decode cX7_addWords 57 = .ok (.aload_n 0, 1) := by decide +kernel
theorem dX7_addWords_58 : decode cX7_addWords 58 = .ok (.aload_n 0, 1) := by decide +kernel
theorem dX7_addWords_59 : decode cX7_addWords 59 = .ok (.getfield 9, 3) := by decide +kernel
theorem dX7_addWords_62 : decode cX7_addWords 62 = .ok (.iload_n 1, 1) := by decide +kernel
theorem dX7_addWords_63 : decode cX7_addWords 63 = .ok (.iconst 3, 1) := by decide +kernel
theorem dX7_addWords_64 : decode cX7_addWords 64 = .ok (.invokevirtual 72, 3) := by decide +kernel
theorem dX7_addWords_67 : decode cX7_addWords 67 = .ok (.iload 5, 2) := by decide +kernel
theorem dX7_addWords_69 : decode cX7_addWords 69 = .ok (.invokevirtual 65, 3) := by decide +kernel
theorem dX7_addWords_72 : decode cX7_addWords 72 = .ok (.istore 9, 2) := by decide +kernel
theorem dX7_addWords_74 : decode cX7_addWords 74 = .ok (.iload 6, 2) := by decide +kernel
theorem dX7_addWords_76 : decode cX7_addWords 76 = .ok (.ifCond .lt 18, 3) := by decide +kernel
theorem dX7_addWords_79 : decode cX7_addWords 79 = .ok (.iload 7, 2) := by decide +kernel
theorem dX7_addWords_81 : decode cX7_addWords 81 = .ok (.ifCond .lt 13, 3) := by decide +kernel
theorem dX7_addWords_84 : decode cX7_addWords 84 = .ok (.iload 8, 2) := by decide +kernel
theorem dX7_addWords_86 : decode cX7_addWords 86 = .ok (.ifCond .lt 8, 3) := by decide +kernel
theorem dX7_addWords_89 : decode cX7_addWords 89 = .ok (.iload 9, 2) := by decide +kernel
theorem dX7_addWords_91 : decode cX7_addWords 91 = .ok (.ifCond .ge 4, 3) := by decide +kernel
theorem dX7_addWords_94 : decode cX7_addWords 94 = .ok (.return_, 1) := by decide +kernel
theorem dX7_addWords_95 : decode cX7_addWords 95 = .ok (.iload 7, 2) := by decide +kernel
theorem dX7_addWords_97 : decode cX7_addWords 97 = .ok (.aload_n 0, 1) := by decide +kernel
theorem dX7_addWords_98 : decode cX7_addWords 98 = .ok (.iload_n 3, 1) := by decide +kernel
theorem dX7_addWords_99 : decode cX7_addWords 99 = .ok (.invokevirtual 68, 3) := by decide +kernel
theorem dX7_addWords_102 : decode cX7_addWords 102 = .ok (.iadd, 1) := by decide +kernel
theorem dX7_addWords_103 : decode cX7_addWords 103 = .ok (.istore 10, 2) := by decide +kernel
theorem dX7_addWords_105 : decode cX7_addWords 105 = .ok (.iload 8, 2) := by decide +kernel
theorem dX7_addWords_107 : decode cX7_addWords 107 = .ok (.aload_n 0, 1) := by decide +kernel
theorem dX7_addWords_108 : decode cX7_addWords 108 = .ok (.iload 4, 2) := by decide +kernel
theorem dX7_addWords_110 : decode cX7_addWords 110 = .ok (.invokevirtual 68, 3) := by decide +kernel
theorem dX7_addWords_113 : decode cX7_addWords 113 = .ok (.iadd, 1) := by decide +kernel
theorem dX7_addWords_114 : decode cX7_addWords 114 = .ok (.istore 11, 2) := by decide +kernel
theorem dX7_addWords_116 : decode cX7_addWords 116 = .ok (.aload_n 0, 1) := by decide +kernel
theorem dX7_addWords_117 : decode cX7_addWords 117 = .ok (.iload 5, 2) := by decide +kernel
theorem dX7_addWords_119 : decode cX7_addWords 119 = .ok (.invokevirtual 68, 3) := by decide +kernel
theorem dX7_addWords_122 : decode cX7_addWords 122 = .ok (.istore 12, 2) := by decide +kernel
theorem dX7_addWords_124 : decode cX7_addWords 124 = .ok (.iload 7, 2) := by decide +kernel
theorem dX7_addWords_126 : decode cX7_addWords 126 = .ok (.istore 13, 2) := by decide +kernel
theorem dX7_addWords_128 : decode cX7_addWords 128 = .ok (.iload 13, 2) := by decide +kernel
theorem dX7_addWords_130 : decode cX7_addWords 130 = .ok (.iload 10, 2) := by decide +kernel
theorem dX7_addWords_132 : decode cX7_addWords 132 = .ok (.if_icmp .ge 102, 3) := by decide +kernel
theorem dX7_addWords_135 : decode cX7_addWords 135 = .ok (.iload 13, 2) := by decide +kernel
theorem dX7_addWords_137 : decode cX7_addWords 137 = .ok (.aload_n 0, 1) := by decide +kernel
theorem dX7_addWords_138 : decode cX7_addWords 138 = .ok (.getfield 19, 3) := by decide +kernel
theorem dX7_addWords_141 : decode cX7_addWords 141 = .ok (.arraylength, 1) := by decide +kernel
theorem dX7_addWords_142 : decode cX7_addWords 142 = .ok (.if_icmp .ge 92, 3) := by decide +kernel
theorem dX7_addWords_145 : decode cX7_addWords 145 = .ok (.iload 8, 2) := by decide +kernel
theorem dX7_addWords_147 : decode cX7_addWords 147 = .ok (.istore 14, 2) := by decide +kernel
theorem dX7_addWords_149 : decode cX7_addWords 149 = .ok (.iload 14, 2) := by decide +kernel
theorem dX7_addWords_151 : decode cX7_addWords 151 = .ok (.iload 11, 2) := by decide +kernel
theorem dX7_addWords_153 : decode cX7_addWords 153 = .ok (.if_icmp .ge 75, 3) := by decide +kernel
theorem dX7_addWords_156 : decode cX7_addWords 156 = .ok (.iload 14, 2) := by decide +kernel
theorem dX7_addWords_158 : decode cX7_addWords 158 = .ok (.aload_n 0, 1) := by decide +kernel
theorem dX7_addWords_159 : decode cX7_addWords 159 = .ok (.getfield 19, 3) := by decide +kernel
theorem dX7_addWords_162 : decode cX7_addWords 162 = .ok (.arraylength, 1) := by decide +kernel
theorem dX7_addWords_163 : decode cX7_addWords 163 = .ok (.if_icmp .ge 65, 3) := by decide +kernel
theorem dX7_addWords_166 : decode cX7_addWords 166 = .ok (.aload_n 0, 1) := by decide +kernel
theorem dX7_addWords_167 : decode cX7_addWords 167 = .ok (.getfield 19, 3) := by decide +kernel
theorem dX7_addWords_170 : decode cX7_addWords 170 = .ok (.iload 13, 2) := by decide +kernel
theorem dX7_addWords_172 : decode cX7_addWords 172 = .ok (.laload, 1) := by decide +kernel
theorem dX7_addWords_173 : decode cX7_addWords 173 = .ok (.lconst 0, 1) := by decide +kernel
theorem dX7_addWords_174 : decode cX7_addWords 174 = .ok (.lcmp, 1) := by decide +kernel
theorem dX7_addWords_175 : decode cX7_addWords 175 = .ok (.ifCond .eq 40, 3) := by decide +kernel
theorem dX7_addWords_178 : decode cX7_addWords 178 = .ok (.aload_n 0, 1) := by decide +kernel
theorem dX7_addWords_179 : decode cX7_addWords 179 = .ok (.getfield 19, 3) := by decide +kernel
theorem dX7_addWords_182 : decode cX7_addWords 182 = .ok (.iload 14, 2) := by decide +kernel
theorem dX7_addWords_184 : decode cX7_addWords 184 = .ok (.laload, 1) := by decide +kernel
theorem dX7_addWords_185 : decode cX7_addWords 185 = .ok (.lconst 0, 1) := by decide +kernel
theorem dX7_addWords_186 : decode cX7_addWords 186 = .ok (.lcmp, 1) := by decide +kernel
theorem dX7_addWords_187 : decode cX7_addWords 187 = .ok (.ifCond .eq 28, 3) := by decide +kernel
theorem dX7_addWords_190 : decode cX7_addWords 190 = .ok (.aload_n 0, 1) := by decide +kernel
theorem dX7_addWords_191 : decode cX7_addWords 191 = .ok (.iload 6, 2) := by decide +kernel
theorem dX7_addWords_193 : decode cX7_addWords 193 = .ok (.iload 9, 2) := by decide +kernel
theorem dX7_addWords_195 : decode cX7_addWords 195 = .ok (.iload 12, 2) := by decide +kernel
theorem dX7_addWords_197 : decode cX7_addWords 197 = .ok (.aload_n 0, 1) := by decide +kernel
theorem dX7_addWords_198 : decode cX7_addWords 198 = .ok (.getfield 19, 3) := by decide +kernel
theorem dX7_addWords_201 : decode cX7_addWords 201 = .ok (.iload 13, 2) := by decide +kernel
theorem dX7_addWords_203 : decode cX7_addWords 203 = .ok (.laload, 1) := by decide +kernel
theorem dX7_addWords_204 : decode cX7_addWords 204 = .ok (.aload_n 0, 1) := by decide +kernel
theorem dX7_addWords_205 : decode cX7_addWords 205 = .ok (.getfield 19, 3) := by decide +kernel
theorem dX7_addWords_208 : decode cX7_addWords 208 = .ok (.iload 14, 2) := by decide +kernel
theorem dX7_addWords_210 : decode cX7_addWords 210 = .ok (.laload, 1) := by decide +kernel
theorem dX7_addWords_211 : decode cX7_addWords 211 = .ok (.lmul, 1) := by decide +kernel
theorem dX7_addWords_212 : decode cX7_addWords 212 = .ok (.invokevirtual 75, 3) := by decide +kernel
theorem dX7_addWords_215 : decode cX7_addWords 215 = .ok (.iload 6, 2) := by decide +kernel
theorem dX7_addWords_217 : decode cX7_addWords 217 = .ok (.iload 12, 2) := by decide +kernel
theorem dX7_addWords_219 : decode cX7_addWords 219 = .ok (.iadd, 1) := by decide +kernel
theorem dX7_addWords_220 : decode cX7_addWords 220 = .ok (.istore 6, 2) := by decide +kernel
theorem dX7_addWords_222 : decode cX7_addWords 222 = .ok (.iinc 14 1, 3) := by decide +kernel
theorem dX7_addWords_225 : decode cX7_addWords 225 = .ok (.goto (-76), 3) := by decide +kernel
theorem dX7_addWords_228 : decode cX7_addWords 228 = .ok (.iinc 13 1, 3) := by decide +kernel
theorem dX7_addWords_231 : decode cX7_addWords 231 = .ok (.goto (-103), 3) := by decide +kernel
theorem dX7_addWords_234 : decode cX7_addWords 234 = .ok (.return_, 1) := by decide +kernel
theorem dX7_addTimes_0 : decode cX7_addTimes 0 = .ok (.iload_n 1, 1) := by decide +kernel
theorem dX7_addTimes_1 : decode cX7_addTimes 1 = .ok (.ifCond .lt 29, 3) := by decide +kernel
theorem dX7_addTimes_4 : decode cX7_addTimes 4 = .ok (.iload_n 2, 1) := by decide +kernel
theorem dX7_addTimes_5 : decode cX7_addTimes 5 = .ok (.ifCond .lt 25, 3) := by decide +kernel
theorem dX7_addTimes_8 : decode cX7_addTimes 8 = .ok (.iload_n 1, 1) := by decide +kernel
theorem dX7_addTimes_9 : decode cX7_addTimes 9 = .ok (.iload_n 3, 1) := by decide +kernel
theorem dX7_addTimes_10 : decode cX7_addTimes 10 = .ok (.iadd, 1) := by decide +kernel
theorem dX7_addTimes_11 : decode cX7_addTimes 11 = .ok (.aload_n 0, 1) := by decide +kernel
theorem dX7_addTimes_12 : decode cX7_addTimes 12 = .ok (.getfield 19, 3) := by decide +kernel
theorem dX7_addTimes_15 : decode cX7_addTimes 15 = .ok (.arraylength, 1) := by decide +kernel
theorem dX7_addTimes_16 : decode cX7_addTimes 16 = .ok (.if_icmp .gt 14, 3) := by decide +kernel
theorem dX7_addTimes_19 : decode cX7_addTimes 19 = .ok (.iload_n 2, 1) := by decide +kernel
theorem dX7_addTimes_20 : decode cX7_addTimes 20 = .ok (.iload_n 3, 1) := by decide +kernel
theorem dX7_addTimes_21 : decode cX7_addTimes 21 = .ok (.iadd, 1) := by decide +kernel
theorem dX7_addTimes_22 : decode cX7_addTimes 22 = .ok (.aload_n 0, 1) := by decide +kernel
theorem dX7_addTimes_23 : decode cX7_addTimes 23 = .ok (.getfield 19, 3) := by decide +kernel
theorem dX7_addTimes_26 : decode cX7_addTimes 26 = .ok (.arraylength, 1) := by decide +kernel
theorem dX7_addTimes_27 : decode cX7_addTimes 27 = .ok (.if_icmp .le 4, 3) := by decide +kernel
theorem dX7_addTimes_30 : decode cX7_addTimes 30 = .ok (.return_, 1) := by decide +kernel
theorem dX7_addTimes_31 : decode cX7_addTimes 31 = .ok (.iconst 0, 1) := by decide +kernel
theorem dX7_addTimes_32 : decode cX7_addTimes 32 = .ok (.istore 6, 2) := by decide +kernel
theorem dX7_addTimes_34 : decode cX7_addTimes 34 = .ok (.iload 6, 2) := by decide +kernel
theorem dX7_addTimes_36 : decode cX7_addTimes 36 = .ok (.iload_n 3, 1) := by decide +kernel
theorem dX7_addTimes_37 : decode cX7_addTimes 37 = .ok (.if_icmp .ge 33, 3) := by decide +kernel
theorem dX7_addTimes_40 : decode cX7_addTimes 40 = .ok (.aload_n 0, 1) := by decide +kernel
theorem dX7_addTimes_41 : decode cX7_addTimes 41 = .ok (.getfield 19, 3) := by decide +kernel
theorem dX7_addTimes_44 : decode cX7_addTimes 44 = .ok (.iload_n 1, 1) := by decide +kernel
theorem dX7_addTimes_45 : decode cX7_addTimes 45 = .ok (.iload 6, 2) := by decide +kernel
theorem dX7_addTimes_47 : decode cX7_addTimes 47 = .ok (.iadd, 1) := by decide +kernel
theorem dX7_addTimes_48 : decode cX7_addTimes 48 = .ok (.dup2, 1) := by decide +kernel
theorem dX7_addTimes_49 : decode cX7_addTimes 49 = .ok (.laload, 1) := by decide +kernel
theorem dX7_addTimes_50 : decode cX7_addTimes 50 = .ok (.lload 4, 2) := by decide +kernel
theorem dX7_addTimes_52 : decode cX7_addTimes 52 = .ok (.aload_n 0, 1) := by decide +kernel
theorem dX7_addTimes_53 : decode cX7_addTimes 53 = .ok (.getfield 19, 3) := by decide +kernel
theorem dX7_addTimes_56 : decode cX7_addTimes 56 = .ok (.iload_n 2, 1) := by decide +kernel
theorem dX7_addTimes_57 : decode cX7_addTimes 57 = .ok (.iload 6, 2) := by decide +kernel
theorem dX7_addTimes_59 : decode cX7_addTimes 59 = .ok (.iadd, 1) := by decide +kernel
theorem dX7_addTimes_60 : decode cX7_addTimes 60 = .ok (.laload, 1) := by decide +kernel
theorem dX7_addTimes_61 : decode cX7_addTimes 61 = .ok (.lmul, 1) := by decide +kernel
theorem dX7_addTimes_62 : decode cX7_addTimes 62 = .ok (.ladd, 1) := by decide +kernel
theorem dX7_addTimes_63 : decode cX7_addTimes 63 = .ok (.lastore, 1) := by decide +kernel
theorem dX7_addTimes_64 : decode cX7_addTimes 64 = .ok (.iinc 6 1, 3) := by decide +kernel
theorem dX7_addTimes_67 : decode cX7_addTimes 67 = .ok (.goto (-33), 3) := by decide +kernel
theorem dX7_addTimes_70 : decode cX7_addTimes 70 = .ok (.return_, 1) := by decide +kernel
set_option maxRecDepth 20000 in
theorem ggX7_atLeast_X7_ofLength : GoodIn wsX7_atLeast wsX7_ofLength := goodIn_r _ [5, 6, 20, 21, 22, 23, 24, 25, 26, 27, 28, 29, 30] (by decide +kernel) (by decide +kernel)
set_option maxRecDepth 20000 in
theorem gX7_atLeast_X7_ofLength : GoodIn wsX7_atLeast (wsV RX7 68 RX7 yX7_ofLength wsX7_ofLength) := goodIn_app (goodIn_of _ (by decide +kernel)) ggX7_atLeast_X7_ofLength
set_option maxRecDepth 20000 in
theorem ggX7_atLeast_X7_atLeastBefore : GoodIn wsX7_atLeast wsX7_atLeastBefore := goodIn_r _ [10, 11, 12, 13, 4, 14, 6, 15, 16, 17, 18, 19, 20, 21, 22, 23, 24, 25, 26, 27, 28, 29, 30] (by decide +kernel) (by decide +kernel)
set_option maxRecDepth 20000 in
theorem gX7_atLeast_X7_atLeastBefore : GoodIn wsX7_atLeast (wsV RX7 79 RX7 yX7_atLeastBefore wsX7_atLeastBefore) := goodIn_app (goodIn_of _ (by decide +kernel)) ggX7_atLeast_X7_atLeastBefore
theorem dX7_atLeast_0 : decode cX7_atLeast 0 = .ok (.aload_n 0, 1) := by decide +kernel
theorem dX7_atLeast_1 : decode cX7_atLeast 1 = .ok (.aload_n 0, 1) := by decide +kernel
theorem dX7_atLeast_2 : decode cX7_atLeast 2 = .ok (.iload_n 2, 1) := by decide +kernel
theorem dX7_atLeast_3 : decode cX7_atLeast 3 = .ok (.invokevirtual 68, 3) := by decide +kernel
theorem dX7_atLeast_6 : decode cX7_atLeast 6 = .ok (.iload_n 1, 1) := by decide +kernel
theorem dX7_atLeast_7 : decode cX7_atLeast 7 = .ok (.iload_n 2, 1) := by decide +kernel
theorem dX7_atLeast_8 : decode cX7_atLeast 8 = .ok (.invokevirtual 79, 3) := by decide +kernel
theorem dX7_atLeast_11 : decode cX7_atLeast 11 = .ok (.ireturn, 1) := by decide +kernel
set_option maxRecDepth 20000 in
theorem ggX7_atLeastBefore_X7_count : GoodIn wsX7_atLeastBefore wsX7_count := goodIn_r _ [5, 6, 7, 8, 9, 10, 4, 11, 12, 13, 14, 15, 16, 17, 18, 19, 20, 21, 22] (by decide +kernel) (by decide +kernel)
set_option maxRecDepth 20000 in
theorem gX7_atLeastBefore_X7_count : GoodIn wsX7_atLeastBefore (wsV RX7 83 RX7 yX7_count wsX7_count) := goodIn_app (goodIn_of _ (by decide +kernel)) ggX7_atLeastBefore_X7_count
theorem dX7_atLeastBefore_0 : decode cX7_atLeastBefore 0 = .ok (.iconst 0, 1) := by decide +kernel
theorem dX7_atLeastBefore_1 : decode cX7_atLeastBefore 1 = .ok (.istore 4, 2) := by decide +kernel
theorem dX7_atLeastBefore_3 : decode cX7_atLeastBefore 3 = .ok (.iconst 0, 1) := by decide +kernel
theorem dX7_atLeastBefore_4 : decode cX7_atLeastBefore 4 = .ok (.istore 5, 2) := by decide +kernel
theorem dX7_atLeastBefore_6 : decode cX7_atLeastBefore 6 = .ok (.iload 5, 2) := by decide +kernel
theorem dX7_atLeastBefore_8 : decode cX7_atLeastBefore 8 = .ok (.iload_n 1, 1) := by decide +kernel
theorem dX7_atLeastBefore_9 : decode cX7_atLeastBefore 9 = .ok (.if_icmp .ge 25, 3) := by decide +kernel
theorem dX7_atLeastBefore_12 : decode cX7_atLeastBefore 12 = .ok (.aload_n 0, 1) := by decide +kernel
theorem dX7_atLeastBefore_13 : decode cX7_atLeastBefore 13 = .ok (.iload_n 3, 1) := by decide +kernel
theorem dX7_atLeastBefore_14 : decode cX7_atLeastBefore 14 = .ok (.iload 5, 2) := by decide +kernel
theorem dX7_atLeastBefore_16 : decode cX7_atLeastBefore 16 = .ok (.invokevirtual 83, 3) := by decide +kernel
theorem dX7_atLeastBefore_19 : decode cX7_atLeastBefore 19 = .ok (.iload_n 2, 1) := by decide +kernel
theorem dX7_atLeastBefore_20 : decode cX7_atLeastBefore 20 = .ok (.i2l, 1) := by decide +kernel
theorem dX7_atLeastBefore_21 : decode cX7_atLeastBefore 21 = .ok (.lcmp, 1) := by decide +kernel
theorem dX7_atLeastBefore_22 : decode cX7_atLeastBefore 22 = .ok (.ifCond .lt 6, 3) := by decide +kernel
theorem dX7_atLeastBefore_25 : decode cX7_atLeastBefore 25 = .ok (.iinc 4 1, 3) := by decide +kernel
theorem dX7_atLeastBefore_28 : decode cX7_atLeastBefore 28 = .ok (.iinc 5 1, 3) := by decide +kernel
theorem dX7_atLeastBefore_31 : decode cX7_atLeastBefore 31 = .ok (.goto (-25), 3) := by decide +kernel
theorem dX7_atLeastBefore_34 : decode cX7_atLeastBefore 34 = .ok (.iload 4, 2) := by decide +kernel
theorem dX7_atLeastBefore_36 : decode cX7_atLeastBefore 36 = .ok (.ireturn, 1) := by decide +kernel
set_option maxRecDepth 20000 in
theorem ggX7_find_X7_ofLength : GoodIn wsX7_find wsX7_ofLength := goodIn_r _ [5, 6, 16, 17, 18, 19, 20, 21, 22, 23, 24, 25, 26] (by decide +kernel) (by decide +kernel)
set_option maxRecDepth 20000 in
theorem gX7_find_X7_ofLength : GoodIn wsX7_find (wsV RX7 68 RX7 yX7_ofLength wsX7_ofLength) := goodIn_app (goodIn_of _ (by decide +kernel)) ggX7_find_X7_ofLength
set_option maxRecDepth 20000 in
theorem ggX7_find_X7_count : GoodIn wsX7_find wsX7_count := goodIn_r _ [10, 6, 11, 12, 13, 14, 4, 15, 16, 17, 18, 19, 20, 21, 22, 23, 24, 25, 26] (by decide +kernel) (by decide +kernel)
set_option maxRecDepth 20000 in
theorem gX7_find_X7_count : GoodIn wsX7_find (wsV RX7 83 RX7 yX7_count wsX7_count) := goodIn_app (goodIn_of _ (by decide +kernel)) ggX7_find_X7_count
theorem dX7_find_0 : decode cX7_find 0 = .ok (.aload_n 0, 1) := by decide +kernel
theorem dX7_find_1 : decode cX7_find 1 = .ok (.iload_n 2, 1) := by decide +kernel
theorem dX7_find_2 : decode cX7_find 2 = .ok (.invokevirtual 68, 3) := by decide +kernel
theorem dX7_find_5 : decode cX7_find 5 = .ok (.istore 4, 2) := by decide +kernel
theorem dX7_find_7 : decode cX7_find 7 = .ok (.iconst 0, 1) := by decide +kernel
theorem dX7_find_8 : decode cX7_find 8 = .ok (.istore 5, 2) := by decide +kernel
theorem dX7_find_10 : decode cX7_find 10 = .ok (.iconst 0, 1) := by decide +kernel
theorem dX7_find_11 : decode cX7_find 11 = .ok (.istore 6, 2) := by decide +kernel
theorem dX7_find_13 : decode cX7_find 13 = .ok (.iload 6, 2) := by decide +kernel
theorem dX7_find_15 : decode cX7_find 15 = .ok (.iload 4, 2) := by decide +kernel
theorem dX7_find_17 : decode cX7_find 17 = .ok (.if_icmp .ge 34, 3) := by decide +kernel
theorem dX7_find_20 : decode cX7_find 20 = .ok (.aload_n 0, 1) := by decide +kernel
theorem dX7_find_21 : decode cX7_find 21 = .ok (.iload_n 2, 1) := by decide +kernel
theorem dX7_find_22 : decode cX7_find 22 = .ok (.iload 6, 2) := by decide +kernel
theorem dX7_find_24 : decode cX7_find 24 = .ok (.invokevirtual 83, 3) := by decide +kernel
theorem dX7_find_27 : decode cX7_find 27 = .ok (.iload_n 1, 1) := by decide +kernel
theorem dX7_find_28 : decode cX7_find 28 = .ok (.i2l, 1) := by decide +kernel
theorem dX7_find_29 : decode cX7_find 29 = .ok (.lcmp, 1) := by decide +kernel
theorem dX7_find_30 : decode cX7_find 30 = .ok (.ifCond .lt 15, 3) := by decide +kernel
theorem dX7_find_33 : decode cX7_find 33 = .ok (.iload 5, 2) := by decide +kernel
theorem dX7_find_35 : decode cX7_find 35 = .ok (.iload_n 3, 1) := by decide +kernel
theorem dX7_find_36 : decode cX7_find 36 = .ok (.if_icmp .ne 6, 3) := by decide +kernel
theorem dX7_find_39 : decode cX7_find 39 = .ok (.iload 6, 2) := by decide +kernel
theorem dX7_find_41 : decode cX7_find 41 = .ok (.ireturn, 1) := by decide +kernel
theorem dX7_find_42 : decode cX7_find 42 = .ok (.iinc 5 1, 3) := by decide +kernel
theorem dX7_find_45 : decode cX7_find 45 = .ok (.iinc 6 1, 3) := by decide +kernel
theorem dX7_find_48 : decode cX7_find 48 = .ok (.goto (-35), 3) := by decide +kernel
theorem dX7_find_51 : decode cX7_find 51 = .ok (.iconst (-1), 1) := by decide +kernel
theorem dX7_find_52 : decode cX7_find 52 = .ok (.ireturn, 1) := by decide +kernel
set_option maxRecDepth 20000 in
theorem ggX7_count_X7_begin : GoodIn wsX7_count wsX7_begin := goodIn_r _ [7] (by decide +kernel) (by decide +kernel)
set_option maxRecDepth 20000 in
theorem gX7_count_X7_begin : GoodIn wsX7_count (wsV RX7 65 RX7 yX7_begin wsX7_begin) := goodIn_app (goodIn_of _ (by decide +kernel)) ggX7_count_X7_begin
theorem dX7_count_0 : decode cX7_count 0 = .ok (.aload_n 0, 1) := by decide +kernel
theorem dX7_count_1 : decode cX7_count 1 = .ok (.aload_n 0, 1) := by decide +kernel
theorem dX7_count_2 : decode cX7_count 2 = .ok (.getfield 9, 3) := by decide +kernel
theorem dX7_count_5 : decode cX7_count 5 = .ok (.getfield 87, 3) := by decide +kernel
theorem dX7_count_8 : decode cX7_count 8 = .ok (.iload_n 1, 1) := by decide +kernel
theorem dX7_count_9 : decode cX7_count 9 = .ok (.invokevirtual 65, 3) := by decide +kernel
theorem dX7_count_12 : decode cX7_count 12 = .ok (.iload_n 2, 1) := by decide +kernel
theorem dX7_count_13 : decode cX7_count 13 = .ok (.iadd, 1) := by decide +kernel
theorem dX7_count_14 : decode cX7_count 14 = .ok (.istore_n 3, 1) := by decide +kernel
theorem dX7_count_15 : decode cX7_count 15 = .ok (.iload_n 3, 1) := by decide +kernel
theorem dX7_count_16 : decode cX7_count 16 = .ok (.ifCond .lt 21, 3) := by decide +kernel
theorem dX7_count_19 : decode cX7_count 19 = .ok (.iload_n 3, 1) := by decide +kernel
theorem dX7_count_20 : decode cX7_count 20 = .ok (.aload_n 0, 1) := by decide +kernel
theorem dX7_count_21 : decode cX7_count 21 = .ok (.getfield 19, 3) := by decide +kernel
theorem dX7_count_24 : decode cX7_count 24 = .ok (.arraylength, 1) := by decide +kernel
theorem dX7_count_25 : decode cX7_count 25 = .ok (.if_icmp .ge 12, 3) := by decide +kernel
theorem dX7_count_28 : decode cX7_count 28 = .ok (.aload_n 0, 1) := by decide +kernel
theorem dX7_count_29 : decode cX7_count 29 = .ok (.getfield 19, 3) := by decide +kernel
theorem dX7_count_32 : decode cX7_count 32 = .ok (.iload_n 3, 1) := by decide +kernel
theorem dX7_count_33 : decode cX7_count 33 = .ok (.laload, 1) := by decide +kernel
theorem dX7_count_34 : decode cX7_count 34 = .ok (.goto 4, 3) := by decide +kernel
theorem dX7_count_37 : decode cX7_count 37 = .ok (.lconst 0, 1) := by decide +kernel
theorem dX7_count_38 : decode cX7_count 38 = .ok (.lreturn, 1) := by decide +kernel
set_option maxRecDepth 20000 in
theorem ggX8_init_X1_init : GoodIn wsX8_init wsX1_init := goodIn_r _ [36, 37, 2, 3, 38, 39, 40, 41, 42, 43, 44, 45, 46, 93, 94, 95, 96, 97, 98, 99] (by decide +kernel) (by decide +kernel)
set_option maxRecDepth 20000 in
theorem gX8_init_X1_init_n11 : GoodIn wsX8_init (wsX1_init) := ggX8_init_X1_init
set_option maxRecDepth 20000 in
theorem ggX8_init_X6_init : GoodIn wsX8_init wsX6_init := goodIn_r _ [48, 49, 2, 3, 50, 42, 51, 110, 111] (by decide +kernel) (by decide +kernel)
set_option maxRecDepth 20000 in
theorem gX8_init_X6_init_n18 : GoodIn wsX8_init (wsX6_init) := ggX8_init_X6_init
set_option maxRecDepth 20000 in
theorem ggX8_init_X2_init : GoodIn wsX8_init wsX2_init := goodIn_r _ [53, 54, 55, 56, 57, 2, 3, 58, 59, 60, 61, 112, 113, 114, 115, 116, 117, 118] (by decide +kernel) (by decide +kernel)
set_option maxRecDepth 20000 in
theorem gX8_init_X2_init_n31 : GoodIn wsX8_init (wsX2_init) := ggX8_init_X2_init
set_option maxRecDepth 20000 in
theorem ggX8_init_X4_init : GoodIn wsX8_init wsX4_init := goodIn_r _ [63, 64, 54, 55, 56, 57, 2, 3, 58, 59, 60, 61, 115, 116, 117, 118, 112, 113, 114] (by decide +kernel) (by decide +kernel)
set_option maxRecDepth 20000 in
theorem gX8_init_X4_init_n40 : GoodIn wsX8_init (wsX4_init) := ggX8_init_X4_init
set_option maxRecDepth 20000 in
theorem ggX8_init_X7_init : GoodIn wsX8_init wsX7_init := goodIn_r _ [66, 67, 2, 3, 68, 69, 59, 70, 71, 119, 120, 121, 122] (by decide +kernel) (by decide +kernel)
set_option maxRecDepth 20000 in
theorem gX8_init_X7_init_n49 : GoodIn wsX8_init (wsX7_init) := ggX8_init_X7_init
set_option maxRecDepth 20000 in
theorem ggX8_init_X5_init : GoodIn wsX8_init wsX5_init := goodIn_r _ [73, 74, 2, 3, 75, 76, 77, 78, 42, 79, 80, 81, 82, 83, 84, 59, 85, 123, 124, 125, 126, 127, 128, 129, 130, 131, 132, 133] (by decide +kernel) (by decide +kernel)
set_option maxRecDepth 20000 in
theorem gX8_init_X5_init_n58 : GoodIn wsX8_init (wsX5_init) := ggX8_init_X5_init
set_option maxRecDepth 20000 in
theorem ggX8_init_X3_init : GoodIn wsX8_init wsX3_init := goodIn_r _ [87, 88, 2, 3, 45, 89, 90, 42, 91, 92, 134, 135, 136, 137] (by decide +kernel) (by decide +kernel)
set_option maxRecDepth 20000 in
theorem gX8_init_X3_init_n65 : GoodIn wsX8_init (wsX3_init) := ggX8_init_X3_init
theorem dX8_init_0 : decode cX8_init 0 = .ok (.aload_n 0, 1) := by decide +kernel
theorem dX8_init_1 : decode cX8_init 1 = .ok (.invokespecial 3, 3) := by decide +kernel
theorem dX8_init_4 : decode cX8_init 4 = .ok (.aload_n 0, 1) := by decide +kernel
theorem dX8_init_5 : decode cX8_init 5 = .ok (.new 9, 3) := by decide +kernel
theorem dX8_init_8 : decode cX8_init 8 = .ok (.dup, 1) := by decide +kernel
theorem dX8_init_9 : decode cX8_init 9 = .ok (.invokespecial 11, 3) := by decide +kernel
theorem dX8_init_12 : decode cX8_init 12 = .ok (.putfield 12, 3) := by decide +kernel
theorem dX8_init_15 : decode cX8_init 15 = .ok (.aload_n 0, 1) := by decide +kernel
theorem dX8_init_16 : decode cX8_init 16 = .ok (.new 16, 3) := by decide +kernel
theorem dX8_init_19 : decode cX8_init 19 = .ok (.dup, 1) := by decide +kernel
theorem dX8_init_20 : decode cX8_init 20 = .ok (.invokespecial 18, 3) := by decide +kernel
theorem dX8_init_23 : decode cX8_init 23 = .ok (.putfield 19, 3) := by decide +kernel
theorem dX8_init_26 : decode cX8_init 26 = .ok (.aload_n 0, 1) := by decide +kernel
theorem dX8_init_27 : decode cX8_init 27 = .ok (.new 9, 3) := by decide +kernel
theorem dX8_init_30 : decode cX8_init 30 = .ok (.dup, 1) := by decide +kernel
theorem dX8_init_31 : decode cX8_init 31 = .ok (.invokespecial 11, 3) := by decide +kernel
theorem dX8_init_34 : decode cX8_init 34 = .ok (.putfield 23, 3) := by decide +kernel
theorem dX8_init_37 : decode cX8_init 37 = .ok (.aload_n 0, 1) := by decide +kernel
theorem dX8_init_38 : decode cX8_init 38 = .ok (.new 16, 3) := by decide +kernel
theorem dX8_init_41 : decode cX8_init 41 = .ok (.dup, 1) := by decide +kernel
theorem dX8_init_42 : decode cX8_init 42 = .ok (.invokespecial 18, 3) := by decide +kernel
theorem dX8_init_45 : decode cX8_init 45 = .ok (.putfield 26, 3) := by decide +kernel
theorem dX8_init_48 : decode cX8_init 48 = .ok (.aload_n 0, 1) := by decide +kernel
theorem dX8_init_49 : decode cX8_init 49 = .ok (.new 29, 3) := by decide +kernel
theorem dX8_init_52 : decode cX8_init 52 = .ok (.dup, 1) := by decide +kernel
theorem dX8_init_53 : decode cX8_init 53 = .ok (.aload_n 0, 1) := by decide +kernel
theorem dX8_init_54 : decode cX8_init 54 = .ok (.getfield 12, 3) := by decide +kernel
theorem dX8_init_57 : decode cX8_init 57 = .ok (.invokespecial 31, 3) := by decide +kernel
theorem dX8_init_60 : decode cX8_init 60 = .ok (.putfield 34, 3) := by decide +kernel
theorem dX8_init_63 : decode cX8_init 63 = .ok (.aload_n 0, 1) := by decide +kernel
theorem dX8_init_64 : decode cX8_init 64 = .ok (.new 38, 3) := by decide +kernel
theorem dX8_init_67 : decode cX8_init 67 = .ok (.dup, 1) := by decide +kernel
theorem dX8_init_68 : decode cX8_init 68 = .ok (.aload_n 0, 1) := by decide +kernel
theorem dX8_init_69 : decode cX8_init 69 = .ok (.getfield 12, 3) := by decide +kernel
theorem dX8_init_72 : decode cX8_init 72 = .ok (.aload_n 0, 1) := by decide +kernel
theorem dX8_init_73 : decode cX8_init 73 = .ok (.getfield 19, 3) := by decide +kernel
theorem dX8_init_76 : decode cX8_init 76 = .ok (.invokespecial 40, 3) := by decide +kernel
theorem dX8_init_79 : decode cX8_init 79 = .ok (.putfield 43, 3) := by decide +kernel
theorem dX8_init_82 : decode cX8_init 82 = .ok (.aload_n 0, 1) := by decide +kernel
theorem dX8_init_83 : decode cX8_init 83 = .ok (.new 47, 3) := by decide +kernel
theorem dX8_init_86 : decode cX8_init 86 = .ok (.dup, 1) := by decide +kernel
theorem dX8_init_87 : decode cX8_init 87 = .ok (.aload_n 0, 1) := by decide +kernel
theorem dX8_init_88 : decode cX8_init 88 = .ok (.getfield 12, 3) := by decide +kernel
theorem dX8_init_91 : decode cX8_init 91 = .ok (.aload_n 0, 1) := by decide +kernel
theorem dX8_init_92 : decode cX8_init 92 = .ok (.getfield 34, 3) := by decide +kernel
theorem dX8_init_95 : decode cX8_init 95 = .ok (.invokespecial 49, 3) := by decide +kernel
theorem dX8_init_98 : decode cX8_init 98 = .ok (.putfield 52, 3) := by decide +kernel
theorem dX8_init_101 : decode cX8_init 101 = .ok (.aload_n 0, 1) := by decide +kernel
theorem dX8_init_102 : decode cX8_init 102 = .ok (.new 56, 3) := by decide +kernel
theorem dX8_init_105 : decode cX8_init 105 = .ok (.dup, 1) := by decide +kernel
theorem dX8_init_106 : decode cX8_init 106 = .ok (.aload_n 0, 1) := by decide +kernel
theorem dX8_init_107 : decode cX8_init 107 = .ok (.getfield 12, 3) := by decide +kernel
theorem dX8_init_110 : decode cX8_init 110 = .ok (.invokespecial 58, 3) := by decide +kernel
theorem dX8_init_113 : decode cX8_init 113 = .ok (.putfield 59, 3) := by decide +kernel
theorem dX8_init_116 : decode cX8_init 116 = .ok (.aload_n 0, 1) := by decide +kernel
theorem dX8_init_117 : decode cX8_init 117 = .ok (.new 63, 3) := by decide +kernel
theorem dX8_init_120 : decode cX8_init 120 = .ok (.dup, 1) := by decide +kernel
theorem dX8_init_121 : decode cX8_init 121 = .ok (.invokespecial 65, 3) := by decide +kernel
theorem dX8_init_124 : decode cX8_init 124 = .ok (.putfield 66, 3) := by decide +kernel
theorem dX8_init_127 : decode cX8_init 127 = .ok (.aload_n 0, 1) := by decide +kernel
theorem dX8_init_128 : decode cX8_init 128 = .ok (.iconst 0, 1) := by decide +kernel
theorem dX8_init_129 : decode cX8_init 129 = .ok (.putfield 70, 3) := by decide +kernel
theorem dX8_init_132 : decode cX8_init 132 = .ok (.return_, 1) := by decide +kernel
set_option maxRecDepth 20000 in
theorem ggX8_reset_X1_begin : GoodIn wsX8_reset wsX1_begin := goodIn_r _ [8, 9, 10, 11, 12, 45, 46, 47, 48, 49, 50, 51] (by decide +kernel) (by decide +kernel)
set_option maxRecDepth 20000 in
theorem gX8_reset_X1_begin_n83 : GoodIn wsX8_reset (wsX1_begin) := ggX8_reset_X1_begin
set_option maxRecDepth 20000 in
theorem ggX8_reset_X8_forgetGrammar : GoodIn wsX8_reset wsX8_forgetGrammar := goodIn_r _ [17, 18, 19, 20, 21, 22, 23, 24, 25, 26, 27, 28, 29, 30, 31, 32, 33, 34, 35, 36, 37, 38, 39, 40, 41, 42, 52, 53, 54, 55, 56, 57, 58, 59, 60, 61, 62, 63, 64, 65, 66, 67, 68, 69, 70, 71, 72, 73] (by decide +kernel) (by decide +kernel)
set_option maxRecDepth 20000 in
theorem gX8_reset_X8_forgetGrammar : GoodIn wsX8_reset (wsV RX8 91 RX8 yX8_forgetGrammar wsX8_forgetGrammar) := goodIn_app (goodIn_of _ (by decide +kernel)) ggX8_reset_X8_forgetGrammar
theorem dX8_reset_0 : decode cX8_reset 0 = .ok (.iload_n 1, 1) := by decide +kernel
theorem dX8_reset_1 : decode cX8_reset 1 = .ok (.iconst 1, 1) := by decide +kernel
theorem dX8_reset_2 : decode cX8_reset 2 = .ok (.if_icmp .lt 9, 3) := by decide +kernel
theorem dX8_reset_5 : decode cX8_reset 5 = .ok (.iload_n 1, 1) := by decide +kernel
theorem dX8_reset_6 : decode cX8_reset 6 = .ok (.bipush 6, 2) := by decide +kernel
theorem dX8_reset_8 : decode cX8_reset 8 = .ok (.if_icmp .le 13, 3) := by decide +kernel
theorem dX8_reset_11 : decode cX8_reset 11 = .ok (.new 74, 3) := by decide +kernel
theorem dX8_reset_14 : decode cX8_reset 14 = .ok (.dup, 1) := by decide +kernel
theorem dX8_reset_15 : decode cX8_reset 15 = .ok (.ldc 76, 2) := by decide +kernel
theorem dX8_reset_17 : decode cX8_reset 17 = .ok (.invokespecial 78, 3) := by decide +kernel
theorem dX8_reset_20 : decode cX8_reset 20 = .ok (.athrow, 1) := by decide +kernel
theorem dX8_reset_21 : decode cX8_reset 21 = .ok (.iload_n 2, 1) := by decide +kernel
theorem dX8_reset_22 : decode cX8_reset 22 = .ok (.iconst 1, 1) := by decide +kernel
theorem dX8_reset_23 : decode cX8_reset 23 = .ok (.if_icmp .lt 8, 3) := by decide +kernel
theorem dX8_reset_26 : decode cX8_reset 26 = .ok (.iload_n 2, 1) := by decide +kernel
theorem dX8_reset_27 : decode cX8_reset 27 = .ok (.iconst 3, 1) := by decide +kernel
theorem dX8_reset_28 : decode cX8_reset 28 = .ok (.if_icmp .le 13, 3) := by decide +kernel
theorem dX8_reset_31 : decode cX8_reset 31 = .ok (.new 74, 3) := by decide +kernel
theorem dX8_reset_34 : decode cX8_reset 34 = .ok (.dup, 1) := by decide +kernel
theorem dX8_reset_35 : decode cX8_reset 35 = .ok (.ldc 81, 2) := by decide +kernel
theorem dX8_reset_37 : decode cX8_reset 37 = .ok (.invokespecial 78, 3) := by decide +kernel
theorem dX8_reset_40 : decode cX8_reset 40 = .ok (.athrow, 1) := by decide +kernel
theorem dX8_reset_41 : decode cX8_reset 41 = .ok (.aload_n 0, 1) := by decide +kernel
theorem dX8_reset_42 : decode cX8_reset 42 = .ok (.getfield 12, 3) := by decide +kernel
theorem dX8_reset_45 : decode cX8_reset 45 = .ok (.iload_n 1, 1) := by decide +kernel
theorem dX8_reset_46 : decode cX8_reset 46 = .ok (.iload_n 2, 1) := by decide +kernel
theorem dX8_reset_47 : decode cX8_reset 47 = .ok (.invokevirtual 83, 3) := by decide +kernel
theorem dX8_reset_50 : decode cX8_reset 50 = .ok (.aload_n 0, 1) := by decide +kernel
theorem dX8_reset_51 : decode cX8_reset 51 = .ok (.getfield 19, 3) := by decide +kernel
theorem dX8_reset_54 : decode cX8_reset 54 = .ok (.iconst 0, 1) := by decide +kernel
theorem dX8_reset_55 : decode cX8_reset 55 = .ok (.putfield 87, 3) := by decide +kernel
theorem dX8_reset_58 : decode cX8_reset 58 = .ok (.aload_n 0, 1) := by decide +kernel
theorem dX8_reset_59 : decode cX8_reset 59 = .ok (.invokevirtual 91, 3) := by decide +kernel
theorem dX8_reset_62 : decode cX8_reset 62 = .ok (.return_, 1) := by decide +kernel
set_option maxRecDepth 20000 in
theorem ggX8_addProduction_X1_isNonterminal : GoodIn wsX8_addProduction wsX1_isNonterminal := goodIn_r _ [9, 10, 66, 67, 68, 69, 70, 71, 72] (by decide +kernel) (by decide +kernel)
set_option maxRecDepth 20000 in
theorem gX8_addProduction_X1_isNonterminal_n94 : GoodIn wsX8_addProduction (wsX1_isNonterminal) := ggX8_addProduction_X1_isNonterminal
set_option maxRecDepth 20000 in
theorem ggX8_addProduction_X1_isRightSide : GoodIn wsX8_addProduction wsX1_isRightSide := goodIn_r _ [13, 14, 15, 16, 7, 17, 18, 6, 8, 9, 10, 19, 20, 21, 22, 23, 66, 67, 68, 69, 70, 71, 72] (by decide +kernel) (by decide +kernel)
set_option maxRecDepth 20000 in
theorem gX8_addProduction_X1_isRightSide_n98 : GoodIn wsX8_addProduction (wsX1_isRightSide) := ggX8_addProduction_X1_isRightSide
set_option maxRecDepth 20000 in
theorem ggX8_addProduction_X1_holds : GoodIn wsX8_addProduction wsX1_holds := goodIn_r _ [26, 27, 28, 29, 30, 7, 31, 32, 66, 67, 68, 69, 70, 71, 72] (by decide +kernel) (by decide +kernel)
set_option maxRecDepth 20000 in
theorem gX8_addProduction_X1_holds_n104 : GoodIn wsX8_addProduction (wsX1_holds) := ggX8_addProduction_X1_holds
set_option maxRecDepth 20000 in
theorem ggX8_addProduction_X1_add : GoodIn wsX8_addProduction wsX1_add := goodIn_r _ [35, 27, 32, 66, 67, 68, 69, 70, 71, 72] (by decide +kernel) (by decide +kernel)
set_option maxRecDepth 20000 in
theorem gX8_addProduction_X1_add_n118 : GoodIn wsX8_addProduction (wsX1_add) := ggX8_addProduction_X1_add
set_option maxRecDepth 20000 in
theorem ggX8_addProduction_X8_forgetGrammar : GoodIn wsX8_addProduction wsX8_forgetGrammar := goodIn_r _ [40, 41, 42, 43, 44, 45, 46, 47, 48, 49, 50, 51, 52, 53, 54, 55, 56, 57, 58, 59, 60, 61, 62, 63, 64, 65, 73, 74, 75, 76, 77, 78, 79, 80, 81, 82, 83, 84, 85, 86, 87, 88, 89, 90, 91, 92, 93, 94] (by decide +kernel) (by decide +kernel)
set_option maxRecDepth 20000 in
theorem gX8_addProduction_X8_forgetGrammar : GoodIn wsX8_addProduction (wsV RX8 91 RX8 yX8_forgetGrammar wsX8_forgetGrammar) := goodIn_app (goodIn_of _ (by decide +kernel)) ggX8_addProduction_X8_forgetGrammar
theorem dX8_addProduction_0 : decode cX8_addProduction 0 = .ok (.aload_n 0, 1) := by decide +kernel
theorem dX8_addProduction_1 : decode cX8_addProduction 1 = .ok (.getfield 12, 3) := by decide +kernel
theorem dX8_addProduction_4 : decode cX8_addProduction 4 = .ok (.iload_n 1, 1) := by decide +kernel
theorem dX8_addProduction_5 : decode cX8_addProduction 5 = .ok (.invokevirtual 94, 3) := by decide +kernel
theorem dX8_addProduction_8 : decode cX8_addProduction 8 = .ok (.ifCond .eq 17, 3) := by decide +kernel
theorem dX8_addProduction_11 : decode cX8_addProduction 11 = .ok (.aload_n 0, 1) := by decide +kernel
theorem dX8_addProduction_12 : decode cX8_addProduction 12 = .ok (.getfield 12, 3) := by decide +kernel
theorem dX8_addProduction_15 : decode cX8_addProduction 15 = .ok (.iload_n 2, 1) := by decide +kernel
theorem dX8_addProduction_16 : decode cX8_addProduction 16 = .ok (.iload_n 3, 1) := by decide +kernel
theorem dX8_addProduction_17 : decode cX8_addProduction 17 = .ok (.iload 4, 2) := by decide +kernel
theorem dX8_addProduction_19 : decode cX8_addProduction 19 = .ok (.invokevirtual 98, 3) := by decide +kernel
theorem dX8_addProduction_22 : decode cX8_addProduction 22 = .ok (.ifCond .ne 13, 3) := by decide +kernel
theorem dX8_addProduction_25 : decode cX8_addProduction 25 = .ok (.new 74, 3) := by decide +kernel
theorem dX8_addProduction_28 : decode cX8_addProduction 28 = .ok (.dup, 1) := by decide +kernel
theorem dX8_addProduction_29 : decode cX8_addProduction 29 = .ok (.ldc 102, 2) := by decide +kernel
theorem dX8_addProduction_31 : decode cX8_addProduction 31 = .ok (.invokespecial 78, 3) := by decide +kernel
theorem dX8_addProduction_34 : decode cX8_addProduction 34 = .ok (.athrow, 1) := by decide +kernel
theorem dX8_addProduction_35 : decode cX8_addProduction 35 = .ok (.aload_n 0, 1) := by decide +kernel
theorem dX8_addProduction_36 : decode cX8_addProduction 36 = .ok (.getfield 12, 3) := by decide +kernel
theorem dX8_addProduction_39 : decode cX8_addProduction 39 = .ok (.iload_n 1, 1) := by decide +kernel
theorem dX8_addProduction_40 : decode cX8_addProduction 40 = .ok (.iload_n 2, 1) := by decide +kernel
theorem dX8_addProduction_41 : decode cX8_addProduction 41 = .ok (.iload_n 3, 1) := by decide +kernel
theorem dX8_addProduction_42 : decode cX8_addProduction 42 = .ok (.iload 4, 2) := by decide +kernel
theorem dX8_addProduction_44 : decode cX8_addProduction 44 = .ok (.invokevirtual 104, 3) := by decide +kernel
theorem dX8_addProduction_47 : decode cX8_addProduction 47 = .ok (.ifCond .eq 13, 3) := by decide +kernel
theorem dX8_addProduction_50 : decode cX8_addProduction 50 = .ok (.new 74, 3) := by decide +kernel
theorem dX8_addProduction_53 : decode cX8_addProduction 53 = .ok (.dup, 1) := by decide +kernel
theorem dX8_addProduction_54 : decode cX8_addProduction 54 = .ok (.ldc 108, 2) := by decide +kernel
theorem dX8_addProduction_56 : decode cX8_addProduction 56 = .ok (.invokespecial 78, 3) := by decide +kernel
theorem dX8_addProduction_59 : decode cX8_addProduction 59 = .ok (.athrow, 1) := by decide +kernel
theorem dX8_addProduction_60 : decode cX8_addProduction 60 = .ok (.aload_n 0, 1) := by decide +kernel
theorem dX8_addProduction_61 : decode cX8_addProduction 61 = .ok (.getfield 12, 3) := by decide +kernel
theorem dX8_addProduction_64 : decode cX8_addProduction 64 = .ok (.getfield 110, 3) := by decide +kernel
theorem dX8_addProduction_67 : decode cX8_addProduction 67 = .ok (.bipush 24, 2) := by decide +kernel
theorem dX8_addProduction_69 : decode cX8_addProduction 69 = .ok (.if_icmp .lt 13, 3) := by decide +kernel
theorem dX8_addProduction_72 : decode cX8_addProduction 72 = .ok (.new 113, 3) := by decide +kernel
theorem dX8_addProduction_75 : decode cX8_addProduction 75 = .ok (.dup, 1) := by decide +kernel
theorem dX8_addProduction_76 : decode cX8_addProduction 76 = .ok (.ldc 115, 2) := by decide +kernel
theorem dX8_addProduction_78 : decode cX8_addProduction 78 = .ok (.invokespecial 117, 3) := by decide +kernel
theorem dX8_addProduction_81 : decode cX8_addProduction 81 = .ok (.athrow, 1) := by decide +kernel
theorem dX8_addProduction_82 : decode cX8_addProduction 82 = .ok (.aload_n 0, 1) := by decide +kernel
theorem dX8_addProduction_83 : decode cX8_addProduction 83 = .ok (.getfield 12, 3) := by decide +kernel
theorem dX8_addProduction_86 : decode cX8_addProduction 86 = .ok (.getfield 110, 3) := by decide +kernel
theorem dX8_addProduction_89 : decode cX8_addProduction 89 = .ok (.istore 5, 2) := by decide +kernel
theorem dX8_addProduction_91 : decode cX8_addProduction 91 = .ok (.aload_n 0, 1) := by decide +kernel
theorem dX8_addProduction_92 : decode cX8_addProduction 92 = .ok (.getfield 12, 3) := by decide +kernel
theorem dX8_addProduction_95 : decode cX8_addProduction 95 = .ok (.iload_n 1, 1) := by decide +kernel
theorem dX8_addProduction_96 : decode cX8_addProduction 96 = .ok (.iload_n 2, 1) := by decide +kernel
theorem dX8_addProduction_97 : decode cX8_addProduction 97 = .ok (.iload_n 3, 1) := by decide +kernel
theorem dX8_addProduction_98 : decode cX8_addProduction 98 = .ok (.iload 4, 2) := by decide +kernel
theorem dX8_addProduction_100 : decode cX8_addProduction 100 = .ok (.invokevirtual 118, 3) := by decide +kernel
theorem dX8_addProduction_103 : decode cX8_addProduction 103 = .ok (.aload_n 0, 1) := by decide +kernel
theorem dX8_addProduction_104 : decode cX8_addProduction 104 = .ok (.invokevirtual 91, 3) := by decide +kernel
theorem dX8_addProduction_107 : decode cX8_addProduction 107 = .ok (.iload 5, 2) := by decide +kernel
theorem dX8_addProduction_109 : decode cX8_addProduction 109 = .ok (.ireturn, 1) := by decide +kernel
set_option maxRecDepth 20000 in
theorem ggX8_removeProduction_X8_checkProduction : GoodIn wsX8_removeProduction wsX8_checkProduction := goodIn_ca (goodIn_r _ [6, 7, 8, 1, 34, 35, 36, 37, 38, 39, 40, 41, 42, 43, 44, 45, 46, 47, 48, 49, 50] (by decide +kernel) (by decide +kernel)) (goodIn_sub (fun _ h => List.mem_cons_of_mem _ (List.mem_append_right _ h)) (by decide +kernel))
set_option maxRecDepth 20000 in
theorem gX8_removeProduction_X8_checkProduction : GoodIn wsX8_removeProduction (wsV RX8 122 RX8 yX8_checkProduction wsX8_checkProduction) := goodIn_app (goodIn_of _ (by decide +kernel)) ggX8_removeProduction_X8_checkProduction
set_option maxRecDepth 20000 in
theorem ggX8_removeProduction_X1_remove : GoodIn wsX8_removeProduction wsX1_remove := goodIn_r _ [12, 13, 14, 44, 45, 46, 47, 48, 49, 50] (by decide +kernel) (by decide +kernel)
set_option maxRecDepth 20000 in
theorem gX8_removeProduction_X1_remove_n126 : GoodIn wsX8_removeProduction (wsX1_remove) := ggX8_removeProduction_X1_remove
set_option maxRecDepth 20000 in
theorem ggX8_removeProduction_X8_forgetGrammar : GoodIn wsX8_removeProduction wsX8_forgetGrammar := goodIn_r _ [18, 19, 20, 21, 22, 23, 24, 25, 26, 27, 28, 29, 30, 31, 32, 33, 34, 35, 36, 37, 38, 39, 40, 41, 42, 43, 51, 52, 53, 54, 55, 56, 57, 58, 59, 60, 61, 62, 63, 64, 65, 66, 67, 68, 69, 70, 71, 72] (by decide +kernel) (by decide +kernel)
set_option maxRecDepth 20000 in
theorem gX8_removeProduction_X8_forgetGrammar : GoodIn wsX8_removeProduction (wsV RX8 91 RX8 yX8_forgetGrammar wsX8_forgetGrammar) := goodIn_app (goodIn_of _ (by decide +kernel)) ggX8_removeProduction_X8_forgetGrammar
theorem dX8_removeProduction_0 : decode cX8_removeProduction 0 = .ok (.aload_n 0, 1) := by decide +kernel
theorem dX8_removeProduction_1 : decode cX8_removeProduction 1 = .ok (.iload_n 1, 1) := by decide +kernel
theorem dX8_removeProduction_2 : decode cX8_removeProduction 2 = .ok (.invokevirtual 122, 3) := by decide +kernel
theorem dX8_removeProduction_5 : decode cX8_removeProduction 5 = .ok (.aload_n 0, 1) := by decide +kernel
theorem dX8_removeProduction_6 : decode cX8_removeProduction 6 = .ok (.getfield 12, 3) := by decide +kernel
theorem dX8_removeProduction_9 : decode cX8_removeProduction 9 = .ok (.iload_n 1, 1) := by decide +kernel
theorem dX8_removeProduction_10 : decode cX8_removeProduction 10 = .ok (.invokevirtual 126, 3) := by decide +kernel
theorem dX8_removeProduction_13 : decode cX8_removeProduction 13 = .ok (.aload_n 0, 1) := by decide +kernel
theorem dX8_removeProduction_14 : decode cX8_removeProduction 14 = .ok (.invokevirtual 91, 3) := by decide +kernel
theorem dX8_removeProduction_17 : decode cX8_removeProduction 17 = .ok (.aload_n 0, 1) := by decide +kernel
theorem dX8_removeProduction_18 : decode cX8_removeProduction 18 = .ok (.getfield 12, 3) := by decide +kernel
theorem dX8_removeProduction_21 : decode cX8_removeProduction 21 = .ok (.getfield 110, 3) := by decide +kernel
theorem dX8_removeProduction_24 : decode cX8_removeProduction 24 = .ok (.ireturn, 1) := by decide +kernel
set_option maxRecDepth 20000 in
theorem ggX8_removeUseless_X1_removeUnused : GoodIn wsX8_removeUseless wsX1_removeUnused := goodIn_r _ [5, 6, 7, 8, 9, 3, 10, 11, 12, 13, 14, 15, 16, 17, 18, 19, 20, 21, 22, 23, 24, 25, 26, 27, 28, 29, 30, 31, 32, 33, 34, 35, 36, 37, 38, 39, 40, 41, 42, 43, 44, 45, 46, 47, 48, 49, 50, 51, 82, 83, 84, 85, 86, 87, 88] (by decide +kernel) (by decide +kernel)
set_option maxRecDepth 20000 in
theorem gX8_removeUseless_X1_removeUnused_n129 : GoodIn wsX8_removeUseless (wsX1_removeUnused) := ggX8_removeUseless_X1_removeUnused
set_option maxRecDepth 20000 in
theorem ggX8_removeUseless_X8_forgetGrammar : GoodIn wsX8_removeUseless wsX8_forgetGrammar := goodIn_r _ [56, 57, 58, 59, 60, 61, 62, 63, 64, 65, 66, 67, 68, 69, 70, 71, 72, 73, 74, 75, 76, 77, 78, 79, 80, 81, 89, 90, 91, 92, 93, 94, 95, 96, 97, 98, 99, 100, 101, 102, 103, 104, 105, 106, 107, 108, 109, 110] (by decide +kernel) (by decide +kernel)
set_option maxRecDepth 20000 in
theorem gX8_removeUseless_X8_forgetGrammar : GoodIn wsX8_removeUseless (wsV RX8 91 RX8 yX8_forgetGrammar wsX8_forgetGrammar) := goodIn_app (goodIn_of _ (by decide +kernel)) ggX8_removeUseless_X8_forgetGrammar
theorem dX8_removeUseless_0 : decode cX8_removeUseless 0 = .ok (.aload_n 0, 1) := by decide +kernel
theorem dX8_removeUseless_1 : decode cX8_removeUseless 1 = .ok (.getfield 12, 3) := by decide +kernel
theorem dX8_removeUseless_4 : decode cX8_removeUseless 4 = .ok (.invokevirtual 129, 3) := by decide +kernel
theorem dX8_removeUseless_7 : decode cX8_removeUseless 7 = .ok (.istore_n 1, 1) := by decide +kernel
theorem dX8_removeUseless_8 : decode cX8_removeUseless 8 = .ok (.aload_n 0, 1) := by decide +kernel
theorem dX8_removeUseless_9 : decode cX8_removeUseless 9 = .ok (.invokevirtual 91, 3) := by decide +kernel
theorem dX8_removeUseless_12 : decode cX8_removeUseless 12 = .ok (.iload_n 1, 1) := by decide +kernel
theorem dX8_removeUseless_13 : decode cX8_removeUseless 13 = .ok (.ireturn, 1) := by decide +kernel
theorem dX8_productionCount_0 : decode cX8_productionCount 0 = .ok (.aload_n 0, 1) := by decide +kernel
theorem dX8_productionCount_1 : decode cX8_productionCount 1 = .ok (.getfield 12, 3) := by decide +kernel
theorem dX8_productionCount_4 : decode cX8_productionCount 4 = .ok (.getfield 110, 3) := by decide +kernel
theorem dX8_productionCount_7 : decode cX8_productionCount 7 = .ok (.ireturn, 1) := by decide +kernel
set_option maxRecDepth 20000 in
theorem ggX8_productionSymbol_X8_checkProduction : GoodIn wsX8_productionSymbol wsX8_checkProduction := goodIn_ca (goodIn_r _ [8, 9, 10, 3, 17, 18, 19, 20, 21, 22, 23, 24, 25, 26, 27, 28, 29, 30, 31, 32, 33] (by decide +kernel) (by decide +kernel)) (goodIn_sub (fun _ h => List.mem_cons_of_mem _ (List.mem_append_right _ h)) (by decide +kernel))
set_option maxRecDepth 20000 in
theorem gX8_productionSymbol_X8_checkProduction : GoodIn wsX8_productionSymbol (wsV RX8 122 RX8 yX8_checkProduction wsX8_checkProduction) := goodIn_app (goodIn_of _ (by decide +kernel)) ggX8_productionSymbol_X8_checkProduction
set_option maxRecDepth 20000 in
theorem ggX8_productionSymbol_X1_symbol : GoodIn wsX8_productionSymbol wsX1_symbol := goodIn_r _ [14, 15, 16, 27, 28, 29, 30, 31, 32, 33] (by decide +kernel) (by decide +kernel)
set_option maxRecDepth 20000 in
theorem gX8_productionSymbol_X1_symbol_n138 : GoodIn wsX8_productionSymbol (wsX1_symbol) := ggX8_productionSymbol_X1_symbol
theorem dX8_productionSymbol_0 : decode cX8_productionSymbol 0 = .ok (.aload_n 0, 1) := by decide +kernel
theorem dX8_productionSymbol_1 : decode cX8_productionSymbol 1 = .ok (.iload_n 1, 1) := by decide +kernel
theorem dX8_productionSymbol_2 : decode cX8_productionSymbol 2 = .ok (.invokevirtual 122, 3) := by decide +kernel
theorem dX8_productionSymbol_5 : decode cX8_productionSymbol 5 = .ok (.iload_n 2, 1) := by decide +kernel
theorem dX8_productionSymbol_6 : decode cX8_productionSymbol 6 = .ok (.ifCond .lt 8, 3) := by decide +kernel
theorem dX8_productionSymbol_9 : decode cX8_productionSymbol 9 = .ok (.iload_n 2, 1) := by decide +kernel
theorem dX8_productionSymbol_10 : decode cX8_productionSymbol 10 = .ok (.iconst 3, 1) := by decide +kernel
theorem dX8_productionSymbol_11 : decode cX8_productionSymbol 11 = .ok (.if_icmp .le 13, 3) := by decide +kernel
theorem dX8_productionSymbol_14 : decode cX8_productionSymbol 14 = .ok (.new 133, 3) := by decide +kernel
theorem dX8_productionSymbol_17 : decode cX8_productionSymbol 17 = .ok (.dup, 1) := by decide +kernel
theorem dX8_productionSymbol_18 : decode cX8_productionSymbol 18 = .ok (.ldc 135, 2) := by decide +kernel
theorem dX8_productionSymbol_20 : decode cX8_productionSymbol 20 = .ok (.invokespecial 137, 3) := by decide +kernel
theorem dX8_productionSymbol_23 : decode cX8_productionSymbol 23 = .ok (.athrow, 1) := by decide +kernel
theorem dX8_productionSymbol_24 : decode cX8_productionSymbol 24 = .ok (.aload_n 0, 1) := by decide +kernel
theorem dX8_productionSymbol_25 : decode cX8_productionSymbol 25 = .ok (.getfield 12, 3) := by decide +kernel
theorem dX8_productionSymbol_28 : decode cX8_productionSymbol 28 = .ok (.iload_n 1, 1) := by decide +kernel
theorem dX8_productionSymbol_29 : decode cX8_productionSymbol 29 = .ok (.iload_n 2, 1) := by decide +kernel
theorem dX8_productionSymbol_30 : decode cX8_productionSymbol 30 = .ok (.invokevirtual 138, 3) := by decide +kernel
theorem dX8_productionSymbol_33 : decode cX8_productionSymbol 33 = .ok (.ireturn, 1) := by decide +kernel
set_option maxRecDepth 20000 in
theorem ggX8_setStart_X8_checkNonterminal : GoodIn wsX8_setStart wsX8_checkNonterminal := goodIn_ca (goodIn_r _ [7, 8, 9, 1, 10, 11, 12, 13, 14, 15, 16, 17, 18, 19, 20, 21, 22, 23, 24, 25, 26, 27, 28, 29, 30, 31] (by decide +kernel) (by decide +kernel)) (goodIn_sub (fun _ h => List.mem_cons_of_mem _ (List.mem_append_right _ h)) (by decide +kernel))
set_option maxRecDepth 20000 in
theorem gX8_setStart_X8_checkNonterminal : GoodIn wsX8_setStart (wsV RX8 142 RX8 yX8_checkNonterminal wsX8_checkNonterminal) := goodIn_app (goodIn_of _ (by decide +kernel)) ggX8_setStart_X8_checkNonterminal
theorem dX8_setStart_0 : decode cX8_setStart 0 = .ok (.aload_n 0, 1) := by decide +kernel
theorem dX8_setStart_1 : decode cX8_setStart 1 = .ok (.iload_n 1, 1) := by decide +kernel
theorem dX8_setStart_2 : decode cX8_setStart 2 = .ok (.invokevirtual 142, 3) := by decide +kernel
theorem dX8_setStart_5 : decode cX8_setStart 5 = .ok (.aload_n 0, 1) := by decide +kernel
theorem dX8_setStart_6 : decode cX8_setStart 6 = .ok (.getfield 12, 3) := by decide +kernel
theorem dX8_setStart_9 : decode cX8_setStart 9 = .ok (.getfield 145, 3) := by decide +kernel
theorem dX8_setStart_12 : decode cX8_setStart 12 = .ok (.istore_n 2, 1) := by decide +kernel
theorem dX8_setStart_13 : decode cX8_setStart 13 = .ok (.aload_n 0, 1) := by decide +kernel
theorem dX8_setStart_14 : decode cX8_setStart 14 = .ok (.getfield 12, 3) := by decide +kernel
theorem dX8_setStart_17 : decode cX8_setStart 17 = .ok (.iload_n 1, 1) := by decide +kernel
theorem dX8_setStart_18 : decode cX8_setStart 18 = .ok (.putfield 145, 3) := by decide +kernel
theorem dX8_setStart_21 : decode cX8_setStart 21 = .ok (.aload_n 0, 1) := by decide +kernel
theorem dX8_setStart_22 : decode cX8_setStart 22 = .ok (.getfield 59, 3) := by decide +kernel
theorem dX8_setStart_25 : decode cX8_setStart 25 = .ok (.iconst 0, 1) := by decide +kernel
theorem dX8_setStart_26 : decode cX8_setStart 26 = .ok (.putfield 148, 3) := by decide +kernel
theorem dX8_setStart_29 : decode cX8_setStart 29 = .ok (.iload_n 2, 1) := by decide +kernel
theorem dX8_setStart_30 : decode cX8_setStart 30 = .ok (.ireturn, 1) := by decide +kernel
set_option maxRecDepth 20000 in
theorem ggX8_shortestLength_X8_checkNonterminal : GoodIn wsX8_shortestLength wsX8_checkNonterminal := goodIn_ca (goodIn_r _ [6, 7, 8, 1, 9, 10, 11, 12, 13, 37, 38, 39, 40, 41, 42, 43, 44, 45, 46, 47, 48, 49, 50, 51, 52, 53] (by decide +kernel) (by decide +kernel)) (goodIn_sub (fun _ h => List.mem_cons_of_mem _ (List.mem_append_right _ h)) (by decide +kernel))
set_option maxRecDepth 20000 in
theorem gX8_shortestLength_X8_checkNonterminal : GoodIn wsX8_shortestLength (wsV RX8 142 RX8 yX8_checkNonterminal wsX8_checkNonterminal) := goodIn_app (goodIn_of _ (by decide +kernel)) ggX8_shortestLength_X8_checkNonterminal
set_option maxRecDepth 20000 in
theorem ggX8_shortestLength_X1_measure : GoodIn wsX8_shortestLength wsX1_measure := goodIn_r _ [16, 17, 13, 18, 19, 20, 21, 10, 22, 23, 24, 25, 26, 27, 28, 29, 30, 31, 32, 9, 11, 12, 33, 34, 35, 36, 47, 48, 49, 50, 51, 52, 53] (by decide +kernel) (by decide +kernel)
set_option maxRecDepth 20000 in
theorem gX8_shortestLength_X1_measure_n151 : GoodIn wsX8_shortestLength (wsX1_measure) := ggX8_shortestLength_X1_measure
set_option maxRecDepth 20000 in
theorem ggX8_shortestLength_X1_shortestPart : GoodIn wsX8_shortestLength wsX1_shortestPart := goodIn_r _ [31, 17, 32, 9, 11, 10, 12, 13, 47, 48, 49, 50, 51, 52, 53] (by decide +kernel) (by decide +kernel)
set_option maxRecDepth 20000 in
theorem gX8_shortestLength_X1_shortestPart_n154 : GoodIn wsX8_shortestLength (wsX1_shortestPart) := ggX8_shortestLength_X1_shortestPart
theorem dX8_shortestLength_0 : decode cX8_shortestLength 0 = .ok (.aload_n 0, 1) := by decide +kernel
theorem dX8_shortestLength_1 : decode cX8_shortestLength 1 = .ok (.iload_n 1, 1) := by decide +kernel
theorem dX8_shortestLength_2 : decode cX8_shortestLength 2 = .ok (.invokevirtual 142, 3) := by decide +kernel
theorem dX8_shortestLength_5 : decode cX8_shortestLength 5 = .ok (.aload_n 0, 1) := by decide +kernel
theorem dX8_shortestLength_6 : decode cX8_shortestLength 6 = .ok (.getfield 12, 3) := by decide +kernel
theorem dX8_shortestLength_9 : decode cX8_shortestLength 9 = .ok (.invokevirtual 151, 3) := by decide +kernel
theorem dX8_shortestLength_12 : decode cX8_shortestLength 12 = .ok (.aload_n 0, 1) := by decide +kernel
theorem dX8_shortestLength_13 : decode cX8_shortestLength 13 = .ok (.getfield 12, 3) := by decide +kernel
theorem dX8_shortestLength_16 : decode cX8_shortestLength 16 = .ok (.iload_n 1, 1) := by decide +kernel
theorem dX8_shortestLength_17 : decode cX8_shortestLength 17 = .ok (.invokevirtual 154, 3) := by decide +kernel
theorem dX8_shortestLength_20 : decode cX8_shortestLength 20 = .ok (.ireturn, 1) := by decide +kernel
set_option maxRecDepth 20000 in
theorem ggX8_append_X1_isTerminal : GoodIn wsX8_append wsX1_isTerminal := goodIn_r _ [11, 12, 41, 42, 43, 44, 45, 46, 47] (by decide +kernel) (by decide +kernel)
set_option maxRecDepth 20000 in
theorem gX8_append_X1_isTerminal_n158 : GoodIn wsX8_append (wsX1_isTerminal) := ggX8_append_X1_isTerminal
set_option maxRecDepth 20000 in
theorem ggX8_append_X6_put : GoodIn wsX8_append wsX6_put := goodIn_r _ [16, 17, 28, 29] (by decide +kernel) (by decide +kernel)
set_option maxRecDepth 20000 in
theorem gX8_append_X6_put_n165 : GoodIn wsX8_append (wsX6_put) := ggX8_append_X6_put
theorem dX8_append_0 : decode cX8_append 0 = .ok (.aload_n 0, 1) := by decide +kernel
theorem dX8_append_1 : decode cX8_append 1 = .ok (.getfield 12, 3) := by decide +kernel
theorem dX8_append_4 : decode cX8_append 4 = .ok (.iload_n 1, 1) := by decide +kernel
theorem dX8_append_5 : decode cX8_append 5 = .ok (.invokevirtual 158, 3) := by decide +kernel
theorem dX8_append_8 : decode cX8_append 8 = .ok (.ifCond .ne 13, 3) := by decide +kernel
theorem dX8_append_11 : decode cX8_append 11 = .ok (.new 74, 3) := by decide +kernel
theorem dX8_append_14 : decode cX8_append 14 = .ok (.dup, 1) := by decide +kernel
theorem dX8_append_15 : decode cX8_append 15 = .ok (.ldc 161, 2) := by decide +kernel
theorem dX8_append_17 : decode cX8_append 17 = .ok (.invokespecial 78, 3) := by decide +kernel
theorem dX8_append_20 : decode cX8_append 20 = .ok (.athrow, 1) := by decide +kernel
theorem dX8_append_21 : decode cX8_append 21 = .ok (.aload_n 0, 1) := by decide +kernel
theorem dX8_append_22 : decode cX8_append 22 = .ok (.getfield 19, 3) := by decide +kernel
theorem dX8_append_25 : decode cX8_append 25 = .ok (.getfield 87, 3) := by decide +kernel
theorem dX8_append_28 : decode cX8_append 28 = .ok (.bipush 8, 2) := by decide +kernel
theorem dX8_append_30 : decode cX8_append 30 = .ok (.if_icmp .lt 13, 3) := by decide +kernel
theorem dX8_append_33 : decode cX8_append 33 = .ok (.new 113, 3) := by decide +kernel
theorem dX8_append_36 : decode cX8_append 36 = .ok (.dup, 1) := by decide +kernel
theorem dX8_append_37 : decode cX8_append 37 = .ok (.ldc 163, 2) := by decide +kernel
theorem dX8_append_39 : decode cX8_append 39 = .ok (.invokespecial 117, 3) := by decide +kernel
theorem dX8_append_42 : decode cX8_append 42 = .ok (.athrow, 1) := by decide +kernel
theorem dX8_append_43 : decode cX8_append 43 = .ok (.aload_n 0, 1) := by decide +kernel
theorem dX8_append_44 : decode cX8_append 44 = .ok (.getfield 19, 3) := by decide +kernel
theorem dX8_append_47 : decode cX8_append 47 = .ok (.dup, 1) := by decide +kernel
theorem dX8_append_48 : decode cX8_append 48 = .ok (.getfield 87, 3) := by decide +kernel
theorem dX8_append_51 : decode cX8_append 51 = .ok (.iconst 1, 1) := by decide +kernel
theorem dX8_append_52 : decode cX8_append 52 = .ok (.iadd, 1) := by decide +kernel
theorem dX8_append_53 : decode cX8_append 53 = .ok (.putfield 87, 3) := by decide +kernel
theorem dX8_append_56 : decode cX8_append 56 = .ok (.aload_n 0, 1) := by decide +kernel
theorem dX8_append_57 : decode cX8_append 57 = .ok (.getfield 19, 3) := by decide +kernel
theorem dX8_append_60 : decode cX8_append 60 = .ok (.aload_n 0, 1) := by decide +kernel
theorem dX8_append_61 : decode cX8_append 61 = .ok (.getfield 19, 3) := by decide +kernel
theorem dX8_append_64 : decode cX8_append 64 = .ok (.getfield 87, 3) := by decide +kernel
theorem dX8_append_67 : decode cX8_append 67 = .ok (.iconst 1, 1) := by decide +kernel
theorem dX8_append_68 : decode cX8_append 68 = .ok (.isub, 1) := by decide +kernel
theorem dX8_append_69 : decode cX8_append 69 = .ok (.iload_n 1, 1) := by decide +kernel
theorem dX8_append_70 : decode cX8_append 70 = .ok (.invokevirtual 165, 3) := by decide +kernel
theorem dX8_append_73 : decode cX8_append 73 = .ok (.aload_n 0, 1) := by decide +kernel
theorem dX8_append_74 : decode cX8_append 74 = .ok (.getfield 59, 3) := by decide +kernel
theorem dX8_append_77 : decode cX8_append 77 = .ok (.iconst 0, 1) := by decide +kernel
theorem dX8_append_78 : decode cX8_append 78 = .ok (.putfield 148, 3) := by decide +kernel
theorem dX8_append_81 : decode cX8_append 81 = .ok (.aload_n 0, 1) := by decide +kernel
theorem dX8_append_82 : decode cX8_append 82 = .ok (.getfield 19, 3) := by decide +kernel
theorem dX8_append_85 : decode cX8_append 85 = .ok (.getfield 87, 3) := by decide +kernel
theorem dX8_append_88 : decode cX8_append 88 = .ok (.ireturn, 1) := by decide +kernel
theorem dX8_clearWord_0 : decode cX8_clearWord 0 = .ok (.aload_n 0, 1) := by decide +kernel
theorem dX8_clearWord_1 : decode cX8_clearWord 1 = .ok (.getfield 19, 3) := by decide +kernel
theorem dX8_clearWord_4 : decode cX8_clearWord 4 = .ok (.getfield 87, 3) := by decide +kernel
theorem dX8_clearWord_7 : decode cX8_clearWord 7 = .ok (.istore_n 1, 1) := by decide +kernel
theorem dX8_clearWord_8 : decode cX8_clearWord 8 = .ok (.aload_n 0, 1) := by decide +kernel
theorem dX8_clearWord_9 : decode cX8_clearWord 9 = .ok (.getfield 19, 3) := by decide +kernel
theorem dX8_clearWord_12 : decode cX8_clearWord 12 = .ok (.iconst 0, 1) := by decide +kernel
theorem dX8_clearWord_13 : decode cX8_clearWord 13 = .ok (.putfield 87, 3) := by decide +kernel
theorem dX8_clearWord_16 : decode cX8_clearWord 16 = .ok (.aload_n 0, 1) := by decide +kernel
theorem dX8_clearWord_17 : decode cX8_clearWord 17 = .ok (.getfield 59, 3) := by decide +kernel
theorem dX8_clearWord_20 : decode cX8_clearWord 20 = .ok (.iconst 0, 1) := by decide +kernel
theorem dX8_clearWord_21 : decode cX8_clearWord 21 = .ok (.putfield 148, 3) := by decide +kernel
theorem dX8_clearWord_24 : decode cX8_clearWord 24 = .ok (.iload_n 1, 1) := by decide +kernel
theorem dX8_clearWord_25 : decode cX8_clearWord 25 = .ok (.ireturn, 1) := by decide +kernel
theorem dX8_wordLength_0 : decode cX8_wordLength 0 = .ok (.aload_n 0, 1) := by decide +kernel
theorem dX8_wordLength_1 : decode cX8_wordLength 1 = .ok (.getfield 19, 3) := by decide +kernel
theorem dX8_wordLength_4 : decode cX8_wordLength 4 = .ok (.getfield 87, 3) := by decide +kernel
theorem dX8_wordLength_7 : decode cX8_wordLength 7 = .ok (.ireturn, 1) := by decide +kernel
set_option maxRecDepth 20000 in
theorem ggX8_terminalAt_X6_letter : GoodIn wsX8_terminalAt wsX6_letter := goodIn_r _ [7, 8, 19, 20] (by decide +kernel) (by decide +kernel)
set_option maxRecDepth 20000 in
theorem gX8_terminalAt_X6_letter_n170 : GoodIn wsX8_terminalAt (wsX6_letter) := ggX8_terminalAt_X6_letter
theorem dX8_terminalAt_0 : decode cX8_terminalAt 0 = .ok (.iload_n 1, 1) := by decide +kernel
theorem dX8_terminalAt_1 : decode cX8_terminalAt 1 = .ok (.ifCond .lt 14, 3) := by decide +kernel
theorem dX8_terminalAt_4 : decode cX8_terminalAt 4 = .ok (.iload_n 1, 1) := by decide +kernel
theorem dX8_terminalAt_5 : decode cX8_terminalAt 5 = .ok (.aload_n 0, 1) := by decide +kernel
theorem dX8_terminalAt_6 : decode cX8_terminalAt 6 = .ok (.getfield 19, 3) := by decide +kernel
theorem dX8_terminalAt_9 : decode cX8_terminalAt 9 = .ok (.getfield 87, 3) := by decide +kernel
theorem dX8_terminalAt_12 : decode cX8_terminalAt 12 = .ok (.if_icmp .lt 13, 3) := by decide +kernel
theorem dX8_terminalAt_15 : decode cX8_terminalAt 15 = .ok (.new 133, 3) := by decide +kernel
theorem dX8_terminalAt_18 : decode cX8_terminalAt 18 = .ok (.dup, 1) := by decide +kernel
theorem dX8_terminalAt_19 : decode cX8_terminalAt 19 = .ok (.ldc 168, 2) := by decide +kernel
theorem dX8_terminalAt_21 : decode cX8_terminalAt 21 = .ok (.invokespecial 137, 3) := by decide +kernel
theorem dX8_terminalAt_24 : decode cX8_terminalAt 24 = .ok (.athrow, 1) := by decide +kernel
theorem dX8_terminalAt_25 : decode cX8_terminalAt 25 = .ok (.aload_n 0, 1) := by decide +kernel
theorem dX8_terminalAt_26 : decode cX8_terminalAt 26 = .ok (.getfield 19, 3) := by decide +kernel
theorem dX8_terminalAt_29 : decode cX8_terminalAt 29 = .ok (.iload_n 1, 1) := by decide +kernel
theorem dX8_terminalAt_30 : decode cX8_terminalAt 30 = .ok (.invokevirtual 170, 3) := by decide +kernel
theorem dX8_terminalAt_33 : decode cX8_terminalAt 33 = .ok (.ireturn, 1) := by decide +kernel
set_option maxRecDepth 20000 in
theorem ggX8_treeCount_X8_countSpans : GoodIn wsX8_treeCount wsX8_countSpans := goodIn_r _ [8, 1, 3, 9, 10, 11, 12, 13, 14, 15, 16, 17, 18, 19, 20, 21, 22, 23, 24, 25, 26, 27, 28, 29, 30, 31, 32, 33, 34, 35, 36, 37, 38, 39, 40, 41, 42, 43, 44, 45, 46, 47, 48, 49, 50, 51, 52, 53, 54, 55, 56, 57, 58, 59, 60, 61, 62, 63, 64, 65, 66, 67, 68, 69, 70, 71, 72, 73, 74, 75, 76, 77, 78, 79, 80, 81, 82, 83, 84, 85, 86, 87, 88, 89, 90, 91, 92, 93, 94, 95, 96, 97, 101, 102, 103, 104, 105, 106, 107, 108, 109, 110, 118, 119, 120, 121, 122, 123, 124, 125, 126, 111, 112, 113, 114, 115, 116, 117] (by decide +kernel) (by decide +kernel)
set_option maxRecDepth 20000 in
theorem gX8_treeCount_X8_countSpans : GoodIn wsX8_treeCount (wsV RX8 173 RX8 yX8_countSpans wsX8_countSpans) := goodIn_app (goodIn_of _ (by decide +kernel)) ggX8_treeCount_X8_countSpans
set_option maxRecDepth 20000 in
theorem ggX8_treeCount_X0_count : GoodIn wsX8_treeCount wsX0_count := goodIn_r _ [65, 66, 67, 68, 69, 70, 30, 71, 72, 73, 34, 74, 36, 75, 76, 77, 78, 79, 80, 81, 82, 120, 121, 122, 123, 124, 125, 126, 118, 119] (by decide +kernel) (by decide +kernel)
set_option maxRecDepth 20000 in
theorem gX8_treeCount_X0_count_u176X4 : GoodIn wsX8_treeCount (va_wsU RX8 176 RX4 "GrammarAmbiguity$Counts" ⟨"GrammarAmbiguity$SpanCounts", "count", "(III)J"⟩ yX0_count wsX0_count) := goodIn_app (goodIn_of _ (by decide +kernel)) ggX8_treeCount_X0_count
theorem dX8_treeCount_0 : decode cX8_treeCount 0 = .ok (.aload_n 0, 1) := by decide +kernel
theorem dX8_treeCount_1 : decode cX8_treeCount 1 = .ok (.invokevirtual 173, 3) := by decide +kernel
theorem dX8_treeCount_4 : decode cX8_treeCount 4 = .ok (.aload_n 0, 1) := by decide +kernel
theorem dX8_treeCount_5 : decode cX8_treeCount 5 = .ok (.getfield 43, 3) := by decide +kernel
theorem dX8_treeCount_8 : decode cX8_treeCount 8 = .ok (.aload_n 0, 1) := by decide +kernel
theorem dX8_treeCount_9 : decode cX8_treeCount 9 = .ok (.getfield 12, 3) := by decide +kernel
theorem dX8_treeCount_12 : decode cX8_treeCount 12 = .ok (.getfield 145, 3) := by decide +kernel
theorem dX8_treeCount_15 : decode cX8_treeCount 15 = .ok (.aload_n 0, 1) := by decide +kernel
theorem dX8_treeCount_16 : decode cX8_treeCount 16 = .ok (.getfield 19, 3) := by decide +kernel
theorem dX8_treeCount_19 : decode cX8_treeCount 19 = .ok (.getfield 87, 3) := by decide +kernel
theorem dX8_treeCount_22 : decode cX8_treeCount 22 = .ok (.iconst 0, 1) := by decide +kernel
theorem dX8_treeCount_23 : decode cX8_treeCount 23 = .ok (.invokevirtual 176, 3) := by decide +kernel
theorem dX8_treeCount_26 : decode cX8_treeCount 26 = .ok (.lreturn, 1) := by decide +kernel
set_option maxRecDepth 20000 in
theorem ggX8_treesOfLength_X8_checkLength : GoodIn wsX8_treesOfLength wsX8_checkLength := goodIn_ca (goodIn_r _ [4, 5, 6] (by decide +kernel) (by decide +kernel)) (goodIn_sub (fun _ h => List.mem_cons_of_mem _ (List.mem_append_right _ h)) (by decide +kernel))
set_option maxRecDepth 20000 in
theorem gX8_treesOfLength_X8_checkLength : GoodIn wsX8_treesOfLength (va_wsS RX8 180 yX8_checkLength wsX8_checkLength) := goodIn_app (goodIn_of _ (by decide +kernel)) ggX8_treesOfLength_X8_checkLength
set_option maxRecDepth 20000 in
theorem ggX8_treesOfLength_X8_allTrees : GoodIn wsX8_treesOfLength wsX8_allTrees := goodIn_r _ [10, 11, 12, 13, 14, 15, 16, 17, 18, 19, 20, 21, 22, 23, 24, 25, 26, 27, 28, 29, 30, 31, 32, 33, 34, 35, 36, 37, 38, 39, 40, 41, 42, 43, 44, 45, 46, 47, 48, 49, 50, 51, 52, 53, 54, 55, 56, 57, 58, 59, 60, 61, 62, 63, 64, 65, 66, 67, 68, 69, 70, 71, 72, 73, 74, 75, 76, 77, 78, 79, 80, 81, 82, 83, 84, 85, 86, 87, 88, 89, 90, 91, 92, 93, 94, 95, 96, 97, 98, 99, 100, 101, 102, 103, 104, 105, 106, 107, 108, 109, 110, 111, 112, 113, 114, 115, 116, 117, 118, 119, 120, 121, 122, 123, 124, 125] (by decide +kernel) (by decide +kernel)
set_option maxRecDepth 20000 in
theorem gX8_treesOfLength_X8_allTrees : GoodIn wsX8_treesOfLength (wsV RX8 183 RX8 yX8_allTrees wsX8_allTrees) := goodIn_app (goodIn_of _ (by decide +kernel)) ggX8_treesOfLength_X8_allTrees
theorem dX8_treesOfLength_0 : decode cX8_treesOfLength 0 = .ok (.iload_n 1, 1) := by decide +kernel
theorem dX8_treesOfLength_1 : decode cX8_treesOfLength 1 = .ok (.bipush 10, 2) := by decide +kernel
theorem dX8_treesOfLength_3 : decode cX8_treesOfLength 3 = .ok (.invokestatic 180, 3) := by decide +kernel
theorem dX8_treesOfLength_6 : decode cX8_treesOfLength 6 = .ok (.aload_n 0, 1) := by decide +kernel
theorem dX8_treesOfLength_7 : decode cX8_treesOfLength 7 = .ok (.iload_n 1, 1) := by decide +kernel
theorem dX8_treesOfLength_8 : decode cX8_treesOfLength 8 = .ok (.invokevirtual 183, 3) := by decide +kernel
theorem dX8_treesOfLength_11 : decode cX8_treesOfLength 11 = .ok (.lreturn, 1) := by decide +kernel
set_option maxRecDepth 20000 in
theorem ggX8_wordsOfLength_X8_checkLength : GoodIn wsX8_wordsOfLength wsX8_checkLength := goodIn_ca (goodIn_r _ [7, 1, 2] (by decide +kernel) (by decide +kernel)) (goodIn_sub (fun _ h => List.mem_cons_of_mem _ (List.mem_append_right _ h)) (by decide +kernel))
set_option maxRecDepth 20000 in
theorem gX8_wordsOfLength_X8_checkLength : GoodIn wsX8_wordsOfLength (va_wsS RX8 180 yX8_checkLength wsX8_checkLength) := goodIn_app (goodIn_of _ (by decide +kernel)) ggX8_wordsOfLength_X8_checkLength
set_option maxRecDepth 20000 in
theorem ggX8_wordsOfLength_X8_countWords : GoodIn wsX8_wordsOfLength wsX8_countWords := goodIn_r _ [11, 12, 3, 13, 14, 15, 16, 17, 18, 19, 20, 21, 22, 23, 24, 25, 26, 27, 28, 29, 30, 31, 32, 33, 34, 35, 36, 37, 38, 39, 40, 41, 42, 43, 44, 45, 46, 47, 48, 49, 50, 51, 52, 53, 54, 55, 56, 57, 58, 59, 60, 61, 62, 63, 64, 65, 66, 67, 68, 69, 70, 71, 72, 73, 74, 75, 76, 77, 78, 79, 80, 81, 82, 83, 84, 85, 86, 87, 88, 89, 90, 91, 92, 93, 94, 95, 96, 97, 98, 99, 100, 101, 102, 103, 104, 105, 106, 107, 108, 109, 110, 111, 112, 113, 114, 115, 116, 117, 118, 119, 120, 121, 122, 123, 124, 125, 126, 127, 128, 129, 130, 142, 143, 144, 145, 146, 147, 148, 149, 150, 151, 152, 153, 154, 155, 156, 157, 158, 159, 160, 161, 162, 163, 164, 165, 166, 167, 168, 169, 170, 171] (by decide +kernel) (by decide +kernel)
set_option maxRecDepth 20000 in
theorem gX8_wordsOfLength_X8_countWords : GoodIn wsX8_wordsOfLength (wsV RX8 189 RX8 yX8_countWords wsX8_countWords) := goodIn_app (goodIn_of _ (by decide +kernel)) ggX8_wordsOfLength_X8_countWords
set_option maxRecDepth 20000 in
theorem ggX8_wordsOfLength_X7_atLeast : GoodIn wsX8_wordsOfLength wsX7_atLeast := goodIn_r _ [133, 114, 115, 116, 98, 117, 102, 134, 135, 136, 137, 138, 139, 140, 141, 109, 110, 111, 112, 113, 168, 169, 170, 171, 159, 160, 161, 162, 163, 164, 165] (by decide +kernel) (by decide +kernel)
set_option maxRecDepth 20000 in
theorem gX8_wordsOfLength_X7_atLeast_n192 : GoodIn wsX8_wordsOfLength (wsX7_atLeast) := ggX8_wordsOfLength_X7_atLeast
set_option maxRecDepth 20000 in
theorem ggX8_wordsOfLength_X7_ofLength : GoodIn wsX8_wordsOfLength wsX7_ofLength := goodIn_r _ [117, 102, 168, 169, 170, 171, 159, 160, 161, 162, 163, 164, 165] (by decide +kernel) (by decide +kernel)
set_option maxRecDepth 20000 in
theorem gX8_wordsOfLength_X7_ofLength_n195 : GoodIn wsX8_wordsOfLength (wsX7_ofLength) := ggX8_wordsOfLength_X7_ofLength
theorem dX8_wordsOfLength_0 : decode cX8_wordsOfLength 0 = .ok (.iload_n 1, 1) := by decide +kernel
theorem dX8_wordsOfLength_1 : decode cX8_wordsOfLength 1 = .ok (.bipush 6, 2) := by decide +kernel
theorem dX8_wordsOfLength_3 : decode cX8_wordsOfLength 3 = .ok (.invokestatic 180, 3) := by decide +kernel
theorem dX8_wordsOfLength_6 : decode cX8_wordsOfLength 6 = .ok (.iload_n 2, 1) := by decide +kernel
theorem dX8_wordsOfLength_7 : decode cX8_wordsOfLength 7 = .ok (.ifCond .lt 8, 3) := by decide +kernel
theorem dX8_wordsOfLength_10 : decode cX8_wordsOfLength 10 = .ok (.iload_n 2, 1) := by decide +kernel
theorem dX8_wordsOfLength_11 : decode cX8_wordsOfLength 11 = .ok (.iconst 3, 1) := by decide +kernel
theorem dX8_wordsOfLength_12 : decode cX8_wordsOfLength 12 = .ok (.if_icmp .le 13, 3) := by decide +kernel
theorem dX8_wordsOfLength_15 : decode cX8_wordsOfLength 15 = .ok (.new 74, 3) := by decide +kernel
theorem dX8_wordsOfLength_18 : decode cX8_wordsOfLength 18 = .ok (.dup, 1) := by decide +kernel
theorem dX8_wordsOfLength_19 : decode cX8_wordsOfLength 19 = .ok (.ldc 187, 2) := by decide +kernel
theorem dX8_wordsOfLength_21 : decode cX8_wordsOfLength 21 = .ok (.invokespecial 78, 3) := by decide +kernel
theorem dX8_wordsOfLength_24 : decode cX8_wordsOfLength 24 = .ok (.athrow, 1) := by decide +kernel
theorem dX8_wordsOfLength_25 : decode cX8_wordsOfLength 25 = .ok (.aload_n 0, 1) := by decide +kernel
theorem dX8_wordsOfLength_26 : decode cX8_wordsOfLength 26 = .ok (.iload_n 1, 1) := by decide +kernel
theorem dX8_wordsOfLength_27 : decode cX8_wordsOfLength 27 = .ok (.invokevirtual 189, 3) := by decide +kernel
theorem dX8_wordsOfLength_30 : decode cX8_wordsOfLength 30 = .ok (.aload_n 0, 1) := by decide +kernel
theorem dX8_wordsOfLength_31 : decode cX8_wordsOfLength 31 = .ok (.getfield 52, 3) := by decide +kernel
theorem dX8_wordsOfLength_34 : decode cX8_wordsOfLength 34 = .ok (.iconst 1, 1) := by decide +kernel
theorem dX8_wordsOfLength_35 : decode cX8_wordsOfLength 35 = .ok (.iload_n 1, 1) := by decide +kernel
theorem dX8_wordsOfLength_36 : decode cX8_wordsOfLength 36 = .ok (.invokevirtual 192, 3) := by decide +kernel
theorem dX8_wordsOfLength_39 : decode cX8_wordsOfLength 39 = .ok (.istore_n 3, 1) := by decide +kernel
theorem dX8_wordsOfLength_40 : decode cX8_wordsOfLength 40 = .ok (.aload_n 0, 1) := by decide +kernel
theorem dX8_wordsOfLength_41 : decode cX8_wordsOfLength 41 = .ok (.getfield 52, 3) := by decide +kernel
theorem dX8_wordsOfLength_44 : decode cX8_wordsOfLength 44 = .ok (.iconst 2, 1) := by decide +kernel
theorem dX8_wordsOfLength_45 : decode cX8_wordsOfLength 45 = .ok (.iload_n 1, 1) := by decide +kernel
theorem dX8_wordsOfLength_46 : decode cX8_wordsOfLength 46 = .ok (.invokevirtual 192, 3) := by decide +kernel
theorem dX8_wordsOfLength_49 : decode cX8_wordsOfLength 49 = .ok (.istore 4, 2) := by decide +kernel
theorem dX8_wordsOfLength_51 : decode cX8_wordsOfLength 51 = .ok (.iload_n 2, 1) := by decide +kernel
theorem dX8_wordsOfLength_52 : decode cX8_wordsOfLength 52 = .ok (.tableswitch 47 0 2 #[28, 39, 44], 28) := by decide +kernel
theorem dX8_wordsOfLength_80 : decode cX8_wordsOfLength 80 = .ok (.aload_n 0, 1) := by decide +kernel
theorem dX8_wordsOfLength_81 : decode cX8_wordsOfLength 81 = .ok (.getfield 52, 3) := by decide +kernel
theorem dX8_wordsOfLength_84 : decode cX8_wordsOfLength 84 = .ok (.iload_n 1, 1) := by decide +kernel
theorem dX8_wordsOfLength_85 : decode cX8_wordsOfLength 85 = .ok (.invokevirtual 195, 3) := by decide +kernel
theorem dX8_wordsOfLength_88 : decode cX8_wordsOfLength 88 = .ok (.iload_n 3, 1) := by decide +kernel
theorem dX8_wordsOfLength_89 : decode cX8_wordsOfLength 89 = .ok (.isub, 1) := by decide +kernel
theorem dX8_wordsOfLength_90 : decode cX8_wordsOfLength 90 = .ok (.ireturn, 1) := by decide +kernel
theorem dX8_wordsOfLength_91 : decode cX8_wordsOfLength 91 = .ok (.iload_n 3, 1) := by decide +kernel
theorem dX8_wordsOfLength_92 : decode cX8_wordsOfLength 92 = .ok (.iload 4, 2) := by decide +kernel
theorem dX8_wordsOfLength_94 : decode cX8_wordsOfLength 94 = .ok (.isub, 1) := by decide +kernel
theorem dX8_wordsOfLength_95 : decode cX8_wordsOfLength 95 = .ok (.ireturn, 1) := by decide +kernel
theorem dX8_wordsOfLength_96 : decode cX8_wordsOfLength 96 = .ok (.iload 4, 2) := by decide +kernel
theorem dX8_wordsOfLength_98 : decode cX8_wordsOfLength 98 = .ok (.ireturn, 1) := by decide +kernel
theorem dX8_wordsOfLength_99 : decode cX8_wordsOfLength 99 = .ok (.iload_n 3, 1) := by decide +kernel
theorem dX8_wordsOfLength_100 : decode cX8_wordsOfLength 100 = .ok (.ireturn, 1) := by decide +kernel
set_option maxRecDepth 20000 in
theorem ggX8_unambiguousShare_X8_checkLength : GoodIn wsX8_unambiguousShare wsX8_checkLength := goodIn_ca (goodIn_r _ [5, 6, 7] (by decide +kernel) (by decide +kernel)) (goodIn_sub (fun _ h => List.mem_cons_of_mem _ (List.mem_append_right _ h)) (by decide +kernel))
set_option maxRecDepth 20000 in
theorem gX8_unambiguousShare_X8_checkLength : GoodIn wsX8_unambiguousShare (va_wsS RX8 180 yX8_checkLength wsX8_checkLength) := goodIn_app (goodIn_of _ (by decide +kernel)) ggX8_unambiguousShare_X8_checkLength
set_option maxRecDepth 20000 in
theorem ggX8_unambiguousShare_X8_countWords : GoodIn wsX8_unambiguousShare wsX8_countWords := goodIn_r _ [11, 12, 1, 13, 14, 15, 16, 17, 18, 19, 20, 21, 22, 23, 24, 25, 26, 27, 28, 29, 30, 31, 32, 33, 34, 35, 36, 37, 38, 39, 40, 41, 42, 43, 44, 45, 46, 47, 48, 49, 50, 51, 52, 53, 54, 55, 56, 57, 58, 59, 60, 61, 62, 63, 64, 65, 66, 67, 68, 69, 70, 71, 72, 73, 74, 75, 76, 77, 78, 79, 80, 81, 82, 83, 84, 85, 86, 87, 88, 89, 90, 91, 92, 93, 94, 95, 96, 97, 98, 99, 100, 101, 102, 103, 104, 105, 106, 107, 108, 109, 110, 111, 112, 113, 114, 115, 116, 117, 118, 119, 120, 121, 122, 123, 124, 125, 126, 127, 128, 129, 130, 142, 143, 144, 145, 146, 147, 148, 149, 150, 151, 152, 153, 154, 155, 156, 157, 158, 159, 160, 161, 162, 163, 164, 165, 166, 167, 168, 169, 170, 171] (by decide +kernel) (by decide +kernel)
set_option maxRecDepth 20000 in
theorem gX8_unambiguousShare_X8_countWords : GoodIn wsX8_unambiguousShare (wsV RX8 189 RX8 yX8_countWords wsX8_countWords) := goodIn_app (goodIn_of _ (by decide +kernel)) ggX8_unambiguousShare_X8_countWords
set_option maxRecDepth 20000 in
theorem ggX8_unambiguousShare_X7_atLeast : GoodIn wsX8_unambiguousShare wsX7_atLeast := goodIn_r _ [133, 114, 115, 116, 98, 117, 102, 134, 135, 136, 137, 138, 139, 140, 141, 109, 110, 111, 112, 113, 168, 169, 170, 171, 159, 160, 161, 162, 163, 164, 165] (by decide +kernel) (by decide +kernel)
set_option maxRecDepth 20000 in
theorem gX8_unambiguousShare_X7_atLeast_n192 : GoodIn wsX8_unambiguousShare (wsX7_atLeast) := ggX8_unambiguousShare_X7_atLeast
theorem dX8_unambiguousShare_0 : decode cX8_unambiguousShare 0 = .ok (.iload_n 1, 1) := by decide +kernel
theorem dX8_unambiguousShare_1 : decode cX8_unambiguousShare 1 = .ok (.bipush 6, 2) := by decide +kernel
theorem dX8_unambiguousShare_3 : decode cX8_unambiguousShare 3 = .ok (.invokestatic 180, 3) := by decide +kernel
theorem dX8_unambiguousShare_6 : decode cX8_unambiguousShare 6 = .ok (.aload_n 0, 1) := by decide +kernel
theorem dX8_unambiguousShare_7 : decode cX8_unambiguousShare 7 = .ok (.iload_n 1, 1) := by decide +kernel
theorem dX8_unambiguousShare_8 : decode cX8_unambiguousShare 8 = .ok (.invokevirtual 189, 3) := by decide +kernel
theorem dX8_unambiguousShare_11 : decode cX8_unambiguousShare 11 = .ok (.aload_n 0, 1) := by decide +kernel
theorem dX8_unambiguousShare_12 : decode cX8_unambiguousShare 12 = .ok (.getfield 52, 3) := by decide +kernel
theorem dX8_unambiguousShare_15 : decode cX8_unambiguousShare 15 = .ok (.iconst 1, 1) := by decide +kernel
theorem dX8_unambiguousShare_16 : decode cX8_unambiguousShare 16 = .ok (.iload_n 1, 1) := by decide +kernel
theorem dX8_unambiguousShare_17 : decode cX8_unambiguousShare 17 = .ok (.invokevirtual 192, 3) := by decide +kernel
theorem dX8_unambiguousShare_20 : decode cX8_unambiguousShare 20 = .ok (.istore_n 2, 1) := by decide +kernel
theorem dX8_unambiguousShare_21 : decode cX8_unambiguousShare 21 = .ok (.iload_n 2, 1) := by decide +kernel
theorem dX8_unambiguousShare_22 : decode cX8_unambiguousShare 22 = .ok (.iconst 1, 1) := by decide +kernel
theorem dX8_unambiguousShare_23 : decode cX8_unambiguousShare 23 = .ok (.if_icmp .ge 5, 3) := by decide +kernel
theorem dX8_unambiguousShare_26 : decode cX8_unambiguousShare 26 = .ok (.dconst 1, 1) := by decide +kernel
theorem dX8_unambiguousShare_27 : decode cX8_unambiguousShare 27 = .ok (.dreturn, 1) := by decide +kernel
theorem dX8_unambiguousShare_28 : decode cX8_unambiguousShare 28 = .ok (.iload_n 2, 1) := by decide +kernel
theorem dX8_unambiguousShare_29 : decode cX8_unambiguousShare 29 = .ok (.aload_n 0, 1) := by decide +kernel
theorem dX8_unambiguousShare_30 : decode cX8_unambiguousShare 30 = .ok (.getfield 52, 3) := by decide +kernel
theorem dX8_unambiguousShare_33 : decode cX8_unambiguousShare 33 = .ok (.iconst 2, 1) := by decide +kernel
theorem dX8_unambiguousShare_34 : decode cX8_unambiguousShare 34 = .ok (.iload_n 1, 1) := by decide +kernel
theorem dX8_unambiguousShare_35 : decode cX8_unambiguousShare 35 = .ok (.invokevirtual 192, 3) := by decide +kernel
theorem dX8_unambiguousShare_38 : decode cX8_unambiguousShare 38 = .ok (.isub, 1) := by decide +kernel
theorem dX8_unambiguousShare_39 : decode cX8_unambiguousShare 39 = .ok (.istore_n 3, 1) := by decide +kernel
theorem dX8_unambiguousShare_40 : decode cX8_unambiguousShare 40 = .ok (.iload_n 3, 1) := by decide +kernel
theorem dX8_unambiguousShare_41 : decode cX8_unambiguousShare 41 = .ok (.i2d, 1) := by decide +kernel
theorem dX8_unambiguousShare_42 : decode cX8_unambiguousShare 42 = .ok (.iload_n 2, 1) := by decide +kernel
theorem dX8_unambiguousShare_43 : decode cX8_unambiguousShare 43 = .ok (.i2d, 1) := by decide +kernel
theorem dX8_unambiguousShare_44 : decode cX8_unambiguousShare 44 = .ok (.ddiv, 1) := by decide +kernel
theorem dX8_unambiguousShare_45 : decode cX8_unambiguousShare 45 = .ok (.dreturn, 1) := by decide +kernel
set_option maxRecDepth 20000 in
theorem ggX8_averageTrees_X8_checkLength : GoodIn wsX8_averageTrees wsX8_checkLength := goodIn_ca (goodIn_r _ [7, 8, 9] (by decide +kernel) (by decide +kernel)) (goodIn_sub (fun _ h => List.mem_cons_of_mem _ (List.mem_append_right _ h)) (by decide +kernel))
set_option maxRecDepth 20000 in
theorem gX8_averageTrees_X8_checkLength : GoodIn wsX8_averageTrees (va_wsS RX8 180 yX8_checkLength wsX8_checkLength) := goodIn_app (goodIn_of _ (by decide +kernel)) ggX8_averageTrees_X8_checkLength
set_option maxRecDepth 20000 in
theorem ggX8_averageTrees_X8_countWords : GoodIn wsX8_averageTrees wsX8_countWords := goodIn_r _ [13, 14, 3, 15, 16, 17, 18, 19, 20, 21, 22, 23, 24, 25, 26, 27, 28, 29, 30, 31, 32, 33, 34, 35, 36, 37, 38, 39, 40, 41, 42, 43, 44, 45, 46, 47, 48, 49, 50, 51, 52, 53, 54, 55, 56, 57, 58, 59, 60, 61, 62, 63, 64, 65, 66, 67, 68, 69, 70, 71, 72, 73, 74, 75, 76, 77, 78, 79, 80, 81, 82, 83, 84, 85, 86, 87, 88, 89, 90, 91, 92, 93, 94, 95, 96, 97, 98, 99, 100, 101, 102, 103, 104, 105, 106, 107, 108, 109, 110, 111, 112, 113, 114, 115, 116, 117, 118, 119, 120, 121, 122, 123, 124, 125, 126, 127, 128, 129, 130, 131, 132, 152, 153, 154, 155, 156, 157, 158, 159, 160, 161, 162, 163, 164, 165, 166, 167, 168, 169, 170, 171, 172, 173, 174, 175, 176, 177, 178, 179, 180, 181] (by decide +kernel) (by decide +kernel)
set_option maxRecDepth 20000 in
theorem gX8_averageTrees_X8_countWords : GoodIn wsX8_averageTrees (wsV RX8 189 RX8 yX8_countWords wsX8_countWords) := goodIn_app (goodIn_of _ (by decide +kernel)) ggX8_averageTrees_X8_countWords
set_option maxRecDepth 20000 in
theorem ggX8_averageTrees_X7_atLeast : GoodIn wsX8_averageTrees wsX7_atLeast := goodIn_r _ [135, 116, 117, 118, 100, 119, 104, 136, 137, 138, 139, 140, 141, 142, 143, 111, 112, 113, 114, 115, 178, 179, 180, 181, 169, 170, 171, 172, 173, 174, 175] (by decide +kernel) (by decide +kernel)
set_option maxRecDepth 20000 in
theorem gX8_averageTrees_X7_atLeast_n192 : GoodIn wsX8_averageTrees (wsX7_atLeast) := ggX8_averageTrees_X7_atLeast
set_option maxRecDepth 20000 in
theorem ggX8_averageTrees_X8_allTrees : GoodIn wsX8_averageTrees wsX8_allTrees := goodIn_r _ [147, 14, 148, 15, 16, 17, 18, 19, 20, 21, 22, 23, 24, 25, 26, 27, 28, 29, 30, 31, 32, 33, 34, 35, 36, 37, 38, 39, 40, 41, 42, 43, 44, 45, 46, 47, 48, 49, 50, 51, 52, 53, 54, 55, 56, 57, 58, 59, 60, 61, 62, 63, 64, 65, 66, 67, 68, 69, 70, 71, 72, 73, 74, 75, 76, 77, 78, 79, 80, 81, 82, 83, 84, 85, 86, 87, 88, 89, 90, 91, 92, 93, 94, 95, 96, 97, 98, 149, 150, 151, 152, 153, 154, 155, 156, 157, 158, 159, 160, 161, 169, 170, 171, 172, 173, 174, 175, 162, 163, 164, 165, 166, 167, 168, 176, 177] (by decide +kernel) (by decide +kernel)
set_option maxRecDepth 20000 in
theorem gX8_averageTrees_X8_allTrees : GoodIn wsX8_averageTrees (wsV RX8 183 RX8 yX8_allTrees wsX8_allTrees) := goodIn_app (goodIn_of _ (by decide +kernel)) ggX8_averageTrees_X8_allTrees
theorem dX8_averageTrees_0 : decode cX8_averageTrees 0 = .ok (.iload_n 1, 1) := by decide +kernel
theorem dX8_averageTrees_1 : decode cX8_averageTrees 1 = .ok (.bipush 6, 2) := by decide +kernel
theorem dX8_averageTrees_3 : decode cX8_averageTrees 3 = .ok (.invokestatic 180, 3) := by decide +kernel
theorem dX8_averageTrees_6 : decode cX8_averageTrees 6 = .ok (.aload_n 0, 1) := by decide +kernel
theorem dX8_averageTrees_7 : decode cX8_averageTrees 7 = .ok (.iload_n 1, 1) := by decide +kernel
theorem dX8_averageTrees_8 : decode cX8_averageTrees 8 = .ok (.invokevirtual 189, 3) := by decide +kernel
theorem dX8_averageTrees_11 : decode cX8_averageTrees 11 = .ok (.aload_n 0, 1) := by decide +kernel
theorem dX8_averageTrees_12 : decode cX8_averageTrees 12 = .ok (.getfield 52, 3) := by decide +kernel
theorem dX8_averageTrees_15 : decode cX8_averageTrees 15 = .ok (.iconst 1, 1) := by decide +kernel
theorem dX8_averageTrees_16 : decode cX8_averageTrees 16 = .ok (.iload_n 1, 1) := by decide +kernel
theorem dX8_averageTrees_17 : decode cX8_averageTrees 17 = .ok (.invokevirtual 192, 3) := by decide +kernel
theorem dX8_averageTrees_20 : decode cX8_averageTrees 20 = .ok (.istore_n 2, 1) := by decide +kernel
theorem dX8_averageTrees_21 : decode cX8_averageTrees 21 = .ok (.iload_n 2, 1) := by decide +kernel
theorem dX8_averageTrees_22 : decode cX8_averageTrees 22 = .ok (.iconst 1, 1) := by decide +kernel
theorem dX8_averageTrees_23 : decode cX8_averageTrees 23 = .ok (.if_icmp .ge 13, 3) := by decide +kernel
theorem dX8_averageTrees_26 : decode cX8_averageTrees 26 = .ok (.new 198, 3) := by decide +kernel
theorem dX8_averageTrees_29 : decode cX8_averageTrees 29 = .ok (.dup, 1) := by decide +kernel
theorem dX8_averageTrees_30 : decode cX8_averageTrees 30 = .ok (.ldc 200, 2) := by decide +kernel
theorem dX8_averageTrees_32 : decode cX8_averageTrees 32 = .ok (.invokespecial 202, 3) := by decide +kernel
theorem dX8_averageTrees_35 : decode cX8_averageTrees 35 = .ok (.athrow, 1) := by decide +kernel
theorem dX8_averageTrees_36 : decode cX8_averageTrees 36 = .ok (.aload_n 0, 1) := by decide +kernel
theorem dX8_averageTrees_37 : decode cX8_averageTrees 37 = .ok (.iload_n 1, 1) := by decide +kernel
theorem dX8_averageTrees_38 : decode cX8_averageTrees 38 = .ok (.invokevirtual 183, 3) := by decide +kernel
theorem dX8_averageTrees_41 : decode cX8_averageTrees 41 = .ok (.l2d, 1) := by decide +kernel
theorem dX8_averageTrees_42 : decode cX8_averageTrees 42 = .ok (.iload_n 2, 1) := by decide +kernel
theorem dX8_averageTrees_43 : decode cX8_averageTrees 43 = .ok (.i2d, 1) := by decide +kernel
theorem dX8_averageTrees_44 : decode cX8_averageTrees 44 = .ok (.ddiv, 1) := by decide +kernel
theorem dX8_averageTrees_45 : decode cX8_averageTrees 45 = .ok (.dreturn, 1) := by decide +kernel
set_option maxRecDepth 20000 in
theorem ggX8_firstAmbiguous_X8_checkLength : GoodIn wsX8_firstAmbiguous wsX8_checkLength := goodIn_ca (goodIn_r _ [7, 8, 9] (by decide +kernel) (by decide +kernel)) (goodIn_sub (fun _ h => List.mem_cons_of_mem _ (List.mem_append_right _ h)) (by decide +kernel))
set_option maxRecDepth 20000 in
theorem gX8_firstAmbiguous_X8_checkLength : GoodIn wsX8_firstAmbiguous (va_wsS RX8 180 yX8_checkLength wsX8_checkLength) := goodIn_app (goodIn_of _ (by decide +kernel)) ggX8_firstAmbiguous_X8_checkLength
set_option maxRecDepth 20000 in
theorem ggX8_firstAmbiguous_X8_countWords : GoodIn wsX8_firstAmbiguous wsX8_countWords := goodIn_r _ [13, 14, 3, 15, 16, 17, 18, 19, 20, 21, 22, 23, 24, 25, 26, 27, 28, 29, 30, 31, 32, 33, 34, 35, 36, 37, 38, 39, 40, 41, 42, 43, 44, 45, 46, 47, 48, 49, 50, 51, 52, 53, 54, 55, 56, 57, 58, 59, 60, 61, 62, 63, 64, 65, 66, 67, 68, 69, 70, 71, 72, 73, 74, 75, 76, 77, 78, 79, 80, 81, 82, 83, 84, 85, 86, 87, 88, 89, 90, 91, 92, 93, 94, 95, 96, 97, 98, 99, 100, 101, 102, 103, 104, 105, 106, 107, 108, 109, 110, 111, 112, 113, 114, 115, 116, 117, 118, 119, 120, 121, 122, 123, 124, 125, 126, 127, 128, 129, 130, 131, 132, 158, 159, 160, 161, 162, 163, 164, 165, 166, 167, 168, 169, 170, 171, 172, 173, 174, 175, 176, 177, 178, 179, 180, 181, 182, 183, 184, 185, 186, 187] (by decide +kernel) (by decide +kernel)
set_option maxRecDepth 20000 in
theorem gX8_firstAmbiguous_X8_countWords : GoodIn wsX8_firstAmbiguous (wsV RX8 189 RX8 yX8_countWords wsX8_countWords) := goodIn_app (goodIn_of _ (by decide +kernel)) ggX8_firstAmbiguous_X8_countWords
set_option maxRecDepth 20000 in
theorem ggX8_firstAmbiguous_X7_find : GoodIn wsX8_firstAmbiguous wsX7_find := goodIn_r _ [135, 116, 117, 118, 100, 119, 104, 136, 137, 138, 139, 111, 112, 113, 114, 115, 184, 185, 186, 187, 175, 176, 177, 178, 179, 180, 181] (by decide +kernel) (by decide +kernel)
set_option maxRecDepth 20000 in
theorem gX8_firstAmbiguous_X7_find_n203 : GoodIn wsX8_firstAmbiguous (wsX7_find) := ggX8_firstAmbiguous_X7_find
set_option maxRecDepth 20000 in
theorem ggX8_firstAmbiguous_X8_setWord : GoodIn wsX8_firstAmbiguous wsX8_setWord := goodIn_r _ [143, 144, 145, 146, 147, 148, 149, 150, 151, 24, 25, 26, 152, 153, 154, 155, 156, 157, 158, 159, 160, 161, 162, 163, 164, 165, 166, 167, 175, 176, 177, 178, 179, 180, 181, 188, 189, 190, 191, 192, 193, 194, 195, 196, 197, 198, 182, 183] (by decide +kernel) (by decide +kernel)
set_option maxRecDepth 20000 in
theorem gX8_firstAmbiguous_X8_setWord : GoodIn wsX8_firstAmbiguous (wsV RX8 207 RX8 yX8_setWord wsX8_setWord) := goodIn_app (goodIn_of _ (by decide +kernel)) ggX8_firstAmbiguous_X8_setWord
theorem dX8_firstAmbiguous_0 : decode cX8_firstAmbiguous 0 = .ok (.iload_n 1, 1) := by decide +kernel
theorem dX8_firstAmbiguous_1 : decode cX8_firstAmbiguous 1 = .ok (.bipush 6, 2) := by decide +kernel
theorem dX8_firstAmbiguous_3 : decode cX8_firstAmbiguous 3 = .ok (.invokestatic 180, 3) := by decide +kernel
theorem dX8_firstAmbiguous_6 : decode cX8_firstAmbiguous 6 = .ok (.iconst 1, 1) := by decide +kernel
theorem dX8_firstAmbiguous_7 : decode cX8_firstAmbiguous 7 = .ok (.istore_n 2, 1) := by decide +kernel
theorem dX8_firstAmbiguous_8 : decode cX8_firstAmbiguous 8 = .ok (.iload_n 2, 1) := by decide +kernel
theorem dX8_firstAmbiguous_9 : decode cX8_firstAmbiguous 9 = .ok (.iload_n 1, 1) := by decide +kernel
theorem dX8_firstAmbiguous_10 : decode cX8_firstAmbiguous 10 = .ok (.if_icmp .gt 37, 3) := by decide +kernel
theorem dX8_firstAmbiguous_13 : decode cX8_firstAmbiguous 13 = .ok (.aload_n 0, 1) := by decide +kernel
theorem dX8_firstAmbiguous_14 : decode cX8_firstAmbiguous 14 = .ok (.iload_n 2, 1) := by decide +kernel
theorem dX8_firstAmbiguous_15 : decode cX8_firstAmbiguous 15 = .ok (.invokevirtual 189, 3) := by decide +kernel
theorem dX8_firstAmbiguous_18 : decode cX8_firstAmbiguous 18 = .ok (.aload_n 0, 1) := by decide +kernel
theorem dX8_firstAmbiguous_19 : decode cX8_firstAmbiguous 19 = .ok (.getfield 52, 3) := by decide +kernel
theorem dX8_firstAmbiguous_22 : decode cX8_firstAmbiguous 22 = .ok (.iconst 2, 1) := by decide +kernel
theorem dX8_firstAmbiguous_23 : decode cX8_firstAmbiguous 23 = .ok (.iload_n 2, 1) := by decide +kernel
theorem dX8_firstAmbiguous_24 : decode cX8_firstAmbiguous 24 = .ok (.iconst 0, 1) := by decide +kernel
theorem dX8_firstAmbiguous_25 : decode cX8_firstAmbiguous 25 = .ok (.invokevirtual 203, 3) := by decide +kernel
theorem dX8_firstAmbiguous_28 : decode cX8_firstAmbiguous 28 = .ok (.istore_n 3, 1) := by decide +kernel
theorem dX8_firstAmbiguous_29 : decode cX8_firstAmbiguous 29 = .ok (.iload_n 3, 1) := by decide +kernel
theorem dX8_firstAmbiguous_30 : decode cX8_firstAmbiguous 30 = .ok (.ifCond .lt 11, 3) := by decide +kernel
theorem dX8_firstAmbiguous_33 : decode cX8_firstAmbiguous 33 = .ok (.aload_n 0, 1) := by decide +kernel
theorem dX8_firstAmbiguous_34 : decode cX8_firstAmbiguous 34 = .ok (.iload_n 2, 1) := by decide +kernel
theorem dX8_firstAmbiguous_35 : decode cX8_firstAmbiguous 35 = .ok (.iload_n 3, 1) := by decide +kernel
theorem dX8_firstAmbiguous_36 : decode cX8_firstAmbiguous 36 = .ok (.invokevirtual 207, 3) := by decide +kernel
theorem dX8_firstAmbiguous_39 : decode cX8_firstAmbiguous 39 = .ok (.iload_n 2, 1) := by decide +kernel
theorem dX8_firstAmbiguous_40 : decode cX8_firstAmbiguous 40 = .ok (.ireturn, 1) := by decide +kernel
theorem dX8_firstAmbiguous_41 : decode cX8_firstAmbiguous 41 = .ok (.iinc 2 1, 3) := by decide +kernel
theorem dX8_firstAmbiguous_44 : decode cX8_firstAmbiguous 44 = .ok (.goto (-36), 3) := by decide +kernel
theorem dX8_firstAmbiguous_47 : decode cX8_firstAmbiguous 47 = .ok (.new 198, 3) := by decide +kernel
theorem dX8_firstAmbiguous_50 : decode cX8_firstAmbiguous 50 = .ok (.dup, 1) := by decide +kernel
theorem dX8_firstAmbiguous_51 : decode cX8_firstAmbiguous 51 = .ok (.ldc 210, 2) := by decide +kernel
theorem dX8_firstAmbiguous_53 : decode cX8_firstAmbiguous 53 = .ok (.invokespecial 202, 3) := by decide +kernel
theorem dX8_firstAmbiguous_56 : decode cX8_firstAmbiguous 56 = .ok (.athrow, 1) := by decide +kernel
set_option maxRecDepth 20000 in
theorem ggX8_wordRank_X8_countWords : GoodIn wsX8_wordRank wsX8_countWords := goodIn_r _ [12, 13, 7, 14, 15, 16, 17, 18, 19, 20, 21, 22, 23, 24, 25, 26, 27, 28, 29, 30, 31, 32, 33, 34, 35, 36, 37, 38, 39, 40, 41, 42, 43, 44, 45, 46, 47, 48, 49, 50, 51, 52, 53, 54, 55, 56, 57, 58, 59, 60, 61, 62, 63, 64, 65, 66, 67, 68, 69, 70, 71, 72, 73, 74, 75, 76, 77, 78, 79, 80, 81, 82, 83, 84, 85, 86, 87, 88, 89, 90, 91, 92, 93, 94, 95, 96, 97, 98, 99, 100, 101, 102, 103, 104, 105, 106, 107, 108, 109, 110, 111, 112, 113, 114, 115, 116, 117, 118, 119, 120, 121, 122, 123, 124, 125, 126, 127, 128, 129, 130, 131, 149, 150, 151, 152, 153, 154, 155, 156, 157, 158, 168, 169, 170, 171, 172, 173, 174, 161, 162, 163, 164, 165, 166, 167, 159, 160, 175, 176, 177, 178] (by decide +kernel) (by decide +kernel)
set_option maxRecDepth 20000 in
theorem gX8_wordRank_X8_countWords : GoodIn wsX8_wordRank (wsV RX8 189 RX8 yX8_countWords wsX8_countWords) := goodIn_app (goodIn_of _ (by decide +kernel)) ggX8_wordRank_X8_countWords
set_option maxRecDepth 20000 in
theorem ggX8_wordRank_X6_key : GoodIn wsX8_wordRank wsX6_key := goodIn_r _ [135, 136, 137, 138, 139, 133, 140, 141, 159, 160] (by decide +kernel) (by decide +kernel)
set_option maxRecDepth 20000 in
theorem gX8_wordRank_X6_key_n217 : GoodIn wsX8_wordRank (wsX6_key) := ggX8_wordRank_X6_key
set_option maxRecDepth 20000 in
theorem ggX8_wordRank_X7_count : GoodIn wsX8_wordRank wsX7_count := goodIn_r _ [144, 103, 110, 111, 112, 113, 99, 114, 175, 176, 177, 178, 161, 162, 163, 164, 165, 166, 167] (by decide +kernel) (by decide +kernel)
set_option maxRecDepth 20000 in
theorem gX8_wordRank_X7_count_n220 : GoodIn wsX8_wordRank (wsX7_count) := ggX8_wordRank_X7_count
set_option maxRecDepth 20000 in
theorem ggX8_wordRank_X7_atLeastBefore : GoodIn wsX8_wordRank wsX7_atLeastBefore := goodIn_r _ [147, 148, 142, 143, 99, 144, 103, 110, 111, 112, 113, 114, 175, 176, 177, 178, 161, 162, 163, 164, 165, 166, 167] (by decide +kernel) (by decide +kernel)
set_option maxRecDepth 20000 in
theorem gX8_wordRank_X7_atLeastBefore_n225 : GoodIn wsX8_wordRank (wsX7_atLeastBefore) := ggX8_wordRank_X7_atLeastBefore
theorem dX8_wordRank_0 : decode cX8_wordRank 0 = .ok (.aload_n 0, 1) := by decide +kernel
theorem dX8_wordRank_1 : decode cX8_wordRank 1 = .ok (.getfield 19, 3) := by decide +kernel
theorem dX8_wordRank_4 : decode cX8_wordRank 4 = .ok (.getfield 87, 3) := by decide +kernel
theorem dX8_wordRank_7 : decode cX8_wordRank 7 = .ok (.iconst 1, 1) := by decide +kernel
theorem dX8_wordRank_8 : decode cX8_wordRank 8 = .ok (.if_icmp .lt 15, 3) := by decide +kernel
theorem dX8_wordRank_11 : decode cX8_wordRank 11 = .ok (.aload_n 0, 1) := by decide +kernel
theorem dX8_wordRank_12 : decode cX8_wordRank 12 = .ok (.getfield 19, 3) := by decide +kernel
theorem dX8_wordRank_15 : decode cX8_wordRank 15 = .ok (.getfield 87, 3) := by decide +kernel
theorem dX8_wordRank_18 : decode cX8_wordRank 18 = .ok (.bipush 6, 2) := by decide +kernel
theorem dX8_wordRank_20 : decode cX8_wordRank 20 = .ok (.if_icmp .le 13, 3) := by decide +kernel
theorem dX8_wordRank_23 : decode cX8_wordRank 23 = .ok (.new 113, 3) := by decide +kernel
theorem dX8_wordRank_26 : decode cX8_wordRank 26 = .ok (.dup, 1) := by decide +kernel
theorem dX8_wordRank_27 : decode cX8_wordRank 27 = .ok (.ldc 212, 2) := by decide +kernel
theorem dX8_wordRank_29 : decode cX8_wordRank 29 = .ok (.invokespecial 117, 3) := by decide +kernel
theorem dX8_wordRank_32 : decode cX8_wordRank 32 = .ok (.athrow, 1) := by decide +kernel
theorem dX8_wordRank_33 : decode cX8_wordRank 33 = .ok (.aload_n 0, 1) := by decide +kernel
theorem dX8_wordRank_34 : decode cX8_wordRank 34 = .ok (.aload_n 0, 1) := by decide +kernel
theorem dX8_wordRank_35 : decode cX8_wordRank 35 = .ok (.getfield 19, 3) := by decide +kernel
theorem dX8_wordRank_38 : decode cX8_wordRank 38 = .ok (.getfield 87, 3) := by decide +kernel
theorem dX8_wordRank_41 : decode cX8_wordRank 41 = .ok (.invokevirtual 189, 3) := by decide +kernel
theorem dX8_wordRank_44 : decode cX8_wordRank 44 = .ok (.aload_n 0, 1) := by decide +kernel
theorem dX8_wordRank_45 : decode cX8_wordRank 45 = .ok (.getfield 19, 3) := by decide +kernel
theorem dX8_wordRank_48 : decode cX8_wordRank 48 = .ok (.aload_n 0, 1) := by decide +kernel
theorem dX8_wordRank_49 : decode cX8_wordRank 49 = .ok (.getfield 12, 3) := by decide +kernel
theorem dX8_wordRank_52 : decode cX8_wordRank 52 = .ok (.getfield 214, 3) := by decide +kernel
theorem dX8_wordRank_55 : decode cX8_wordRank 55 = .ok (.invokevirtual 217, 3) := by decide +kernel
theorem dX8_wordRank_58 : decode cX8_wordRank 58 = .ok (.istore_n 1, 1) := by decide +kernel
theorem dX8_wordRank_59 : decode cX8_wordRank 59 = .ok (.aload_n 0, 1) := by decide +kernel
theorem dX8_wordRank_60 : decode cX8_wordRank 60 = .ok (.getfield 52, 3) := by decide +kernel
theorem dX8_wordRank_63 : decode cX8_wordRank 63 = .ok (.aload_n 0, 1) := by decide +kernel
theorem dX8_wordRank_64 : decode cX8_wordRank 64 = .ok (.getfield 19, 3) := by decide +kernel
theorem dX8_wordRank_67 : decode cX8_wordRank 67 = .ok (.getfield 87, 3) := by decide +kernel
theorem dX8_wordRank_70 : decode cX8_wordRank 70 = .ok (.iload_n 1, 1) := by decide +kernel
theorem dX8_wordRank_71 : decode cX8_wordRank 71 = .ok (.invokevirtual 220, 3) := by decide +kernel
theorem dX8_wordRank_74 : decode cX8_wordRank 74 = .ok (.lconst 1, 1) := by decide +kernel
theorem dX8_wordRank_75 : decode cX8_wordRank 75 = .ok (.lcmp, 1) := by decide +kernel
theorem dX8_wordRank_76 : decode cX8_wordRank 76 = .ok (.ifCond .ge 13, 3) := by decide +kernel
theorem dX8_wordRank_79 : decode cX8_wordRank 79 = .ok (.new 198, 3) := by decide +kernel
theorem dX8_wordRank_82 : decode cX8_wordRank 82 = .ok (.dup, 1) := by decide +kernel
theorem dX8_wordRank_83 : decode cX8_wordRank 83 = .ok (.ldc 223, 2) := by decide +kernel
theorem dX8_wordRank_85 : decode cX8_wordRank 85 = .ok (.invokespecial 202, 3) := by decide +kernel
theorem dX8_wordRank_88 : decode cX8_wordRank 88 = .ok (.athrow, 1) := by decide +kernel
theorem dX8_wordRank_89 : decode cX8_wordRank 89 = .ok (.aload_n 0, 1) := by decide +kernel
theorem dX8_wordRank_90 : decode cX8_wordRank 90 = .ok (.getfield 52, 3) := by decide +kernel
theorem dX8_wordRank_93 : decode cX8_wordRank 93 = .ok (.iload_n 1, 1) := by decide +kernel
theorem dX8_wordRank_94 : decode cX8_wordRank 94 = .ok (.iconst 1, 1) := by decide +kernel
theorem dX8_wordRank_95 : decode cX8_wordRank 95 = .ok (.aload_n 0, 1) := by decide +kernel
theorem dX8_wordRank_96 : decode cX8_wordRank 96 = .ok (.getfield 19, 3) := by decide +kernel
theorem dX8_wordRank_99 : decode cX8_wordRank 99 = .ok (.getfield 87, 3) := by decide +kernel
theorem dX8_wordRank_102 : decode cX8_wordRank 102 = .ok (.invokevirtual 225, 3) := by decide +kernel
theorem dX8_wordRank_105 : decode cX8_wordRank 105 = .ok (.ireturn, 1) := by decide +kernel
set_option maxRecDepth 20000 in
theorem ggX8_takeWord_X8_checkLength : GoodIn wsX8_takeWord wsX8_checkLength := goodIn_ca (goodIn_r _ [9, 1, 2] (by decide +kernel) (by decide +kernel)) (goodIn_sub (fun _ h => List.mem_cons_of_mem _ (List.mem_append_left _ (List.mem_append_right _ h))) (by decide +kernel))
set_option maxRecDepth 20000 in
theorem gX8_takeWord_X8_checkLength : GoodIn wsX8_takeWord (va_wsS RX8 180 yX8_checkLength wsX8_checkLength) := goodIn_app (goodIn_of _ (by decide +kernel)) ggX8_takeWord_X8_checkLength
set_option maxRecDepth 20000 in
theorem ggX8_takeWord_X8_countWords : GoodIn wsX8_takeWord wsX8_countWords := goodIn_r _ [13, 14, 5, 15, 16, 17, 18, 19, 20, 21, 22, 23, 24, 25, 26, 27, 28, 29, 30, 31, 32, 33, 34, 35, 36, 37, 38, 39, 40, 41, 42, 43, 44, 45, 46, 47, 48, 49, 50, 51, 52, 53, 54, 55, 56, 57, 58, 59, 60, 61, 62, 63, 64, 65, 66, 67, 68, 69, 70, 71, 72, 73, 74, 75, 76, 77, 78, 79, 80, 81, 82, 83, 84, 85, 86, 87, 88, 89, 90, 91, 92, 93, 94, 95, 96, 97, 98, 99, 100, 101, 102, 103, 104, 105, 106, 107, 108, 109, 110, 111, 112, 113, 114, 115, 116, 117, 118, 119, 120, 121, 122, 123, 124, 125, 126, 127, 128, 129, 130, 131, 132, 158, 159, 160, 161, 162, 163, 164, 165, 166, 167, 168, 169, 170, 171, 172, 173, 174, 175, 176, 177, 178, 179, 180, 181, 182, 183, 184, 185, 186, 187] (by decide +kernel) (by decide +kernel)
set_option maxRecDepth 20000 in
theorem gX8_takeWord_X8_countWords : GoodIn wsX8_takeWord (wsV RX8 189 RX8 yX8_countWords wsX8_countWords) := goodIn_app (goodIn_of _ (by decide +kernel)) ggX8_takeWord_X8_countWords
set_option maxRecDepth 20000 in
theorem ggX8_takeWord_X7_find : GoodIn wsX8_takeWord wsX7_find := goodIn_r _ [135, 116, 117, 118, 100, 119, 104, 136, 137, 138, 139, 111, 112, 113, 114, 115, 184, 185, 186, 187, 175, 176, 177, 178, 179, 180, 181] (by decide +kernel) (by decide +kernel)
set_option maxRecDepth 20000 in
theorem gX8_takeWord_X7_find_n203 : GoodIn wsX8_takeWord (wsX7_find) := ggX8_takeWord_X7_find
set_option maxRecDepth 20000 in
theorem ggX8_takeWord_X8_setWord : GoodIn wsX8_takeWord wsX8_setWord := goodIn_r _ [143, 144, 145, 146, 147, 148, 149, 150, 151, 24, 25, 26, 152, 153, 154, 155, 156, 157, 158, 159, 160, 161, 162, 163, 164, 165, 166, 167, 175, 176, 177, 178, 179, 180, 181, 188, 189, 190, 191, 192, 193, 194, 195, 196, 197, 198, 182, 183] (by decide +kernel) (by decide +kernel)
set_option maxRecDepth 20000 in
theorem gX8_takeWord_X8_setWord : GoodIn wsX8_takeWord (wsV RX8 207 RX8 yX8_setWord wsX8_setWord) := goodIn_app (goodIn_of _ (by decide +kernel)) ggX8_takeWord_X8_setWord
theorem dX8_takeWord_0 : decode cX8_takeWord 0 = .ok (.iload_n 1, 1) := by decide +kernel
theorem dX8_takeWord_1 : decode cX8_takeWord 1 = .ok (.bipush 6, 2) := by decide +kernel
theorem dX8_takeWord_3 : decode cX8_takeWord 3 = .ok (.invokestatic 180, 3) := by decide +kernel
theorem dX8_takeWord_6 : decode cX8_takeWord 6 = .ok (.iload_n 2, 1) := by decide +kernel
theorem dX8_takeWord_7 : decode cX8_takeWord 7 = .ok (.ifCond .ge 13, 3) := by decide +kernel
theorem dX8_takeWord_10 : decode cX8_takeWord 10 = .ok (.new 74, 3) := by decide +kernel
theorem dX8_takeWord_13 : decode cX8_takeWord 13 = .ok (.dup, 1) := by decide +kernel
theorem dX8_takeWord_14 : decode cX8_takeWord 14 = .ok (.ldc 228, 2) := by decide +kernel
theorem dX8_takeWord_16 : decode cX8_takeWord 16 = .ok (.invokespecial 78, 3) := by decide +kernel
theorem dX8_takeWord_19 : decode cX8_takeWord 19 = .ok (.athrow, 1) := by decide +kernel
theorem dX8_takeWord_20 : decode cX8_takeWord 20 = .ok (.aload_n 0, 1) := by decide +kernel
theorem dX8_takeWord_21 : decode cX8_takeWord 21 = .ok (.iload_n 1, 1) := by decide +kernel
theorem dX8_takeWord_22 : decode cX8_takeWord 22 = .ok (.invokevirtual 189, 3) := by decide +kernel
theorem dX8_takeWord_25 : decode cX8_takeWord 25 = .ok (.aload_n 0, 1) := by decide +kernel
theorem dX8_takeWord_26 : decode cX8_takeWord 26 = .ok (.getfield 52, 3) := by decide +kernel
theorem dX8_takeWord_29 : decode cX8_takeWord 29 = .ok (.iconst 1, 1) := by decide +kernel
theorem dX8_takeWord_30 : decode cX8_takeWord 30 = .ok (.iload_n 1, 1) := by decide +kernel
theorem dX8_takeWord_31 : decode cX8_takeWord 31 = .ok (.iload_n 2, 1) := by decide +kernel
theorem dX8_takeWord_32 : decode cX8_takeWord 32 = .ok (.invokevirtual 203, 3) := by decide +kernel
theorem dX8_takeWord_35 : decode cX8_takeWord 35 = .ok (.istore_n 3, 1) := by decide +kernel
theorem dX8_takeWord_36 : decode cX8_takeWord 36 = .ok (.iload_n 3, 1) := by decide +kernel
theorem dX8_takeWord_37 : decode cX8_takeWord 37 = .ok (.ifCond .ge 13, 3) := by decide +kernel
theorem dX8_takeWord_40 : decode cX8_takeWord 40 = .ok (.new 198, 3) := by decide +kernel
theorem dX8_takeWord_43 : decode cX8_takeWord 43 = .ok (.dup, 1) := by decide +kernel
theorem dX8_takeWord_44 : decode cX8_takeWord 44 = .ok (.ldc 230, 2) := by decide +kernel
theorem dX8_takeWord_46 : decode cX8_takeWord 46 = .ok (.invokespecial 202, 3) := by decide +kernel
theorem dX8_takeWord_49 : decode cX8_takeWord 49 = .ok (.athrow, 1) := by decide +kernel
theorem dX8_takeWord_50 : decode cX8_takeWord 50 = .ok (.aload_n 0, 1) := by decide +kernel
theorem dX8_takeWord_51 : decode cX8_takeWord 51 = .ok (.iload_n 1, 1) := by decide +kernel
theorem dX8_takeWord_52 : decode cX8_takeWord 52 = .ok (.iload_n 3, 1) := by decide +kernel
theorem dX8_takeWord_53 : decode cX8_takeWord 53 = .ok (.invokevirtual 207, 3) := by decide +kernel
theorem dX8_takeWord_56 : decode cX8_takeWord 56 = .ok (.return_, 1) := by decide +kernel
set_option maxRecDepth 20000 in
theorem ggX8_drawWord_X8_checkLength : GoodIn wsX8_drawWord wsX8_checkLength := goodIn_ca (goodIn_r _ [7, 8, 9] (by decide +kernel) (by decide +kernel)) (goodIn_sub (fun _ h => List.mem_cons_of_mem _ (List.mem_append_right _ h)) (by decide +kernel))
set_option maxRecDepth 20000 in
theorem gX8_drawWord_X8_checkLength : GoodIn wsX8_drawWord (va_wsS RX8 180 yX8_checkLength wsX8_checkLength) := goodIn_app (goodIn_of _ (by decide +kernel)) ggX8_drawWord_X8_checkLength
set_option maxRecDepth 20000 in
theorem ggX8_drawWord_X8_countWords : GoodIn wsX8_drawWord wsX8_countWords := goodIn_r _ [13, 14, 3, 15, 16, 17, 18, 19, 20, 21, 22, 23, 24, 25, 26, 27, 28, 29, 30, 31, 32, 33, 34, 35, 36, 37, 38, 39, 40, 41, 42, 43, 44, 45, 46, 47, 48, 49, 50, 51, 52, 53, 54, 55, 56, 57, 58, 59, 60, 61, 62, 63, 64, 65, 66, 67, 68, 69, 70, 71, 72, 73, 74, 75, 76, 77, 78, 79, 80, 81, 82, 83, 84, 85, 86, 87, 88, 89, 90, 91, 92, 93, 94, 95, 96, 97, 98, 99, 100, 101, 102, 103, 104, 105, 106, 107, 108, 109, 110, 111, 112, 113, 114, 115, 116, 117, 118, 119, 120, 121, 122, 123, 124, 125, 126, 127, 128, 129, 130, 131, 132, 170, 171, 172, 173, 174, 175, 176, 177, 178, 179, 180, 181, 182, 183, 184, 185, 186, 187, 188, 189, 190, 191, 192, 193, 194, 195, 196, 197, 198, 199] (by decide +kernel) (by decide +kernel)
set_option maxRecDepth 20000 in
theorem gX8_drawWord_X8_countWords : GoodIn wsX8_drawWord (wsV RX8 189 RX8 yX8_countWords wsX8_countWords) := goodIn_app (goodIn_of _ (by decide +kernel)) ggX8_drawWord_X8_countWords
set_option maxRecDepth 20000 in
theorem ggX8_drawWord_X7_atLeast : GoodIn wsX8_drawWord wsX7_atLeast := goodIn_r _ [135, 116, 117, 118, 100, 119, 104, 136, 137, 138, 139, 140, 141, 142, 143, 111, 112, 113, 114, 115, 196, 197, 198, 199, 187, 188, 189, 190, 191, 192, 193] (by decide +kernel) (by decide +kernel)
set_option maxRecDepth 20000 in
theorem gX8_drawWord_X7_atLeast_n192 : GoodIn wsX8_drawWord (wsX7_atLeast) := ggX8_drawWord_X7_atLeast
set_option maxRecDepth 20000 in
theorem ggX8_drawWord_X8_draw : GoodIn wsX8_drawWord wsX8_draw := goodIn_r _ [146, 147, 148] (by decide +kernel) (by decide +kernel)
set_option maxRecDepth 20000 in
theorem gX8_drawWord_X8_draw : GoodIn wsX8_drawWord (va_wsS RX8 232 yX8_draw wsX8_draw) := goodIn_app (goodIn_of _ (by decide +kernel)) ggX8_drawWord_X8_draw
set_option maxRecDepth 20000 in
theorem ggX8_drawWord_X7_find : GoodIn wsX8_drawWord wsX7_find := goodIn_r _ [151, 116, 117, 118, 100, 119, 104, 140, 141, 142, 143, 111, 112, 113, 114, 115, 196, 197, 198, 199, 187, 188, 189, 190, 191, 192, 193] (by decide +kernel) (by decide +kernel)
set_option maxRecDepth 20000 in
theorem gX8_drawWord_X7_find_n203 : GoodIn wsX8_drawWord (wsX7_find) := ggX8_drawWord_X7_find
set_option maxRecDepth 20000 in
theorem ggX8_drawWord_X8_setWord : GoodIn wsX8_drawWord wsX8_setWord := goodIn_r _ [155, 156, 157, 158, 159, 160, 161, 162, 163, 24, 25, 26, 164, 165, 166, 167, 168, 169, 170, 171, 172, 173, 174, 175, 176, 177, 178, 179, 187, 188, 189, 190, 191, 192, 193, 200, 201, 202, 203, 204, 205, 206, 207, 208, 209, 210, 194, 195] (by decide +kernel) (by decide +kernel)
set_option maxRecDepth 20000 in
theorem gX8_drawWord_X8_setWord : GoodIn wsX8_drawWord (wsV RX8 207 RX8 yX8_setWord wsX8_setWord) := goodIn_app (goodIn_of _ (by decide +kernel)) ggX8_drawWord_X8_setWord
theorem dX8_drawWord_0 : decode cX8_drawWord 0 = .ok (.iload_n 3, 1) := by decide +kernel
theorem dX8_drawWord_1 : decode cX8_drawWord 1 = .ok (.bipush 6, 2) := by decide +kernel
theorem dX8_drawWord_3 : decode cX8_drawWord 3 = .ok (.invokestatic 180, 3) := by decide +kernel
theorem dX8_drawWord_6 : decode cX8_drawWord 6 = .ok (.aload_n 0, 1) := by decide +kernel
theorem dX8_drawWord_7 : decode cX8_drawWord 7 = .ok (.iload_n 3, 1) := by decide +kernel
theorem dX8_drawWord_8 : decode cX8_drawWord 8 = .ok (.invokevirtual 189, 3) := by decide +kernel
theorem dX8_drawWord_11 : decode cX8_drawWord 11 = .ok (.aload_n 0, 1) := by decide +kernel
theorem dX8_drawWord_12 : decode cX8_drawWord 12 = .ok (.getfield 52, 3) := by decide +kernel
theorem dX8_drawWord_15 : decode cX8_drawWord 15 = .ok (.iconst 1, 1) := by decide +kernel
theorem dX8_drawWord_16 : decode cX8_drawWord 16 = .ok (.iload_n 3, 1) := by decide +kernel
theorem dX8_drawWord_17 : decode cX8_drawWord 17 = .ok (.invokevirtual 192, 3) := by decide +kernel
theorem dX8_drawWord_20 : decode cX8_drawWord 20 = .ok (.istore 4, 2) := by decide +kernel
theorem dX8_drawWord_22 : decode cX8_drawWord 22 = .ok (.iload 4, 2) := by decide +kernel
theorem dX8_drawWord_24 : decode cX8_drawWord 24 = .ok (.iconst 1, 1) := by decide +kernel
theorem dX8_drawWord_25 : decode cX8_drawWord 25 = .ok (.if_icmp .ge 13, 3) := by decide +kernel
theorem dX8_drawWord_28 : decode cX8_drawWord 28 = .ok (.new 198, 3) := by decide +kernel
theorem dX8_drawWord_31 : decode cX8_drawWord 31 = .ok (.dup, 1) := by decide +kernel
theorem dX8_drawWord_32 : decode cX8_drawWord 32 = .ok (.ldc 200, 2) := by decide +kernel
theorem dX8_drawWord_34 : decode cX8_drawWord 34 = .ok (.invokespecial 202, 3) := by decide +kernel
theorem dX8_drawWord_37 : decode cX8_drawWord 37 = .ok (.athrow, 1) := by decide +kernel
theorem dX8_drawWord_38 : decode cX8_drawWord 38 = .ok (.lload_n 1, 1) := by decide +kernel
theorem dX8_drawWord_39 : decode cX8_drawWord 39 = .ok (.iload 4, 2) := by decide +kernel
theorem dX8_drawWord_41 : decode cX8_drawWord 41 = .ok (.i2l, 1) := by decide +kernel
theorem dX8_drawWord_42 : decode cX8_drawWord 42 = .ok (.invokestatic 232, 3) := by decide +kernel
theorem dX8_drawWord_45 : decode cX8_drawWord 45 = .ok (.l2i, 1) := by decide +kernel
theorem dX8_drawWord_46 : decode cX8_drawWord 46 = .ok (.istore 5, 2) := by decide +kernel
theorem dX8_drawWord_48 : decode cX8_drawWord 48 = .ok (.aload_n 0, 1) := by decide +kernel
theorem dX8_drawWord_49 : decode cX8_drawWord 49 = .ok (.iload_n 3, 1) := by decide +kernel
theorem dX8_drawWord_50 : decode cX8_drawWord 50 = .ok (.aload_n 0, 1) := by decide +kernel
theorem dX8_drawWord_51 : decode cX8_drawWord 51 = .ok (.getfield 52, 3) := by decide +kernel
theorem dX8_drawWord_54 : decode cX8_drawWord 54 = .ok (.iconst 1, 1) := by decide +kernel
theorem dX8_drawWord_55 : decode cX8_drawWord 55 = .ok (.iload_n 3, 1) := by decide +kernel
theorem dX8_drawWord_56 : decode cX8_drawWord 56 = .ok (.iload 5, 2) := by decide +kernel
theorem dX8_drawWord_58 : decode cX8_drawWord 58 = .ok (.invokevirtual 203, 3) := by decide +kernel
theorem dX8_drawWord_61 : decode cX8_drawWord 61 = .ok (.invokevirtual 207, 3) := by decide +kernel
theorem dX8_drawWord_64 : decode cX8_drawWord 64 = .ok (.iload 5, 2) := by decide +kernel
theorem dX8_drawWord_66 : decode cX8_drawWord 66 = .ok (.ireturn, 1) := by decide +kernel
set_option maxRecDepth 20000 in
theorem ggX8_drawTree_X8_checkLength : GoodIn wsX8_drawTree wsX8_checkLength := goodIn_ca (goodIn_r _ [11, 12, 13] (by decide +kernel) (by decide +kernel)) (goodIn_sub (fun _ h => List.mem_cons_of_mem _ (List.mem_append_right _ h)) (by decide +kernel))
set_option maxRecDepth 20000 in
theorem gX8_drawTree_X8_checkLength : GoodIn wsX8_drawTree (va_wsS RX8 180 yX8_checkLength wsX8_checkLength) := goodIn_app (goodIn_of _ (by decide +kernel)) ggX8_drawTree_X8_checkLength
set_option maxRecDepth 20000 in
theorem ggX8_drawTree_X8_allTrees : GoodIn wsX8_drawTree wsX8_allTrees := goodIn_r _ [17, 4, 5, 18, 19, 20, 21, 22, 23, 24, 25, 26, 27, 28, 29, 30, 31, 32, 33, 34, 35, 36, 37, 38, 39, 40, 41, 42, 43, 44, 45, 46, 47, 48, 49, 50, 51, 52, 53, 54, 55, 56, 57, 58, 59, 60, 61, 62, 63, 64, 65, 66, 67, 68, 69, 70, 71, 72, 73, 74, 75, 76, 77, 78, 79, 80, 81, 82, 83, 84, 85, 86, 87, 88, 89, 90, 91, 92, 93, 94, 95, 96, 97, 98, 99, 100, 101, 102, 103, 104, 190, 191, 192, 193, 194, 195, 196, 197, 198, 199, 211, 212, 213, 214, 215, 216, 217, 220, 221, 222, 223, 224, 225, 226, 218, 219] (by decide +kernel) (by decide +kernel)
set_option maxRecDepth 20000 in
theorem gX8_drawTree_X8_allTrees : GoodIn wsX8_drawTree (wsV RX8 183 RX8 yX8_allTrees wsX8_allTrees) := goodIn_app (goodIn_of _ (by decide +kernel)) ggX8_drawTree_X8_allTrees
set_option maxRecDepth 20000 in
theorem ggX8_drawTree_X8_draw : GoodIn wsX8_drawTree wsX8_draw := goodIn_r _ [107, 108, 109] (by decide +kernel) (by decide +kernel)
set_option maxRecDepth 20000 in
theorem gX8_drawTree_X8_draw : GoodIn wsX8_drawTree (va_wsS RX8 232 yX8_draw wsX8_draw) := goodIn_app (goodIn_of _ (by decide +kernel)) ggX8_drawTree_X8_draw
set_option maxRecDepth 20000 in
theorem ggX8_drawTree_X5_grow : GoodIn wsX8_drawTree wsX5_grow := goodIn_r _ [113, 114, 115, 116, 117, 118, 119, 120, 121, 122, 28, 123, 124, 47, 125, 126, 127, 128, 129, 130, 111, 131, 132, 42, 43, 44, 22, 45, 25, 46, 48, 49, 50, 51, 52, 53, 54, 55, 56, 57, 58, 59, 60, 34, 61, 62, 63, 38, 64, 65, 66, 67, 68, 69, 70, 71, 72, 73, 74, 75, 76, 77, 78, 40, 79, 80, 81, 82, 83, 84, 85, 86, 87, 88, 89, 90, 91, 92, 93, 94, 95, 133, 134, 135, 136, 137, 138, 139, 140, 141, 142, 110, 112, 200, 201, 202, 203, 204, 205, 206, 207, 208, 209, 210, 211, 212, 213, 214, 215, 216, 217, 220, 221, 222, 223, 224, 225, 226, 218, 219] (by decide +kernel) (by decide +kernel)
set_option maxRecDepth 20000 in
theorem gX8_drawTree_X5_grow_n241 : GoodIn wsX8_drawTree (wsX5_grow) := ggX8_drawTree_X5_grow
set_option maxRecDepth 20000 in
theorem ggX8_drawTree_X5_spell : GoodIn wsX8_drawTree wsX5_spell := goodIn_r _ [145, 114, 116, 115, 118, 119, 120, 46, 47, 48, 49, 50, 51, 146, 147, 111, 148, 149, 150, 151, 152, 153, 200, 201, 202, 203, 204, 205, 206, 207, 208, 209, 210, 211, 212, 213, 214, 215, 216, 217, 218, 219] (by decide +kernel) (by decide +kernel)
set_option maxRecDepth 20000 in
theorem gX8_drawTree_X5_spell_n245 : GoodIn wsX8_drawTree (wsX5_spell) := ggX8_drawTree_X5_spell
set_option maxRecDepth 20000 in
theorem ggX8_drawTree_X8_countSpans : GoodIn wsX8_drawTree wsX8_countSpans := goodIn_r _ [157, 7, 6, 158, 159, 160, 161, 22, 162, 24, 163, 164, 165, 21, 23, 25, 26, 27, 28, 29, 30, 31, 32, 33, 34, 35, 36, 37, 38, 39, 40, 41, 42, 43, 44, 45, 46, 47, 48, 49, 50, 51, 52, 53, 54, 55, 56, 57, 58, 59, 60, 61, 62, 63, 64, 65, 66, 67, 68, 69, 70, 71, 72, 73, 74, 75, 76, 77, 78, 79, 80, 81, 82, 83, 84, 85, 86, 87, 88, 89, 90, 91, 92, 93, 94, 95, 96, 97, 98, 99, 100, 101, 190, 191, 192, 193, 194, 195, 196, 197, 198, 199, 218, 219, 220, 221, 222, 223, 224, 225, 226, 211, 212, 213, 214, 215, 216, 217] (by decide +kernel) (by decide +kernel)
set_option maxRecDepth 20000 in
theorem gX8_drawTree_X8_countSpans : GoodIn wsX8_drawTree (wsV RX8 173 RX8 yX8_countSpans wsX8_countSpans) := goodIn_app (goodIn_of _ (by decide +kernel)) ggX8_drawTree_X8_countSpans
set_option maxRecDepth 20000 in
theorem ggX8_drawTree_X5_findNumber : GoodIn wsX8_drawTree wsX5_findNumber := goodIn_r _ [168, 114, 169, 170, 28, 171, 115, 118, 117, 116, 172, 173, 46, 47, 48, 49, 50, 51, 124, 125, 126, 127, 174, 175, 176, 68, 22, 69, 70, 71, 72, 73, 74, 34, 75, 76, 77, 38, 78, 40, 79, 80, 81, 82, 83, 84, 85, 86, 177, 178, 179, 111, 180, 119, 120, 181, 182, 183, 44, 45, 25, 52, 53, 54, 55, 56, 57, 58, 59, 60, 61, 62, 63, 64, 65, 66, 67, 87, 88, 89, 90, 91, 92, 93, 94, 184, 185, 186, 187, 188, 189, 137, 138, 200, 201, 202, 203, 204, 205, 206, 207, 208, 209, 210, 211, 212, 213, 214, 215, 216, 217, 220, 221, 222, 223, 224, 225, 226, 218, 219] (by decide +kernel) (by decide +kernel)
set_option maxRecDepth 20000 in
theorem gX8_drawTree_X5_findNumber_n249 : GoodIn wsX8_drawTree (wsX5_findNumber) := ggX8_drawTree_X5_findNumber
theorem dX8_drawTree_0 : decode cX8_drawTree 0 = .ok (.iload_n 3, 1) := by decide +kernel
theorem dX8_drawTree_1 : decode cX8_drawTree 1 = .ok (.bipush 8, 2) := by decide +kernel
theorem dX8_drawTree_3 : decode cX8_drawTree 3 = .ok (.invokestatic 180, 3) := by decide +kernel
theorem dX8_drawTree_6 : decode cX8_drawTree 6 = .ok (.aload_n 0, 1) := by decide +kernel
theorem dX8_drawTree_7 : decode cX8_drawTree 7 = .ok (.iload_n 3, 1) := by decide +kernel
theorem dX8_drawTree_8 : decode cX8_drawTree 8 = .ok (.invokevirtual 183, 3) := by decide +kernel
theorem dX8_drawTree_11 : decode cX8_drawTree 11 = .ok (.lstore 4, 2) := by decide +kernel
theorem dX8_drawTree_13 : decode cX8_drawTree 13 = .ok (.lload 4, 2) := by decide +kernel
theorem dX8_drawTree_15 : decode cX8_drawTree 15 = .ok (.lconst 1, 1) := by decide +kernel
theorem dX8_drawTree_16 : decode cX8_drawTree 16 = .ok (.lcmp, 1) := by decide +kernel
theorem dX8_drawTree_17 : decode cX8_drawTree 17 = .ok (.ifCond .ge 13, 3) := by decide +kernel
theorem dX8_drawTree_20 : decode cX8_drawTree 20 = .ok (.new 198, 3) := by decide +kernel
theorem dX8_drawTree_23 : decode cX8_drawTree 23 = .ok (.dup, 1) := by decide +kernel
theorem dX8_drawTree_24 : decode cX8_drawTree 24 = .ok (.ldc 236, 2) := by decide +kernel
theorem dX8_drawTree_26 : decode cX8_drawTree 26 = .ok (.invokespecial 202, 3) := by decide +kernel
theorem dX8_drawTree_29 : decode cX8_drawTree 29 = .ok (.athrow, 1) := by decide +kernel
theorem dX8_drawTree_30 : decode cX8_drawTree 30 = .ok (.lload_n 1, 1) := by decide +kernel
theorem dX8_drawTree_31 : decode cX8_drawTree 31 = .ok (.lload 4, 2) := by decide +kernel
theorem dX8_drawTree_33 : decode cX8_drawTree 33 = .ok (.invokestatic 232, 3) := by decide +kernel
theorem dX8_drawTree_36 : decode cX8_drawTree 36 = .ok (.lstore 6, 2) := by decide +kernel
theorem dX8_drawTree_38 : decode cX8_drawTree 38 = .ok (.aload_n 0, 1) := by decide +kernel
theorem dX8_drawTree_39 : decode cX8_drawTree 39 = .ok (.getfield 59, 3) := by decide +kernel
theorem dX8_drawTree_42 : decode cX8_drawTree 42 = .ok (.iconst 0, 1) := by decide +kernel
theorem dX8_drawTree_43 : decode cX8_drawTree 43 = .ok (.putfield 238, 3) := by decide +kernel
theorem dX8_drawTree_46 : decode cX8_drawTree 46 = .ok (.aload_n 0, 1) := by decide +kernel
theorem dX8_drawTree_47 : decode cX8_drawTree 47 = .ok (.getfield 59, 3) := by decide +kernel
theorem dX8_drawTree_50 : decode cX8_drawTree 50 = .ok (.aload_n 0, 1) := by decide +kernel
theorem dX8_drawTree_51 : decode cX8_drawTree 51 = .ok (.getfield 34, 3) := by decide +kernel
theorem dX8_drawTree_54 : decode cX8_drawTree 54 = .ok (.aload_n 0, 1) := by decide +kernel
theorem dX8_drawTree_55 : decode cX8_drawTree 55 = .ok (.getfield 12, 3) := by decide +kernel
theorem dX8_drawTree_58 : decode cX8_drawTree 58 = .ok (.getfield 145, 3) := by decide +kernel
theorem dX8_drawTree_61 : decode cX8_drawTree 61 = .ok (.iconst 0, 1) := by decide +kernel
theorem dX8_drawTree_62 : decode cX8_drawTree 62 = .ok (.iconst 0, 1) := by decide +kernel
theorem dX8_drawTree_63 : decode cX8_drawTree 63 = .ok (.iload_n 3, 1) := by decide +kernel
theorem dX8_drawTree_64 : decode cX8_drawTree 64 = .ok (.lload 6, 2) := by decide +kernel
theorem dX8_drawTree_66 : decode cX8_drawTree 66 = .ok (.invokevirtual 241, 3) := by decide +kernel
theorem dX8_drawTree_69 : decode cX8_drawTree 69 = .ok (.aload_n 0, 1) := by decide +kernel
theorem dX8_drawTree_70 : decode cX8_drawTree 70 = .ok (.getfield 19, 3) := by decide +kernel
theorem dX8_drawTree_73 : decode cX8_drawTree 73 = .ok (.iload_n 3, 1) := by decide +kernel
theorem dX8_drawTree_74 : decode cX8_drawTree 74 = .ok (.putfield 87, 3) := by decide +kernel
theorem dX8_drawTree_77 : decode cX8_drawTree 77 = .ok (.aload_n 0, 1) := by decide +kernel
theorem dX8_drawTree_78 : decode cX8_drawTree 78 = .ok (.getfield 59, 3) := by decide +kernel
theorem dX8_drawTree_81 : decode cX8_drawTree 81 = .ok (.aload_n 0, 1) := by decide +kernel
theorem dX8_drawTree_82 : decode cX8_drawTree 82 = .ok (.getfield 19, 3) := by decide +kernel
theorem dX8_drawTree_85 : decode cX8_drawTree 85 = .ok (.invokevirtual 245, 3) := by decide +kernel
theorem dX8_drawTree_88 : decode cX8_drawTree 88 = .ok (.aload_n 0, 1) := by decide +kernel
theorem dX8_drawTree_89 : decode cX8_drawTree 89 = .ok (.invokevirtual 173, 3) := by decide +kernel
theorem dX8_drawTree_92 : decode cX8_drawTree 92 = .ok (.aload_n 0, 1) := by decide +kernel
theorem dX8_drawTree_93 : decode cX8_drawTree 93 = .ok (.getfield 59, 3) := by decide +kernel
theorem dX8_drawTree_96 : decode cX8_drawTree 96 = .ok (.aload_n 0, 1) := by decide +kernel
theorem dX8_drawTree_97 : decode cX8_drawTree 97 = .ok (.getfield 59, 3) := by decide +kernel
theorem dX8_drawTree_100 : decode cX8_drawTree 100 = .ok (.aload_n 0, 1) := by decide +kernel
theorem dX8_drawTree_101 : decode cX8_drawTree 101 = .ok (.getfield 43, 3) := by decide +kernel
theorem dX8_drawTree_104 : decode cX8_drawTree 104 = .ok (.invokevirtual 249, 3) := by decide +kernel
theorem dX8_drawTree_107 : decode cX8_drawTree 107 = .ok (.putfield 253, 3) := by decide +kernel
theorem dX8_drawTree_110 : decode cX8_drawTree 110 = .ok (.aload_n 0, 1) := by decide +kernel
theorem dX8_drawTree_111 : decode cX8_drawTree 111 = .ok (.getfield 59, 3) := by decide +kernel
theorem dX8_drawTree_114 : decode cX8_drawTree 114 = .ok (.iconst 1, 1) := by decide +kernel
theorem dX8_drawTree_115 : decode cX8_drawTree 115 = .ok (.putfield 148, 3) := by decide +kernel
theorem dX8_drawTree_118 : decode cX8_drawTree 118 = .ok (.lload 6, 2) := by decide +kernel
theorem dX8_drawTree_120 : decode cX8_drawTree 120 = .ok (.lreturn, 1) := by decide +kernel
set_option maxRecDepth 20000 in
theorem ggX8_takeTree_X8_countSpans : GoodIn wsX8_takeTree wsX8_countSpans := goodIn_r _ [11, 3, 5, 12, 13, 14, 15, 16, 17, 18, 19, 20, 21, 22, 23, 24, 25, 26, 27, 28, 29, 30, 31, 32, 33, 34, 35, 36, 37, 38, 39, 40, 41, 42, 43, 44, 45, 46, 47, 48, 49, 50, 51, 52, 53, 54, 55, 56, 57, 58, 59, 60, 61, 62, 63, 64, 65, 66, 67, 68, 69, 70, 71, 72, 73, 74, 75, 76, 77, 78, 79, 80, 81, 82, 83, 84, 85, 86, 87, 88, 89, 90, 91, 92, 93, 94, 95, 96, 97, 98, 99, 100, 137, 138, 139, 140, 141, 142, 143, 144, 145, 146, 154, 155, 167, 168, 169, 170, 171, 172, 173, 147, 148, 149, 150, 151, 152, 153] (by decide +kernel) (by decide +kernel)
set_option maxRecDepth 20000 in
theorem gX8_takeTree_X8_countSpans : GoodIn wsX8_takeTree (wsV RX8 173 RX8 yX8_countSpans wsX8_countSpans) := goodIn_app (goodIn_of _ (by decide +kernel)) ggX8_takeTree_X8_countSpans
set_option maxRecDepth 20000 in
theorem ggX8_takeTree_X0_count : GoodIn wsX8_takeTree wsX0_count := goodIn_r _ [68, 69, 70, 71, 72, 73, 33, 74, 75, 76, 37, 77, 39, 78, 79, 80, 81, 82, 83, 84, 85, 167, 168, 169, 170, 171, 172, 173, 154, 155] (by decide +kernel) (by decide +kernel)
set_option maxRecDepth 20000 in
theorem gX8_takeTree_X0_count_u176X4 : GoodIn wsX8_takeTree (va_wsU RX8 176 RX4 "GrammarAmbiguity$Counts" ⟨"GrammarAmbiguity$SpanCounts", "count", "(III)J"⟩ yX0_count wsX0_count) := goodIn_app (goodIn_of _ (by decide +kernel)) ggX8_takeTree_X0_count
set_option maxRecDepth 20000 in
theorem ggX8_takeTree_X5_grow : GoodIn wsX8_takeTree wsX5_grow := goodIn_r _ [107, 108, 109, 110, 111, 112, 113, 114, 115, 116, 27, 117, 118, 46, 119, 120, 121, 122, 123, 124, 105, 125, 126, 41, 42, 43, 16, 44, 24, 45, 47, 48, 49, 50, 51, 52, 53, 54, 55, 56, 57, 58, 59, 33, 60, 61, 62, 37, 63, 64, 65, 66, 67, 68, 69, 70, 71, 72, 73, 74, 75, 76, 77, 39, 78, 79, 80, 81, 82, 83, 84, 85, 86, 87, 88, 89, 90, 91, 92, 93, 94, 127, 128, 129, 130, 131, 132, 133, 134, 135, 136, 104, 106, 156, 157, 158, 159, 160, 161, 162, 163, 164, 165, 166, 147, 148, 149, 150, 151, 152, 153, 167, 168, 169, 170, 171, 172, 173, 154, 155] (by decide +kernel) (by decide +kernel)
set_option maxRecDepth 20000 in
theorem gX8_takeTree_X5_grow_n241 : GoodIn wsX8_takeTree (wsX5_grow) := ggX8_takeTree_X5_grow
theorem dX8_takeTree_0 : decode cX8_takeTree 0 = .ok (.aload_n 0, 1) := by decide +kernel
theorem dX8_takeTree_1 : decode cX8_takeTree 1 = .ok (.invokevirtual 173, 3) := by decide +kernel
theorem dX8_takeTree_4 : decode cX8_takeTree 4 = .ok (.lload_n 1, 1) := by decide +kernel
theorem dX8_takeTree_5 : decode cX8_takeTree 5 = .ok (.lconst 0, 1) := by decide +kernel
theorem dX8_takeTree_6 : decode cX8_takeTree 6 = .ok (.lcmp, 1) := by decide +kernel
theorem dX8_takeTree_7 : decode cX8_takeTree 7 = .ok (.ifCond .lt 30, 3) := by decide +kernel
theorem dX8_takeTree_10 : decode cX8_takeTree 10 = .ok (.lload_n 1, 1) := by decide +kernel
theorem dX8_takeTree_11 : decode cX8_takeTree 11 = .ok (.aload_n 0, 1) := by decide +kernel
theorem dX8_takeTree_12 : decode cX8_takeTree 12 = .ok (.getfield 43, 3) := by decide +kernel
theorem dX8_takeTree_15 : decode cX8_takeTree 15 = .ok (.aload_n 0, 1) := by decide +kernel
theorem dX8_takeTree_16 : decode cX8_takeTree 16 = .ok (.getfield 12, 3) := by decide +kernel
theorem dX8_takeTree_19 : decode cX8_takeTree 19 = .ok (.getfield 145, 3) := by decide +kernel
theorem dX8_takeTree_22 : decode cX8_takeTree 22 = .ok (.aload_n 0, 1) := by decide +kernel
theorem dX8_takeTree_23 : decode cX8_takeTree 23 = .ok (.getfield 19, 3) := by decide +kernel
theorem dX8_takeTree_26 : decode cX8_takeTree 26 = .ok (.getfield 87, 3) := by decide +kernel
theorem dX8_takeTree_29 : decode cX8_takeTree 29 = .ok (.iconst 0, 1) := by decide +kernel
theorem dX8_takeTree_30 : decode cX8_takeTree 30 = .ok (.invokevirtual 176, 3) := by decide +kernel
theorem dX8_takeTree_33 : decode cX8_takeTree 33 = .ok (.lcmp, 1) := by decide +kernel
theorem dX8_takeTree_34 : decode cX8_takeTree 34 = .ok (.ifCond .lt 14, 3) := by decide +kernel
theorem dX8_takeTree_37 : decode cX8_takeTree 37 = .ok (.new 198, 3) := by decide +kernel
theorem dX8_takeTree_40 : decode cX8_takeTree 40 = .ok (.dup, 1) := by decide +kernel
theorem dX8_takeTree_41 : decode cX8_takeTree 41 = .ok (.ldc_w 257, 3) := by decide +kernel
theorem dX8_takeTree_44 : decode cX8_takeTree 44 = .ok (.invokespecial 202, 3) := by decide +kernel
theorem dX8_takeTree_47 : decode cX8_takeTree 47 = .ok (.athrow, 1) := by decide +kernel
theorem dX8_takeTree_48 : decode cX8_takeTree 48 = .ok (.aload_n 0, 1) := by decide +kernel
theorem dX8_takeTree_49 : decode cX8_takeTree 49 = .ok (.getfield 59, 3) := by decide +kernel
theorem dX8_takeTree_52 : decode cX8_takeTree 52 = .ok (.iconst 0, 1) := by decide +kernel
theorem dX8_takeTree_53 : decode cX8_takeTree 53 = .ok (.putfield 238, 3) := by decide +kernel
theorem dX8_takeTree_56 : decode cX8_takeTree 56 = .ok (.aload_n 0, 1) := by decide +kernel
theorem dX8_takeTree_57 : decode cX8_takeTree 57 = .ok (.getfield 59, 3) := by decide +kernel
theorem dX8_takeTree_60 : decode cX8_takeTree 60 = .ok (.aload_n 0, 1) := by decide +kernel
theorem dX8_takeTree_61 : decode cX8_takeTree 61 = .ok (.getfield 43, 3) := by decide +kernel
theorem dX8_takeTree_64 : decode cX8_takeTree 64 = .ok (.aload_n 0, 1) := by decide +kernel
theorem dX8_takeTree_65 : decode cX8_takeTree 65 = .ok (.getfield 12, 3) := by decide +kernel
theorem dX8_takeTree_68 : decode cX8_takeTree 68 = .ok (.getfield 145, 3) := by decide +kernel
theorem dX8_takeTree_71 : decode cX8_takeTree 71 = .ok (.iconst 0, 1) := by decide +kernel
theorem dX8_takeTree_72 : decode cX8_takeTree 72 = .ok (.iconst 0, 1) := by decide +kernel
theorem dX8_takeTree_73 : decode cX8_takeTree 73 = .ok (.aload_n 0, 1) := by decide +kernel
theorem dX8_takeTree_74 : decode cX8_takeTree 74 = .ok (.getfield 19, 3) := by decide +kernel
theorem dX8_takeTree_77 : decode cX8_takeTree 77 = .ok (.getfield 87, 3) := by decide +kernel
theorem dX8_takeTree_80 : decode cX8_takeTree 80 = .ok (.lload_n 1, 1) := by decide +kernel
theorem dX8_takeTree_81 : decode cX8_takeTree 81 = .ok (.invokevirtual 241, 3) := by decide +kernel
theorem dX8_takeTree_84 : decode cX8_takeTree 84 = .ok (.aload_n 0, 1) := by decide +kernel
theorem dX8_takeTree_85 : decode cX8_takeTree 85 = .ok (.getfield 59, 3) := by decide +kernel
theorem dX8_takeTree_88 : decode cX8_takeTree 88 = .ok (.lload_n 1, 1) := by decide +kernel
theorem dX8_takeTree_89 : decode cX8_takeTree 89 = .ok (.putfield 253, 3) := by decide +kernel
theorem dX8_takeTree_92 : decode cX8_takeTree 92 = .ok (.aload_n 0, 1) := by decide +kernel
theorem dX8_takeTree_93 : decode cX8_takeTree 93 = .ok (.getfield 59, 3) := by decide +kernel
theorem dX8_takeTree_96 : decode cX8_takeTree 96 = .ok (.iconst 1, 1) := by decide +kernel
theorem dX8_takeTree_97 : decode cX8_takeTree 97 = .ok (.putfield 148, 3) := by decide +kernel
theorem dX8_takeTree_100 : decode cX8_takeTree 100 = .ok (.aload_n 0, 1) := by decide +kernel
theorem dX8_takeTree_101 : decode cX8_takeTree 101 = .ok (.getfield 59, 3) := by decide +kernel
theorem dX8_takeTree_104 : decode cX8_takeTree 104 = .ok (.getfield 238, 3) := by decide +kernel
theorem dX8_takeTree_107 : decode cX8_takeTree 107 = .ok (.ireturn, 1) := by decide +kernel
set_option maxRecDepth 20000 in
theorem ggX8_treeNumber_X8_checkTree : GoodIn wsX8_treeNumber wsX8_checkTree := goodIn_ca (goodIn_r _ [6, 7, 8, 1, 9, 10, 11, 12, 13, 14, 15, 16, 17, 18, 19, 20, 21, 22, 23, 24, 25, 26, 27, 28, 29] (by decide +kernel) (by decide +kernel)) (goodIn_sub (fun _ h => List.mem_cons_of_mem _ (List.mem_append_right _ h)) (by decide +kernel))
set_option maxRecDepth 20000 in
theorem gX8_treeNumber_X8_checkTree : GoodIn wsX8_treeNumber (wsV RX8 259 RX8 yX8_checkTree wsX8_checkTree) := goodIn_app (goodIn_of _ (by decide +kernel)) ggX8_treeNumber_X8_checkTree
theorem dX8_treeNumber_0 : decode cX8_treeNumber 0 = .ok (.aload_n 0, 1) := by decide +kernel
theorem dX8_treeNumber_1 : decode cX8_treeNumber 1 = .ok (.invokevirtual 259, 3) := by decide +kernel
theorem dX8_treeNumber_4 : decode cX8_treeNumber 4 = .ok (.aload_n 0, 1) := by decide +kernel
theorem dX8_treeNumber_5 : decode cX8_treeNumber 5 = .ok (.getfield 59, 3) := by decide +kernel
theorem dX8_treeNumber_8 : decode cX8_treeNumber 8 = .ok (.getfield 253, 3) := by decide +kernel
theorem dX8_treeNumber_11 : decode cX8_treeNumber 11 = .ok (.lreturn, 1) := by decide +kernel
set_option maxRecDepth 20000 in
theorem ggX8_treeSize_X8_checkTree : GoodIn wsX8_treeSize wsX8_checkTree := goodIn_ca (goodIn_r _ [6, 7, 8, 1, 9, 10, 11, 12, 13, 14, 15, 16, 17, 18, 19, 20, 21, 22, 23, 24, 25, 26, 27, 28, 29] (by decide +kernel) (by decide +kernel)) (goodIn_sub (fun _ h => List.mem_cons_of_mem _ (List.mem_append_right _ h)) (by decide +kernel))
set_option maxRecDepth 20000 in
theorem gX8_treeSize_X8_checkTree : GoodIn wsX8_treeSize (wsV RX8 259 RX8 yX8_checkTree wsX8_checkTree) := goodIn_app (goodIn_of _ (by decide +kernel)) ggX8_treeSize_X8_checkTree
theorem dX8_treeSize_0 : decode cX8_treeSize 0 = .ok (.aload_n 0, 1) := by decide +kernel
theorem dX8_treeSize_1 : decode cX8_treeSize 1 = .ok (.invokevirtual 259, 3) := by decide +kernel
theorem dX8_treeSize_4 : decode cX8_treeSize 4 = .ok (.aload_n 0, 1) := by decide +kernel
theorem dX8_treeSize_5 : decode cX8_treeSize 5 = .ok (.getfield 59, 3) := by decide +kernel
theorem dX8_treeSize_8 : decode cX8_treeSize 8 = .ok (.getfield 238, 3) := by decide +kernel
theorem dX8_treeSize_11 : decode cX8_treeSize 11 = .ok (.ireturn, 1) := by decide +kernel
set_option maxRecDepth 20000 in
theorem ggX8_treeNode_X8_checkTree : GoodIn wsX8_treeNode wsX8_checkTree := goodIn_ca (goodIn_r _ [10, 11, 12, 5, 13, 14, 15, 16, 17, 18, 19, 20, 21, 22, 23, 24, 25, 26, 27, 28, 29, 30, 31, 32, 33] (by decide +kernel) (by decide +kernel)) (goodIn_sub (fun _ h => List.mem_cons_of_mem _ (List.mem_append_right _ h)) (by decide +kernel))
set_option maxRecDepth 20000 in
theorem gX8_treeNode_X8_checkTree : GoodIn wsX8_treeNode (wsV RX8 259 RX8 yX8_checkTree wsX8_checkTree) := goodIn_app (goodIn_of _ (by decide +kernel)) ggX8_treeNode_X8_checkTree
theorem dX8_treeNode_0 : decode cX8_treeNode 0 = .ok (.aload_n 0, 1) := by decide +kernel
theorem dX8_treeNode_1 : decode cX8_treeNode 1 = .ok (.invokevirtual 259, 3) := by decide +kernel
theorem dX8_treeNode_4 : decode cX8_treeNode 4 = .ok (.iload_n 1, 1) := by decide +kernel
theorem dX8_treeNode_5 : decode cX8_treeNode 5 = .ok (.ifCond .lt 14, 3) := by decide +kernel
theorem dX8_treeNode_8 : decode cX8_treeNode 8 = .ok (.iload_n 1, 1) := by decide +kernel
theorem dX8_treeNode_9 : decode cX8_treeNode 9 = .ok (.aload_n 0, 1) := by decide +kernel
theorem dX8_treeNode_10 : decode cX8_treeNode 10 = .ok (.getfield 59, 3) := by decide +kernel
theorem dX8_treeNode_13 : decode cX8_treeNode 13 = .ok (.getfield 238, 3) := by decide +kernel
theorem dX8_treeNode_16 : decode cX8_treeNode 16 = .ok (.if_icmp .lt 14, 3) := by decide +kernel
theorem dX8_treeNode_19 : decode cX8_treeNode 19 = .ok (.new 133, 3) := by decide +kernel
theorem dX8_treeNode_22 : decode cX8_treeNode 22 = .ok (.dup, 1) := by decide +kernel
theorem dX8_treeNode_23 : decode cX8_treeNode 23 = .ok (.ldc_w 262, 3) := by decide +kernel
theorem dX8_treeNode_26 : decode cX8_treeNode 26 = .ok (.invokespecial 137, 3) := by decide +kernel
theorem dX8_treeNode_29 : decode cX8_treeNode 29 = .ok (.athrow, 1) := by decide +kernel
theorem dX8_treeNode_30 : decode cX8_treeNode 30 = .ok (.iload_n 2, 1) := by decide +kernel
theorem dX8_treeNode_31 : decode cX8_treeNode 31 = .ok (.tableswitch 55 0 2 #[25, 35, 45], 25) := by decide +kernel
theorem dX8_treeNode_56 : decode cX8_treeNode 56 = .ok (.aload_n 0, 1) := by decide +kernel
theorem dX8_treeNode_57 : decode cX8_treeNode 57 = .ok (.getfield 59, 3) := by decide +kernel
theorem dX8_treeNode_60 : decode cX8_treeNode 60 = .ok (.getfield 264, 3) := by decide +kernel
theorem dX8_treeNode_63 : decode cX8_treeNode 63 = .ok (.iload_n 1, 1) := by decide +kernel
theorem dX8_treeNode_64 : decode cX8_treeNode 64 = .ok (.iaload, 1) := by decide +kernel
theorem dX8_treeNode_65 : decode cX8_treeNode 65 = .ok (.ireturn, 1) := by decide +kernel
theorem dX8_treeNode_66 : decode cX8_treeNode 66 = .ok (.aload_n 0, 1) := by decide +kernel
theorem dX8_treeNode_67 : decode cX8_treeNode 67 = .ok (.getfield 59, 3) := by decide +kernel
theorem dX8_treeNode_70 : decode cX8_treeNode 70 = .ok (.getfield 267, 3) := by decide +kernel
theorem dX8_treeNode_73 : decode cX8_treeNode 73 = .ok (.iload_n 1, 1) := by decide +kernel
theorem dX8_treeNode_74 : decode cX8_treeNode 74 = .ok (.iaload, 1) := by decide +kernel
theorem dX8_treeNode_75 : decode cX8_treeNode 75 = .ok (.ireturn, 1) := by decide +kernel
theorem dX8_treeNode_76 : decode cX8_treeNode 76 = .ok (.aload_n 0, 1) := by decide +kernel
theorem dX8_treeNode_77 : decode cX8_treeNode 77 = .ok (.getfield 59, 3) := by decide +kernel
theorem dX8_treeNode_80 : decode cX8_treeNode 80 = .ok (.getfield 270, 3) := by decide +kernel
theorem dX8_treeNode_83 : decode cX8_treeNode 83 = .ok (.iload_n 1, 1) := by decide +kernel
theorem dX8_treeNode_84 : decode cX8_treeNode 84 = .ok (.iaload, 1) := by decide +kernel
theorem dX8_treeNode_85 : decode cX8_treeNode 85 = .ok (.ireturn, 1) := by decide +kernel
theorem dX8_treeNode_86 : decode cX8_treeNode 86 = .ok (.new 74, 3) := by decide +kernel
theorem dX8_treeNode_89 : decode cX8_treeNode 89 = .ok (.dup, 1) := by decide +kernel
theorem dX8_treeNode_90 : decode cX8_treeNode 90 = .ok (.ldc_w 272, 3) := by decide +kernel
theorem dX8_treeNode_93 : decode cX8_treeNode 93 = .ok (.invokespecial 78, 3) := by decide +kernel
theorem dX8_treeNode_96 : decode cX8_treeNode 96 = .ok (.athrow, 1) := by decide +kernel
set_option maxRecDepth 20000 in
theorem ggX8_allocate_X8_checkSlot : GoodIn wsX8_allocate wsX8_checkSlot := goodIn_ca (goodIn_r _ [7, 1, 2] (by decide +kernel) (by decide +kernel)) (goodIn_sub (fun _ h => List.mem_cons_of_mem _ (List.mem_append_right _ h)) (by decide +kernel))
set_option maxRecDepth 20000 in
theorem gX8_allocate_X8_checkSlot : GoodIn wsX8_allocate (va_wsS RX8 274 yX8_checkSlot wsX8_checkSlot) := goodIn_app (goodIn_of _ (by decide +kernel)) ggX8_allocate_X8_checkSlot
set_option maxRecDepth 20000 in
theorem ggX8_allocate_X3_begin : GoodIn wsX8_allocate wsX3_begin := goodIn_r _ [11, 12, 13, 14, 15, 26, 27, 28, 29] (by decide +kernel) (by decide +kernel)
set_option maxRecDepth 20000 in
theorem gX8_allocate_X3_begin_n279 : GoodIn wsX8_allocate (wsX3_begin) := ggX8_allocate_X3_begin
theorem dX8_allocate_0 : decode cX8_allocate 0 = .ok (.iload_n 1, 1) := by decide +kernel
theorem dX8_allocate_1 : decode cX8_allocate 1 = .ok (.invokestatic 274, 3) := by decide +kernel
theorem dX8_allocate_4 : decode cX8_allocate 4 = .ok (.iload_n 3, 1) := by decide +kernel
theorem dX8_allocate_5 : decode cX8_allocate 5 = .ok (.ifCond .lt 9, 3) := by decide +kernel
theorem dX8_allocate_8 : decode cX8_allocate 8 = .ok (.iload_n 3, 1) := by decide +kernel
theorem dX8_allocate_9 : decode cX8_allocate 9 = .ok (.bipush 40, 2) := by decide +kernel
theorem dX8_allocate_11 : decode cX8_allocate 11 = .ok (.if_icmp .le 14, 3) := by decide +kernel
theorem dX8_allocate_14 : decode cX8_allocate 14 = .ok (.new 74, 3) := by decide +kernel
theorem dX8_allocate_17 : decode cX8_allocate 17 = .ok (.dup, 1) := by decide +kernel
theorem dX8_allocate_18 : decode cX8_allocate 18 = .ok (.ldc_w 277, 3) := by decide +kernel
theorem dX8_allocate_21 : decode cX8_allocate 21 = .ok (.invokespecial 78, 3) := by decide +kernel
theorem dX8_allocate_24 : decode cX8_allocate 24 = .ok (.athrow, 1) := by decide +kernel
theorem dX8_allocate_25 : decode cX8_allocate 25 = .ok (.aload_n 0, 1) := by decide +kernel
theorem dX8_allocate_26 : decode cX8_allocate 26 = .ok (.getfield 66, 3) := by decide +kernel
theorem dX8_allocate_29 : decode cX8_allocate 29 = .ok (.iload_n 1, 1) := by decide +kernel
theorem dX8_allocate_30 : decode cX8_allocate 30 = .ok (.iload_n 2, 1) := by decide +kernel
theorem dX8_allocate_31 : decode cX8_allocate 31 = .ok (.iload_n 3, 1) := by decide +kernel
theorem dX8_allocate_32 : decode cX8_allocate 32 = .ok (.invokevirtual 279, 3) := by decide +kernel
theorem dX8_allocate_35 : decode cX8_allocate 35 = .ok (.return_, 1) := by decide +kernel
set_option maxRecDepth 20000 in
theorem ggX8_setElement_X8_checkSlot : GoodIn wsX8_setElement wsX8_checkSlot := goodIn_ca (goodIn_r _ [5, 6, 7] (by decide +kernel) (by decide +kernel)) (goodIn_sub (fun _ h => List.mem_cons_of_mem _ (List.mem_append_left _ (List.mem_append_left _ (List.mem_append_right _ h)))) (by decide +kernel))
set_option maxRecDepth 20000 in
theorem gX8_setElement_X8_checkSlot : GoodIn wsX8_setElement (va_wsS RX8 274 yX8_checkSlot wsX8_checkSlot) := goodIn_app (goodIn_of _ (by decide +kernel)) ggX8_setElement_X8_checkSlot
set_option maxRecDepth 20000 in
theorem ggX8_setElement_X8_checkArray : GoodIn wsX8_setElement wsX8_checkArray := goodIn_ca (goodIn_r _ [11, 12, 13, 1, 14, 15, 16, 17, 18, 42, 43, 44, 45, 46, 47, 48, 49, 50, 51, 52, 53, 54, 55] (by decide +kernel) (by decide +kernel)) (goodIn_sub (fun _ h => List.mem_cons_of_mem _ (List.mem_append_left _ (List.mem_append_right _ h))) (by decide +kernel))
set_option maxRecDepth 20000 in
theorem gX8_setElement_X8_checkArray : GoodIn wsX8_setElement (wsV RX8 282 RX8 yX8_checkArray wsX8_checkArray) := goodIn_app (goodIn_of _ (by decide +kernel)) ggX8_setElement_X8_checkArray
set_option maxRecDepth 20000 in
theorem ggX8_setElement_X8_checkIndexes : GoodIn wsX8_setElement wsX8_checkIndexes := goodIn_ca (goodIn_r _ [22, 23, 24, 1, 25, 15, 26, 27, 28, 29, 14, 16, 17, 18, 42, 43, 44, 45, 46, 47, 48, 49, 50, 51, 52, 53, 54, 55] (by decide +kernel) (by decide +kernel)) (goodIn_sub (fun _ h => List.mem_cons_of_mem _ (List.mem_append_right _ h)) (by decide +kernel))
set_option maxRecDepth 20000 in
theorem gX8_setElement_X8_checkIndexes : GoodIn wsX8_setElement (wsV RX8 285 RX8 yX8_checkIndexes wsX8_checkIndexes) := goodIn_app (goodIn_of _ (by decide +kernel)) ggX8_setElement_X8_checkIndexes
set_option maxRecDepth 20000 in
theorem ggX8_setElement_X3_element : GoodIn wsX8_setElement wsX3_element := goodIn_r _ [32, 33, 34, 35, 36, 15, 37, 29, 14, 16, 17, 18, 52, 53, 54, 55] (by decide +kernel) (by decide +kernel)
set_option maxRecDepth 20000 in
theorem gX8_setElement_X3_element_n289 : GoodIn wsX8_setElement (wsX3_element) := ggX8_setElement_X3_element
set_option maxRecDepth 20000 in
theorem ggX8_setElement_X3_put : GoodIn wsX8_setElement wsX3_put := goodIn_r _ [40, 33, 41, 34, 35, 36, 15, 37, 29, 14, 16, 17, 18, 52, 53, 54, 55] (by decide +kernel) (by decide +kernel)
set_option maxRecDepth 20000 in
theorem gX8_setElement_X3_put_n292 : GoodIn wsX8_setElement (wsX3_put) := ggX8_setElement_X3_put
theorem dX8_setElement_0 : decode cX8_setElement 0 = .ok (.iload_n 1, 1) := by decide +kernel
theorem dX8_setElement_1 : decode cX8_setElement 1 = .ok (.invokestatic 274, 3) := by decide +kernel
theorem dX8_setElement_4 : decode cX8_setElement 4 = .ok (.aload_n 0, 1) := by decide +kernel
theorem dX8_setElement_5 : decode cX8_setElement 5 = .ok (.iload_n 1, 1) := by decide +kernel
theorem dX8_setElement_6 : decode cX8_setElement 6 = .ok (.invokevirtual 282, 3) := by decide +kernel
theorem dX8_setElement_9 : decode cX8_setElement 9 = .ok (.aload_n 0, 1) := by decide +kernel
theorem dX8_setElement_10 : decode cX8_setElement 10 = .ok (.iload_n 1, 1) := by decide +kernel
theorem dX8_setElement_11 : decode cX8_setElement 11 = .ok (.iload_n 2, 1) := by decide +kernel
theorem dX8_setElement_12 : decode cX8_setElement 12 = .ok (.iconst 1, 1) := by decide +kernel
theorem dX8_setElement_13 : decode cX8_setElement 13 = .ok (.invokevirtual 285, 3) := by decide +kernel
theorem dX8_setElement_16 : decode cX8_setElement 16 = .ok (.aload_n 0, 1) := by decide +kernel
theorem dX8_setElement_17 : decode cX8_setElement 17 = .ok (.getfield 66, 3) := by decide +kernel
theorem dX8_setElement_20 : decode cX8_setElement 20 = .ok (.iload_n 1, 1) := by decide +kernel
theorem dX8_setElement_21 : decode cX8_setElement 21 = .ok (.iload_n 2, 1) := by decide +kernel
theorem dX8_setElement_22 : decode cX8_setElement 22 = .ok (.invokevirtual 289, 3) := by decide +kernel
theorem dX8_setElement_25 : decode cX8_setElement 25 = .ok (.istore 4, 2) := by decide +kernel
theorem dX8_setElement_27 : decode cX8_setElement 27 = .ok (.aload_n 0, 1) := by decide +kernel
theorem dX8_setElement_28 : decode cX8_setElement 28 = .ok (.getfield 66, 3) := by decide +kernel
theorem dX8_setElement_31 : decode cX8_setElement 31 = .ok (.iload_n 1, 1) := by decide +kernel
theorem dX8_setElement_32 : decode cX8_setElement 32 = .ok (.iload_n 2, 1) := by decide +kernel
theorem dX8_setElement_33 : decode cX8_setElement 33 = .ok (.iload_n 3, 1) := by decide +kernel
theorem dX8_setElement_34 : decode cX8_setElement 34 = .ok (.invokevirtual 292, 3) := by decide +kernel
theorem dX8_setElement_37 : decode cX8_setElement 37 = .ok (.iload 4, 2) := by decide +kernel
theorem dX8_setElement_39 : decode cX8_setElement 39 = .ok (.ireturn, 1) := by decide +kernel
set_option maxRecDepth 20000 in
theorem ggX8_storeCounts_X8_checkSlot : GoodIn wsX8_storeCounts wsX8_checkSlot := goodIn_ca (goodIn_r _ [6, 7, 8] (by decide +kernel) (by decide +kernel)) (goodIn_sub (fun _ h => List.mem_cons_of_mem _ (List.mem_append_left _ (List.mem_append_left _ (List.mem_append_right _ h)))) (by decide +kernel))
set_option maxRecDepth 20000 in
theorem gX8_storeCounts_X8_checkSlot : GoodIn wsX8_storeCounts (va_wsS RX8 274 yX8_checkSlot wsX8_checkSlot) := goodIn_app (goodIn_of _ (by decide +kernel)) ggX8_storeCounts_X8_checkSlot
set_option maxRecDepth 20000 in
theorem ggX8_storeCounts_X8_checkArray : GoodIn wsX8_storeCounts wsX8_checkArray := goodIn_ca (goodIn_r _ [12, 13, 14, 1, 15, 16, 17, 18, 19, 174, 175, 176, 177, 178, 179, 180, 181, 182, 183, 184, 185, 186, 187] (by decide +kernel) (by decide +kernel)) (goodIn_sub (fun _ h => List.mem_cons_of_mem _ (List.mem_append_left _ (List.mem_append_right _ h))) (by decide +kernel))
set_option maxRecDepth 20000 in
theorem gX8_storeCounts_X8_checkArray : GoodIn wsX8_storeCounts (wsV RX8 282 RX8 yX8_checkArray wsX8_checkArray) := goodIn_app (goodIn_of _ (by decide +kernel)) ggX8_storeCounts_X8_checkArray
set_option maxRecDepth 20000 in
theorem ggX8_storeCounts_X8_checkIndexes : GoodIn wsX8_storeCounts wsX8_checkIndexes := goodIn_ca (goodIn_r _ [23, 24, 25, 1, 26, 16, 27, 28, 29, 30, 15, 17, 18, 19, 174, 175, 176, 177, 178, 179, 180, 181, 182, 183, 184, 185, 186, 187] (by decide +kernel) (by decide +kernel)) (goodIn_sub (fun _ h => List.mem_cons_of_mem _ (List.mem_append_right _ h)) (by decide +kernel))
set_option maxRecDepth 20000 in
theorem gX8_storeCounts_X8_checkIndexes : GoodIn wsX8_storeCounts (wsV RX8 285 RX8 yX8_checkIndexes wsX8_checkIndexes) := goodIn_app (goodIn_of _ (by decide +kernel)) ggX8_storeCounts_X8_checkIndexes
set_option maxRecDepth 20000 in
theorem ggX8_storeCounts_X8_countWords : GoodIn wsX8_storeCounts wsX8_countWords := goodIn_r _ [34, 35, 2, 36, 37, 38, 39, 40, 41, 42, 43, 44, 45, 46, 47, 48, 49, 50, 51, 52, 53, 54, 55, 56, 57, 58, 59, 60, 61, 62, 63, 64, 65, 66, 67, 68, 69, 70, 71, 72, 73, 74, 75, 76, 77, 78, 79, 80, 81, 82, 83, 84, 85, 86, 87, 88, 89, 90, 91, 92, 93, 94, 95, 96, 97, 98, 99, 100, 101, 102, 103, 104, 105, 106, 107, 108, 109, 110, 111, 112, 113, 114, 115, 116, 117, 118, 119, 120, 121, 122, 123, 124, 125, 126, 127, 128, 129, 130, 131, 132, 133, 134, 135, 136, 137, 138, 139, 140, 141, 142, 143, 144, 145, 146, 147, 148, 149, 150, 151, 152, 153, 174, 175, 176, 177, 178, 179, 180, 181, 182, 183, 188, 189, 190, 191, 192, 193, 194, 195, 196, 197, 198, 199, 200, 201, 202, 203, 204, 205, 206, 207] (by decide +kernel) (by decide +kernel)
set_option maxRecDepth 20000 in
theorem gX8_storeCounts_X8_countWords : GoodIn wsX8_storeCounts (wsV RX8 189 RX8 yX8_countWords wsX8_countWords) := goodIn_app (goodIn_of _ (by decide +kernel)) ggX8_storeCounts_X8_countWords
set_option maxRecDepth 20000 in
theorem ggX8_storeCounts_X7_atLeast : GoodIn wsX8_storeCounts wsX7_atLeast := goodIn_r _ [156, 137, 138, 139, 121, 140, 125, 157, 158, 159, 160, 161, 162, 163, 164, 132, 133, 134, 135, 136, 204, 205, 206, 207, 195, 196, 197, 198, 199, 200, 201] (by decide +kernel) (by decide +kernel)
set_option maxRecDepth 20000 in
theorem gX8_storeCounts_X7_atLeast_n192 : GoodIn wsX8_storeCounts (wsX7_atLeast) := ggX8_storeCounts_X7_atLeast
set_option maxRecDepth 20000 in
theorem ggX8_storeCounts_X3_put : GoodIn wsX8_storeCounts wsX3_put := goodIn_r _ [167, 168, 169, 170, 171, 172, 16, 173, 30, 15, 17, 18, 19, 184, 185, 186, 187] (by decide +kernel) (by decide +kernel)
set_option maxRecDepth 20000 in
theorem gX8_storeCounts_X3_put_n292 : GoodIn wsX8_storeCounts (wsX3_put) := ggX8_storeCounts_X3_put
theorem dX8_storeCounts_0 : decode cX8_storeCounts 0 = .ok (.iload_n 1, 1) := by decide +kernel
theorem dX8_storeCounts_1 : decode cX8_storeCounts 1 = .ok (.invokestatic 274, 3) := by decide +kernel
theorem dX8_storeCounts_4 : decode cX8_storeCounts 4 = .ok (.aload_n 0, 1) := by decide +kernel
theorem dX8_storeCounts_5 : decode cX8_storeCounts 5 = .ok (.iload_n 1, 1) := by decide +kernel
theorem dX8_storeCounts_6 : decode cX8_storeCounts 6 = .ok (.invokevirtual 282, 3) := by decide +kernel
theorem dX8_storeCounts_9 : decode cX8_storeCounts 9 = .ok (.aload_n 0, 1) := by decide +kernel
theorem dX8_storeCounts_10 : decode cX8_storeCounts 10 = .ok (.iload_n 1, 1) := by decide +kernel
theorem dX8_storeCounts_11 : decode cX8_storeCounts 11 = .ok (.iload_n 2, 1) := by decide +kernel
theorem dX8_storeCounts_12 : decode cX8_storeCounts 12 = .ok (.bipush 6, 2) := by decide +kernel
theorem dX8_storeCounts_14 : decode cX8_storeCounts 14 = .ok (.invokevirtual 285, 3) := by decide +kernel
theorem dX8_storeCounts_17 : decode cX8_storeCounts 17 = .ok (.aload_n 0, 1) := by decide +kernel
theorem dX8_storeCounts_18 : decode cX8_storeCounts 18 = .ok (.bipush 6, 2) := by decide +kernel
theorem dX8_storeCounts_20 : decode cX8_storeCounts 20 = .ok (.invokevirtual 189, 3) := by decide +kernel
theorem dX8_storeCounts_23 : decode cX8_storeCounts 23 = .ok (.iconst 1, 1) := by decide +kernel
theorem dX8_storeCounts_24 : decode cX8_storeCounts 24 = .ok (.istore_n 3, 1) := by decide +kernel
theorem dX8_storeCounts_25 : decode cX8_storeCounts 25 = .ok (.iload_n 3, 1) := by decide +kernel
theorem dX8_storeCounts_26 : decode cX8_storeCounts 26 = .ok (.bipush 6, 2) := by decide +kernel
theorem dX8_storeCounts_28 : decode cX8_storeCounts 28 = .ok (.if_icmp .gt 31, 3) := by decide +kernel
theorem dX8_storeCounts_31 : decode cX8_storeCounts 31 = .ok (.aload_n 0, 1) := by decide +kernel
theorem dX8_storeCounts_32 : decode cX8_storeCounts 32 = .ok (.getfield 66, 3) := by decide +kernel
theorem dX8_storeCounts_35 : decode cX8_storeCounts 35 = .ok (.iload_n 1, 1) := by decide +kernel
theorem dX8_storeCounts_36 : decode cX8_storeCounts 36 = .ok (.iload_n 2, 1) := by decide +kernel
theorem dX8_storeCounts_37 : decode cX8_storeCounts 37 = .ok (.iload_n 3, 1) := by decide +kernel
theorem dX8_storeCounts_38 : decode cX8_storeCounts 38 = .ok (.iadd, 1) := by decide +kernel
theorem dX8_storeCounts_39 : decode cX8_storeCounts 39 = .ok (.iconst 1, 1) := by decide +kernel
theorem dX8_storeCounts_40 : decode cX8_storeCounts 40 = .ok (.isub, 1) := by decide +kernel
theorem dX8_storeCounts_41 : decode cX8_storeCounts 41 = .ok (.aload_n 0, 1) := by decide +kernel
theorem dX8_storeCounts_42 : decode cX8_storeCounts 42 = .ok (.getfield 52, 3) := by decide +kernel
theorem dX8_storeCounts_45 : decode cX8_storeCounts 45 = .ok (.iconst 1, 1) := by decide +kernel
theorem dX8_storeCounts_46 : decode cX8_storeCounts 46 = .ok (.iload_n 3, 1) := by decide +kernel
theorem dX8_storeCounts_47 : decode cX8_storeCounts 47 = .ok (.invokevirtual 192, 3) := by decide +kernel
theorem dX8_storeCounts_50 : decode cX8_storeCounts 50 = .ok (.invokevirtual 292, 3) := by decide +kernel
theorem dX8_storeCounts_53 : decode cX8_storeCounts 53 = .ok (.iinc 3 1, 3) := by decide +kernel
theorem dX8_storeCounts_56 : decode cX8_storeCounts 56 = .ok (.goto (-31), 3) := by decide +kernel
theorem dX8_storeCounts_59 : decode cX8_storeCounts 59 = .ok (.return_, 1) := by decide +kernel
set_option maxRecDepth 20000 in
theorem ggX8_loadWord_X8_checkSlot : GoodIn wsX8_loadWord wsX8_checkSlot := goodIn_ca (goodIn_r _ [12, 1, 2] (by decide +kernel) (by decide +kernel)) (goodIn_sub (fun _ h => List.mem_cons_of_mem _ (List.mem_append_left _ (List.mem_append_left _ (List.mem_append_left _ (List.mem_append_right _ h))))) (by decide +kernel))
set_option maxRecDepth 20000 in
theorem gX8_loadWord_X8_checkSlot : GoodIn wsX8_loadWord (va_wsS RX8 274 yX8_checkSlot wsX8_checkSlot) := goodIn_app (goodIn_of _ (by decide +kernel)) ggX8_loadWord_X8_checkSlot
set_option maxRecDepth 20000 in
theorem ggX8_loadWord_X8_checkArray : GoodIn wsX8_loadWord wsX8_checkArray := goodIn_ca (goodIn_r _ [16, 17, 18, 6, 19, 20, 21, 22, 23, 53, 54, 55, 56, 57, 58, 59, 60, 61, 62, 76, 77, 78, 79] (by decide +kernel) (by decide +kernel)) (goodIn_sub (fun _ h => List.mem_cons_of_mem _ (List.mem_append_left _ (List.mem_append_right _ h))) (by decide +kernel))
set_option maxRecDepth 20000 in
theorem gX8_loadWord_X8_checkArray : GoodIn wsX8_loadWord (wsV RX8 282 RX8 yX8_checkArray wsX8_checkArray) := goodIn_app (goodIn_of _ (by decide +kernel)) ggX8_loadWord_X8_checkArray
set_option maxRecDepth 20000 in
theorem ggX8_loadWord_X8_checkIndexes : GoodIn wsX8_loadWord wsX8_checkIndexes := goodIn_ca (goodIn_r _ [27, 28, 29, 6, 30, 20, 31, 32, 33, 34, 19, 21, 22, 23, 53, 54, 55, 56, 57, 58, 59, 60, 61, 62, 76, 77, 78, 79] (by decide +kernel) (by decide +kernel)) (goodIn_sub (fun _ h => List.mem_cons_of_mem _ (List.mem_append_right _ h)) (by decide +kernel))
set_option maxRecDepth 20000 in
theorem gX8_loadWord_X8_checkIndexes : GoodIn wsX8_loadWord (wsV RX8 285 RX8 yX8_checkIndexes wsX8_checkIndexes) := goodIn_app (goodIn_of _ (by decide +kernel)) ggX8_loadWord_X8_checkIndexes
set_option maxRecDepth 20000 in
theorem ggX8_loadWord_X3_element : GoodIn wsX8_loadWord wsX3_element := goodIn_r _ [37, 38, 39, 40, 41, 20, 42, 34, 19, 21, 22, 23, 76, 77, 78, 79] (by decide +kernel) (by decide +kernel)
set_option maxRecDepth 20000 in
theorem gX8_loadWord_X3_element_n289 : GoodIn wsX8_loadWord (wsX3_element) := ggX8_loadWord_X3_element
set_option maxRecDepth 20000 in
theorem ggX8_loadWord_X1_isTerminal : GoodIn wsX8_loadWord wsX1_isTerminal := goodIn_r _ [46, 47, 80, 81, 82, 83, 84, 85, 86] (by decide +kernel) (by decide +kernel)
set_option maxRecDepth 20000 in
theorem gX8_loadWord_X1_isTerminal_n158 : GoodIn wsX8_loadWord (wsX1_isTerminal) := ggX8_loadWord_X1_isTerminal
set_option maxRecDepth 20000 in
theorem ggX8_loadWord_X6_put : GoodIn wsX8_loadWord wsX6_put := goodIn_r _ [51, 52, 63, 64] (by decide +kernel) (by decide +kernel)
set_option maxRecDepth 20000 in
theorem gX8_loadWord_X6_put_n165 : GoodIn wsX8_loadWord (wsX6_put) := ggX8_loadWord_X6_put
theorem dX8_loadWord_0 : decode cX8_loadWord 0 = .ok (.iload_n 1, 1) := by decide +kernel
theorem dX8_loadWord_1 : decode cX8_loadWord 1 = .ok (.invokestatic 274, 3) := by decide +kernel
theorem dX8_loadWord_4 : decode cX8_loadWord 4 = .ok (.iload_n 3, 1) := by decide +kernel
theorem dX8_loadWord_5 : decode cX8_loadWord 5 = .ok (.ifCond .lt 9, 3) := by decide +kernel
theorem dX8_loadWord_8 : decode cX8_loadWord 8 = .ok (.iload_n 3, 1) := by decide +kernel
theorem dX8_loadWord_9 : decode cX8_loadWord 9 = .ok (.bipush 8, 2) := by decide +kernel
theorem dX8_loadWord_11 : decode cX8_loadWord 11 = .ok (.if_icmp .le 14, 3) := by decide +kernel
theorem dX8_loadWord_14 : decode cX8_loadWord 14 = .ok (.new 74, 3) := by decide +kernel
theorem dX8_loadWord_17 : decode cX8_loadWord 17 = .ok (.dup, 1) := by decide +kernel
theorem dX8_loadWord_18 : decode cX8_loadWord 18 = .ok (.ldc_w 294, 3) := by decide +kernel
theorem dX8_loadWord_21 : decode cX8_loadWord 21 = .ok (.invokespecial 78, 3) := by decide +kernel
theorem dX8_loadWord_24 : decode cX8_loadWord 24 = .ok (.athrow, 1) := by decide +kernel
theorem dX8_loadWord_25 : decode cX8_loadWord 25 = .ok (.aload_n 0, 1) := by decide +kernel
theorem dX8_loadWord_26 : decode cX8_loadWord 26 = .ok (.iload_n 1, 1) := by decide +kernel
theorem dX8_loadWord_27 : decode cX8_loadWord 27 = .ok (.invokevirtual 282, 3) := by decide +kernel
theorem dX8_loadWord_30 : decode cX8_loadWord 30 = .ok (.iload_n 3, 1) := by decide +kernel
theorem dX8_loadWord_31 : decode cX8_loadWord 31 = .ok (.ifCond .le 10, 3) := by decide +kernel
theorem dX8_loadWord_34 : decode cX8_loadWord 34 = .ok (.aload_n 0, 1) := by decide +kernel
theorem dX8_loadWord_35 : decode cX8_loadWord 35 = .ok (.iload_n 1, 1) := by decide +kernel
theorem dX8_loadWord_36 : decode cX8_loadWord 36 = .ok (.iload_n 2, 1) := by decide +kernel
theorem dX8_loadWord_37 : decode cX8_loadWord 37 = .ok (.iload_n 3, 1) := by decide +kernel
theorem dX8_loadWord_38 : decode cX8_loadWord 38 = .ok (.invokevirtual 285, 3) := by decide +kernel
theorem dX8_loadWord_41 : decode cX8_loadWord 41 = .ok (.iconst 0, 1) := by decide +kernel
theorem dX8_loadWord_42 : decode cX8_loadWord 42 = .ok (.istore 4, 2) := by decide +kernel
theorem dX8_loadWord_44 : decode cX8_loadWord 44 = .ok (.iload 4, 2) := by decide +kernel
theorem dX8_loadWord_46 : decode cX8_loadWord 46 = .ok (.iload_n 3, 1) := by decide +kernel
theorem dX8_loadWord_47 : decode cX8_loadWord 47 = .ok (.if_icmp .ge 42, 3) := by decide +kernel
theorem dX8_loadWord_50 : decode cX8_loadWord 50 = .ok (.aload_n 0, 1) := by decide +kernel
theorem dX8_loadWord_51 : decode cX8_loadWord 51 = .ok (.getfield 12, 3) := by decide +kernel
theorem dX8_loadWord_54 : decode cX8_loadWord 54 = .ok (.aload_n 0, 1) := by decide +kernel
theorem dX8_loadWord_55 : decode cX8_loadWord 55 = .ok (.getfield 66, 3) := by decide +kernel
theorem dX8_loadWord_58 : decode cX8_loadWord 58 = .ok (.iload_n 1, 1) := by decide +kernel
theorem dX8_loadWord_59 : decode cX8_loadWord 59 = .ok (.iload_n 2, 1) := by decide +kernel
theorem dX8_loadWord_60 : decode cX8_loadWord 60 = .ok (.iload 4, 2) := by decide +kernel
theorem dX8_loadWord_62 : decode cX8_loadWord 62 = .ok (.iadd, 1) := by decide +kernel
theorem dX8_loadWord_63 : decode cX8_loadWord 63 = .ok (.invokevirtual 289, 3) := by decide +kernel
theorem dX8_loadWord_66 : decode cX8_loadWord 66 = .ok (.invokevirtual 158, 3) := by decide +kernel
theorem dX8_loadWord_69 : decode cX8_loadWord 69 = .ok (.ifCond .ne 14, 3) := by decide +kernel
theorem dX8_loadWord_72 : decode cX8_loadWord 72 = .ok (.new 198, 3) := by decide +kernel
theorem dX8_loadWord_75 : decode cX8_loadWord 75 = .ok (.dup, 1) := by decide +kernel
theorem dX8_loadWord_76 : decode cX8_loadWord 76 = .ok (.ldc_w 296, 3) := by decide +kernel
theorem dX8_loadWord_79 : decode cX8_loadWord 79 = .ok (.invokespecial 202, 3) := by decide +kernel
theorem dX8_loadWord_82 : decode cX8_loadWord 82 = .ok (.athrow, 1) := by decide +kernel
theorem dX8_loadWord_83 : decode cX8_loadWord 83 = .ok (.iinc 4 1, 3) := by decide +kernel
theorem dX8_loadWord_86 : decode cX8_loadWord 86 = .ok (.goto (-42), 3) := by decide +kernel
theorem dX8_loadWord_89 : decode cX8_loadWord 89 = .ok (.aload_n 0, 1) := by decide +kernel
theorem dX8_loadWord_90 : decode cX8_loadWord 90 = .ok (.getfield 19, 3) := by decide +kernel
theorem dX8_loadWord_93 : decode cX8_loadWord 93 = .ok (.iload_n 3, 1) := by decide +kernel
theorem dX8_loadWord_94 : decode cX8_loadWord 94 = .ok (.putfield 87, 3) := by decide +kernel
theorem dX8_loadWord_97 : decode cX8_loadWord 97 = .ok (.iconst 0, 1) := by decide +kernel
theorem dX8_loadWord_98 : decode cX8_loadWord 98 = .ok (.istore 4, 2) := by decide +kernel
