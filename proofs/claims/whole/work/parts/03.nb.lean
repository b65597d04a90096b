theorem dX0_init_0 : decode cX0_init 0 = .ok (.aload_n 0, 1) := by decide +kernel
theorem dX0_init_1 : decode cX0_init 1 = .ok (.invokespecial 3, 3) := by decide +kernel
theorem dX0_init_4 : decode cX0_init 4 = .ok (.aload_n 0, 1) := by decide +kernel
theorem dX0_init_5 : decode cX0_init 5 = .ok (.aload_n 1, 1) := by decide +kernel
theorem dX0_init_6 : decode cX0_init 6 = .ok (.putfield 9, 3) := by decide +kernel
theorem dX0_init_9 : decode cX0_init 9 = .ok (.aload_n 0, 1) := by decide +kernel
theorem dX0_init_10 : decode cX0_init 10 = .ok (.iload_n 2, 1) := by decide +kernel
theorem dX0_init_11 : decode cX0_init 11 = .ok (.iconst 1, 1) := by decide +kernel
theorem dX0_init_12 : decode cX0_init 12 = .ok (.if_icmp .ge 7, 3) := by decide +kernel
theorem dX0_init_15 : decode cX0_init 15 = .ok (.iconst 0, 1) := by decide +kernel
theorem dX0_init_16 : decode cX0_init 16 = .ok (.goto 7, 3) := by decide +kernel
theorem dX0_init_19 : decode cX0_init 19 = .ok (.iload_n 2, 1) := by decide +kernel
theorem dX0_init_20 : decode cX0_init 20 = .ok (.bipush 6, 2) := by decide +kernel
theorem dX0_init_22 : decode cX0_init 22 = .ok (.imul, 1) := by decide +kernel
theorem dX0_init_23 : decode cX0_init 23 = .ok (.newarray .long, 2) := by decide +kernel
theorem dX0_init_25 : decode cX0_init 25 = .ok (.putfield 15, 3) := by decide +kernel
theorem dX0_init_28 : decode cX0_init 28 = .ok (.aload_n 0, 1) := by decide +kernel
theorem dX0_init_29 : decode cX0_init 29 = .ok (.iconst 0, 1) := by decide +kernel
theorem dX0_init_30 : decode cX0_init 30 = .ok (.putfield 19, 3) := by decide +kernel
theorem dX0_init_33 : decode cX0_init 33 = .ok (.return_, 1) := by decide +kernel
set_option maxRecDepth 20000 in
theorem ggX0_fill_X2_pieces : GoodIn wsX0_fill wsX2_pieces := goodIn_r _ [12] (by decide +kernel) (by decide +kernel)
set_option maxRecDepth 20000 in
theorem gX0_fill_X2_pieces_u23X2 : GoodIn wsX0_fill (va_wsU RX0 23 RX2 "GrammarAmbiguity$Counts" ⟨"GrammarAmbiguity$Counts", "pieces", "(I)I"⟩ yX2_pieces wsX2_pieces) := goodIn_app (goodIn_of _ (by decide +kernel)) ggX0_fill_X2_pieces
set_option maxRecDepth 20000 in
theorem ggX0_fill_X4_pieces : GoodIn wsX0_fill wsX4_pieces := goodIn_r _ [16, 17, 83, 84, 85, 86, 94, 95] (by decide +kernel) (by decide +kernel)
set_option maxRecDepth 20000 in
theorem gX0_fill_X4_pieces_u23X4 : GoodIn wsX0_fill (va_wsU RX0 23 RX4 "GrammarAmbiguity$Counts" ⟨"GrammarAmbiguity$Counts", "pieces", "(I)I"⟩ yX4_pieces wsX4_pieces) := goodIn_app (goodIn_of _ (by decide +kernel)) ggX0_fill_X4_pieces
set_option maxRecDepth 20000 in
theorem ggX0_fill_X0_ofProduction : GoodIn wsX0_fill wsX0_ofProduction := goodIn_r _ [23, 2, 24, 25, 26, 27, 28, 29, 30, 31, 32, 33, 22, 34, 35, 36, 37, 38, 11, 39, 40, 41, 15, 42, 43, 44, 45, 46, 47, 48, 49, 50, 51, 52, 53, 54, 55, 56, 17, 57, 58, 59, 60, 61, 62, 63, 64, 65, 66, 67, 68, 69, 70, 71, 72, 80, 81, 82, 83, 84, 85, 86, 87, 88, 89, 90, 91, 92, 93, 94, 95] (by decide +kernel) (by decide +kernel)
set_option maxRecDepth 20000 in
theorem gX0_fill_X0_ofProduction_u35X2 : GoodIn wsX0_fill (va_wsU RX0 35 RX2 "GrammarAmbiguity$Counts" ⟨"GrammarAmbiguity$Counts", "ofProduction", "(IIII)J"⟩ yX0_ofProduction wsX0_ofProduction) := goodIn_app (goodIn_of _ (by decide +kernel)) ggX0_fill_X0_ofProduction
set_option maxRecDepth 20000 in
theorem gX0_fill_X0_ofProduction_u35X4 : GoodIn wsX0_fill (va_wsU RX0 35 RX4 "GrammarAmbiguity$Counts" ⟨"GrammarAmbiguity$Counts", "ofProduction", "(IIII)J"⟩ yX0_ofProduction wsX0_ofProduction) := goodIn_app (goodIn_of _ (by decide +kernel)) ggX0_fill_X0_ofProduction
set_option maxRecDepth 20000 in
theorem ggX0_fill_X0_put : GoodIn wsX0_fill wsX0_put := goodIn_r _ [78, 48, 57, 58, 59, 60, 11, 61, 62, 63, 15, 64, 80, 81, 82, 83, 84, 85, 86] (by decide +kernel) (by decide +kernel)
set_option maxRecDepth 20000 in
theorem gX0_fill_X0_put_u39X2 : GoodIn wsX0_fill (va_wsU RX0 39 RX2 "GrammarAmbiguity$Counts" ⟨"GrammarAmbiguity$Counts", "put", "(IIIJ)V"⟩ yX0_put wsX0_put) := goodIn_app (goodIn_of _ (by decide +kernel)) ggX0_fill_X0_put
set_option maxRecDepth 20000 in
theorem gX0_fill_X0_put_u39X4 : GoodIn wsX0_fill (va_wsU RX0 39 RX4 "GrammarAmbiguity$Counts" ⟨"GrammarAmbiguity$Counts", "put", "(IIIJ)V"⟩ yX0_put wsX0_put) := goodIn_app (goodIn_of _ (by decide +kernel)) ggX0_fill_X0_put
theorem dX0_fill_0 : decode cX0_fill 0 = .ok (.aload_n 0, 1) := by decide +kernel
theorem dX0_fill_1 : decode cX0_fill 1 = .ok (.getfield 19, 3) := by decide +kernel
theorem dX0_fill_4 : decode cX0_fill 4 = .ok (.iconst 1, 1) := by decide +kernel
theorem dX0_fill_5 : decode cX0_fill 5 = .ok (.iadd, 1) := by decide +kernel
theorem dX0_fill_6 : decode cX0_fill 6 = .ok (.istore_n 2, 1) := by decide +kernel
theorem dX0_fill_7 : decode cX0_fill 7 = .ok (.iload_n 2, 1) := by decide +kernel
theorem dX0_fill_8 : decode cX0_fill 8 = .ok (.iload_n 1, 1) := by decide +kernel
theorem dX0_fill_9 : decode cX0_fill 9 = .ok (.if_icmp .gt 102, 3) := by decide +kernel
theorem dX0_fill_12 : decode cX0_fill 12 = .ok (.aload_n 0, 1) := by decide +kernel
theorem dX0_fill_13 : decode cX0_fill 13 = .ok (.iload_n 2, 1) := by decide +kernel
theorem dX0_fill_14 : decode cX0_fill 14 = .ok (.invokevirtual 23, 3) := by decide +kernel
theorem dX0_fill_17 : decode cX0_fill 17 = .ok (.istore_n 3, 1) := by decide +kernel
theorem dX0_fill_18 : decode cX0_fill 18 = .ok (.iconst 0, 1) := by decide +kernel
theorem dX0_fill_19 : decode cX0_fill 19 = .ok (.istore 4, 2) := by decide +kernel
theorem dX0_fill_21 : decode cX0_fill 21 = .ok (.iload 4, 2) := by decide +kernel
theorem dX0_fill_23 : decode cX0_fill 23 = .ok (.iload_n 3, 1) := by decide +kernel
theorem dX0_fill_24 : decode cX0_fill 24 = .ok (.if_icmp .ge 81, 3) := by decide +kernel
theorem dX0_fill_27 : decode cX0_fill 27 = .ok (.iconst 0, 1) := by decide +kernel
theorem dX0_fill_28 : decode cX0_fill 28 = .ok (.istore 5, 2) := by decide +kernel
theorem dX0_fill_30 : decode cX0_fill 30 = .ok (.iload 5, 2) := by decide +kernel
theorem dX0_fill_32 : decode cX0_fill 32 = .ok (.aload_n 0, 1) := by decide +kernel
theorem dX0_fill_33 : decode cX0_fill 33 = .ok (.getfield 9, 3) := by decide +kernel
theorem dX0_fill_36 : decode cX0_fill 36 = .ok (.getfield 27, 3) := by decide +kernel
theorem dX0_fill_39 : decode cX0_fill 39 = .ok (.if_icmp .ge 60, 3) := by decide +kernel
theorem dX0_fill_42 : decode cX0_fill 42 = .ok (.lconst 0, 1) := by decide +kernel
theorem dX0_fill_43 : decode cX0_fill 43 = .ok (.lstore 6, 2) := by decide +kernel
theorem dX0_fill_45 : decode cX0_fill 45 = .ok (.iconst 0, 1) := by decide +kernel
theorem dX0_fill_46 : decode cX0_fill 46 = .ok (.istore 8, 2) := by decide +kernel
theorem dX0_fill_48 : decode cX0_fill 48 = .ok (.iload 8, 2) := by decide +kernel
theorem dX0_fill_50 : decode cX0_fill 50 = .ok (.aload_n 0, 1) := by decide +kernel
theorem dX0_fill_51 : decode cX0_fill 51 = .ok (.getfield 9, 3) := by decide +kernel
theorem dX0_fill_54 : decode cX0_fill 54 = .ok (.getfield 32, 3) := by decide +kernel
theorem dX0_fill_57 : decode cX0_fill 57 = .ok (.if_icmp .ge 25, 3) := by decide +kernel
theorem dX0_fill_60 : decode cX0_fill 60 = .ok (.lload 6, 2) := by decide +kernel
theorem dX0_fill_62 : decode cX0_fill 62 = .ok (.aload_n 0, 1) := by decide +kernel
theorem dX0_fill_63 : decode cX0_fill 63 = .ok (.iload 5, 2) := by decide +kernel
theorem dX0_fill_65 : decode cX0_fill 65 = .ok (.iload 8, 2) := by decide +kernel
theorem dX0_fill_67 : decode cX0_fill 67 = .ok (.iload_n 2, 1) := by decide +kernel
theorem dX0_fill_68 : decode cX0_fill 68 = .ok (.iload 4, 2) := by decide +kernel
theorem dX0_fill_70 : decode cX0_fill 70 = .ok (.invokevirtual 35, 3) := by decide +kernel
theorem dX0_fill_73 : decode cX0_fill 73 = .ok (.ladd, 1) := by decide +kernel
theorem dX0_fill_74 : decode cX0_fill 74 = .ok (.lstore 6, 2) := by decide +kernel
theorem dX0_fill_76 : decode cX0_fill 76 = .ok (.iinc 8 1, 3) := by decide +kernel
theorem dX0_fill_79 : decode cX0_fill 79 = .ok (.goto (-31), 3) := by decide +kernel
theorem dX0_fill_82 : decode cX0_fill 82 = .ok (.aload_n 0, 1) := by decide +kernel
theorem dX0_fill_83 : decode cX0_fill 83 = .ok (.iload 5, 2) := by decide +kernel
theorem dX0_fill_85 : decode cX0_fill 85 = .ok (.iload_n 2, 1) := by decide +kernel
theorem dX0_fill_86 : decode cX0_fill 86 = .ok (.iload 4, 2) := by decide +kernel
theorem dX0_fill_88 : decode cX0_fill 88 = .ok (.lload 6, 2) := by decide +kernel
theorem dX0_fill_90 : decode cX0_fill 90 = .ok (.invokevirtual 39, 3) := by decide +kernel
theorem dX0_fill_93 : decode cX0_fill 93 = .ok (.iinc 5 1, 3) := by decide +kernel
theorem dX0_fill_96 : decode cX0_fill 96 = .ok (.goto (-66), 3) := by decide +kernel
theorem dX0_fill_99 : decode cX0_fill 99 = .ok (.iinc 4 1, 3) := by decide +kernel
theorem dX0_fill_102 : decode cX0_fill 102 = .ok (.goto (-81), 3) := by decide +kernel
theorem dX0_fill_105 : decode cX0_fill 105 = .ok (.iinc 2 1, 3) := by decide +kernel
theorem dX0_fill_108 : decode cX0_fill 108 = .ok (.goto (-101), 3) := by decide +kernel
theorem dX0_fill_111 : decode cX0_fill 111 = .ok (.aload_n 0, 1) := by decide +kernel
theorem dX0_fill_112 : decode cX0_fill 112 = .ok (.aload_n 0, 1) := by decide +kernel
theorem dX0_fill_113 : decode cX0_fill 113 = .ok (.getfield 19, 3) := by decide +kernel
theorem dX0_fill_116 : decode cX0_fill 116 = .ok (.iload_n 1, 1) := by decide +kernel
theorem dX0_fill_117 : decode cX0_fill 117 = .ok (.invokestatic 43, 3) := by decide +kernel
theorem dX0_fill_120 : decode cX0_fill 120 = .ok (.putfield 19, 3) := by decide +kernel
theorem dX0_fill_123 : decode cX0_fill 123 = .ok (.return_, 1) := by decide +kernel
theorem dX0_forget_0 : decode cX0_forget 0 = .ok (.aload_n 0, 1) := by decide +kernel
theorem dX0_forget_1 : decode cX0_forget 1 = .ok (.iconst 0, 1) := by decide +kernel
theorem dX0_forget_2 : decode cX0_forget 2 = .ok (.putfield 19, 3) := by decide +kernel
theorem dX0_forget_5 : decode cX0_forget 5 = .ok (.return_, 1) := by decide +kernel
set_option maxRecDepth 20000 in
theorem ggX0_put_X2_place : GoodIn wsX0_put wsX2_place := goodIn_r _ [7] (by decide +kernel) (by decide +kernel)
set_option maxRecDepth 20000 in
theorem gX0_put_X2_place_u49X2 : GoodIn wsX0_put (va_wsU RX0 49 RX2 "GrammarAmbiguity$Counts" ⟨"GrammarAmbiguity$Counts", "place", "(II)I"⟩ yX2_place wsX2_place) := goodIn_app (goodIn_of _ (by decide +kernel)) ggX0_put_X2_place
set_option maxRecDepth 20000 in
theorem ggX0_put_X4_place : GoodIn wsX0_put wsX4_place := goodIn_r _ [11] (by decide +kernel) (by decide +kernel)
set_option maxRecDepth 20000 in
theorem gX0_put_X4_place_u49X4 : GoodIn wsX0_put (va_wsU RX0 49 RX4 "GrammarAmbiguity$Counts" ⟨"GrammarAmbiguity$Counts", "place", "(II)I"⟩ yX4_place wsX4_place) := goodIn_app (goodIn_of _ (by decide +kernel)) ggX0_put_X4_place
theorem dX0_put_0 : decode cX0_put 0 = .ok (.aload_n 0, 1) := by decide +kernel
theorem dX0_put_1 : decode cX0_put 1 = .ok (.iload_n 2, 1) := by decide +kernel
theorem dX0_put_2 : decode cX0_put 2 = .ok (.iload_n 3, 1) := by decide +kernel
theorem dX0_put_3 : decode cX0_put 3 = .ok (.invokevirtual 49, 3) := by decide +kernel
theorem dX0_put_6 : decode cX0_put 6 = .ok (.bipush 6, 2) := by decide +kernel
theorem dX0_put_8 : decode cX0_put 8 = .ok (.imul, 1) := by decide +kernel
theorem dX0_put_9 : decode cX0_put 9 = .ok (.iload_n 1, 1) := by decide +kernel
theorem dX0_put_10 : decode cX0_put 10 = .ok (.iadd, 1) := by decide +kernel
theorem dX0_put_11 : decode cX0_put 11 = .ok (.istore 6, 2) := by decide +kernel
theorem dX0_put_13 : decode cX0_put 13 = .ok (.iload 6, 2) := by decide +kernel
theorem dX0_put_15 : decode cX0_put 15 = .ok (.ifCond .lt 22, 3) := by decide +kernel
theorem dX0_put_18 : decode cX0_put 18 = .ok (.iload 6, 2) := by decide +kernel
theorem dX0_put_20 : decode cX0_put 20 = .ok (.aload_n 0, 1) := by decide +kernel
theorem dX0_put_21 : decode cX0_put 21 = .ok (.getfield 15, 3) := by decide +kernel
theorem dX0_put_24 : decode cX0_put 24 = .ok (.arraylength, 1) := by decide +kernel
theorem dX0_put_25 : decode cX0_put 25 = .ok (.if_icmp .ge 12, 3) := by decide +kernel
theorem dX0_put_28 : decode cX0_put 28 = .ok (.aload_n 0, 1) := by decide +kernel
theorem dX0_put_29 : decode cX0_put 29 = .ok (.getfield 15, 3) := by decide +kernel
theorem dX0_put_32 : decode cX0_put 32 = .ok (.iload 6, 2) := by decide +kernel
theorem dX0_put_34 : decode cX0_put 34 = .ok (.lload 4, 2) := by decide +kernel
theorem dX0_put_36 : decode cX0_put 36 = .ok (.lastore, 1) := by decide +kernel
theorem dX0_put_37 : decode cX0_put 37 = .ok (.return_, 1) := by decide +kernel
set_option maxRecDepth 20000 in
theorem ggX0_count_X2_fits : GoodIn wsX0_count wsX2_fits := goodIn_r _ [7] (by decide +kernel) (by decide +kernel)
set_option maxRecDepth 20000 in
theorem gX0_count_X2_fits_u52X2 : GoodIn wsX0_count (va_wsU RX0 52 RX2 "GrammarAmbiguity$Counts" ⟨"GrammarAmbiguity$Counts", "fits", "(II)Z"⟩ yX2_fits wsX2_fits) := goodIn_app (goodIn_of _ (by decide +kernel)) ggX0_count_X2_fits
set_option maxRecDepth 20000 in
theorem ggX0_count_X4_fits : GoodIn wsX0_count wsX4_fits := goodIn_r _ [11, 12, 24, 25, 26, 27, 28, 29] (by decide +kernel) (by decide +kernel)
set_option maxRecDepth 20000 in
theorem gX0_count_X4_fits_u52X4 : GoodIn wsX0_count (va_wsU RX0 52 RX4 "GrammarAmbiguity$Counts" ⟨"GrammarAmbiguity$Counts", "fits", "(II)Z"⟩ yX4_fits wsX4_fits) := goodIn_app (goodIn_of _ (by decide +kernel)) ggX0_count_X4_fits
set_option maxRecDepth 20000 in
theorem ggX0_count_X2_place : GoodIn wsX0_count wsX2_place := goodIn_r _ [17] (by decide +kernel) (by decide +kernel)
set_option maxRecDepth 20000 in
theorem gX0_count_X2_place_u49X2 : GoodIn wsX0_count (va_wsU RX0 49 RX2 "GrammarAmbiguity$Counts" ⟨"GrammarAmbiguity$Counts", "place", "(II)I"⟩ yX2_place wsX2_place) := goodIn_app (goodIn_of _ (by decide +kernel)) ggX0_count_X2_place
set_option maxRecDepth 20000 in
theorem ggX0_count_X4_place : GoodIn wsX0_count wsX4_place := goodIn_r _ [20] (by decide +kernel) (by decide +kernel)
set_option maxRecDepth 20000 in
theorem gX0_count_X4_place_u49X4 : GoodIn wsX0_count (va_wsU RX0 49 RX4 "GrammarAmbiguity$Counts" ⟨"GrammarAmbiguity$Counts", "place", "(II)I"⟩ yX4_place wsX4_place) := goodIn_app (goodIn_of _ (by decide +kernel)) ggX0_count_X4_place
theorem dX0_count_0 : decode cX0_count 0 = .ok (.iload_n 1, 1) := by decide +kernel
theorem dX0_count_1 : decode cX0_count 1 = .ok (.iconst (-1), 1) := by decide +kernel
theorem dX0_count_2 : decode cX0_count 2 = .ok (.if_icmp .ne 13, 3) := by decide +kernel
theorem dX0_count_5 : decode cX0_count 5 = .ok (.iload_n 2, 1) := by decide +kernel
theorem dX0_count_6 : decode cX0_count 6 = .ok (.ifCond .ne 7, 3) := by decide +kernel
theorem dX0_count_9 : decode cX0_count 9 = .ok (.lconst 1, 1) := by decide +kernel
theorem dX0_count_10 : decode cX0_count 10 = .ok (.goto 4, 3) := by decide +kernel
theorem dX0_count_13 : decode cX0_count 13 = .ok (.lconst 0, 1) := by decide +kernel
theorem dX0_count_14 : decode cX0_count 14 = .ok (.lreturn, 1) := by decide +kernel
theorem dX0_count_15 : decode cX0_count 15 = .ok (.iload_n 2, 1) := by decide +kernel
theorem dX0_count_16 : decode cX0_count 16 = .ok (.iconst 1, 1) := by decide +kernel
theorem dX0_count_17 : decode cX0_count 17 = .ok (.if_icmp .ge 5, 3) := by decide +kernel
theorem dX0_count_20 : decode cX0_count 20 = .ok (.lconst 0, 1) := by decide +kernel
theorem dX0_count_21 : decode cX0_count 21 = .ok (.lreturn, 1) := by decide +kernel
theorem dX0_count_22 : decode cX0_count 22 = .ok (.iload_n 1, 1) := by decide +kernel
theorem dX0_count_23 : decode cX0_count 23 = .ok (.bipush 10, 2) := by decide +kernel
theorem dX0_count_25 : decode cX0_count 25 = .ok (.if_icmp .lt 26, 3) := by decide +kernel
theorem dX0_count_28 : decode cX0_count 28 = .ok (.iload_n 2, 1) := by decide +kernel
theorem dX0_count_29 : decode cX0_count 29 = .ok (.iconst 1, 1) := by decide +kernel
theorem dX0_count_30 : decode cX0_count 30 = .ok (.if_icmp .ne 19, 3) := by decide +kernel
theorem dX0_count_33 : decode cX0_count 33 = .ok (.aload_n 0, 1) := by decide +kernel
theorem dX0_count_34 : decode cX0_count 34 = .ok (.iload_n 3, 1) := by decide +kernel
theorem dX0_count_35 : decode cX0_count 35 = .ok (.iload_n 1, 1) := by decide +kernel
theorem dX0_count_36 : decode cX0_count 36 = .ok (.bipush 10, 2) := by decide +kernel
theorem dX0_count_38 : decode cX0_count 38 = .ok (.isub, 1) := by decide +kernel
theorem dX0_count_39 : decode cX0_count 39 = .ok (.invokevirtual 52, 3) := by decide +kernel
theorem dX0_count_42 : decode cX0_count 42 = .ok (.ifCond .eq 7, 3) := by decide +kernel
theorem dX0_count_45 : decode cX0_count 45 = .ok (.lconst 1, 1) := by decide +kernel
theorem dX0_count_46 : decode cX0_count 46 = .ok (.goto 4, 3) := by decide +kernel
theorem dX0_count_49 : decode cX0_count 49 = .ok (.lconst 0, 1) := by decide +kernel
theorem dX0_count_50 : decode cX0_count 50 = .ok (.lreturn, 1) := by decide +kernel
theorem dX0_count_51 : decode cX0_count 51 = .ok (.aload_n 0, 1) := by decide +kernel
theorem dX0_count_52 : decode cX0_count 52 = .ok (.iload_n 2, 1) := by decide +kernel
theorem dX0_count_53 : decode cX0_count 53 = .ok (.iload_n 3, 1) := by decide +kernel
theorem dX0_count_54 : decode cX0_count 54 = .ok (.invokevirtual 49, 3) := by decide +kernel
theorem dX0_count_57 : decode cX0_count 57 = .ok (.bipush 6, 2) := by decide +kernel
theorem dX0_count_59 : decode cX0_count 59 = .ok (.imul, 1) := by decide +kernel
theorem dX0_count_60 : decode cX0_count 60 = .ok (.iload_n 1, 1) := by decide +kernel
theorem dX0_count_61 : decode cX0_count 61 = .ok (.iadd, 1) := by decide +kernel
theorem dX0_count_62 : decode cX0_count 62 = .ok (.istore 4, 2) := by decide +kernel
theorem dX0_count_64 : decode cX0_count 64 = .ok (.iload 4, 2) := by decide +kernel
theorem dX0_count_66 : decode cX0_count 66 = .ok (.ifCond .lt 23, 3) := by decide +kernel
theorem dX0_count_69 : decode cX0_count 69 = .ok (.iload 4, 2) := by decide +kernel
theorem dX0_count_71 : decode cX0_count 71 = .ok (.aload_n 0, 1) := by decide +kernel
theorem dX0_count_72 : decode cX0_count 72 = .ok (.getfield 15, 3) := by decide +kernel
theorem dX0_count_75 : decode cX0_count 75 = .ok (.arraylength, 1) := by decide +kernel
theorem dX0_count_76 : decode cX0_count 76 = .ok (.if_icmp .ge 13, 3) := by decide +kernel
theorem dX0_count_79 : decode cX0_count 79 = .ok (.aload_n 0, 1) := by decide +kernel
theorem dX0_count_80 : decode cX0_count 80 = .ok (.getfield 15, 3) := by decide +kernel
theorem dX0_count_83 : decode cX0_count 83 = .ok (.iload 4, 2) := by decide +kernel
theorem dX0_count_85 : decode cX0_count 85 = .ok (.laload, 1) := by decide +kernel
theorem dX0_count_86 : decode cX0_count 86 = .ok (.goto 4, 3) := by decide +kernel
theorem dX0_count_89 : decode cX0_count 89 = .ok (.lconst 0, 1) := by decide +kernel
theorem dX0_count_90 : decode cX0_count 90 = .ok (.lreturn, 1) := by decide +kernel
set_option maxRecDepth 20000 in
theorem ggX0_ofProduction_X1_symbol : GoodIn wsX0_ofProduction wsX1_symbol := goodIn_r _ [5, 6, 7, 62, 63, 64, 65, 66, 67, 68] (by decide +kernel) (by decide +kernel)
set_option maxRecDepth 20000 in
theorem gX0_ofProduction_X1_symbol_n56 : GoodIn wsX0_ofProduction (wsX1_symbol) := ggX0_ofProduction_X1_symbol
set_option maxRecDepth 20000 in
theorem ggX0_ofProduction_X0_ofFirst : GoodIn wsX0_ofProduction wsX0_ofFirst := goodIn_r _ [13, 1, 2, 3, 4, 5, 6, 7, 14, 15, 16, 17, 18, 19, 20, 21, 22, 23, 24, 25, 26, 27, 12, 28, 29, 30, 31, 32, 33, 34, 35, 36, 37, 38, 39, 40, 41, 42, 43, 44, 45, 46, 47, 48, 49, 50, 51, 52, 53, 55, 56, 57, 58, 59, 60, 61, 62, 63, 64, 65, 66, 67, 68, 69, 70] (by decide +kernel) (by decide +kernel)
set_option maxRecDepth 20000 in
theorem gX0_ofProduction_X0_ofFirst_u59X2 : GoodIn wsX0_ofProduction (va_wsU RX0 59 RX2 "GrammarAmbiguity$Counts" ⟨"GrammarAmbiguity$Counts", "ofFirst", "(IIII)J"⟩ yX0_ofFirst wsX0_ofFirst) := goodIn_app (goodIn_of _ (by decide +kernel)) ggX0_ofProduction_X0_ofFirst
set_option maxRecDepth 20000 in
theorem gX0_ofProduction_X0_ofFirst_u59X4 : GoodIn wsX0_ofProduction (va_wsU RX0 59 RX4 "GrammarAmbiguity$Counts" ⟨"GrammarAmbiguity$Counts", "ofFirst", "(IIII)J"⟩ yX0_ofFirst wsX0_ofFirst) := goodIn_app (goodIn_of _ (by decide +kernel)) ggX0_ofProduction_X0_ofFirst
theorem dX0_ofProduction_0 : decode cX0_ofProduction 0 = .ok (.aload_n 0, 1) := by decide +kernel
theorem dX0_ofProduction_1 : decode cX0_ofProduction 1 = .ok (.getfield 9, 3) := by decide +kernel
theorem dX0_ofProduction_4 : decode cX0_ofProduction 4 = .ok (.iload_n 2, 1) := by decide +kernel
theorem dX0_ofProduction_5 : decode cX0_ofProduction 5 = .ok (.iconst 0, 1) := by decide +kernel
theorem dX0_ofProduction_6 : decode cX0_ofProduction 6 = .ok (.invokevirtual 56, 3) := by decide +kernel
theorem dX0_ofProduction_9 : decode cX0_ofProduction 9 = .ok (.iload_n 1, 1) := by decide +kernel
theorem dX0_ofProduction_10 : decode cX0_ofProduction 10 = .ok (.if_icmp .eq 5, 3) := by decide +kernel
theorem dX0_ofProduction_13 : decode cX0_ofProduction 13 = .ok (.lconst 0, 1) := by decide +kernel
theorem dX0_ofProduction_14 : decode cX0_ofProduction 14 = .ok (.lreturn, 1) := by decide +kernel
theorem dX0_ofProduction_15 : decode cX0_ofProduction 15 = .ok (.lconst 0, 1) := by decide +kernel
theorem dX0_ofProduction_16 : decode cX0_ofProduction 16 = .ok (.lstore 5, 2) := by decide +kernel
theorem dX0_ofProduction_18 : decode cX0_ofProduction 18 = .ok (.iconst 1, 1) := by decide +kernel
theorem dX0_ofProduction_19 : decode cX0_ofProduction 19 = .ok (.istore 7, 2) := by decide +kernel
theorem dX0_ofProduction_21 : decode cX0_ofProduction 21 = .ok (.iload 7, 2) := by decide +kernel
theorem dX0_ofProduction_23 : decode cX0_ofProduction 23 = .ok (.iload_n 3, 1) := by decide +kernel
theorem dX0_ofProduction_24 : decode cX0_ofProduction 24 = .ok (.if_icmp .gt 24, 3) := by decide +kernel
theorem dX0_ofProduction_27 : decode cX0_ofProduction 27 = .ok (.lload 5, 2) := by decide +kernel
theorem dX0_ofProduction_29 : decode cX0_ofProduction 29 = .ok (.aload_n 0, 1) := by decide +kernel
theorem dX0_ofProduction_30 : decode cX0_ofProduction 30 = .ok (.iload_n 2, 1) := by decide +kernel
theorem dX0_ofProduction_31 : decode cX0_ofProduction 31 = .ok (.iload_n 3, 1) := by decide +kernel
theorem dX0_ofProduction_32 : decode cX0_ofProduction 32 = .ok (.iload 4, 2) := by decide +kernel
theorem dX0_ofProduction_34 : decode cX0_ofProduction 34 = .ok (.iload 7, 2) := by decide +kernel
theorem dX0_ofProduction_36 : decode cX0_ofProduction 36 = .ok (.invokevirtual 59, 3) := by decide +kernel
theorem dX0_ofProduction_39 : decode cX0_ofProduction 39 = .ok (.ladd, 1) := by decide +kernel
theorem dX0_ofProduction_40 : decode cX0_ofProduction 40 = .ok (.lstore 5, 2) := by decide +kernel
theorem dX0_ofProduction_42 : decode cX0_ofProduction 42 = .ok (.iinc 7 1, 3) := by decide +kernel
theorem dX0_ofProduction_45 : decode cX0_ofProduction 45 = .ok (.goto (-24), 3) := by decide +kernel
theorem dX0_ofProduction_48 : decode cX0_ofProduction 48 = .ok (.lload 5, 2) := by decide +kernel
theorem dX0_ofProduction_50 : decode cX0_ofProduction 50 = .ok (.lreturn, 1) := by decide +kernel
set_option maxRecDepth 20000 in
theorem ggX0_ofFirst_X1_symbol : GoodIn wsX0_ofFirst wsX1_symbol := goodIn_r _ [5, 6, 7, 56, 57, 58, 59, 60, 61, 62] (by decide +kernel) (by decide +kernel)
set_option maxRecDepth 20000 in
theorem gX0_ofFirst_X1_symbol_n56 : GoodIn wsX0_ofFirst (wsX1_symbol) := ggX0_ofFirst_X1_symbol
set_option maxRecDepth 20000 in
theorem ggX0_ofFirst_X2_part : GoodIn wsX0_ofFirst wsX2_part := goodIn_r _ [13] (by decide +kernel) (by decide +kernel)
set_option maxRecDepth 20000 in
theorem gX0_ofFirst_X2_part_u62X2 : GoodIn wsX0_ofFirst (va_wsU RX0 62 RX2 "GrammarAmbiguity$Counts" ⟨"GrammarAmbiguity$Counts", "part", "(II)I"⟩ yX2_part wsX2_part) := goodIn_app (goodIn_of _ (by decide +kernel)) ggX0_ofFirst_X2_part
set_option maxRecDepth 20000 in
theorem ggX0_ofFirst_X4_part : GoodIn wsX0_ofFirst wsX4_part := goodIn_r _ [17] (by decide +kernel) (by decide +kernel)
set_option maxRecDepth 20000 in
theorem gX0_ofFirst_X4_part_u62X4 : GoodIn wsX0_ofFirst (va_wsU RX0 62 RX4 "GrammarAmbiguity$Counts" ⟨"GrammarAmbiguity$Counts", "part", "(II)I"⟩ yX4_part wsX4_part) := goodIn_app (goodIn_of _ (by decide +kernel)) ggX0_ofFirst_X4_part
set_option maxRecDepth 20000 in
theorem ggX0_ofFirst_X0_count : GoodIn wsX0_ofFirst wsX0_count := goodIn_r _ [23, 24, 25, 26, 27, 28, 12, 29, 30, 31, 16, 32, 33, 34, 35, 36, 37, 38, 39, 40, 41, 49, 50, 51, 52, 53, 54, 55, 63, 64] (by decide +kernel) (by decide +kernel)
set_option maxRecDepth 20000 in
theorem gX0_ofFirst_X0_count_u65X2 : GoodIn wsX0_ofFirst (va_wsU RX0 65 RX2 "GrammarAmbiguity$Counts" ⟨"GrammarAmbiguity$Counts", "count", "(III)J"⟩ yX0_count wsX0_count) := goodIn_app (goodIn_of _ (by decide +kernel)) ggX0_ofFirst_X0_count
set_option maxRecDepth 20000 in
theorem gX0_ofFirst_X0_count_u65X4 : GoodIn wsX0_ofFirst (va_wsU RX0 65 RX4 "GrammarAmbiguity$Counts" ⟨"GrammarAmbiguity$Counts", "count", "(III)J"⟩ yX0_count wsX0_count) := goodIn_app (goodIn_of _ (by decide +kernel)) ggX0_ofFirst_X0_count
set_option maxRecDepth 20000 in
theorem ggX0_ofFirst_X0_tailsOf : GoodIn wsX0_ofFirst wsX0_tailsOf := goodIn_r _ [47, 1, 2, 3, 4, 5, 6, 7, 8, 9, 10, 11, 12, 13, 14, 15, 16, 17, 18, 19, 20, 21, 22, 23, 24, 25, 26, 27, 28, 29, 30, 31, 32, 33, 34, 35, 36, 37, 38, 39, 40, 41, 42, 49, 50, 51, 52, 53, 54, 55, 56, 57, 58, 59, 60, 61, 62, 63, 64] (by decide +kernel) (by decide +kernel)
set_option maxRecDepth 20000 in
theorem gX0_ofFirst_X0_tailsOf_u69X2 : GoodIn wsX0_ofFirst (va_wsU RX0 69 RX2 "GrammarAmbiguity$Counts" ⟨"GrammarAmbiguity$Counts", "tailsOf", "(IIIII)J"⟩ yX0_tailsOf wsX0_tailsOf) := goodIn_app (goodIn_of _ (by decide +kernel)) ggX0_ofFirst_X0_tailsOf
set_option maxRecDepth 20000 in
theorem gX0_ofFirst_X0_tailsOf_u69X4 : GoodIn wsX0_ofFirst (va_wsU RX0 69 RX4 "GrammarAmbiguity$Counts" ⟨"GrammarAmbiguity$Counts", "tailsOf", "(IIIII)J"⟩ yX0_tailsOf wsX0_tailsOf) := goodIn_app (goodIn_of _ (by decide +kernel)) ggX0_ofFirst_X0_tailsOf
theorem dX0_ofFirst_0 : decode cX0_ofFirst 0 = .ok (.iload_n 2, 1) := by decide +kernel
theorem dX0_ofFirst_1 : decode cX0_ofFirst 1 = .ok (.iload 4, 2) := by decide +kernel
theorem dX0_ofFirst_3 : decode cX0_ofFirst 3 = .ok (.isub, 1) := by decide +kernel
theorem dX0_ofFirst_4 : decode cX0_ofFirst 4 = .ok (.istore 5, 2) := by decide +kernel
theorem dX0_ofFirst_6 : decode cX0_ofFirst 6 = .ok (.aload_n 0, 1) := by decide +kernel
theorem dX0_ofFirst_7 : decode cX0_ofFirst 7 = .ok (.getfield 9, 3) := by decide +kernel
theorem dX0_ofFirst_10 : decode cX0_ofFirst 10 = .ok (.iload_n 1, 1) := by decide +kernel
theorem dX0_ofFirst_11 : decode cX0_ofFirst 11 = .ok (.iconst 2, 1) := by decide +kernel
theorem dX0_ofFirst_12 : decode cX0_ofFirst 12 = .ok (.invokevirtual 56, 3) := by decide +kernel
theorem dX0_ofFirst_15 : decode cX0_ofFirst 15 = .ok (.iconst (-1), 1) := by decide +kernel
theorem dX0_ofFirst_16 : decode cX0_ofFirst 16 = .ok (.if_icmp .ne 7, 3) := by decide +kernel
theorem dX0_ofFirst_19 : decode cX0_ofFirst 19 = .ok (.iconst 1, 1) := by decide +kernel
theorem dX0_ofFirst_20 : decode cX0_ofFirst 20 = .ok (.goto 4, 3) := by decide +kernel
theorem dX0_ofFirst_23 : decode cX0_ofFirst 23 = .ok (.iconst 0, 1) := by decide +kernel
theorem dX0_ofFirst_24 : decode cX0_ofFirst 24 = .ok (.istore 6, 2) := by decide +kernel
theorem dX0_ofFirst_26 : decode cX0_ofFirst 26 = .ok (.iload 6, 2) := by decide +kernel
theorem dX0_ofFirst_28 : decode cX0_ofFirst 28 = .ok (.iload 5, 2) := by decide +kernel
theorem dX0_ofFirst_30 : decode cX0_ofFirst 30 = .ok (.ifCond .ne 7, 3) := by decide +kernel
theorem dX0_ofFirst_33 : decode cX0_ofFirst 33 = .ok (.iconst 1, 1) := by decide +kernel
theorem dX0_ofFirst_34 : decode cX0_ofFirst 34 = .ok (.goto 4, 3) := by decide +kernel
theorem dX0_ofFirst_37 : decode cX0_ofFirst 37 = .ok (.iconst 0, 1) := by decide +kernel
theorem dX0_ofFirst_38 : decode cX0_ofFirst 38 = .ok (.if_icmp .eq 5, 3) := by decide +kernel
theorem dX0_ofFirst_41 : decode cX0_ofFirst 41 = .ok (.lconst 0, 1) := by decide +kernel
theorem dX0_ofFirst_42 : decode cX0_ofFirst 42 = .ok (.lreturn, 1) := by decide +kernel
theorem dX0_ofFirst_43 : decode cX0_ofFirst 43 = .ok (.aload_n 0, 1) := by decide +kernel
theorem dX0_ofFirst_44 : decode cX0_ofFirst 44 = .ok (.aload_n 0, 1) := by decide +kernel
theorem dX0_ofFirst_45 : decode cX0_ofFirst 45 = .ok (.getfield 9, 3) := by decide +kernel
theorem dX0_ofFirst_48 : decode cX0_ofFirst 48 = .ok (.iload_n 1, 1) := by decide +kernel
theorem dX0_ofFirst_49 : decode cX0_ofFirst 49 = .ok (.iconst 1, 1) := by decide +kernel
theorem dX0_ofFirst_50 : decode cX0_ofFirst 50 = .ok (.invokevirtual 56, 3) := by decide +kernel
theorem dX0_ofFirst_53 : decode cX0_ofFirst 53 = .ok (.iload 4, 2) := by decide +kernel
theorem dX0_ofFirst_55 : decode cX0_ofFirst 55 = .ok (.aload_n 0, 1) := by decide +kernel
theorem dX0_ofFirst_56 : decode cX0_ofFirst 56 = .ok (.iload_n 3, 1) := by decide +kernel
theorem dX0_ofFirst_57 : decode cX0_ofFirst 57 = .ok (.iconst 0, 1) := by decide +kernel
theorem dX0_ofFirst_58 : decode cX0_ofFirst 58 = .ok (.invokevirtual 62, 3) := by decide +kernel
theorem dX0_ofFirst_61 : decode cX0_ofFirst 61 = .ok (.invokevirtual 65, 3) := by decide +kernel
theorem dX0_ofFirst_64 : decode cX0_ofFirst 64 = .ok (.lstore 7, 2) := by decide +kernel
theorem dX0_ofFirst_66 : decode cX0_ofFirst 66 = .ok (.lload 7, 2) := by decide +kernel
theorem dX0_ofFirst_68 : decode cX0_ofFirst 68 = .ok (.lconst 0, 1) := by decide +kernel
theorem dX0_ofFirst_69 : decode cX0_ofFirst 69 = .ok (.lcmp, 1) := by decide +kernel
theorem dX0_ofFirst_70 : decode cX0_ofFirst 70 = .ok (.ifCond .ne 5, 3) := by decide +kernel
theorem dX0_ofFirst_73 : decode cX0_ofFirst 73 = .ok (.lconst 0, 1) := by decide +kernel
theorem dX0_ofFirst_74 : decode cX0_ofFirst 74 = .ok (.lreturn, 1) := by decide +kernel
theorem dX0_ofFirst_75 : decode cX0_ofFirst 75 = .ok (.aload_n 0, 1) := by decide +kernel
theorem dX0_ofFirst_76 : decode cX0_ofFirst 76 = .ok (.getfield 9, 3) := by decide +kernel
theorem dX0_ofFirst_79 : decode cX0_ofFirst 79 = .ok (.iload_n 1, 1) := by decide +kernel
theorem dX0_ofFirst_80 : decode cX0_ofFirst 80 = .ok (.iconst 3, 1) := by decide +kernel
theorem dX0_ofFirst_81 : decode cX0_ofFirst 81 = .ok (.invokevirtual 56, 3) := by decide +kernel
theorem dX0_ofFirst_84 : decode cX0_ofFirst 84 = .ok (.iconst (-1), 1) := by decide +kernel
theorem dX0_ofFirst_85 : decode cX0_ofFirst 85 = .ok (.if_icmp .eq 7, 3) := by decide +kernel
theorem dX0_ofFirst_88 : decode cX0_ofFirst 88 = .ok (.iconst 1, 1) := by decide +kernel
theorem dX0_ofFirst_89 : decode cX0_ofFirst 89 = .ok (.goto 4, 3) := by decide +kernel
theorem dX0_ofFirst_92 : decode cX0_ofFirst 92 = .ok (.iconst 0, 1) := by decide +kernel
theorem dX0_ofFirst_93 : decode cX0_ofFirst 93 = .ok (.istore 9, 2) := by decide +kernel
theorem dX0_ofFirst_95 : decode cX0_ofFirst 95 = .ok (.iload 9, 2) := by decide +kernel
theorem dX0_ofFirst_97 : decode cX0_ofFirst 97 = .ok (.ifCond .eq 10, 3) := by decide +kernel
theorem dX0_ofFirst_100 : decode cX0_ofFirst 100 = .ok (.iload 5, 2) := by decide +kernel
theorem dX0_ofFirst_102 : decode cX0_ofFirst 102 = .ok (.iconst 1, 1) := by decide +kernel
theorem dX0_ofFirst_103 : decode cX0_ofFirst 103 = .ok (.isub, 1) := by decide +kernel
theorem dX0_ofFirst_104 : decode cX0_ofFirst 104 = .ok (.goto 5, 3) := by decide +kernel
theorem dX0_ofFirst_107 : decode cX0_ofFirst 107 = .ok (.iload 5, 2) := by decide +kernel
theorem dX0_ofFirst_109 : decode cX0_ofFirst 109 = .ok (.istore 10, 2) := by decide +kernel
theorem dX0_ofFirst_111 : decode cX0_ofFirst 111 = .ok (.lconst 0, 1) := by decide +kernel
theorem dX0_ofFirst_112 : decode cX0_ofFirst 112 = .ok (.lstore 11, 2) := by decide +kernel
theorem dX0_ofFirst_114 : decode cX0_ofFirst 114 = .ok (.iload 9, 2) := by decide +kernel
theorem dX0_ofFirst_116 : decode cX0_ofFirst 116 = .ok (.ifCond .eq 7, 3) := by decide +kernel
theorem dX0_ofFirst_119 : decode cX0_ofFirst 119 = .ok (.iconst 1, 1) := by decide +kernel
theorem dX0_ofFirst_120 : decode cX0_ofFirst 120 = .ok (.goto 5, 3) := by decide +kernel
theorem dX0_ofFirst_123 : decode cX0_ofFirst 123 = .ok (.iload 5, 2) := by decide +kernel
theorem dX0_ofFirst_125 : decode cX0_ofFirst 125 = .ok (.istore 13, 2) := by decide +kernel
theorem dX0_ofFirst_127 : decode cX0_ofFirst 127 = .ok (.iload 13, 2) := by decide +kernel
theorem dX0_ofFirst_129 : decode cX0_ofFirst 129 = .ok (.iload 10, 2) := by decide +kernel
theorem dX0_ofFirst_131 : decode cX0_ofFirst 131 = .ok (.if_icmp .gt 25, 3) := by decide +kernel
theorem dX0_ofFirst_134 : decode cX0_ofFirst 134 = .ok (.lload 11, 2) := by decide +kernel
theorem dX0_ofFirst_136 : decode cX0_ofFirst 136 = .ok (.aload_n 0, 1) := by decide +kernel
theorem dX0_ofFirst_137 : decode cX0_ofFirst 137 = .ok (.iload_n 1, 1) := by decide +kernel
theorem dX0_ofFirst_138 : decode cX0_ofFirst 138 = .ok (.iload_n 2, 1) := by decide +kernel
theorem dX0_ofFirst_139 : decode cX0_ofFirst 139 = .ok (.iload_n 3, 1) := by decide +kernel
theorem dX0_ofFirst_140 : decode cX0_ofFirst 140 = .ok (.iload 4, 2) := by decide +kernel
theorem dX0_ofFirst_142 : decode cX0_ofFirst 142 = .ok (.iload 13, 2) := by decide +kernel
theorem dX0_ofFirst_144 : decode cX0_ofFirst 144 = .ok (.invokevirtual 69, 3) := by decide +kernel
theorem dX0_ofFirst_147 : decode cX0_ofFirst 147 = .ok (.ladd, 1) := by decide +kernel
theorem dX0_ofFirst_148 : decode cX0_ofFirst 148 = .ok (.lstore 11, 2) := by decide +kernel
theorem dX0_ofFirst_150 : decode cX0_ofFirst 150 = .ok (.iinc 13 1, 3) := by decide +kernel
theorem dX0_ofFirst_153 : decode cX0_ofFirst 153 = .ok (.goto (-26), 3) := by decide +kernel
theorem dX0_ofFirst_156 : decode cX0_ofFirst 156 = .ok (.lload 7, 2) := by decide +kernel
theorem dX0_ofFirst_158 : decode cX0_ofFirst 158 = .ok (.lload 11, 2) := by decide +kernel
theorem dX0_ofFirst_160 : decode cX0_ofFirst 160 = .ok (.lmul, 1) := by decide +kernel
theorem dX0_ofFirst_161 : decode cX0_ofFirst 161 = .ok (.lreturn, 1) := by decide +kernel
set_option maxRecDepth 20000 in
theorem ggX0_ofSecond_X1_symbol : GoodIn wsX0_ofSecond wsX1_symbol := goodIn_r _ [5, 6, 7, 56, 57, 58, 59, 60, 61, 62] (by decide +kernel) (by decide +kernel)
set_option maxRecDepth 20000 in
theorem gX0_ofSecond_X1_symbol_n56 : GoodIn wsX0_ofSecond (wsX1_symbol) := ggX0_ofSecond_X1_symbol
set_option maxRecDepth 20000 in
theorem ggX0_ofSecond_X2_part : GoodIn wsX0_ofSecond wsX2_part := goodIn_r _ [13] (by decide +kernel) (by decide +kernel)
set_option maxRecDepth 20000 in
theorem gX0_ofSecond_X2_part_u62X2 : GoodIn wsX0_ofSecond (va_wsU RX0 62 RX2 "GrammarAmbiguity$Counts" ⟨"GrammarAmbiguity$Counts", "part", "(II)I"⟩ yX2_part wsX2_part) := goodIn_app (goodIn_of _ (by decide +kernel)) ggX0_ofSecond_X2_part
set_option maxRecDepth 20000 in
theorem ggX0_ofSecond_X4_part : GoodIn wsX0_ofSecond wsX4_part := goodIn_r _ [17] (by decide +kernel) (by decide +kernel)
set_option maxRecDepth 20000 in
theorem gX0_ofSecond_X4_part_u62X4 : GoodIn wsX0_ofSecond (va_wsU RX0 62 RX4 "GrammarAmbiguity$Counts" ⟨"GrammarAmbiguity$Counts", "part", "(II)I"⟩ yX4_part wsX4_part) := goodIn_app (goodIn_of _ (by decide +kernel)) ggX0_ofSecond_X4_part
set_option maxRecDepth 20000 in
theorem ggX0_ofSecond_X0_count : GoodIn wsX0_ofSecond wsX0_count := goodIn_r _ [23, 24, 25, 26, 27, 28, 12, 29, 30, 31, 16, 32, 33, 34, 35, 36, 37, 38, 39, 40, 41, 49, 50, 51, 52, 53, 54, 55, 63, 64] (by decide +kernel) (by decide +kernel)
set_option maxRecDepth 20000 in
theorem gX0_ofSecond_X0_count_u65X2 : GoodIn wsX0_ofSecond (va_wsU RX0 65 RX2 "GrammarAmbiguity$Counts" ⟨"GrammarAmbiguity$Counts", "count", "(III)J"⟩ yX0_count wsX0_count) := goodIn_app (goodIn_of _ (by decide +kernel)) ggX0_ofSecond_X0_count
set_option maxRecDepth 20000 in
theorem gX0_ofSecond_X0_count_u65X4 : GoodIn wsX0_ofSecond (va_wsU RX0 65 RX4 "GrammarAmbiguity$Counts" ⟨"GrammarAmbiguity$Counts", "count", "(III)J"⟩ yX0_count wsX0_count) := goodIn_app (goodIn_of _ (by decide +kernel)) ggX0_ofSecond_X0_count
set_option maxRecDepth 20000 in
theorem ggX0_ofSecond_X0_tailsOf : GoodIn wsX0_ofSecond wsX0_tailsOf := goodIn_r _ [47, 1, 2, 3, 4, 5, 6, 7, 8, 9, 10, 11, 12, 13, 14, 15, 16, 17, 18, 19, 20, 21, 22, 23, 24, 25, 26, 27, 28, 29, 30, 31, 32, 33, 34, 35, 36, 37, 38, 39, 40, 41, 42, 49, 50, 51, 52, 53, 54, 55, 56, 57, 58, 59, 60, 61, 62, 63, 64] (by decide +kernel) (by decide +kernel)
set_option maxRecDepth 20000 in
theorem gX0_ofSecond_X0_tailsOf_u69X2 : GoodIn wsX0_ofSecond (va_wsU RX0 69 RX2 "GrammarAmbiguity$Counts" ⟨"GrammarAmbiguity$Counts", "tailsOf", "(IIIII)J"⟩ yX0_tailsOf wsX0_tailsOf) := goodIn_app (goodIn_of _ (by decide +kernel)) ggX0_ofSecond_X0_tailsOf
set_option maxRecDepth 20000 in
theorem gX0_ofSecond_X0_tailsOf_u69X4 : GoodIn wsX0_ofSecond (va_wsU RX0 69 RX4 "GrammarAmbiguity$Counts" ⟨"GrammarAmbiguity$Counts", "tailsOf", "(IIIII)J"⟩ yX0_tailsOf wsX0_tailsOf) := goodIn_app (goodIn_of _ (by decide +kernel)) ggX0_ofSecond_X0_tailsOf
theorem dX0_ofSecond_0 : decode cX0_ofSecond 0 = .ok (.aload_n 0, 1) := by decide +kernel
theorem dX0_ofSecond_1 : decode cX0_ofSecond 1 = .ok (.aload_n 0, 1) := by decide +kernel
theorem dX0_ofSecond_2 : decode cX0_ofSecond 2 = .ok (.getfield 9, 3) := by decide +kernel
theorem dX0_ofSecond_5 : decode cX0_ofSecond 5 = .ok (.iload_n 1, 1) := by decide +kernel
theorem dX0_ofSecond_6 : decode cX0_ofSecond 6 = .ok (.iconst 1, 1) := by decide +kernel
theorem dX0_ofSecond_7 : decode cX0_ofSecond 7 = .ok (.invokevirtual 56, 3) := by decide +kernel
theorem dX0_ofSecond_10 : decode cX0_ofSecond 10 = .ok (.iload 4, 2) := by decide +kernel
theorem dX0_ofSecond_12 : decode cX0_ofSecond 12 = .ok (.aload_n 0, 1) := by decide +kernel
theorem dX0_ofSecond_13 : decode cX0_ofSecond 13 = .ok (.iload_n 3, 1) := by decide +kernel
theorem dX0_ofSecond_14 : decode cX0_ofSecond 14 = .ok (.iconst 0, 1) := by decide +kernel
theorem dX0_ofSecond_15 : decode cX0_ofSecond 15 = .ok (.invokevirtual 62, 3) := by decide +kernel
theorem dX0_ofSecond_18 : decode cX0_ofSecond 18 = .ok (.invokevirtual 65, 3) := by decide +kernel
theorem dX0_ofSecond_21 : decode cX0_ofSecond 21 = .ok (.aload_n 0, 1) := by decide +kernel
theorem dX0_ofSecond_22 : decode cX0_ofSecond 22 = .ok (.iload_n 1, 1) := by decide +kernel
theorem dX0_ofSecond_23 : decode cX0_ofSecond 23 = .ok (.iload_n 2, 1) := by decide +kernel
theorem dX0_ofSecond_24 : decode cX0_ofSecond 24 = .ok (.iload_n 3, 1) := by decide +kernel
theorem dX0_ofSecond_25 : decode cX0_ofSecond 25 = .ok (.iload 4, 2) := by decide +kernel
theorem dX0_ofSecond_27 : decode cX0_ofSecond 27 = .ok (.iload 5, 2) := by decide +kernel
theorem dX0_ofSecond_29 : decode cX0_ofSecond 29 = .ok (.invokevirtual 69, 3) := by decide +kernel
theorem dX0_ofSecond_32 : decode cX0_ofSecond 32 = .ok (.lmul, 1) := by decide +kernel
theorem dX0_ofSecond_33 : decode cX0_ofSecond 33 = .ok (.lreturn, 1) := by decide +kernel
set_option maxRecDepth 20000 in
theorem ggX0_tailsOf_X1_symbol : GoodIn wsX0_tailsOf wsX1_symbol := goodIn_r _ [5, 6, 7, 50, 51, 52, 53, 54, 55, 56] (by decide +kernel) (by decide +kernel)
set_option maxRecDepth 20000 in
theorem gX0_tailsOf_X1_symbol_n56 : GoodIn wsX0_tailsOf (wsX1_symbol) := ggX0_tailsOf_X1_symbol
set_option maxRecDepth 20000 in
theorem ggX0_tailsOf_X2_part : GoodIn wsX0_tailsOf wsX2_part := goodIn_r _ [13] (by decide +kernel) (by decide +kernel)
set_option maxRecDepth 20000 in
theorem gX0_tailsOf_X2_part_u62X2 : GoodIn wsX0_tailsOf (va_wsU RX0 62 RX2 "GrammarAmbiguity$Counts" ⟨"GrammarAmbiguity$Counts", "part", "(II)I"⟩ yX2_part wsX2_part) := goodIn_app (goodIn_of _ (by decide +kernel)) ggX0_tailsOf_X2_part
set_option maxRecDepth 20000 in
theorem ggX0_tailsOf_X4_part : GoodIn wsX0_tailsOf wsX4_part := goodIn_r _ [17] (by decide +kernel) (by decide +kernel)
set_option maxRecDepth 20000 in
theorem gX0_tailsOf_X4_part_u62X4 : GoodIn wsX0_tailsOf (va_wsU RX0 62 RX4 "GrammarAmbiguity$Counts" ⟨"GrammarAmbiguity$Counts", "part", "(II)I"⟩ yX4_part wsX4_part) := goodIn_app (goodIn_of _ (by decide +kernel)) ggX0_tailsOf_X4_part
set_option maxRecDepth 20000 in
theorem ggX0_tailsOf_X0_count : GoodIn wsX0_tailsOf wsX0_count := goodIn_r _ [23, 24, 25, 26, 27, 28, 12, 29, 30, 31, 16, 32, 33, 34, 35, 36, 37, 38, 39, 40, 41, 43, 44, 45, 46, 47, 48, 49, 57, 58] (by decide +kernel) (by decide +kernel)
set_option maxRecDepth 20000 in
theorem gX0_tailsOf_X0_count_u65X2 : GoodIn wsX0_tailsOf (va_wsU RX0 65 RX2 "GrammarAmbiguity$Counts" ⟨"GrammarAmbiguity$Counts", "count", "(III)J"⟩ yX0_count wsX0_count) := goodIn_app (goodIn_of _ (by decide +kernel)) ggX0_tailsOf_X0_count
set_option maxRecDepth 20000 in
theorem gX0_tailsOf_X0_count_u65X4 : GoodIn wsX0_tailsOf (va_wsU RX0 65 RX4 "GrammarAmbiguity$Counts" ⟨"GrammarAmbiguity$Counts", "count", "(III)J"⟩ yX0_count wsX0_count) := goodIn_app (goodIn_of _ (by decide +kernel)) ggX0_tailsOf_X0_count
theorem dX0_tailsOf_0 : decode cX0_tailsOf 0 = .ok (.aload_n 0, 1) := by decide +kernel
theorem dX0_tailsOf_1 : decode cX0_tailsOf 1 = .ok (.aload_n 0, 1) := by decide +kernel
theorem dX0_tailsOf_2 : decode cX0_tailsOf 2 = .ok (.getfield 9, 3) := by decide +kernel
theorem dX0_tailsOf_5 : decode cX0_tailsOf 5 = .ok (.iload_n 1, 1) := by decide +kernel
theorem dX0_tailsOf_6 : decode cX0_tailsOf 6 = .ok (.iconst 2, 1) := by decide +kernel
theorem dX0_tailsOf_7 : decode cX0_tailsOf 7 = .ok (.invokevirtual 56, 3) := by decide +kernel
theorem dX0_tailsOf_10 : decode cX0_tailsOf 10 = .ok (.iload 5, 2) := by decide +kernel
theorem dX0_tailsOf_12 : decode cX0_tailsOf 12 = .ok (.aload_n 0, 1) := by decide +kernel
theorem dX0_tailsOf_13 : decode cX0_tailsOf 13 = .ok (.iload_n 3, 1) := by decide +kernel
theorem dX0_tailsOf_14 : decode cX0_tailsOf 14 = .ok (.iload 4, 2) := by decide +kernel
theorem dX0_tailsOf_16 : decode cX0_tailsOf 16 = .ok (.invokevirtual 62, 3) := by decide +kernel
theorem dX0_tailsOf_19 : decode cX0_tailsOf 19 = .ok (.invokevirtual 65, 3) := by decide +kernel
theorem dX0_tailsOf_22 : decode cX0_tailsOf 22 = .ok (.lstore 6, 2) := by decide +kernel
theorem dX0_tailsOf_24 : decode cX0_tailsOf 24 = .ok (.lload 6, 2) := by decide +kernel
theorem dX0_tailsOf_26 : decode cX0_tailsOf 26 = .ok (.lconst 0, 1) := by decide +kernel
theorem dX0_tailsOf_27 : decode cX0_tailsOf 27 = .ok (.lcmp, 1) := by decide +kernel
theorem dX0_tailsOf_28 : decode cX0_tailsOf 28 = .ok (.ifCond .ne 5, 3) := by decide +kernel
theorem dX0_tailsOf_31 : decode cX0_tailsOf 31 = .ok (.lconst 0, 1) := by decide +kernel
theorem dX0_tailsOf_32 : decode cX0_tailsOf 32 = .ok (.lreturn, 1) := by decide +kernel
theorem dX0_tailsOf_33 : decode cX0_tailsOf 33 = .ok (.iload 4, 2) := by decide +kernel
theorem dX0_tailsOf_35 : decode cX0_tailsOf 35 = .ok (.iload 5, 2) := by decide +kernel
theorem dX0_tailsOf_37 : decode cX0_tailsOf 37 = .ok (.iadd, 1) := by decide +kernel
theorem dX0_tailsOf_38 : decode cX0_tailsOf 38 = .ok (.istore 8, 2) := by decide +kernel
theorem dX0_tailsOf_40 : decode cX0_tailsOf 40 = .ok (.lload 6, 2) := by decide +kernel
theorem dX0_tailsOf_42 : decode cX0_tailsOf 42 = .ok (.aload_n 0, 1) := by decide +kernel
theorem dX0_tailsOf_43 : decode cX0_tailsOf 43 = .ok (.aload_n 0, 1) := by decide +kernel
theorem dX0_tailsOf_44 : decode cX0_tailsOf 44 = .ok (.getfield 9, 3) := by decide +kernel
theorem dX0_tailsOf_47 : decode cX0_tailsOf 47 = .ok (.iload_n 1, 1) := by decide +kernel
theorem dX0_tailsOf_48 : decode cX0_tailsOf 48 = .ok (.iconst 3, 1) := by decide +kernel
theorem dX0_tailsOf_49 : decode cX0_tailsOf 49 = .ok (.invokevirtual 56, 3) := by decide +kernel
theorem dX0_tailsOf_52 : decode cX0_tailsOf 52 = .ok (.iload_n 2, 1) := by decide +kernel
theorem dX0_tailsOf_53 : decode cX0_tailsOf 53 = .ok (.iload 8, 2) := by decide +kernel
theorem dX0_tailsOf_55 : decode cX0_tailsOf 55 = .ok (.isub, 1) := by decide +kernel
theorem dX0_tailsOf_56 : decode cX0_tailsOf 56 = .ok (.aload_n 0, 1) := by decide +kernel
theorem dX0_tailsOf_57 : decode cX0_tailsOf 57 = .ok (.iload_n 3, 1) := by decide +kernel
theorem dX0_tailsOf_58 : decode cX0_tailsOf 58 = .ok (.iload 8, 2) := by decide +kernel
theorem dX0_tailsOf_60 : decode cX0_tailsOf 60 = .ok (.invokevirtual 62, 3) := by decide +kernel
theorem dX0_tailsOf_63 : decode cX0_tailsOf 63 = .ok (.invokevirtual 65, 3) := by decide +kernel
theorem dX0_tailsOf_66 : decode cX0_tailsOf 66 = .ok (.lmul, 1) := by decide +kernel
theorem dX0_tailsOf_67 : decode cX0_tailsOf 67 = .ok (.lreturn, 1) := by decide +kernel
theorem dX1_init_0 : decode cX1_init 0 = .ok (.aload_n 0, 1) := by decide +kernel
theorem dX1_init_1 : decode cX1_init 1 = .ok (.invokespecial 3, 3) := by decide +kernel
theorem dX1_init_4 : decode cX1_init 4 = .ok (.aload_n 0, 1) := by decide +kernel
theorem dX1_init_5 : decode cX1_init 5 = .ok (.iconst 1, 1) := by decide +kernel
theorem dX1_init_6 : decode cX1_init 6 = .ok (.putfield 9, 3) := by decide +kernel
theorem dX1_init_9 : decode cX1_init 9 = .ok (.aload_n 0, 1) := by decide +kernel
theorem dX1_init_10 : decode cX1_init 10 = .ok (.iconst 2, 1) := by decide +kernel
theorem dX1_init_11 : decode cX1_init 11 = .ok (.putfield 15, 3) := by decide +kernel
theorem dX1_init_14 : decode cX1_init 14 = .ok (.aload_n 0, 1) := by decide +kernel
theorem dX1_init_15 : decode cX1_init 15 = .ok (.iconst 0, 1) := by decide +kernel
theorem dX1_init_16 : decode cX1_init 16 = .ok (.putfield 18, 3) := by decide +kernel
theorem dX1_init_19 : decode cX1_init 19 = .ok (.aload_n 0, 1) := by decide +kernel
theorem dX1_init_20 : decode cX1_init 20 = .ok (.iconst 0, 1) := by decide +kernel
theorem dX1_init_21 : decode cX1_init 21 = .ok (.putfield 21, 3) := by decide +kernel
theorem dX1_init_24 : decode cX1_init 24 = .ok (.aload_n 0, 1) := by decide +kernel
theorem dX1_init_25 : decode cX1_init 25 = .ok (.bipush 96, 2) := by decide +kernel
theorem dX1_init_27 : decode cX1_init 27 = .ok (.newarray .int, 2) := by decide +kernel
theorem dX1_init_29 : decode cX1_init 29 = .ok (.putfield 24, 3) := by decide +kernel
theorem dX1_init_32 : decode cX1_init 32 = .ok (.aload_n 0, 1) := by decide +kernel
theorem dX1_init_33 : decode cX1_init 33 = .ok (.bipush 6, 2) := by decide +kernel
theorem dX1_init_35 : decode cX1_init 35 = .ok (.newarray .int, 2) := by decide +kernel
theorem dX1_init_37 : decode cX1_init 37 = .ok (.putfield 28, 3) := by decide +kernel
theorem dX1_init_40 : decode cX1_init 40 = .ok (.aload_n 0, 1) := by decide +kernel
theorem dX1_init_41 : decode cX1_init 41 = .ok (.bipush 6, 2) := by decide +kernel
theorem dX1_init_43 : decode cX1_init 43 = .ok (.newarray .boolean, 2) := by decide +kernel
theorem dX1_init_45 : decode cX1_init 45 = .ok (.putfield 31, 3) := by decide +kernel
theorem dX1_init_48 : decode cX1_init 48 = .ok (.return_, 1) := by decide +kernel
theorem dX1_begin_0 : decode cX1_begin 0 = .ok (.aload_n 0, 1) := by decide +kernel
theorem dX1_begin_1 : decode cX1_begin 1 = .ok (.iload_n 1, 1) := by decide +kernel
theorem dX1_begin_2 : decode cX1_begin 2 = .ok (.putfield 9, 3) := by decide +kernel
theorem dX1_begin_5 : decode cX1_begin 5 = .ok (.aload_n 0, 1) := by decide +kernel
theorem dX1_begin_6 : decode cX1_begin 6 = .ok (.iload_n 2, 1) := by decide +kernel
theorem dX1_begin_7 : decode cX1_begin 7 = .ok (.putfield 15, 3) := by decide +kernel
theorem dX1_begin_10 : decode cX1_begin 10 = .ok (.aload_n 0, 1) := by decide +kernel
theorem dX1_begin_11 : decode cX1_begin 11 = .ok (.iconst 0, 1) := by decide +kernel
theorem dX1_begin_12 : decode cX1_begin 12 = .ok (.putfield 18, 3) := by decide +kernel
theorem dX1_begin_15 : decode cX1_begin 15 = .ok (.aload_n 0, 1) := by decide +kernel
theorem dX1_begin_16 : decode cX1_begin 16 = .ok (.iconst 0, 1) := by decide +kernel
theorem dX1_begin_17 : decode cX1_begin 17 = .ok (.putfield 21, 3) := by decide +kernel
theorem dX1_begin_20 : decode cX1_begin 20 = .ok (.return_, 1) := by decide +kernel
theorem dX1_copy_0 : decode cX1_copy 0 = .ok (.aload_n 0, 1) := by decide +kernel
theorem dX1_copy_1 : decode cX1_copy 1 = .ok (.aload_n 1, 1) := by decide +kernel
theorem dX1_copy_2 : decode cX1_copy 2 = .ok (.getfield 9, 3) := by decide +kernel
theorem dX1_copy_5 : decode cX1_copy 5 = .ok (.putfield 9, 3) := by decide +kernel
theorem dX1_copy_8 : decode cX1_copy 8 = .ok (.aload_n 0, 1) := by decide +kernel
theorem dX1_copy_9 : decode cX1_copy 9 = .ok (.aload_n 1, 1) := by decide +kernel
theorem dX1_copy_10 : decode cX1_copy 10 = .ok (.getfield 15, 3) := by decide +kernel
theorem dX1_copy_13 : decode cX1_copy 13 = .ok (.putfield 15, 3) := by decide +kernel
theorem dX1_copy_16 : decode cX1_copy 16 = .ok (.aload_n 0, 1) := by decide +kernel
theorem dX1_copy_17 : decode cX1_copy 17 = .ok (.aload_n 1, 1) := by decide +kernel
theorem dX1_copy_18 : decode cX1_copy 18 = .ok (.getfield 18, 3) := by decide +kernel
theorem dX1_copy_21 : decode cX1_copy 21 = .ok (.putfield 18, 3) := by decide +kernel
theorem dX1_copy_24 : decode cX1_copy 24 = .ok (.aload_n 0, 1) := by decide +kernel
theorem dX1_copy_25 : decode cX1_copy 25 = .ok (.aload_n 1, 1) := by decide +kernel
theorem dX1_copy_26 : decode cX1_copy 26 = .ok (.getfield 21, 3) := by decide +kernel
theorem dX1_copy_29 : decode cX1_copy 29 = .ok (.putfield 21, 3) := by decide +kernel
theorem dX1_copy_32 : decode cX1_copy 32 = .ok (.iconst 0, 1) := by decide +kernel
theorem dX1_copy_33 : decode cX1_copy 33 = .ok (.istore_n 2, 1) := by decide +kernel
theorem dX1_copy_34 : decode cX1_copy 34 = .ok (.iload_n 2, 1) := by decide +kernel
theorem dX1_copy_35 : decode cX1_copy 35 = .ok (.aload_n 0, 1) := by decide +kernel
theorem dX1_copy_36 : decode cX1_copy 36 = .ok (.getfield 24, 3) := by decide +kernel
theorem dX1_copy_39 : decode cX1_copy 39 = .ok (.arraylength, 1) := by decide +kernel
theorem dX1_copy_40 : decode cX1_copy 40 = .ok (.if_icmp .ge 30, 3) := by decide +kernel
theorem dX1_copy_43 : decode cX1_copy 43 = .ok (.iload_n 2, 1) := by decide +kernel
theorem dX1_copy_44 : decode cX1_copy 44 = .ok (.aload_n 1, 1) := by decide +kernel
theorem dX1_copy_45 : decode cX1_copy 45 = .ok (.getfield 24, 3) := by decide +kernel
theorem dX1_copy_48 : decode cX1_copy 48 = .ok (.arraylength, 1) := by decide +kernel
theorem dX1_copy_49 : decode cX1_copy 49 = .ok (.if_icmp .ge 21, 3) := by decide +kernel
theorem dX1_copy_52 : decode cX1_copy 52 = .ok (.aload_n 0, 1) := by decide +kernel
theorem dX1_copy_53 : decode cX1_copy 53 = .ok (.getfield 24, 3) := by decide +kernel
theorem dX1_copy_56 : decode cX1_copy 56 = .ok (.iload_n 2, 1) := by decide +kernel
theorem dX1_copy_57 : decode cX1_copy 57 = .ok (.aload_n 1, 1) := by decide +kernel
theorem dX1_copy_58 : decode cX1_copy 58 = .ok (.getfield 24, 3) := by decide +kernel
theorem dX1_copy_61 : decode cX1_copy 61 = .ok (.iload_n 2, 1) := by decide +kernel
theorem dX1_copy_62 : decode cX1_copy 62 = .ok (.iaload, 1) := by decide +kernel
theorem dX1_copy_63 : decode cX1_copy 63 = .ok (.iastore, 1) := by decide +kernel
theorem dX1_copy_64 : decode cX1_copy 64 = .ok (.iinc 2 1, 3) := by decide +kernel
theorem dX1_copy_67 : decode cX1_copy 67 = .ok (.goto (-33), 3) := by decide +kernel
theorem dX1_copy_70 : decode cX1_copy 70 = .ok (.return_, 1) := by decide +kernel
theorem dX1_isNonterminal_0 : decode cX1_isNonterminal 0 = .ok (.iload_n 1, 1) := by decide +kernel
theorem dX1_isNonterminal_1 : decode cX1_isNonterminal 1 = .ok (.ifCond .lt 21, 3) := by decide +kernel
theorem dX1_isNonterminal_4 : decode cX1_isNonterminal 4 = .ok (.iload_n 1, 1) := by decide +kernel
theorem dX1_isNonterminal_5 : decode cX1_isNonterminal 5 = .ok (.aload_n 0, 1) := by decide +kernel
theorem dX1_isNonterminal_6 : decode cX1_isNonterminal 6 = .ok (.getfield 9, 3) := by decide +kernel
theorem dX1_isNonterminal_9 : decode cX1_isNonterminal 9 = .ok (.if_icmp .ge 13, 3) := by decide +kernel
theorem dX1_isNonterminal_12 : decode cX1_isNonterminal 12 = .ok (.iload_n 1, 1) := by decide +kernel
theorem dX1_isNonterminal_13 : decode cX1_isNonterminal 13 = .ok (.bipush 6, 2) := by decide +kernel
theorem dX1_isNonterminal_15 : decode cX1_isNonterminal 15 = .ok (.if_icmp .ge 7, 3) := by decide +kernel
theorem dX1_isNonterminal_18 : decode cX1_isNonterminal 18 = .ok (.iconst 1, 1) := by decide +kernel
theorem dX1_isNonterminal_19 : decode cX1_isNonterminal 19 = .ok (.goto 4, 3) := by decide +kernel
theorem dX1_isNonterminal_22 : decode cX1_isNonterminal 22 = .ok (.iconst 0, 1) := by decide +kernel
theorem dX1_isNonterminal_23 : decode cX1_isNonterminal 23 = .ok (.ireturn, 1) := by decide +kernel
theorem dX1_isTerminal_0 : decode cX1_isTerminal 0 = .ok (.iload_n 1, 1) := by decide +kernel
theorem dX1_isTerminal_1 : decode cX1_isTerminal 1 = .ok (.ifCond .lt 15, 3) := by decide +kernel
theorem dX1_isTerminal_4 : decode cX1_isTerminal 4 = .ok (.iload_n 1, 1) := by decide +kernel
theorem dX1_isTerminal_5 : decode cX1_isTerminal 5 = .ok (.aload_n 0, 1) := by decide +kernel
theorem dX1_isTerminal_6 : decode cX1_isTerminal 6 = .ok (.getfield 15, 3) := by decide +kernel
theorem dX1_isTerminal_9 : decode cX1_isTerminal 9 = .ok (.if_icmp .ge 7, 3) := by decide +kernel
theorem dX1_isTerminal_12 : decode cX1_isTerminal 12 = .ok (.iconst 1, 1) := by decide +kernel
theorem dX1_isTerminal_13 : decode cX1_isTerminal 13 = .ok (.goto 4, 3) := by decide +kernel
theorem dX1_isTerminal_16 : decode cX1_isTerminal 16 = .ok (.iconst 0, 1) := by decide +kernel
theorem dX1_isTerminal_17 : decode cX1_isTerminal 17 = .ok (.ireturn, 1) := by decide +kernel
set_option maxRecDepth 20000 in
theorem ggX1_isSymbol_X1_isNonterminal : GoodIn wsX1_isSymbol wsX1_isNonterminal := goodIn_r _ [5, 6, 12, 13, 14, 15, 16, 17, 18] (by decide +kernel) (by decide +kernel)
set_option maxRecDepth 20000 in
theorem gX1_isSymbol_X1_isNonterminal : GoodIn wsX1_isSymbol (wsV RX1 35 RX1 yX1_isNonterminal wsX1_isNonterminal) := goodIn_app (goodIn_of _ (by decide +kernel)) ggX1_isSymbol_X1_isNonterminal
set_option maxRecDepth 20000 in
theorem ggX1_isSymbol_X1_isTerminal : GoodIn wsX1_isSymbol wsX1_isTerminal := goodIn_r _ [10, 11, 12, 13, 14, 15, 16, 17, 18] (by decide +kernel) (by decide +kernel)
set_option maxRecDepth 20000 in
theorem gX1_isSymbol_X1_isTerminal : GoodIn wsX1_isSymbol (wsV RX1 39 RX1 yX1_isTerminal wsX1_isTerminal) := goodIn_app (goodIn_of _ (by decide +kernel)) ggX1_isSymbol_X1_isTerminal
theorem dX1_isSymbol_0 : decode cX1_isSymbol 0 = .ok (.aload_n 0, 1) := by decide +kernel
theorem dX1_isSymbol_1 : decode cX1_isSymbol 1 = .ok (.iload_n 1, 1) := by decide +kernel
theorem dX1_isSymbol_2 : decode cX1_isSymbol 2 = .ok (.invokevirtual 35, 3) := by decide +kernel
theorem dX1_isSymbol_5 : decode cX1_isSymbol 5 = .ok (.ifCond .ne 20, 3) := by decide +kernel
theorem dX1_isSymbol_8 : decode cX1_isSymbol 8 = .ok (.iload_n 1, 1) := by decide +kernel
theorem dX1_isSymbol_9 : decode cX1_isSymbol 9 = .ok (.bipush 10, 2) := by decide +kernel
theorem dX1_isSymbol_11 : decode cX1_isSymbol 11 = .ok (.if_icmp .lt 18, 3) := by decide +kernel
theorem dX1_isSymbol_14 : decode cX1_isSymbol 14 = .ok (.aload_n 0, 1) := by decide +kernel
theorem dX1_isSymbol_15 : decode cX1_isSymbol 15 = .ok (.iload_n 1, 1) := by decide +kernel
theorem dX1_isSymbol_16 : decode cX1_isSymbol 16 = .ok (.bipush 10, 2) := by decide +kernel
theorem dX1_isSymbol_18 : decode cX1_isSymbol 18 = .ok (.isub, 1) := by decide +kernel
theorem dX1_isSymbol_19 : decode cX1_isSymbol 19 = .ok (.invokevirtual 39, 3) := by decide +kernel
theorem dX1_isSymbol_22 : decode cX1_isSymbol 22 = .ok (.ifCond .eq 7, 3) := by decide +kernel
theorem dX1_isSymbol_25 : decode cX1_isSymbol 25 = .ok (.iconst 1, 1) := by decide +kernel
theorem dX1_isSymbol_26 : decode cX1_isSymbol 26 = .ok (.goto 4, 3) := by decide +kernel
theorem dX1_isSymbol_29 : decode cX1_isSymbol 29 = .ok (.iconst 0, 1) := by decide +kernel
theorem dX1_isSymbol_30 : decode cX1_isSymbol 30 = .ok (.ireturn, 1) := by decide +kernel
set_option maxRecDepth 20000 in
theorem ggX1_isRightSide_X1_isSymbol : GoodIn wsX1_isRightSide wsX1_isSymbol := goodIn_r _ [5, 6, 7, 8, 4, 9, 10, 11, 12, 13, 14, 15, 16, 17, 18, 19, 20, 21, 22] (by decide +kernel) (by decide +kernel)
set_option maxRecDepth 20000 in
theorem gX1_isRightSide_X1_isSymbol : GoodIn wsX1_isRightSide (wsV RX1 42 RX1 yX1_isSymbol wsX1_isSymbol) := goodIn_app (goodIn_of _ (by decide +kernel)) ggX1_isRightSide_X1_isSymbol
set_option maxRecDepth 20000 in
theorem ggX1_isRightSide_X1_isNonterminal : GoodIn wsX1_isRightSide wsX1_isNonterminal := goodIn_r _ [9, 10, 16, 17, 18, 19, 20, 21, 22] (by decide +kernel) (by decide +kernel)
set_option maxRecDepth 20000 in
theorem gX1_isRightSide_X1_isNonterminal : GoodIn wsX1_isRightSide (wsV RX1 35 RX1 yX1_isNonterminal wsX1_isNonterminal) := goodIn_app (goodIn_of _ (by decide +kernel)) ggX1_isRightSide_X1_isNonterminal
theorem dX1_isRightSide_0 : decode cX1_isRightSide 0 = .ok (.aload_n 0, 1) := by decide +kernel
theorem dX1_isRightSide_1 : decode cX1_isRightSide 1 = .ok (.iload_n 1, 1) := by decide +kernel
theorem dX1_isRightSide_2 : decode cX1_isRightSide 2 = .ok (.invokevirtual 42, 3) := by decide +kernel
theorem dX1_isRightSide_5 : decode cX1_isRightSide 5 = .ok (.ifCond .ne 5, 3) := by decide +kernel
theorem dX1_isRightSide_8 : decode cX1_isRightSide 8 = .ok (.iconst 0, 1) := by decide +kernel
theorem dX1_isRightSide_9 : decode cX1_isRightSide 9 = .ok (.ireturn, 1) := by decide +kernel
theorem dX1_isRightSide_10 : decode cX1_isRightSide 10 = .ok (.iload_n 2, 1) := by decide +kernel
theorem dX1_isRightSide_11 : decode cX1_isRightSide 11 = .ok (.iconst (-1), 1) := by decide +kernel
theorem dX1_isRightSide_12 : decode cX1_isRightSide 12 = .ok (.if_icmp .ne 22, 3) := by decide +kernel
theorem dX1_isRightSide_15 : decode cX1_isRightSide 15 = .ok (.iload_n 3, 1) := by decide +kernel
theorem dX1_isRightSide_16 : decode cX1_isRightSide 16 = .ok (.iconst (-1), 1) := by decide +kernel
theorem dX1_isRightSide_17 : decode cX1_isRightSide 17 = .ok (.if_icmp .ne 15, 3) := by decide +kernel
theorem dX1_isRightSide_20 : decode cX1_isRightSide 20 = .ok (.aload_n 0, 1) := by decide +kernel
theorem dX1_isRightSide_21 : decode cX1_isRightSide 21 = .ok (.iload_n 1, 1) := by decide +kernel
theorem dX1_isRightSide_22 : decode cX1_isRightSide 22 = .ok (.invokevirtual 35, 3) := by decide +kernel
theorem dX1_isRightSide_25 : decode cX1_isRightSide 25 = .ok (.ifCond .ne 7, 3) := by decide +kernel
theorem dX1_isRightSide_28 : decode cX1_isRightSide 28 = .ok (.iconst 1, 1) := by decide +kernel
theorem dX1_isRightSide_29 : decode cX1_isRightSide 29 = .ok (.goto 4, 3) := by decide +kernel
theorem dX1_isRightSide_32 : decode cX1_isRightSide 32 = .ok (.iconst 0, 1) := by decide +kernel
theorem dX1_isRightSide_33 : decode cX1_isRightSide 33 = .ok (.ireturn, 1) := by decide +kernel
theorem dX1_isRightSide_34 : decode cX1_isRightSide 34 = .ok (.aload_n 0, 1) := by decide +kernel
theorem dX1_isRightSide_35 : decode cX1_isRightSide 35 = .ok (.iload_n 2, 1) := by decide +kernel
theorem dX1_isRightSide_36 : decode cX1_isRightSide 36 = .ok (.invokevirtual 42, 3) := by decide +kernel
theorem dX1_isRightSide_39 : decode cX1_isRightSide 39 = .ok (.ifCond .eq 20, 3) := by decide +kernel
theorem dX1_isRightSide_42 : decode cX1_isRightSide 42 = .ok (.iload_n 3, 1) := by decide +kernel
theorem dX1_isRightSide_43 : decode cX1_isRightSide 43 = .ok (.iconst (-1), 1) := by decide +kernel
theorem dX1_isRightSide_44 : decode cX1_isRightSide 44 = .ok (.if_icmp .eq 11, 3) := by decide +kernel
theorem dX1_isRightSide_47 : decode cX1_isRightSide 47 = .ok (.aload_n 0, 1) := by decide +kernel
theorem dX1_isRightSide_48 : decode cX1_isRightSide 48 = .ok (.iload_n 3, 1) := by decide +kernel
theorem dX1_isRightSide_49 : decode cX1_isRightSide 49 = .ok (.invokevirtual 42, 3) := by decide +kernel
theorem dX1_isRightSide_52 : decode cX1_isRightSide 52 = .ok (.ifCond .eq 7, 3) := by decide +kernel
theorem dX1_isRightSide_55 : decode cX1_isRightSide 55 = .ok (.iconst 1, 1) := by decide +kernel
theorem dX1_isRightSide_56 : decode cX1_isRightSide 56 = .ok (.goto 4, 3) := by decide +kernel
theorem dX1_isRightSide_59 : decode cX1_isRightSide 59 = .ok (.iconst 0, 1) := by decide +kernel
theorem dX1_isRightSide_60 : decode cX1_isRightSide 60 = .ok (.ireturn, 1) := by decide +kernel
theorem dX1_symbol_0 : decode cX1_symbol 0 = .ok (.iload_n 1, 1) := by decide +kernel
theorem dX1_symbol_1 : decode cX1_symbol 1 = .ok (.ifCond .lt 26, 3) := by decide +kernel
theorem dX1_symbol_4 : decode cX1_symbol 4 = .ok (.iload_n 1, 1) := by decide +kernel
theorem dX1_symbol_5 : decode cX1_symbol 5 = .ok (.aload_n 0, 1) := by decide +kernel
theorem dX1_symbol_6 : decode cX1_symbol 6 = .ok (.getfield 21, 3) := by decide +kernel
theorem dX1_symbol_9 : decode cX1_symbol 9 = .ok (.if_icmp .ge 18, 3) := by decide +kernel
theorem dX1_symbol_12 : decode cX1_symbol 12 = .ok (.iload_n 1, 1) := by decide +kernel
theorem dX1_symbol_13 : decode cX1_symbol 13 = .ok (.bipush 24, 2) := by decide +kernel
theorem dX1_symbol_15 : decode cX1_symbol 15 = .ok (.if_icmp .ge 12, 3) := by decide +kernel
theorem dX1_symbol_18 : decode cX1_symbol 18 = .ok (.iload_n 2, 1) := by decide +kernel
theorem dX1_symbol_19 : decode cX1_symbol 19 = .ok (.ifCond .lt 8, 3) := by decide +kernel
theorem dX1_symbol_22 : decode cX1_symbol 22 = .ok (.iload_n 2, 1) := by decide +kernel
theorem dX1_symbol_23 : decode cX1_symbol 23 = .ok (.iconst 3, 1) := by decide +kernel
theorem dX1_symbol_24 : decode cX1_symbol 24 = .ok (.if_icmp .le 5, 3) := by decide +kernel
theorem dX1_symbol_27 : decode cX1_symbol 27 = .ok (.iconst (-1), 1) := by decide +kernel
theorem dX1_symbol_28 : decode cX1_symbol 28 = .ok (.ireturn, 1) := by decide +kernel
theorem dX1_symbol_29 : decode cX1_symbol 29 = .ok (.aload_n 0, 1) := by decide +kernel
theorem dX1_symbol_30 : decode cX1_symbol 30 = .ok (.getfield 24, 3) := by decide +kernel
theorem dX1_symbol_33 : decode cX1_symbol 33 = .ok (.iload_n 1, 1) := by decide +kernel
theorem dX1_symbol_34 : decode cX1_symbol 34 = .ok (.iconst 4, 1) := by decide +kernel
theorem dX1_symbol_35 : decode cX1_symbol 35 = .ok (.imul, 1) := by decide +kernel
theorem dX1_symbol_36 : decode cX1_symbol 36 = .ok (.iload_n 2, 1) := by decide +kernel
theorem dX1_symbol_37 : decode cX1_symbol 37 = .ok (.iadd, 1) := by decide +kernel
theorem dX1_symbol_38 : decode cX1_symbol 38 = .ok (.iaload, 1) := by decide +kernel
theorem dX1_symbol_39 : decode cX1_symbol 39 = .ok (.ireturn, 1) := by decide +kernel
set_option maxRecDepth 20000 in
theorem ggX1_holds_X1_symbol : GoodIn wsX1_holds wsX1_symbol := goodIn_r _ [6, 1, 7, 8, 9, 10, 11, 12, 13, 14] (by decide +kernel) (by decide +kernel)
set_option maxRecDepth 20000 in
theorem gX1_holds_X1_symbol : GoodIn wsX1_holds (wsV RX1 45 RX1 yX1_symbol wsX1_symbol) := goodIn_app (goodIn_of _ (by decide +kernel)) ggX1_holds_X1_symbol
theorem dX1_holds_0 : decode cX1_holds 0 = .ok (.iconst 0, 1) := by decide +kernel
theorem dX1_holds_1 : decode cX1_holds 1 = .ok (.istore 5, 2) := by decide +kernel
theorem dX1_holds_3 : decode cX1_holds 3 = .ok (.iload 5, 2) := by decide +kernel
theorem dX1_holds_5 : decode cX1_holds 5 = .ok (.aload_n 0, 1) := by decide +kernel
theorem dX1_holds_6 : decode cX1_holds 6 = .ok (.getfield 21, 3) := by decide +kernel
theorem dX1_holds_9 : decode cX1_holds 9 = .ok (.if_icmp .ge 56, 3) := by decide +kernel
theorem dX1_holds_12 : decode cX1_holds 12 = .ok (.aload_n 0, 1) := by decide +kernel
theorem dX1_holds_13 : decode cX1_holds 13 = .ok (.iload 5, 2) := by decide +kernel
theorem dX1_holds_15 : decode cX1_holds 15 = .ok (.iconst 0, 1) := by decide +kernel
theorem dX1_holds_16 : decode cX1_holds 16 = .ok (.invokevirtual 45, 3) := by decide +kernel
theorem dX1_holds_19 : decode cX1_holds 19 = .ok (.iload_n 1, 1) := by decide +kernel
theorem dX1_holds_20 : decode cX1_holds 20 = .ok (.if_icmp .ne 39, 3) := by decide +kernel
theorem dX1_holds_23 : decode cX1_holds 23 = .ok (.aload_n 0, 1) := by decide +kernel
theorem dX1_holds_24 : decode cX1_holds 24 = .ok (.iload 5, 2) := by decide +kernel
theorem dX1_holds_26 : decode cX1_holds 26 = .ok (.iconst 1, 1) := by decide +kernel
theorem dX1_holds_27 : decode cX1_holds 27 = .ok (.invokevirtual 45, 3) := by decide +kernel
theorem dX1_holds_30 : decode cX1_holds 30 = .ok (.iload_n 2, 1) := by decide +kernel
theorem dX1_holds_31 : decode cX1_holds 31 = .ok (.if_icmp .ne 28, 3) := by decide +kernel
theorem dX1_holds_34 : decode cX1_holds 34 = .ok (.aload_n 0, 1) := by decide +kernel
theorem dX1_holds_35 : decode cX1_holds 35 = .ok (.iload 5, 2) := by decide +kernel
theorem dX1_holds_37 : decode cX1_holds 37 = .ok (.iconst 2, 1) := by decide +kernel
theorem dX1_holds_38 : decode cX1_holds 38 = .ok (.invokevirtual 45, 3) := by decide +kernel
theorem dX1_holds_41 : decode cX1_holds 41 = .ok (.iload_n 3, 1) := by decide +kernel
theorem dX1_holds_42 : decode cX1_holds 42 = .ok (.if_icmp .ne 17, 3) := by decide +kernel
theorem dX1_holds_45 : decode cX1_holds 45 = .ok (.aload_n 0, 1) := by decide +kernel
theorem dX1_holds_46 : decode cX1_holds 46 = .ok (.iload 5, 2) := by decide +kernel
theorem dX1_holds_48 : decode cX1_holds 48 = .ok (.iconst 3, 1) := by decide +kernel
theorem dX1_holds_49 : decode cX1_holds 49 = .ok (.invokevirtual 45, 3) := by decide +kernel
theorem dX1_holds_52 : decode cX1_holds 52 = .ok (.iload 4, 2) := by decide +kernel
theorem dX1_holds_54 : decode cX1_holds 54 = .ok (.if_icmp .ne 5, 3) := by decide +kernel
theorem dX1_holds_57 : decode cX1_holds 57 = .ok (.iconst 1, 1) := by decide +kernel
theorem dX1_holds_58 : decode cX1_holds 58 = .ok (.ireturn, 1) := by decide +kernel
theorem dX1_holds_59 : decode cX1_holds 59 = .ok (.iinc 5 1, 3) := by decide +kernel
theorem dX1_holds_62 : decode cX1_holds 62 = .ok (.goto (-59), 3) := by decide +kernel
theorem dX1_holds_65 : decode cX1_holds 65 = .ok (.iconst 0, 1) := by decide +kernel
theorem dX1_holds_66 : decode cX1_holds 66 = .ok (.ireturn, 1) := by decide +kernel
theorem dX1_add_0 : decode cX1_add 0 = .ok (.aload_n 0, 1) := by decide +kernel
theorem dX1_add_1 : decode cX1_add 1 = .ok (.getfield 21, 3) := by decide +kernel
theorem dX1_add_4 : decode cX1_add 4 = .ok (.ifCond .lt 12, 3) := by decide +kernel
theorem dX1_add_7 : decode cX1_add 7 = .ok (.aload_n 0, 1) := by decide +kernel
theorem dX1_add_8 : decode cX1_add 8 = .ok (.getfield 21, 3) := by decide +kernel
theorem dX1_add_11 : decode cX1_add 11 = .ok (.bipush 24, 2) := by decide +kernel
theorem dX1_add_13 : decode cX1_add 13 = .ok (.if_icmp .lt 4, 3) := by decide +kernel
theorem dX1_add_16 : decode cX1_add 16 = .ok (.return_, 1) := by decide +kernel
theorem dX1_add_17 : decode cX1_add 17 = .ok (.aload_n 0, 1) := by decide +kernel
theorem dX1_add_18 : decode cX1_add 18 = .ok (.getfield 21, 3) := by decide +kernel
theorem dX1_add_21 : decode cX1_add 21 = .ok (.iconst 4, 1) := by decide +kernel
theorem dX1_add_22 : decode cX1_add 22 = .ok (.imul, 1) := by decide +kernel
theorem dX1_add_23 : decode cX1_add 23 = .ok (.istore 5, 2) := by decide +kernel
theorem dX1_add_25 : decode cX1_add 25 = .ok (.aload_n 0, 1) := by decide +kernel
theorem dX1_add_26 : decode cX1_add 26 = .ok (.getfield 24, 3) := by decide +kernel
theorem dX1_add_29 : decode cX1_add 29 = .ok (.iload 5, 2) := by decide +kernel
theorem dX1_add_31 : decode cX1_add 31 = .ok (.iload_n 1, 1) := by decide +kernel
theorem dX1_add_32 : decode cX1_add 32 = .ok (.iastore, 1) := by decide +kernel
theorem dX1_add_33 : decode cX1_add 33 = .ok (.aload_n 0, 1) := by decide +kernel
theorem dX1_add_34 : decode cX1_add 34 = .ok (.getfield 24, 3) := by decide +kernel
theorem dX1_add_37 : decode cX1_add 37 = .ok (.iload 5, 2) := by decide +kernel
theorem dX1_add_39 : decode cX1_add 39 = .ok (.iconst 1, 1) := by decide +kernel
theorem dX1_add_40 : decode cX1_add 40 = .ok (.iadd, 1) := by decide +kernel
theorem dX1_add_41 : decode cX1_add 41 = .ok (.iload_n 2, 1) := by decide +kernel
theorem dX1_add_42 : decode cX1_add 42 = .ok (.iastore, 1) := by decide +kernel
theorem dX1_add_43 : decode cX1_add 43 = .ok (.aload_n 0, 1) := by decide +kernel
theorem dX1_add_44 : decode cX1_add 44 = .ok (.getfield 24, 3) := by decide +kernel
theorem dX1_add_47 : decode cX1_add 47 = .ok (.iload 5, 2) := by decide +kernel
theorem dX1_add_49 : decode cX1_add 49 = .ok (.iconst 2, 1) := by decide +kernel
theorem dX1_add_50 : decode cX1_add 50 = .ok (.iadd, 1) := by decide +kernel
theorem dX1_add_51 : decode cX1_add 51 = .ok (.iload_n 3, 1) := by decide +kernel
theorem dX1_add_52 : decode cX1_add 52 = .ok (.iastore, 1) := by decide +kernel
theorem dX1_add_53 : decode cX1_add 53 = .ok (.aload_n 0, 1) := by decide +kernel
theorem dX1_add_54 : decode cX1_add 54 = .ok (.getfield 24, 3) := by decide +kernel
theorem dX1_add_57 : decode cX1_add 57 = .ok (.iload 5, 2) := by decide +kernel
theorem dX1_add_59 : decode cX1_add 59 = .ok (.iconst 3, 1) := by decide +kernel
theorem dX1_add_60 : decode cX1_add 60 = .ok (.iadd, 1) := by decide +kernel
theorem dX1_add_61 : decode cX1_add 61 = .ok (.iload 4, 2) := by decide +kernel
theorem dX1_add_63 : decode cX1_add 63 = .ok (.iastore, 1) := by decide +kernel
theorem dX1_add_64 : decode cX1_add 64 = .ok (.aload_n 0, 1) := by decide +kernel
theorem dX1_add_65 : decode cX1_add 65 = .ok (.dup, 1) := by decide +kernel
theorem dX1_add_66 : decode cX1_add 66 = .ok (.getfield 21, 3) := by decide +kernel
theorem dX1_add_69 : decode cX1_add 69 = .ok (.iconst 1, 1) := by decide +kernel
theorem dX1_add_70 : decode cX1_add 70 = .ok (.iadd, 1) := by decide +kernel
theorem dX1_add_71 : decode cX1_add 71 = .ok (.putfield 21, 3) := by decide +kernel
theorem dX1_add_74 : decode cX1_add 74 = .ok (.return_, 1) := by decide +kernel
theorem dX1_remove_0 : decode cX1_remove 0 = .ok (.iload_n 1, 1) := by decide +kernel
theorem dX1_remove_1 : decode cX1_remove 1 = .ok (.ifCond .lt 20, 3) := by decide +kernel
theorem dX1_remove_4 : decode cX1_remove 4 = .ok (.iload_n 1, 1) := by decide +kernel
theorem dX1_remove_5 : decode cX1_remove 5 = .ok (.aload_n 0, 1) := by decide +kernel
theorem dX1_remove_6 : decode cX1_remove 6 = .ok (.getfield 21, 3) := by decide +kernel
theorem dX1_remove_9 : decode cX1_remove 9 = .ok (.if_icmp .ge 12, 3) := by decide +kernel
theorem dX1_remove_12 : decode cX1_remove 12 = .ok (.aload_n 0, 1) := by decide +kernel
theorem dX1_remove_13 : decode cX1_remove 13 = .ok (.getfield 21, 3) := by decide +kernel
theorem dX1_remove_16 : decode cX1_remove 16 = .ok (.bipush 24, 2) := by decide +kernel
theorem dX1_remove_18 : decode cX1_remove 18 = .ok (.if_icmp .le 4, 3) := by decide +kernel
theorem dX1_remove_21 : decode cX1_remove 21 = .ok (.return_, 1) := by decide +kernel
theorem dX1_remove_22 : decode cX1_remove 22 = .ok (.iconst 4, 1) := by decide +kernel
theorem dX1_remove_23 : decode cX1_remove 23 = .ok (.istore_n 2, 1) := by decide +kernel
theorem dX1_remove_24 : decode cX1_remove 24 = .ok (.iload_n 1, 1) := by decide +kernel
theorem dX1_remove_25 : decode cX1_remove 25 = .ok (.iload_n 2, 1) := by decide +kernel
theorem dX1_remove_26 : decode cX1_remove 26 = .ok (.imul, 1) := by decide +kernel
theorem dX1_remove_27 : decode cX1_remove 27 = .ok (.istore_n 3, 1) := by decide +kernel
theorem dX1_remove_28 : decode cX1_remove 28 = .ok (.iload_n 3, 1) := by decide +kernel
theorem dX1_remove_29 : decode cX1_remove 29 = .ok (.aload_n 0, 1) := by decide +kernel
theorem dX1_remove_30 : decode cX1_remove 30 = .ok (.getfield 21, 3) := by decide +kernel
theorem dX1_remove_33 : decode cX1_remove 33 = .ok (.iconst 1, 1) := by decide +kernel
theorem dX1_remove_34 : decode cX1_remove 34 = .ok (.isub, 1) := by decide +kernel
theorem dX1_remove_35 : decode cX1_remove 35 = .ok (.iload_n 2, 1) := by decide +kernel
theorem dX1_remove_36 : decode cX1_remove 36 = .ok (.imul, 1) := by decide +kernel
theorem dX1_remove_37 : decode cX1_remove 37 = .ok (.if_icmp .ge 23, 3) := by decide +kernel
theorem dX1_remove_40 : decode cX1_remove 40 = .ok (.aload_n 0, 1) := by decide +kernel
theorem dX1_remove_41 : decode cX1_remove 41 = .ok (.getfield 24, 3) := by decide +kernel
theorem dX1_remove_44 : decode cX1_remove 44 = .ok (.iload_n 3, 1) := by decide +kernel
theorem dX1_remove_45 : decode cX1_remove 45 = .ok (.aload_n 0, 1) := by decide +kernel
theorem dX1_remove_46 : decode cX1_remove 46 = .ok (.getfield 24, 3) := by decide +kernel
theorem dX1_remove_49 : decode cX1_remove 49 = .ok (.iload_n 3, 1) := by decide +kernel
theorem dX1_remove_50 : decode cX1_remove 50 = .ok (.iload_n 2, 1) := by decide +kernel
theorem dX1_remove_51 : decode cX1_remove 51 = .ok (.iadd, 1) := by decide +kernel
theorem dX1_remove_52 : decode cX1_remove 52 = .ok (.iaload, 1) := by decide +kernel
theorem dX1_remove_53 : decode cX1_remove 53 = .ok (.iastore, 1) := by decide +kernel
theorem dX1_remove_54 : decode cX1_remove 54 = .ok (.iinc 3 1, 3) := by decide +kernel
theorem dX1_remove_57 : decode cX1_remove 57 = .ok (.goto (-29), 3) := by decide +kernel
theorem dX1_remove_60 : decode cX1_remove 60 = .ok (.aload_n 0, 1) := by decide +kernel
theorem dX1_remove_61 : decode cX1_remove 61 = .ok (.dup, 1) := by decide +kernel
theorem dX1_remove_62 : decode cX1_remove 62 = .ok (.getfield 21, 3) := by decide +kernel
theorem dX1_remove_65 : decode cX1_remove 65 = .ok (.iconst 1, 1) := by decide +kernel
theorem dX1_remove_66 : decode cX1_remove 66 = .ok (.isub, 1) := by decide +kernel
theorem dX1_remove_67 : decode cX1_remove 67 = .ok (.putfield 21, 3) := by decide +kernel
theorem dX1_remove_70 : decode cX1_remove 70 = .ok (.return_, 1) := by decide +kernel
set_option maxRecDepth 20000 in
theorem ggX1_measure_X1_symbol : GoodIn wsX1_measure wsX1_symbol := goodIn_r _ [8, 3, 9, 26, 27, 28, 29, 30, 31, 32] (by decide +kernel) (by decide +kernel)
set_option maxRecDepth 20000 in
theorem gX1_measure_X1_symbol : GoodIn wsX1_measure (wsV RX1 45 RX1 yX1_symbol wsX1_symbol) := goodIn_app (goodIn_of _ (by decide +kernel)) ggX1_measure_X1_symbol
set_option maxRecDepth 20000 in
theorem ggX1_measure_X1_shortestOf : GoodIn wsX1_measure wsX1_shortestOf := goodIn_r _ [13, 4, 5, 6, 7, 8, 3, 9, 14, 15, 16, 17, 1, 18, 19, 20, 21, 2, 26, 27, 28, 29, 30, 31, 32] (by decide +kernel) (by decide +kernel)
set_option maxRecDepth 20000 in
theorem gX1_measure_X1_shortestOf : GoodIn wsX1_measure (wsV RX1 49 RX1 yX1_shortestOf wsX1_shortestOf) := goodIn_app (goodIn_of _ (by decide +kernel)) ggX1_measure_X1_shortestOf
set_option maxRecDepth 20000 in
theorem ggX1_measure_X1_shorten : GoodIn wsX1_measure wsX1_shorten := goodIn_r _ [25, 1, 18, 19, 20, 7, 21, 2, 26, 27, 28, 29, 30, 31, 32] (by decide +kernel) (by decide +kernel)
set_option maxRecDepth 20000 in
theorem gX1_measure_X1_shorten : GoodIn wsX1_measure (wsV RX1 53 RX1 yX1_shorten wsX1_shorten) := goodIn_app (goodIn_of _ (by decide +kernel)) ggX1_measure_X1_shorten
theorem dX1_measure_0 : decode cX1_measure 0 = .ok (.iconst 0, 1) := by decide +kernel
theorem dX1_measure_1 : decode cX1_measure 1 = .ok (.istore_n 1, 1) := by decide +kernel
theorem dX1_measure_2 : decode cX1_measure 2 = .ok (.iload_n 1, 1) := by decide +kernel
theorem dX1_measure_3 : decode cX1_measure 3 = .ok (.bipush 6, 2) := by decide +kernel
theorem dX1_measure_5 : decode cX1_measure 5 = .ok (.if_icmp .ge 16, 3) := by decide +kernel
theorem dX1_measure_8 : decode cX1_measure 8 = .ok (.aload_n 0, 1) := by decide +kernel
theorem dX1_measure_9 : decode cX1_measure 9 = .ok (.getfield 28, 3) := by decide +kernel
theorem dX1_measure_12 : decode cX1_measure 12 = .ok (.iload_n 1, 1) := by decide +kernel
theorem dX1_measure_13 : decode cX1_measure 13 = .ok (.iconst 0, 1) := by decide +kernel
theorem dX1_measure_14 : decode cX1_measure 14 = .ok (.iastore, 1) := by decide +kernel
theorem dX1_measure_15 : decode cX1_measure 15 = .ok (.iinc 1 1, 3) := by decide +kernel
theorem dX1_measure_18 : decode cX1_measure 18 = .ok (.goto (-16), 3) := by decide +kernel
theorem dX1_measure_21 : decode cX1_measure 21 = .ok (.iconst 0, 1) := by decide +kernel
theorem dX1_measure_22 : decode cX1_measure 22 = .ok (.istore_n 1, 1) := by decide +kernel
theorem dX1_measure_23 : decode cX1_measure 23 = .ok (.iload_n 1, 1) := by decide +kernel
theorem dX1_measure_24 : decode cX1_measure 24 = .ok (.aload_n 0, 1) := by decide +kernel
theorem dX1_measure_25 : decode cX1_measure 25 = .ok (.getfield 9, 3) := by decide +kernel
theorem dX1_measure_28 : decode cX1_measure 28 = .ok (.if_icmp .ge 40, 3) := by decide +kernel
theorem dX1_measure_31 : decode cX1_measure 31 = .ok (.iconst 0, 1) := by decide +kernel
theorem dX1_measure_32 : decode cX1_measure 32 = .ok (.istore_n 2, 1) := by decide +kernel
theorem dX1_measure_33 : decode cX1_measure 33 = .ok (.iload_n 2, 1) := by decide +kernel
theorem dX1_measure_34 : decode cX1_measure 34 = .ok (.aload_n 0, 1) := by decide +kernel
theorem dX1_measure_35 : decode cX1_measure 35 = .ok (.getfield 21, 3) := by decide +kernel
theorem dX1_measure_38 : decode cX1_measure 38 = .ok (.if_icmp .ge 24, 3) := by decide +kernel
theorem dX1_measure_41 : decode cX1_measure 41 = .ok (.aload_n 0, 1) := by decide +kernel
theorem dX1_measure_42 : decode cX1_measure 42 = .ok (.aload_n 0, 1) := by decide +kernel
theorem dX1_measure_43 : decode cX1_measure 43 = .ok (.iload_n 2, 1) := by decide +kernel
theorem dX1_measure_44 : decode cX1_measure 44 = .ok (.iconst 0, 1) := by decide +kernel
theorem dX1_measure_45 : decode cX1_measure 45 = .ok (.invokevirtual 45, 3) := by decide +kernel
theorem dX1_measure_48 : decode cX1_measure 48 = .ok (.aload_n 0, 1) := by decide +kernel
theorem dX1_measure_49 : decode cX1_measure 49 = .ok (.iload_n 2, 1) := by decide +kernel
theorem dX1_measure_50 : decode cX1_measure 50 = .ok (.invokevirtual 49, 3) := by decide +kernel
theorem dX1_measure_53 : decode cX1_measure 53 = .ok (.invokevirtual 53, 3) := by decide +kernel
theorem dX1_measure_56 : decode cX1_measure 56 = .ok (.iinc 2 1, 3) := by decide +kernel
theorem dX1_measure_59 : decode cX1_measure 59 = .ok (.goto (-26), 3) := by decide +kernel
theorem dX1_measure_62 : decode cX1_measure 62 = .ok (.iinc 1 1, 3) := by decide +kernel
theorem dX1_measure_65 : decode cX1_measure 65 = .ok (.goto (-42), 3) := by decide +kernel
theorem dX1_measure_68 : decode cX1_measure 68 = .ok (.return_, 1) := by decide +kernel
set_option maxRecDepth 20000 in
theorem ggX1_shorten_X1_isNonterminal : GoodIn wsX1_shorten wsX1_isNonterminal := goodIn_r _ [6, 7, 8, 9, 10, 11, 12, 13, 14] (by decide +kernel) (by decide +kernel)
set_option maxRecDepth 20000 in
theorem gX1_shorten_X1_isNonterminal : GoodIn wsX1_shorten (wsV RX1 35 RX1 yX1_isNonterminal wsX1_isNonterminal) := goodIn_app (goodIn_of _ (by decide +kernel)) ggX1_shorten_X1_isNonterminal
theorem dX1_shorten_0 : decode cX1_shorten 0 = .ok (.aload_n 0, 1) := by decide +kernel
theorem dX1_shorten_1 : decode cX1_shorten 1 = .ok (.iload_n 1, 1) := by decide +kernel
theorem dX1_shorten_2 : decode cX1_shorten 2 = .ok (.invokevirtual 35, 3) := by decide +kernel
theorem dX1_shorten_5 : decode cX1_shorten 5 = .ok (.ifCond .eq 8, 3) := by decide +kernel
theorem dX1_shorten_8 : decode cX1_shorten 8 = .ok (.iload_n 2, 1) := by decide +kernel
theorem dX1_shorten_9 : decode cX1_shorten 9 = .ok (.iconst 1, 1) := by decide +kernel
theorem dX1_shorten_10 : decode cX1_shorten 10 = .ok (.if_icmp .ge 4, 3) := by decide +kernel
theorem dX1_shorten_13 : decode cX1_shorten 13 = .ok (.return_, 1) := by decide +kernel
theorem dX1_shorten_14 : decode cX1_shorten 14 = .ok (.aload_n 0, 1) := by decide +kernel
theorem dX1_shorten_15 : decode cX1_shorten 15 = .ok (.getfield 28, 3) := by decide +kernel
theorem dX1_shorten_18 : decode cX1_shorten 18 = .ok (.iload_n 1, 1) := by decide +kernel
theorem dX1_shorten_19 : decode cX1_shorten 19 = .ok (.iaload, 1) := by decide +kernel
theorem dX1_shorten_20 : decode cX1_shorten 20 = .ok (.ifCond .eq 13, 3) := by decide +kernel
theorem dX1_shorten_23 : decode cX1_shorten 23 = .ok (.iload_n 2, 1) := by decide +kernel
theorem dX1_shorten_24 : decode cX1_shorten 24 = .ok (.aload_n 0, 1) := by decide +kernel
theorem dX1_shorten_25 : decode cX1_shorten 25 = .ok (.getfield 28, 3) := by decide +kernel
theorem dX1_shorten_28 : decode cX1_shorten 28 = .ok (.iload_n 1, 1) := by decide +kernel
theorem dX1_shorten_29 : decode cX1_shorten 29 = .ok (.iaload, 1) := by decide +kernel
theorem dX1_shorten_30 : decode cX1_shorten 30 = .ok (.if_icmp .ge 10, 3) := by decide +kernel
theorem dX1_shorten_33 : decode cX1_shorten 33 = .ok (.aload_n 0, 1) := by decide +kernel
theorem dX1_shorten_34 : decode cX1_shorten 34 = .ok (.getfield 28, 3) := by decide +kernel
theorem dX1_shorten_37 : decode cX1_shorten 37 = .ok (.iload_n 1, 1) := by decide +kernel
theorem dX1_shorten_38 : decode cX1_shorten 38 = .ok (.iload_n 2, 1) := by decide +kernel
theorem dX1_shorten_39 : decode cX1_shorten 39 = .ok (.iastore, 1) := by decide +kernel
theorem dX1_shorten_40 : decode cX1_shorten 40 = .ok (.return_, 1) := by decide +kernel
set_option maxRecDepth 20000 in
theorem ggX1_shortestOf_X1_symbol : GoodIn wsX1_shortestOf wsX1_symbol := goodIn_r _ [5, 6, 7, 18, 19, 20, 21, 22, 23, 24] (by decide +kernel) (by decide +kernel)
set_option maxRecDepth 20000 in
theorem gX1_shortestOf_X1_symbol : GoodIn wsX1_shortestOf (wsV RX1 45 RX1 yX1_symbol wsX1_symbol) := goodIn_app (goodIn_of _ (by decide +kernel)) ggX1_shortestOf_X1_symbol
set_option maxRecDepth 20000 in
theorem ggX1_shortestOf_X1_shortestPart : GoodIn wsX1_shortestOf wsX1_shortestPart := goodIn_r _ [11, 12, 13, 14, 15, 4, 16, 17, 18, 19, 20, 21, 22, 23, 24] (by decide +kernel) (by decide +kernel)
set_option maxRecDepth 20000 in
theorem gX1_shortestOf_X1_shortestPart : GoodIn wsX1_shortestOf (wsV RX1 57 RX1 yX1_shortestPart wsX1_shortestPart) := goodIn_app (goodIn_of _ (by decide +kernel)) ggX1_shortestOf_X1_shortestPart
theorem dX1_shortestOf_0 : decode cX1_shortestOf 0 = .ok (.iconst 0, 1) := by decide +kernel
theorem dX1_shortestOf_1 : decode cX1_shortestOf 1 = .ok (.istore_n 2, 1) := by decide +kernel
theorem dX1_shortestOf_2 : decode cX1_shortestOf 2 = .ok (.iconst 1, 1) := by decide +kernel
theorem dX1_shortestOf_3 : decode cX1_shortestOf 3 = .ok (.istore_n 3, 1) := by decide +kernel
theorem dX1_shortestOf_4 : decode cX1_shortestOf 4 = .ok (.iload_n 3, 1) := by decide +kernel
theorem dX1_shortestOf_5 : decode cX1_shortestOf 5 = .ok (.iconst 3, 1) := by decide +kernel
theorem dX1_shortestOf_6 : decode cX1_shortestOf 6 = .ok (.if_icmp .gt 43, 3) := by decide +kernel
theorem dX1_shortestOf_9 : decode cX1_shortestOf 9 = .ok (.aload_n 0, 1) := by decide +kernel
theorem dX1_shortestOf_10 : decode cX1_shortestOf 10 = .ok (.iload_n 1, 1) := by decide +kernel
theorem dX1_shortestOf_11 : decode cX1_shortestOf 11 = .ok (.iload_n 3, 1) := by decide +kernel
theorem dX1_shortestOf_12 : decode cX1_shortestOf 12 = .ok (.invokevirtual 45, 3) := by decide +kernel
theorem dX1_shortestOf_15 : decode cX1_shortestOf 15 = .ok (.istore 4, 2) := by decide +kernel
theorem dX1_shortestOf_17 : decode cX1_shortestOf 17 = .ok (.iload 4, 2) := by decide +kernel
theorem dX1_shortestOf_19 : decode cX1_shortestOf 19 = .ok (.iconst (-1), 1) := by decide +kernel
theorem dX1_shortestOf_20 : decode cX1_shortestOf 20 = .ok (.if_icmp .eq 23, 3) := by decide +kernel
theorem dX1_shortestOf_23 : decode cX1_shortestOf 23 = .ok (.aload_n 0, 1) := by decide +kernel
theorem dX1_shortestOf_24 : decode cX1_shortestOf 24 = .ok (.iload 4, 2) := by decide +kernel
theorem dX1_shortestOf_26 : decode cX1_shortestOf 26 = .ok (.invokevirtual 57, 3) := by decide +kernel
theorem dX1_shortestOf_29 : decode cX1_shortestOf 29 = .ok (.istore 5, 2) := by decide +kernel
theorem dX1_shortestOf_31 : decode cX1_shortestOf 31 = .ok (.iload 5, 2) := by decide +kernel
theorem dX1_shortestOf_33 : decode cX1_shortestOf 33 = .ok (.ifCond .ne 5, 3) := by decide +kernel
theorem dX1_shortestOf_36 : decode cX1_shortestOf 36 = .ok (.iconst 0, 1) := by decide +kernel
theorem dX1_shortestOf_37 : decode cX1_shortestOf 37 = .ok (.ireturn, 1) := by decide +kernel
theorem dX1_shortestOf_38 : decode cX1_shortestOf 38 = .ok (.iload_n 2, 1) := by decide +kernel
theorem dX1_shortestOf_39 : decode cX1_shortestOf 39 = .ok (.iload 5, 2) := by decide +kernel
theorem dX1_shortestOf_41 : decode cX1_shortestOf 41 = .ok (.iadd, 1) := by decide +kernel
theorem dX1_shortestOf_42 : decode cX1_shortestOf 42 = .ok (.istore_n 2, 1) := by decide +kernel
theorem dX1_shortestOf_43 : decode cX1_shortestOf 43 = .ok (.iinc 3 1, 3) := by decide +kernel
theorem dX1_shortestOf_46 : decode cX1_shortestOf 46 = .ok (.goto (-42), 3) := by decide +kernel
theorem dX1_shortestOf_49 : decode cX1_shortestOf 49 = .ok (.iload_n 2, 1) := by decide +kernel
theorem dX1_shortestOf_50 : decode cX1_shortestOf 50 = .ok (.ireturn, 1) := by decide +kernel
set_option maxRecDepth 20000 in
theorem ggX1_shortestPart_X1_isNonterminal : GoodIn wsX1_shortestPart wsX1_isNonterminal := goodIn_r _ [6, 7, 8, 9, 10, 11, 12, 13, 14] (by decide +kernel) (by decide +kernel)
set_option maxRecDepth 20000 in
theorem gX1_shortestPart_X1_isNonterminal : GoodIn wsX1_shortestPart (wsV RX1 35 RX1 yX1_isNonterminal wsX1_isNonterminal) := goodIn_app (goodIn_of _ (by decide +kernel)) ggX1_shortestPart_X1_isNonterminal
theorem dX1_shortestPart_0 : decode cX1_shortestPart 0 = .ok (.aload_n 0, 1) := by decide +kernel
theorem dX1_shortestPart_1 : decode cX1_shortestPart 1 = .ok (.iload_n 1, 1) := by decide +kernel
theorem dX1_shortestPart_2 : decode cX1_shortestPart 2 = .ok (.invokevirtual 35, 3) := by decide +kernel
theorem dX1_shortestPart_5 : decode cX1_shortestPart 5 = .ok (.ifCond .eq 12, 3) := by decide +kernel
theorem dX1_shortestPart_8 : decode cX1_shortestPart 8 = .ok (.aload_n 0, 1) := by decide +kernel
theorem dX1_shortestPart_9 : decode cX1_shortestPart 9 = .ok (.getfield 28, 3) := by decide +kernel
theorem dX1_shortestPart_12 : decode cX1_shortestPart 12 = .ok (.iload_n 1, 1) := by decide +kernel
theorem dX1_shortestPart_13 : decode cX1_shortestPart 13 = .ok (.iaload, 1) := by decide +kernel
theorem dX1_shortestPart_14 : decode cX1_shortestPart 14 = .ok (.goto 4, 3) := by decide +kernel
theorem dX1_shortestPart_17 : decode cX1_shortestPart 17 = .ok (.iconst 1, 1) := by decide +kernel
theorem dX1_shortestPart_18 : decode cX1_shortestPart 18 = .ok (.ireturn, 1) := by decide +kernel
set_option maxRecDepth 20000 in
theorem ggX1_removeUnused_X1_measure : GoodIn wsX1_removeUnused wsX1_measure := goodIn_r _ [6, 7, 8, 1, 9, 10, 11, 5, 12, 13, 14, 15, 16, 17, 18, 19, 20, 21, 22, 23, 24, 25, 26, 27, 28, 29, 48, 49, 50, 51, 52, 53, 54] (by decide +kernel) (by decide +kernel)
set_option maxRecDepth 20000 in
theorem gX1_removeUnused_X1_measure : GoodIn wsX1_removeUnused (wsV RX1 60 RX1 yX1_measure wsX1_measure) := goodIn_app (goodIn_of _ (by decide +kernel)) ggX1_removeUnused_X1_measure
set_option maxRecDepth 20000 in
theorem ggX1_removeUnused_X1_reach : GoodIn wsX1_removeUnused wsX1_reach := goodIn_r _ [33, 34, 35, 8, 1, 36, 37, 38, 5, 39, 9, 10, 11, 12, 13, 22, 23, 24, 25, 14, 15, 16, 17, 18, 19, 20, 21, 7, 40, 41, 42, 43, 48, 49, 50, 51, 52, 53, 54] (by decide +kernel) (by decide +kernel)
set_option maxRecDepth 20000 in
theorem gX1_removeUnused_X1_reach : GoodIn wsX1_removeUnused (wsV RX1 63 RX1 yX1_reach wsX1_reach) := goodIn_app (goodIn_of _ (by decide +kernel)) ggX1_removeUnused_X1_reach
set_option maxRecDepth 20000 in
theorem ggX1_removeUnused_X1_isUsed : GoodIn wsX1_removeUnused wsX1_isUsed := goodIn_r _ [39, 34, 9, 10, 11, 5, 12, 1, 13, 22, 23, 24, 25, 8, 14, 15, 16, 17, 18, 19, 20, 21, 7, 48, 49, 50, 51, 52, 53, 54] (by decide +kernel) (by decide +kernel)
set_option maxRecDepth 20000 in
theorem gX1_removeUnused_X1_isUsed : GoodIn wsX1_removeUnused (wsV RX1 66 RX1 yX1_isUsed wsX1_isUsed) := goodIn_app (goodIn_of _ (by decide +kernel)) ggX1_removeUnused_X1_isUsed
set_option maxRecDepth 20000 in
theorem ggX1_removeUnused_X1_remove : GoodIn wsX1_removeUnused wsX1_remove := goodIn_r _ [47, 1, 13, 48, 49, 50, 51, 52, 53, 54] (by decide +kernel) (by decide +kernel)
set_option maxRecDepth 20000 in
theorem gX1_removeUnused_X1_remove : GoodIn wsX1_removeUnused (wsV RX1 69 RX1 yX1_remove wsX1_remove) := goodIn_app (goodIn_of _ (by decide +kernel)) ggX1_removeUnused_X1_remove
theorem dX1_removeUnused_0 : decode cX1_removeUnused 0 = .ok (.aload_n 0, 1) := by decide +kernel
theorem dX1_removeUnused_1 : decode cX1_removeUnused 1 = .ok (.invokevirtual 60, 3) := by decide +kernel
theorem dX1_removeUnused_4 : decode cX1_removeUnused 4 = .ok (.aload_n 0, 1) := by decide +kernel
theorem dX1_removeUnused_5 : decode cX1_removeUnused 5 = .ok (.invokevirtual 63, 3) := by decide +kernel
theorem dX1_removeUnused_8 : decode cX1_removeUnused 8 = .ok (.iconst 0, 1) := by decide +kernel
theorem dX1_removeUnused_9 : decode cX1_removeUnused 9 = .ok (.istore_n 1, 1) := by decide +kernel
theorem dX1_removeUnused_10 : decode cX1_removeUnused 10 = .ok (.aload_n 0, 1) := by decide +kernel
theorem dX1_removeUnused_11 : decode cX1_removeUnused 11 = .ok (.getfield 21, 3) := by decide +kernel
theorem dX1_removeUnused_14 : decode cX1_removeUnused 14 = .ok (.iconst 1, 1) := by decide +kernel
theorem dX1_removeUnused_15 : decode cX1_removeUnused 15 = .ok (.isub, 1) := by decide +kernel
theorem dX1_removeUnused_16 : decode cX1_removeUnused 16 = .ok (.istore_n 2, 1) := by decide +kernel
theorem dX1_removeUnused_17 : decode cX1_removeUnused 17 = .ok (.iload_n 2, 1) := by decide +kernel
theorem dX1_removeUnused_18 : decode cX1_removeUnused 18 = .ok (.ifCond .lt 25, 3) := by decide +kernel
theorem dX1_removeUnused_21 : decode cX1_removeUnused 21 = .ok (.aload_n 0, 1) := by decide +kernel
theorem dX1_removeUnused_22 : decode cX1_removeUnused 22 = .ok (.iload_n 2, 1) := by decide +kernel
theorem dX1_removeUnused_23 : decode cX1_removeUnused 23 = .ok (.invokevirtual 66, 3) := by decide +kernel
theorem dX1_removeUnused_26 : decode cX1_removeUnused 26 = .ok (.ifCond .ne 11, 3) := by decide +kernel
theorem dX1_removeUnused_29 : decode cX1_removeUnused 29 = .ok (.aload_n 0, 1) := by decide +kernel
theorem dX1_removeUnused_30 : decode cX1_removeUnused 30 = .ok (.iload_n 2, 1) := by decide +kernel
theorem dX1_removeUnused_31 : decode cX1_removeUnused 31 = .ok (.invokevirtual 69, 3) := by decide +kernel
theorem dX1_removeUnused_34 : decode cX1_removeUnused 34 = .ok (.iinc 1 1, 3) := by decide +kernel
theorem dX1_removeUnused_37 : decode cX1_removeUnused 37 = .ok (.iinc 2 (-1), 3) := by decide +kernel
theorem dX1_removeUnused_40 : decode cX1_removeUnused 40 = .ok (.goto (-23), 3) := by decide +kernel
theorem dX1_removeUnused_43 : decode cX1_removeUnused 43 = .ok (.iload_n 1, 1) := by decide +kernel
theorem dX1_removeUnused_44 : decode cX1_removeUnused 44 = .ok (.ireturn, 1) := by decide +kernel
set_option maxRecDepth 20000 in
theorem ggX1_isUsed_X1_symbol : GoodIn wsX1_isUsed wsX1_symbol := goodIn_r _ [6, 7, 8, 23, 24, 25, 26, 27, 28, 29] (by decide +kernel) (by decide +kernel)
set_option maxRecDepth 20000 in
theorem gX1_isUsed_X1_symbol : GoodIn wsX1_isUsed (wsV RX1 45 RX1 yX1_symbol wsX1_symbol) := goodIn_app (goodIn_of _ (by decide +kernel)) ggX1_isUsed_X1_symbol
set_option maxRecDepth 20000 in
theorem ggX1_isUsed_X1_isNonterminal : GoodIn wsX1_isUsed wsX1_isNonterminal := goodIn_r _ [12, 13, 23, 24, 25, 26, 27, 28, 29] (by decide +kernel) (by decide +kernel)
set_option maxRecDepth 20000 in
theorem gX1_isUsed_X1_isNonterminal : GoodIn wsX1_isUsed (wsV RX1 35 RX1 yX1_isNonterminal wsX1_isNonterminal) := goodIn_app (goodIn_of _ (by decide +kernel)) ggX1_isUsed_X1_isNonterminal
set_option maxRecDepth 20000 in
theorem ggX1_isUsed_X1_shortestOf : GoodIn wsX1_isUsed wsX1_shortestOf := goodIn_r _ [17, 2, 3, 4, 5, 6, 7, 8, 18, 19, 20, 21, 22, 9, 10, 11, 12, 13, 23, 24, 25, 26, 27, 28, 29] (by decide +kernel) (by decide +kernel)
set_option maxRecDepth 20000 in
theorem gX1_isUsed_X1_shortestOf : GoodIn wsX1_isUsed (wsV RX1 49 RX1 yX1_shortestOf wsX1_shortestOf) := goodIn_app (goodIn_of _ (by decide +kernel)) ggX1_isUsed_X1_shortestOf
theorem dX1_isUsed_0 : decode cX1_isUsed 0 = .ok (.aload_n 0, 1) := by decide +kernel
theorem dX1_isUsed_1 : decode cX1_isUsed 1 = .ok (.iload_n 1, 1) := by decide +kernel
theorem dX1_isUsed_2 : decode cX1_isUsed 2 = .ok (.iconst 0, 1) := by decide +kernel
theorem dX1_isUsed_3 : decode cX1_isUsed 3 = .ok (.invokevirtual 45, 3) := by decide +kernel
theorem dX1_isUsed_6 : decode cX1_isUsed 6 = .ok (.istore_n 2, 1) := by decide +kernel
theorem dX1_isUsed_7 : decode cX1_isUsed 7 = .ok (.aload_n 0, 1) := by decide +kernel
theorem dX1_isUsed_8 : decode cX1_isUsed 8 = .ok (.iload_n 2, 1) := by decide +kernel
theorem dX1_isUsed_9 : decode cX1_isUsed 9 = .ok (.invokevirtual 35, 3) := by decide +kernel
theorem dX1_isUsed_12 : decode cX1_isUsed 12 = .ok (.ifCond .eq 24, 3) := by decide +kernel
theorem dX1_isUsed_15 : decode cX1_isUsed 15 = .ok (.aload_n 0, 1) := by decide +kernel
theorem dX1_isUsed_16 : decode cX1_isUsed 16 = .ok (.getfield 31, 3) := by decide +kernel
theorem dX1_isUsed_19 : decode cX1_isUsed 19 = .ok (.iload_n 2, 1) := by decide +kernel
theorem dX1_isUsed_20 : decode cX1_isUsed 20 = .ok (.baload, 1) := by decide +kernel
theorem dX1_isUsed_21 : decode cX1_isUsed 21 = .ok (.ifCond .eq 15, 3) := by decide +kernel
theorem dX1_isUsed_24 : decode cX1_isUsed 24 = .ok (.aload_n 0, 1) := by decide +kernel
theorem dX1_isUsed_25 : decode cX1_isUsed 25 = .ok (.iload_n 1, 1) := by decide +kernel
theorem dX1_isUsed_26 : decode cX1_isUsed 26 = .ok (.invokevirtual 49, 3) := by decide +kernel
theorem dX1_isUsed_29 : decode cX1_isUsed 29 = .ok (.ifCond .le 7, 3) := by decide +kernel
theorem dX1_isUsed_32 : decode cX1_isUsed 32 = .ok (.iconst 1, 1) := by decide +kernel
theorem dX1_isUsed_33 : decode cX1_isUsed 33 = .ok (.goto 4, 3) := by decide +kernel
theorem dX1_isUsed_36 : decode cX1_isUsed 36 = .ok (.iconst 0, 1) := by decide +kernel
theorem dX1_isUsed_37 : decode cX1_isUsed 37 = .ok (.ireturn, 1) := by decide +kernel
set_option maxRecDepth 20000 in
theorem ggX1_reach_X1_isUsed : GoodIn wsX1_reach wsX1_isUsed := goodIn_r _ [9, 1, 10, 11, 12, 8, 13, 4, 14, 15, 16, 17, 18, 3, 19, 20, 21, 22, 23, 24, 25, 26, 27, 32, 33, 34, 35, 36, 37, 38] (by decide +kernel) (by decide +kernel)
set_option maxRecDepth 20000 in
theorem gX1_reach_X1_isUsed : GoodIn wsX1_reach (wsV RX1 66 RX1 yX1_isUsed wsX1_isUsed) := goodIn_app (goodIn_of _ (by decide +kernel)) ggX1_reach_X1_isUsed
set_option maxRecDepth 20000 in
theorem ggX1_reach_X1_reachParts : GoodIn wsX1_reach wsX1_reachParts := goodIn_r _ [31, 1, 10, 11, 12, 8, 13, 4, 14, 15, 16, 17, 18, 3, 32, 33, 34, 35, 36, 37, 38] (by decide +kernel) (by decide +kernel)
set_option maxRecDepth 20000 in
theorem gX1_reach_X1_reachParts : GoodIn wsX1_reach (wsV RX1 73 RX1 yX1_reachParts wsX1_reachParts) := goodIn_app (goodIn_of _ (by decide +kernel)) ggX1_reach_X1_reachParts
theorem dX1_reach_0 : decode cX1_reach 0 = .ok (.iconst 0, 1) := by decide +kernel
theorem dX1_reach_1 : decode cX1_reach 1 = .ok (.istore_n 1, 1) := by decide +kernel
theorem dX1_reach_2 : decode cX1_reach 2 = .ok (.iload_n 1, 1) := by decide +kernel
theorem dX1_reach_3 : decode cX1_reach 3 = .ok (.bipush 6, 2) := by decide +kernel
theorem dX1_reach_5 : decode cX1_reach 5 = .ok (.if_icmp .ge 28, 3) := by decide +kernel
theorem dX1_reach_8 : decode cX1_reach 8 = .ok (.aload_n 0, 1) := by decide +kernel
theorem dX1_reach_9 : decode cX1_reach 9 = .ok (.getfield 31, 3) := by decide +kernel
theorem dX1_reach_12 : decode cX1_reach 12 = .ok (.iload_n 1, 1) := by decide +kernel
theorem dX1_reach_13 : decode cX1_reach 13 = .ok (.iload_n 1, 1) := by decide +kernel
theorem dX1_reach_14 : decode cX1_reach 14 = .ok (.aload_n 0, 1) := by decide +kernel
theorem dX1_reach_15 : decode cX1_reach 15 = .ok (.getfield 18, 3) := by decide +kernel
theorem dX1_reach_18 : decode cX1_reach 18 = .ok (.if_icmp .ne 7, 3) := by decide +kernel
theorem dX1_reach_21 : decode cX1_reach 21 = .ok (.iconst 1, 1) := by decide +kernel
theorem dX1_reach_22 : decode cX1_reach 22 = .ok (.goto 4, 3) := by decide +kernel
theorem dX1_reach_25 : decode cX1_reach 25 = .ok (.iconst 0, 1) := by decide +kernel
theorem dX1_reach_26 : decode cX1_reach 26 = .ok (.bastore, 1) := by decide +kernel
theorem dX1_reach_27 : decode cX1_reach 27 = .ok (.iinc 1 1, 3) := by decide +kernel
theorem dX1_reach_30 : decode cX1_reach 30 = .ok (.goto (-28), 3) := by decide +kernel
theorem dX1_reach_33 : decode cX1_reach 33 = .ok (.iconst 0, 1) := by decide +kernel
theorem dX1_reach_34 : decode cX1_reach 34 = .ok (.istore_n 1, 1) := by decide +kernel
theorem dX1_reach_35 : decode cX1_reach 35 = .ok (.iload_n 1, 1) := by decide +kernel
theorem dX1_reach_36 : decode cX1_reach 36 = .ok (.aload_n 0, 1) := by decide +kernel
theorem dX1_reach_37 : decode cX1_reach 37 = .ok (.getfield 9, 3) := by decide +kernel
theorem dX1_reach_40 : decode cX1_reach 40 = .ok (.if_icmp .ge 38, 3) := by decide +kernel
theorem dX1_reach_43 : decode cX1_reach 43 = .ok (.iconst 0, 1) := by decide +kernel
theorem dX1_reach_44 : decode cX1_reach 44 = .ok (.istore_n 2, 1) := by decide +kernel
theorem dX1_reach_45 : decode cX1_reach 45 = .ok (.iload_n 2, 1) := by decide +kernel
theorem dX1_reach_46 : decode cX1_reach 46 = .ok (.aload_n 0, 1) := by decide +kernel
theorem dX1_reach_47 : decode cX1_reach 47 = .ok (.getfield 21, 3) := by decide +kernel
theorem dX1_reach_50 : decode cX1_reach 50 = .ok (.if_icmp .ge 22, 3) := by decide +kernel
theorem dX1_reach_53 : decode cX1_reach 53 = .ok (.aload_n 0, 1) := by decide +kernel
theorem dX1_reach_54 : decode cX1_reach 54 = .ok (.iload_n 2, 1) := by decide +kernel
theorem dX1_reach_55 : decode cX1_reach 55 = .ok (.invokevirtual 66, 3) := by decide +kernel
theorem dX1_reach_58 : decode cX1_reach 58 = .ok (.ifCond .eq 8, 3) := by decide +kernel
theorem dX1_reach_61 : decode cX1_reach 61 = .ok (.aload_n 0, 1) := by decide +kernel
theorem dX1_reach_62 : decode cX1_reach 62 = .ok (.iload_n 2, 1) := by decide +kernel
theorem dX1_reach_63 : decode cX1_reach 63 = .ok (.invokevirtual 73, 3) := by decide +kernel
theorem dX1_reach_66 : decode cX1_reach 66 = .ok (.iinc 2 1, 3) := by decide +kernel
theorem dX1_reach_69 : decode cX1_reach 69 = .ok (.goto (-24), 3) := by decide +kernel
theorem dX1_reach_72 : decode cX1_reach 72 = .ok (.iinc 1 1, 3) := by decide +kernel
theorem dX1_reach_75 : decode cX1_reach 75 = .ok (.goto (-40), 3) := by decide +kernel
theorem dX1_reach_78 : decode cX1_reach 78 = .ok (.return_, 1) := by decide +kernel
set_option maxRecDepth 20000 in
theorem ggX1_reachParts_X1_symbol : GoodIn wsX1_reachParts wsX1_symbol := goodIn_r _ [6, 7, 8, 14, 15, 16, 17, 18, 19, 20] (by decide +kernel) (by decide +kernel)
set_option maxRecDepth 20000 in
theorem gX1_reachParts_X1_symbol : GoodIn wsX1_reachParts (wsV RX1 45 RX1 yX1_symbol wsX1_symbol) := goodIn_app (goodIn_of _ (by decide +kernel)) ggX1_reachParts_X1_symbol
set_option maxRecDepth 20000 in
theorem ggX1_reachParts_X1_isNonterminal : GoodIn wsX1_reachParts wsX1_isNonterminal := goodIn_r _ [12, 13, 14, 15, 16, 17, 18, 19, 20] (by decide +kernel) (by decide +kernel)
set_option maxRecDepth 20000 in
theorem gX1_reachParts_X1_isNonterminal : GoodIn wsX1_reachParts (wsV RX1 35 RX1 yX1_isNonterminal wsX1_isNonterminal) := goodIn_app (goodIn_of _ (by decide +kernel)) ggX1_reachParts_X1_isNonterminal
theorem dX1_reachParts_0 : decode cX1_reachParts 0 = .ok (.iconst 1, 1) := by decide +kernel
theorem dX1_reachParts_1 : decode cX1_reachParts 1 = .ok (.istore_n 2, 1) := by decide +kernel
theorem dX1_reachParts_2 : decode cX1_reachParts 2 = .ok (.iload_n 2, 1) := by decide +kernel
theorem dX1_reachParts_3 : decode cX1_reachParts 3 = .ok (.iconst 3, 1) := by decide +kernel
theorem dX1_reachParts_4 : decode cX1_reachParts 4 = .ok (.if_icmp .gt 31, 3) := by decide +kernel
theorem dX1_reachParts_7 : decode cX1_reachParts 7 = .ok (.aload_n 0, 1) := by decide +kernel
theorem dX1_reachParts_8 : decode cX1_reachParts 8 = .ok (.iload_n 1, 1) := by decide +kernel
theorem dX1_reachParts_9 : decode cX1_reachParts 9 = .ok (.iload_n 2, 1) := by decide +kernel
theorem dX1_reachParts_10 : decode cX1_reachParts 10 = .ok (.invokevirtual 45, 3) := by decide +kernel
theorem dX1_reachParts_13 : decode cX1_reachParts 13 = .ok (.istore_n 3, 1) := by decide +kernel
theorem dX1_reachParts_14 : decode cX1_reachParts 14 = .ok (.aload_n 0, 1) := by decide +kernel
theorem dX1_reachParts_15 : decode cX1_reachParts 15 = .ok (.iload_n 3, 1) := by decide +kernel
theorem dX1_reachParts_16 : decode cX1_reachParts 16 = .ok (.invokevirtual 35, 3) := by decide +kernel
theorem dX1_reachParts_19 : decode cX1_reachParts 19 = .ok (.ifCond .eq 10, 3) := by decide +kernel
theorem dX1_reachParts_22 : decode cX1_reachParts 22 = .ok (.aload_n 0, 1) := by decide +kernel
theorem dX1_reachParts_23 : decode cX1_reachParts 23 = .ok (.getfield 31, 3) := by decide +kernel
theorem dX1_reachParts_26 : decode cX1_reachParts 26 = .ok (.iload_n 3, 1) := by decide +kernel
theorem dX1_reachParts_27 : decode cX1_reachParts 27 = .ok (.iconst 1, 1) := by decide +kernel
theorem dX1_reachParts_28 : decode cX1_reachParts 28 = .ok (.bastore, 1) := by decide +kernel
theorem dX1_reachParts_29 : decode cX1_reachParts 29 = .ok (.iinc 2 1, 3) := by decide +kernel
theorem dX1_reachParts_32 : decode cX1_reachParts 32 = .ok (.goto (-30), 3) := by decide +kernel
theorem dX1_reachParts_35 : decode cX1_reachParts 35 = .ok (.return_, 1) := by decide +kernel
set_option maxRecDepth 20000 in
theorem ggX2_init_X0_init : GoodIn wsX2_init wsX0_init := goodIn_r _ [3, 4, 5, 6, 7, 8, 9, 10, 11, 12, 13, 14, 15, 16, 17] (by decide +kernel) (by decide +kernel)
set_option maxRecDepth 20000 in
theorem gX2_init_X0_init_n3 : GoodIn wsX2_init (wsX0_init) := ggX2_init_X0_init
theorem dX2_init_0 : decode cX2_init 0 = .ok (.aload_n 0, 1) := by decide +kernel
theorem dX2_init_1 : decode cX2_init 1 = .ok (.aload_n 1, 1) := by decide +kernel
theorem dX2_init_2 : decode cX2_init 2 = .ok (.bipush 10, 2) := by decide +kernel
theorem dX2_init_4 : decode cX2_init 4 = .ok (.invokespecial 3, 3) := by decide +kernel
theorem dX2_init_7 : decode cX2_init 7 = .ok (.return_, 1) := by decide +kernel
theorem dX2_pieces_0 : decode cX2_pieces 0 = .ok (.iconst 1, 1) := by decide +kernel
theorem dX2_pieces_1 : decode cX2_pieces 1 = .ok (.ireturn, 1) := by decide +kernel
theorem dX2_place_0 : decode cX2_place 0 = .ok (.iload_n 1, 1) := by decide +kernel
theorem dX2_place_1 : decode cX2_place 1 = .ok (.iconst 1, 1) := by decide +kernel
theorem dX2_place_2 : decode cX2_place 2 = .ok (.isub, 1) := by decide +kernel
theorem dX2_place_3 : decode cX2_place 3 = .ok (.ireturn, 1) := by decide +kernel
theorem dX2_part_0 : decode cX2_part 0 = .ok (.iconst 0, 1) := by decide +kernel
theorem dX2_part_1 : decode cX2_part 1 = .ok (.ireturn, 1) := by decide +kernel
theorem dX2_fits_0 : decode cX2_fits 0 = .ok (.iconst 1, 1) := by decide +kernel
theorem dX2_fits_1 : decode cX2_fits 1 = .ok (.ireturn, 1) := by decide +kernel
theorem dX3_init_0 : decode cX3_init 0 = .ok (.aload_n 0, 1) := by decide +kernel
theorem dX3_init_1 : decode cX3_init 1 = .ok (.invokespecial 3, 3) := by decide +kernel
theorem dX3_init_4 : decode cX3_init 4 = .ok (.aload_n 0, 1) := by decide +kernel
theorem dX3_init_5 : decode cX3_init 5 = .ok (.iconst 3, 1) := by decide +kernel
theorem dX3_init_6 : decode cX3_init 6 = .ok (.newarray .boolean, 2) := by decide +kernel
theorem dX3_init_8 : decode cX3_init 8 = .ok (.putfield 9, 3) := by decide +kernel
theorem dX3_init_11 : decode cX3_init 11 = .ok (.aload_n 0, 1) := by decide +kernel
theorem dX3_init_12 : decode cX3_init 12 = .ok (.iconst 3, 1) := by decide +kernel
theorem dX3_init_13 : decode cX3_init 13 = .ok (.newarray .boolean, 2) := by decide +kernel
theorem dX3_init_15 : decode cX3_init 15 = .ok (.putfield 15, 3) := by decide +kernel
theorem dX3_init_18 : decode cX3_init 18 = .ok (.aload_n 0, 1) := by decide +kernel
theorem dX3_init_19 : decode cX3_init 19 = .ok (.iconst 3, 1) := by decide +kernel
theorem dX3_init_20 : decode cX3_init 20 = .ok (.newarray .int, 2) := by decide +kernel
theorem dX3_init_22 : decode cX3_init 22 = .ok (.putfield 18, 3) := by decide +kernel
theorem dX3_init_25 : decode cX3_init 25 = .ok (.aload_n 0, 1) := by decide +kernel
theorem dX3_init_26 : decode cX3_init 26 = .ok (.bipush 120, 2) := by decide +kernel
theorem dX3_init_28 : decode cX3_init 28 = .ok (.newarray .int, 2) := by decide +kernel
theorem dX3_init_30 : decode cX3_init 30 = .ok (.putfield 22, 3) := by decide +kernel
theorem dX3_init_33 : decode cX3_init 33 = .ok (.return_, 1) := by decide +kernel
theorem dX3_begin_0 : decode cX3_begin 0 = .ok (.iload_n 1, 1) := by decide +kernel
theorem dX3_begin_1 : decode cX3_begin 1 = .ok (.ifCond .lt 8, 3) := by decide +kernel
theorem dX3_begin_4 : decode cX3_begin 4 = .ok (.iload_n 1, 1) := by decide +kernel
theorem dX3_begin_5 : decode cX3_begin 5 = .ok (.iconst 3, 1) := by decide +kernel
theorem dX3_begin_6 : decode cX3_begin 6 = .ok (.if_icmp .lt 4, 3) := by decide +kernel
theorem dX3_begin_9 : decode cX3_begin 9 = .ok (.return_, 1) := by decide +kernel
theorem dX3_begin_10 : decode cX3_begin 10 = .ok (.aload_n 0, 1) := by decide +kernel
theorem dX3_begin_11 : decode cX3_begin 11 = .ok (.getfield 9, 3) := by decide +kernel
theorem dX3_begin_14 : decode cX3_begin 14 = .ok (.iload_n 1, 1) := by decide +kernel
theorem dX3_begin_15 : decode cX3_begin 15 = .ok (.iconst 1, 1) := by decide +kernel
theorem dX3_begin_16 : decode cX3_begin 16 = .ok (.bastore, 1) := by decide +kernel
theorem dX3_begin_17 : decode cX3_begin 17 = .ok (.aload_n 0, 1) := by decide +kernel
theorem dX3_begin_18 : decode cX3_begin 18 = .ok (.getfield 15, 3) := by decide +kernel
theorem dX3_begin_21 : decode cX3_begin 21 = .ok (.iload_n 1, 1) := by decide +kernel
theorem dX3_begin_22 : decode cX3_begin 22 = .ok (.iload_n 2, 1) := by decide +kernel
theorem dX3_begin_23 : decode cX3_begin 23 = .ok (.bastore, 1) := by decide +kernel
theorem dX3_begin_24 : decode cX3_begin 24 = .ok (.aload_n 0, 1) := by decide +kernel
theorem dX3_begin_25 : decode cX3_begin 25 = .ok (.getfield 18, 3) := by decide +kernel
theorem dX3_begin_28 : decode cX3_begin 28 = .ok (.iload_n 1, 1) := by decide +kernel
theorem dX3_begin_29 : decode cX3_begin 29 = .ok (.iload_n 3, 1) := by decide +kernel
theorem dX3_begin_30 : decode cX3_begin 30 = .ok (.iastore, 1) := by decide +kernel
theorem dX3_begin_31 : decode cX3_begin 31 = .ok (.iconst 0, 1) := by decide +kernel
theorem dX3_begin_32 : decode cX3_begin 32 = .ok (.istore 4, 2) := by decide +kernel
theorem dX3_begin_34 : decode cX3_begin 34 = .ok (.iload 4, 2) := by decide +kernel
theorem dX3_begin_36 : decode cX3_begin 36 = .ok (.bipush 40, 2) := by decide +kernel
theorem dX3_begin_38 : decode cX3_begin 38 = .ok (.if_icmp .ge 22, 3) := by decide +kernel
theorem dX3_begin_41 : decode cX3_begin 41 = .ok (.aload_n 0, 1) := by decide +kernel
theorem dX3_begin_42 : decode cX3_begin 42 = .ok (.getfield 22, 3) := by decide +kernel
theorem dX3_begin_45 : decode cX3_begin 45 = .ok (.iload_n 1, 1) := by decide +kernel
theorem dX3_begin_46 : decode cX3_begin 46 = .ok (.bipush 40, 2) := by decide +kernel
theorem dX3_begin_48 : decode cX3_begin 48 = .ok (.imul, 1) := by decide +kernel
theorem dX3_begin_49 : decode cX3_begin 49 = .ok (.iload 4, 2) := by decide +kernel
theorem dX3_begin_51 : decode cX3_begin 51 = .ok (.iadd, 1) := by decide +kernel
theorem dX3_begin_52 : decode cX3_begin 52 = .ok (.iconst 0, 1) := by decide +kernel
theorem dX3_begin_53 : decode cX3_begin 53 = .ok (.iastore, 1) := by decide +kernel
theorem dX3_begin_54 : decode cX3_begin 54 = .ok (.iinc 4 1, 3) := by decide +kernel
theorem dX3_begin_57 : decode cX3_begin 57 = .ok (.goto (-23), 3) := by decide +kernel
theorem dX3_begin_60 : decode cX3_begin 60 = .ok (.return_, 1) := by decide +kernel
theorem dX3_isHeld_0 : decode cX3_isHeld 0 = .ok (.iload_n 1, 1) := by decide +kernel
theorem dX3_isHeld_1 : decode cX3_isHeld 1 = .ok (.ifCond .lt 21, 3) := by decide +kernel
theorem dX3_isHeld_4 : decode cX3_isHeld 4 = .ok (.iload_n 1, 1) := by decide +kernel
theorem dX3_isHeld_5 : decode cX3_isHeld 5 = .ok (.iconst 3, 1) := by decide +kernel
theorem dX3_isHeld_6 : decode cX3_isHeld 6 = .ok (.if_icmp .ge 16, 3) := by decide +kernel
theorem dX3_isHeld_9 : decode cX3_isHeld 9 = .ok (.aload_n 0, 1) := by decide +kernel
theorem dX3_isHeld_10 : decode cX3_isHeld 10 = .ok (.getfield 9, 3) := by decide +kernel
theorem dX3_isHeld_13 : decode cX3_isHeld 13 = .ok (.iload_n 1, 1) := by decide +kernel
theorem dX3_isHeld_14 : decode cX3_isHeld 14 = .ok (.baload, 1) := by decide +kernel
theorem dX3_isHeld_15 : decode cX3_isHeld 15 = .ok (.ifCond .eq 7, 3) := by decide +kernel
theorem dX3_isHeld_18 : decode cX3_isHeld 18 = .ok (.iconst 1, 1) := by decide +kernel
theorem dX3_isHeld_19 : decode cX3_isHeld 19 = .ok (.goto 4, 3) := by decide +kernel
theorem dX3_isHeld_22 : decode cX3_isHeld 22 = .ok (.iconst 0, 1) := by decide +kernel
theorem dX3_isHeld_23 : decode cX3_isHeld 23 = .ok (.ireturn, 1) := by decide +kernel
set_option maxRecDepth 20000 in
theorem ggX3_length_X3_isHeld : GoodIn wsX3_length wsX3_isHeld := goodIn_r _ [6, 7, 8, 9, 10, 11] (by decide +kernel) (by decide +kernel)
set_option maxRecDepth 20000 in
theorem gX3_length_X3_isHeld : GoodIn wsX3_length (wsV RX3 25 RX3 yX3_isHeld wsX3_isHeld) := goodIn_app (goodIn_of _ (by decide +kernel)) ggX3_length_X3_isHeld
theorem dX3_length_0 : decode cX3_length 0 = .ok (.aload_n 0, 1) := by decide +kernel
theorem dX3_length_1 : decode cX3_length 1 = .ok (.iload_n 1, 1) := by decide +kernel
theorem dX3_length_2 : decode cX3_length 2 = .ok (.invokevirtual 25, 3) := by decide +kernel
theorem dX3_length_5 : decode cX3_length 5 = .ok (.ifCond .eq 12, 3) := by decide +kernel
theorem dX3_length_8 : decode cX3_length 8 = .ok (.aload_n 0, 1) := by decide +kernel
theorem dX3_length_9 : decode cX3_length 9 = .ok (.getfield 18, 3) := by decide +kernel
theorem dX3_length_12 : decode cX3_length 12 = .ok (.iload_n 1, 1) := by decide +kernel
theorem dX3_length_13 : decode cX3_length 13 = .ok (.iaload, 1) := by decide +kernel
theorem dX3_length_14 : decode cX3_length 14 = .ok (.goto 4, 3) := by decide +kernel
theorem dX3_length_17 : decode cX3_length 17 = .ok (.iconst 0, 1) := by decide +kernel
theorem dX3_length_18 : decode cX3_length 18 = .ok (.ireturn, 1) := by decide +kernel
set_option maxRecDepth 20000 in
theorem ggX3_isElement_X3_isHeld : GoodIn wsX3_isElement wsX3_isHeld := goodIn_r _ [5, 6, 7, 8, 9, 10] (by decide +kernel) (by decide +kernel)
set_option maxRecDepth 20000 in
theorem gX3_isElement_X3_isHeld : GoodIn wsX3_isElement (wsV RX3 25 RX3 yX3_isHeld wsX3_isHeld) := goodIn_app (goodIn_of _ (by decide +kernel)) ggX3_isElement_X3_isHeld
theorem dX3_isElement_0 : decode cX3_isElement 0 = .ok (.aload_n 0, 1) := by decide +kernel
theorem dX3_isElement_1 : decode cX3_isElement 1 = .ok (.iload_n 1, 1) := by decide +kernel
theorem dX3_isElement_2 : decode cX3_isElement 2 = .ok (.invokevirtual 25, 3) := by decide +kernel
theorem dX3_isElement_5 : decode cX3_isElement 5 = .ok (.ifCond .eq 17, 3) := by decide +kernel
theorem dX3_isElement_8 : decode cX3_isElement 8 = .ok (.iload_n 2, 1) := by decide +kernel
theorem dX3_isElement_9 : decode cX3_isElement 9 = .ok (.ifCond .lt 13, 3) := by decide +kernel
theorem dX3_isElement_12 : decode cX3_isElement 12 = .ok (.iload_n 2, 1) := by decide +kernel
theorem dX3_isElement_13 : decode cX3_isElement 13 = .ok (.bipush 40, 2) := by decide +kernel
theorem dX3_isElement_15 : decode cX3_isElement 15 = .ok (.if_icmp .ge 7, 3) := by decide +kernel
theorem dX3_isElement_18 : decode cX3_isElement 18 = .ok (.iconst 1, 1) := by decide +kernel
theorem dX3_isElement_19 : decode cX3_isElement 19 = .ok (.goto 4, 3) := by decide +kernel
theorem dX3_isElement_22 : decode cX3_isElement 22 = .ok (.iconst 0, 1) := by decide +kernel
theorem dX3_isElement_23 : decode cX3_isElement 23 = .ok (.ireturn, 1) := by decide +kernel
set_option maxRecDepth 20000 in
theorem ggX3_element_X3_isElement : GoodIn wsX3_element wsX3_isElement := goodIn_r _ [6, 7, 8, 9, 5, 10, 11, 12, 13, 14, 15] (by decide +kernel) (by decide +kernel)
set_option maxRecDepth 20000 in
theorem gX3_element_X3_isElement : GoodIn wsX3_element (wsV RX3 29 RX3 yX3_isElement wsX3_isElement) := goodIn_app (goodIn_of _ (by decide +kernel)) ggX3_element_X3_isElement
theorem dX3_element_0 : decode cX3_element 0 = .ok (.aload_n 0, 1) := by decide +kernel
theorem dX3_element_1 : decode cX3_element 1 = .ok (.iload_n 1, 1) := by decide +kernel
theorem dX3_element_2 : decode cX3_element 2 = .ok (.iload_n 2, 1) := by decide +kernel
theorem dX3_element_3 : decode cX3_element 3 = .ok (.invokevirtual 29, 3) := by decide +kernel
theorem dX3_element_6 : decode cX3_element 6 = .ok (.ifCond .eq 17, 3) := by decide +kernel
theorem dX3_element_9 : decode cX3_element 9 = .ok (.aload_n 0, 1) := by decide +kernel
theorem dX3_element_10 : decode cX3_element 10 = .ok (.getfield 22, 3) := by decide +kernel
theorem dX3_element_13 : decode cX3_element 13 = .ok (.iload_n 1, 1) := by decide +kernel
theorem dX3_element_14 : decode cX3_element 14 = .ok (.bipush 40, 2) := by decide +kernel
theorem dX3_element_16 : decode cX3_element 16 = .ok (.imul, 1) := by decide +kernel
theorem dX3_element_17 : decode cX3_element 17 = .ok (.iload_n 2, 1) := by decide +kernel
theorem dX3_element_18 : decode cX3_element 18 = .ok (.iadd, 1) := by decide +kernel
theorem dX3_element_19 : decode cX3_element 19 = .ok (.iaload, 1) := by decide +kernel
theorem dX3_element_20 : decode cX3_element 20 = .ok (.goto 4, 3) := by decide +kernel
theorem dX3_element_23 : decode cX3_element 23 = .ok (.iconst 0, 1) := by decide +kernel
theorem dX3_element_24 : decode cX3_element 24 = .ok (.ireturn, 1) := by decide +kernel
set_option maxRecDepth 20000 in
theorem ggX3_put_X3_isElement : GoodIn wsX3_put wsX3_isElement := goodIn_r _ [7, 8, 9, 10, 6, 11, 12, 13, 14, 15, 16] (by decide +kernel) (by decide +kernel)
set_option maxRecDepth 20000 in
theorem gX3_put_X3_isElement : GoodIn wsX3_put (wsV RX3 29 RX3 yX3_isElement wsX3_isElement) := goodIn_app (goodIn_of _ (by decide +kernel)) ggX3_put_X3_isElement
theorem dX3_put_0 : decode cX3_put 0 = .ok (.aload_n 0, 1) := by decide +kernel
theorem dX3_put_1 : decode cX3_put 1 = .ok (.iload_n 1, 1) := by decide +kernel
theorem dX3_put_2 : decode cX3_put 2 = .ok (.iload_n 2, 1) := by decide +kernel
theorem dX3_put_3 : decode cX3_put 3 = .ok (.invokevirtual 29, 3) := by decide +kernel
theorem dX3_put_6 : decode cX3_put 6 = .ok (.ifCond .eq 29, 3) := by decide +kernel
theorem dX3_put_9 : decode cX3_put 9 = .ok (.aload_n 0, 1) := by decide +kernel
theorem dX3_put_10 : decode cX3_put 10 = .ok (.getfield 22, 3) := by decide +kernel
theorem dX3_put_13 : decode cX3_put 13 = .ok (.iload_n 1, 1) := by decide +kernel
theorem dX3_put_14 : decode cX3_put 14 = .ok (.bipush 40, 2) := by decide +kernel
theorem dX3_put_16 : decode cX3_put 16 = .ok (.imul, 1) := by decide +kernel
theorem dX3_put_17 : decode cX3_put 17 = .ok (.iload_n 2, 1) := by decide +kernel
theorem dX3_put_18 : decode cX3_put 18 = .ok (.iadd, 1) := by decide +kernel
theorem dX3_put_19 : decode cX3_put 19 = .ok (.aload_n 0, 1) := by decide +kernel
theorem dX3_put_20 : decode cX3_put 20 = .ok (.getfield 15, 3) := by decide +kernel
theorem dX3_put_23 : decode cX3_put 23 = .ok (.iload_n 1, 1) := by decide +kernel
theorem dX3_put_24 : decode cX3_put 24 = .ok (.baload, 1) := by decide +kernel
theorem dX3_put_25 : decode cX3_put 25 = .ok (.ifCond .eq 7, 3) := by decide +kernel
theorem dX3_put_28 : decode cX3_put 28 = .ok (.iload_n 3, 1) := by decide +kernel
theorem dX3_put_29 : decode cX3_put 29 = .ok (.goto 5, 3) := by decide +kernel
theorem dX3_put_32 : decode cX3_put 32 = .ok (.iload_n 3, 1) := by decide +kernel
theorem dX3_put_33 : decode cX3_put 33 = .ok (.i2s, 1) := by decide +kernel
theorem dX3_put_34 : decode cX3_put 34 = .ok (.iastore, 1) := by decide +kernel
theorem dX3_put_35 : decode cX3_put 35 = .ok (.return_, 1) := by decide +kernel
set_option maxRecDepth 20000 in
theorem ggX4_init_X0_init : GoodIn wsX4_init wsX0_init := goodIn_r _ [4, 5, 6, 7, 8, 9, 10, 11, 16, 17, 18, 12, 13, 14, 15] (by decide +kernel) (by decide +kernel)
set_option maxRecDepth 20000 in
theorem gX4_init_X0_init_n3 : GoodIn wsX4_init (wsX0_init) := ggX4_init_X0_init
theorem dX4_init_0 : decode cX4_init 0 = .ok (.aload_n 0, 1) := by decide +kernel
theorem dX4_init_1 : decode cX4_init 1 = .ok (.aload_n 1, 1) := by decide +kernel
theorem dX4_init_2 : decode cX4_init 2 = .ok (.bipush 64, 2) := by decide +kernel
theorem dX4_init_4 : decode cX4_init 4 = .ok (.invokespecial 3, 3) := by decide +kernel
theorem dX4_init_7 : decode cX4_init 7 = .ok (.aload_n 0, 1) := by decide +kernel
theorem dX4_init_8 : decode cX4_init 8 = .ok (.aload_n 2, 1) := by decide +kernel
theorem dX4_init_9 : decode cX4_init 9 = .ok (.putfield 9, 3) := by decide +kernel
theorem dX4_init_12 : decode cX4_init 12 = .ok (.return_, 1) := by decide +kernel
theorem dX4_pieces_0 : decode cX4_pieces 0 = .ok (.aload_n 0, 1) := by decide +kernel
theorem dX4_pieces_1 : decode cX4_pieces 1 = .ok (.getfield 9, 3) := by decide +kernel
theorem dX4_pieces_4 : decode cX4_pieces 4 = .ok (.getfield 15, 3) := by decide +kernel
theorem dX4_pieces_7 : decode cX4_pieces 7 = .ok (.iload_n 1, 1) := by decide +kernel
theorem dX4_pieces_8 : decode cX4_pieces 8 = .ok (.isub, 1) := by decide +kernel
theorem dX4_pieces_9 : decode cX4_pieces 9 = .ok (.iconst 1, 1) := by decide +kernel
theorem dX4_pieces_10 : decode cX4_pieces 10 = .ok (.iadd, 1) := by decide +kernel
theorem dX4_pieces_11 : decode cX4_pieces 11 = .ok (.ireturn, 1) := by decide +kernel
theorem dX4_place_0 : decode cX4_place 0 = .ok (.iload_n 1, 1) := by decide +kernel
theorem dX4_place_1 : decode cX4_place 1 = .ok (.iconst 1, 1) := by decide +kernel
theorem dX4_place_2 : decode cX4_place 2 = .ok (.isub, 1) := by decide +kernel
theorem dX4_place_3 : decode cX4_place 3 = .ok (.bipush 8, 2) := by decide +kernel
theorem dX4_place_5 : decode cX4_place 5 = .ok (.imul, 1) := by decide +kernel
theorem dX4_place_6 : decode cX4_place 6 = .ok (.iload_n 2, 1) := by decide +kernel
theorem dX4_place_7 : decode cX4_place 7 = .ok (.iadd, 1) := by decide +kernel
theorem dX4_place_8 : decode cX4_place 8 = .ok (.ireturn, 1) := by decide +kernel
theorem dX4_part_0 : decode cX4_part 0 = .ok (.iload_n 1, 1) := by decide +kernel
theorem dX4_part_1 : decode cX4_part 1 = .ok (.iload_n 2, 1) := by decide +kernel
theorem dX4_part_2 : decode cX4_part 2 = .ok (.iadd, 1) := by decide +kernel
theorem dX4_part_3 : decode cX4_part 3 = .ok (.ireturn, 1) := by decide +kernel
theorem dX4_fits_0 : decode cX4_fits 0 = .ok (.iload_n 1, 1) := by decide +kernel
theorem dX4_fits_1 : decode cX4_fits 1 = .ok (.ifCond .lt 26, 3) := by decide +kernel
theorem dX4_fits_4 : decode cX4_fits 4 = .ok (.iload_n 1, 1) := by decide +kernel
theorem dX4_fits_5 : decode cX4_fits 5 = .ok (.bipush 8, 2) := by decide +kernel
theorem dX4_fits_7 : decode cX4_fits 7 = .ok (.if_icmp .ge 20, 3) := by decide +kernel
theorem dX4_fits_10 : decode cX4_fits 10 = .ok (.aload_n 0, 1) := by decide +kernel
theorem dX4_fits_11 : decode cX4_fits 11 = .ok (.getfield 9, 3) := by decide +kernel
theorem dX4_fits_14 : decode cX4_fits 14 = .ok (.getfield 21, 3) := by decide +kernel
theorem dX4_fits_17 : decode cX4_fits 17 = .ok (.iload_n 1, 1) := by decide +kernel
theorem dX4_fits_18 : decode cX4_fits 18 = .ok (.iaload, 1) := by decide +kernel
theorem dX4_fits_19 : decode cX4_fits 19 = .ok (.iload_n 2, 1) := by decide +kernel
theorem dX4_fits_20 : decode cX4_fits 20 = .ok (.if_icmp .ne 7, 3) := by decide +kernel
theorem dX4_fits_23 : decode cX4_fits 23 = .ok (.iconst 1, 1) := by decide +kernel
theorem dX4_fits_24 : decode cX4_fits 24 = .ok (.goto 4, 3) := by decide +kernel
theorem dX4_fits_27 : decode cX4_fits 27 = .ok (.iconst 0, 1) := by decide +kernel
theorem dX4_fits_28 : decode cX4_fits 28 = .ok (.ireturn, 1) := by decide +kernel
theorem dX5_init_0 : decode cX5_init 0 = .ok (.aload_n 0, 1) := by decide +kernel
theorem dX5_init_1 : decode cX5_init 1 = .ok (.invokespecial 3, 3) := by decide +kernel
theorem dX5_init_4 : decode cX5_init 4 = .ok (.aload_n 0, 1) := by decide +kernel
theorem dX5_init_5 : decode cX5_init 5 = .ok (.aload_n 1, 1) := by decide +kernel
theorem dX5_init_6 : decode cX5_init 6 = .ok (.putfield 9, 3) := by decide +kernel
theorem dX5_init_9 : decode cX5_init 9 = .ok (.aload_n 0, 1) := by decide +kernel
theorem dX5_init_10 : decode cX5_init 10 = .ok (.iconst 0, 1) := by decide +kernel
theorem dX5_init_11 : decode cX5_init 11 = .ok (.putfield 15, 3) := by decide +kernel
theorem dX5_init_14 : decode cX5_init 14 = .ok (.aload_n 0, 1) := by decide +kernel
theorem dX5_init_15 : decode cX5_init 15 = .ok (.lconst 0, 1) := by decide +kernel
theorem dX5_init_16 : decode cX5_init 16 = .ok (.putfield 19, 3) := by decide +kernel
theorem dX5_init_19 : decode cX5_init 19 = .ok (.aload_n 0, 1) := by decide +kernel
theorem dX5_init_20 : decode cX5_init 20 = .ok (.iconst 0, 1) := by decide +kernel
theorem dX5_init_21 : decode cX5_init 21 = .ok (.putfield 23, 3) := by decide +kernel
theorem dX5_init_24 : decode cX5_init 24 = .ok (.aload_n 0, 1) := by decide +kernel
theorem dX5_init_25 : decode cX5_init 25 = .ok (.bipush 15, 2) := by decide +kernel
theorem dX5_init_27 : decode cX5_init 27 = .ok (.newarray .int, 2) := by decide +kernel
theorem dX5_init_29 : decode cX5_init 29 = .ok (.putfield 27, 3) := by decide +kernel
theorem dX5_init_32 : decode cX5_init 32 = .ok (.aload_n 0, 1) := by decide +kernel
theorem dX5_init_33 : decode cX5_init 33 = .ok (.bipush 15, 2) := by decide +kernel
theorem dX5_init_35 : decode cX5_init 35 = .ok (.newarray .int, 2) := by decide +kernel
theorem dX5_init_37 : decode cX5_init 37 = .ok (.putfield 31, 3) := by decide +kernel
theorem dX5_init_40 : decode cX5_init 40 = .ok (.aload_n 0, 1) := by decide +kernel
theorem dX5_init_41 : decode cX5_init 41 = .ok (.bipush 15, 2) := by decide +kernel
theorem dX5_init_43 : decode cX5_init 43 = .ok (.newarray .int, 2) := by decide +kernel
theorem dX5_init_45 : decode cX5_init 45 = .ok (.putfield 34, 3) := by decide +kernel
theorem dX5_init_48 : decode cX5_init 48 = .ok (.aload_n 0, 1) := by decide +kernel
theorem dX5_init_49 : decode cX5_init 49 = .ok (.bipush 15, 2) := by decide +kernel
theorem dX5_init_51 : decode cX5_init 51 = .ok (.newarray .int, 2) := by decide +kernel
theorem dX5_init_53 : decode cX5_init 53 = .ok (.putfield 37, 3) := by decide +kernel
theorem dX5_init_56 : decode cX5_init 56 = .ok (.aload_n 0, 1) := by decide +kernel
theorem dX5_init_57 : decode cX5_init 57 = .ok (.bipush 15, 2) := by decide +kernel
theorem dX5_init_59 : decode cX5_init 59 = .ok (.newarray .int, 2) := by decide +kernel
theorem dX5_init_61 : decode cX5_init 61 = .ok (.putfield 40, 3) := by decide +kernel
theorem dX5_init_64 : decode cX5_init 64 = .ok (.aload_n 0, 1) := by decide +kernel
theorem dX5_init_65 : decode cX5_init 65 = .ok (.bipush 15, 2) := by decide +kernel
theorem dX5_init_67 : decode cX5_init 67 = .ok (.newarray .int, 2) := by decide +kernel
theorem dX5_init_69 : decode cX5_init 69 = .ok (.putfield 43, 3) := by decide +kernel
theorem dX5_init_72 : decode cX5_init 72 = .ok (.aload_n 0, 1) := by decide +kernel
theorem dX5_init_73 : decode cX5_init 73 = .ok (.bipush 15, 2) := by decide +kernel
theorem dX5_init_75 : decode cX5_init 75 = .ok (.newarray .long, 2) := by decide +kernel
theorem dX5_init_77 : decode cX5_init 77 = .ok (.putfield 46, 3) := by decide +kernel
theorem dX5_init_80 : decode cX5_init 80 = .ok (.return_, 1) := by decide +kernel
set_option maxRecDepth 20000 in
theorem ggX5_grow_X1_isNonterminal : GoodIn wsX5_grow wsX1_isNonterminal := goodIn_r _ [15, 16, 104, 105, 106, 107, 108, 109, 110] (by decide +kernel) (by decide +kernel)
set_option maxRecDepth 20000 in
theorem gX5_grow_X1_isNonterminal_n50 : GoodIn wsX5_grow (wsX1_isNonterminal) := ggX5_grow_X1_isNonterminal
set_option maxRecDepth 20000 in
theorem ggX5_grow_X5_choose : GoodIn wsX5_grow wsX5_choose := goodIn_r _ [21, 4, 2, 5, 6, 7, 22, 23, 24, 25, 26, 27, 28, 29, 13, 30, 31, 32, 33, 34, 35, 36, 37, 38, 39, 40, 41, 42, 43, 44, 45, 46, 47, 48, 49, 50, 51, 52, 53, 54, 55, 56, 57, 58, 59, 60, 61, 62, 63, 64, 65, 66, 67, 68, 69, 70, 71, 72, 73, 74, 75, 76, 77, 78, 79, 80, 81, 82, 83, 84, 85, 86, 87, 93, 94, 95, 96, 97, 98, 99, 100, 101, 102, 103, 104, 105, 106, 107, 108, 109, 110, 111, 112, 113, 114, 115, 116, 117, 118, 119] (by decide +kernel) (by decide +kernel)
set_option maxRecDepth 20000 in
theorem gX5_grow_X5_choose : GoodIn wsX5_grow (wsV RX5 56 RX5 yX5_choose wsX5_choose) := goodIn_app (goodIn_of _ (by decide +kernel)) ggX5_grow_X5_choose
set_option maxRecDepth 20000 in
theorem ggX5_grow_X2_part : GoodIn wsX5_grow wsX2_part := goodIn_r _ [44] (by decide +kernel) (by decide +kernel)
set_option maxRecDepth 20000 in
theorem gX5_grow_X2_part_u60X2 : GoodIn wsX5_grow (va_wsU RX5 60 RX2 "GrammarAmbiguity$Counts" ⟨"GrammarAmbiguity$Counts", "part", "(II)I"⟩ yX2_part wsX2_part) := goodIn_app (goodIn_of _ (by decide +kernel)) ggX5_grow_X2_part
set_option maxRecDepth 20000 in
theorem ggX5_grow_X4_part : GoodIn wsX5_grow wsX4_part := goodIn_r _ [48] (by decide +kernel) (by decide +kernel)
set_option maxRecDepth 20000 in
theorem gX5_grow_X4_part_u60X4 : GoodIn wsX5_grow (va_wsU RX5 60 RX4 "GrammarAmbiguity$Counts" ⟨"GrammarAmbiguity$Counts", "part", "(II)I"⟩ yX4_part wsX4_part) := goodIn_app (goodIn_of _ (by decide +kernel)) ggX5_grow_X4_part
set_option maxRecDepth 20000 in
theorem ggX5_grow_X1_symbol : GoodIn wsX5_grow wsX1_symbol := goodIn_r _ [31, 32, 33, 104, 105, 106, 107, 108, 109, 110] (by decide +kernel) (by decide +kernel)
set_option maxRecDepth 20000 in
theorem gX5_grow_X1_symbol_n66 : GoodIn wsX5_grow (wsX1_symbol) := ggX5_grow_X1_symbol
set_option maxRecDepth 20000 in
theorem ggX5_grow_X0_count : GoodIn wsX5_grow wsX0_count := goodIn_r _ [53, 54, 55, 56, 57, 58, 43, 59, 60, 61, 47, 62, 63, 64, 65, 66, 67, 68, 69, 70, 71, 111, 112, 113, 114, 115, 116, 117, 118, 119] (by decide +kernel) (by decide +kernel)
set_option maxRecDepth 20000 in
theorem gX5_grow_X0_count_u69X2 : GoodIn wsX5_grow (va_wsU RX5 69 RX2 "GrammarAmbiguity$Counts" ⟨"GrammarAmbiguity$Counts", "count", "(III)J"⟩ yX0_count wsX0_count) := goodIn_app (goodIn_of _ (by decide +kernel)) ggX5_grow_X0_count
set_option maxRecDepth 20000 in
theorem gX5_grow_X0_count_u69X4 : GoodIn wsX5_grow (va_wsU RX5 69 RX4 "GrammarAmbiguity$Counts" ⟨"GrammarAmbiguity$Counts", "count", "(III)J"⟩ yX0_count wsX0_count) := goodIn_app (goodIn_of _ (by decide +kernel)) ggX5_grow_X0_count
set_option maxRecDepth 20000 in
theorem ggX5_grow_X5_grow : GoodIn wsX5_grow wsX5_grow := goodIn_r _ [0, 1, 2, 3, 4, 5, 6, 7, 8, 9, 10, 11, 12, 13, 14, 15, 16, 17, 18, 19, 20, 21, 22, 23, 24, 25, 26, 27, 28, 29, 30, 31, 32, 33, 34, 35, 36, 37, 38, 39, 40, 41, 42, 43, 44, 45, 46, 47, 48, 49, 50, 51, 52, 53, 54, 55, 56, 57, 58, 59, 60, 61, 62, 63, 64, 65, 66, 67, 68, 69, 70, 71, 72, 73, 74, 75, 76, 77, 78, 79, 80, 81, 82, 83, 84, 85, 86, 87, 88, 89, 90, 91, 92, 93, 94, 95, 96, 97, 98, 99, 100, 101, 102, 103, 104, 105, 106, 107, 108, 109, 110, 111, 112, 113, 114, 115, 116, 117, 118, 119] (by decide +kernel) (by decide +kernel)
set_option maxRecDepth 20000 in
theorem gX5_grow_X5_grow : GoodIn wsX5_grow (wsV RX5 79 RX5 yX5_grow wsX5_grow) := goodIn_app (goodIn_of _ (by decide +kernel)) ggX5_grow_X5_grow
theorem dX5_grow_0 : decode cX5_grow 0 = .ok (.aload_n 0, 1) := by decide +kernel
theorem dX5_grow_1 : decode cX5_grow 1 = .ok (.getfield 23, 3) := by decide +kernel
theorem dX5_grow_4 : decode cX5_grow 4 = .ok (.istore 8, 2) := by decide +kernel
theorem dX5_grow_6 : decode cX5_grow 6 = .ok (.aload_n 0, 1) := by decide +kernel
theorem dX5_grow_7 : decode cX5_grow 7 = .ok (.getfield 9, 3) := by decide +kernel
theorem dX5_grow_10 : decode cX5_grow 10 = .ok (.iload_n 2, 1) := by decide +kernel
theorem dX5_grow_11 : decode cX5_grow 11 = .ok (.invokevirtual 50, 3) := by decide +kernel
theorem dX5_grow_14 : decode cX5_grow 14 = .ok (.ifCond .eq 21, 3) := by decide +kernel
theorem dX5_grow_17 : decode cX5_grow 17 = .ok (.iload 5, 2) := by decide +kernel
theorem dX5_grow_19 : decode cX5_grow 19 = .ok (.iconst 1, 1) := by decide +kernel
theorem dX5_grow_20 : decode cX5_grow 20 = .ok (.if_icmp .lt 15, 3) := by decide +kernel
theorem dX5_grow_23 : decode cX5_grow 23 = .ok (.iload 8, 2) := by decide +kernel
theorem dX5_grow_25 : decode cX5_grow 25 = .ok (.ifCond .lt 10, 3) := by decide +kernel
theorem dX5_grow_28 : decode cX5_grow 28 = .ok (.iload 8, 2) := by decide +kernel
theorem dX5_grow_30 : decode cX5_grow 30 = .ok (.bipush 15, 2) := by decide +kernel
theorem dX5_grow_32 : decode cX5_grow 32 = .ok (.if_icmp .lt 4, 3) := by decide +kernel
theorem dX5_grow_35 : decode cX5_grow 35 = .ok (.return_, 1) := by decide +kernel
theorem dX5_grow_36 : decode cX5_grow 36 = .ok (.aload_n 0, 1) := by decide +kernel
theorem dX5_grow_37 : decode cX5_grow 37 = .ok (.dup, 1) := by decide +kernel
theorem dX5_grow_38 : decode cX5_grow 38 = .ok (.getfield 23, 3) := by decide +kernel
theorem dX5_grow_41 : decode cX5_grow 41 = .ok (.iconst 1, 1) := by decide +kernel
theorem dX5_grow_42 : decode cX5_grow 42 = .ok (.iadd, 1) := by decide +kernel
theorem dX5_grow_43 : decode cX5_grow 43 = .ok (.putfield 23, 3) := by decide +kernel
theorem dX5_grow_46 : decode cX5_grow 46 = .ok (.aload_n 0, 1) := by decide +kernel
theorem dX5_grow_47 : decode cX5_grow 47 = .ok (.getfield 31, 3) := by decide +kernel
theorem dX5_grow_50 : decode cX5_grow 50 = .ok (.iload 8, 2) := by decide +kernel
theorem dX5_grow_52 : decode cX5_grow 52 = .ok (.iload 4, 2) := by decide +kernel
theorem dX5_grow_54 : decode cX5_grow 54 = .ok (.iastore, 1) := by decide +kernel
theorem dX5_grow_55 : decode cX5_grow 55 = .ok (.aload_n 0, 1) := by decide +kernel
theorem dX5_grow_56 : decode cX5_grow 56 = .ok (.getfield 34, 3) := by decide +kernel
theorem dX5_grow_59 : decode cX5_grow 59 = .ok (.iload 8, 2) := by decide +kernel
theorem dX5_grow_61 : decode cX5_grow 61 = .ok (.iload 5, 2) := by decide +kernel
theorem dX5_grow_63 : decode cX5_grow 63 = .ok (.iastore, 1) := by decide +kernel
theorem dX5_grow_64 : decode cX5_grow 64 = .ok (.aload_n 0, 1) := by decide +kernel
theorem dX5_grow_65 : decode cX5_grow 65 = .ok (.aload_n 1, 1) := by decide +kernel
theorem dX5_grow_66 : decode cX5_grow 66 = .ok (.iload_n 2, 1) := by decide +kernel
theorem dX5_grow_67 : decode cX5_grow 67 = .ok (.iload_n 3, 1) := by decide +kernel
theorem dX5_grow_68 : decode cX5_grow 68 = .ok (.iload 8, 2) := by decide +kernel
theorem dX5_grow_70 : decode cX5_grow 70 = .ok (.lload 6, 2) := by decide +kernel
theorem dX5_grow_72 : decode cX5_grow 72 = .ok (.invokevirtual 56, 3) := by decide +kernel
theorem dX5_grow_75 : decode cX5_grow 75 = .ok (.lstore 9, 2) := by decide +kernel
theorem dX5_grow_77 : decode cX5_grow 77 = .ok (.aload_n 0, 1) := by decide +kernel
theorem dX5_grow_78 : decode cX5_grow 78 = .ok (.getfield 27, 3) := by decide +kernel
theorem dX5_grow_81 : decode cX5_grow 81 = .ok (.iload 8, 2) := by decide +kernel
theorem dX5_grow_83 : decode cX5_grow 83 = .ok (.iaload, 1) := by decide +kernel
theorem dX5_grow_84 : decode cX5_grow 84 = .ok (.istore 11, 2) := by decide +kernel
theorem dX5_grow_86 : decode cX5_grow 86 = .ok (.aload_n 0, 1) := by decide +kernel
theorem dX5_grow_87 : decode cX5_grow 87 = .ok (.getfield 37, 3) := by decide +kernel
theorem dX5_grow_90 : decode cX5_grow 90 = .ok (.iload 8, 2) := by decide +kernel
theorem dX5_grow_92 : decode cX5_grow 92 = .ok (.iaload, 1) := by decide +kernel
theorem dX5_grow_93 : decode cX5_grow 93 = .ok (.istore 12, 2) := by decide +kernel
theorem dX5_grow_95 : decode cX5_grow 95 = .ok (.aload_n 0, 1) := by decide +kernel
theorem dX5_grow_96 : decode cX5_grow 96 = .ok (.getfield 40, 3) := by decide +kernel
theorem dX5_grow_99 : decode cX5_grow 99 = .ok (.iload 8, 2) := by decide +kernel
theorem dX5_grow_101 : decode cX5_grow 101 = .ok (.iaload, 1) := by decide +kernel
theorem dX5_grow_102 : decode cX5_grow 102 = .ok (.istore 13, 2) := by decide +kernel
theorem dX5_grow_104 : decode cX5_grow 104 = .ok (.iload 5, 2) := by decide +kernel
theorem dX5_grow_106 : decode cX5_grow 106 = .ok (.iload 12, 2) := by decide +kernel
theorem dX5_grow_108 : decode cX5_grow 108 = .ok (.isub, 1) := by decide +kernel
theorem dX5_grow_109 : decode cX5_grow 109 = .ok (.iload 13, 2) := by decide +kernel
theorem dX5_grow_111 : decode cX5_grow 111 = .ok (.isub, 1) := by decide +kernel
theorem dX5_grow_112 : decode cX5_grow 112 = .ok (.istore 14, 2) := by decide +kernel
theorem dX5_grow_114 : decode cX5_grow 114 = .ok (.aload_n 1, 1) := by decide +kernel
theorem dX5_grow_115 : decode cX5_grow 115 = .ok (.iload_n 3, 1) := by decide +kernel
theorem dX5_grow_116 : decode cX5_grow 116 = .ok (.iload 12, 2) := by decide +kernel
theorem dX5_grow_118 : decode cX5_grow 118 = .ok (.invokevirtual 60, 3) := by decide +kernel
theorem dX5_grow_121 : decode cX5_grow 121 = .ok (.istore 15, 2) := by decide +kernel
theorem dX5_grow_123 : decode cX5_grow 123 = .ok (.aload_n 1, 1) := by decide +kernel
theorem dX5_grow_124 : decode cX5_grow 124 = .ok (.iload_n 3, 1) := by decide +kernel
theorem dX5_grow_125 : decode cX5_grow 125 = .ok (.iload 12, 2) := by decide +kernel
theorem dX5_grow_127 : decode cX5_grow 127 = .ok (.iload 13, 2) := by decide +kernel
theorem dX5_grow_129 : decode cX5_grow 129 = .ok (.iadd, 1) := by decide +kernel
theorem dX5_grow_130 : decode cX5_grow 130 = .ok (.invokevirtual 60, 3) := by decide +kernel
theorem dX5_grow_133 : decode cX5_grow 133 = .ok (.istore 16, 2) := by decide +kernel
theorem dX5_grow_135 : decode cX5_grow 135 = .ok (.aload_n 0, 1) := by decide +kernel
theorem dX5_grow_136 : decode cX5_grow 136 = .ok (.getfield 9, 3) := by decide +kernel
theorem dX5_grow_139 : decode cX5_grow 139 = .ok (.iload 11, 2) := by decide +kernel
theorem dX5_grow_141 : decode cX5_grow 141 = .ok (.iconst 2, 1) := by decide +kernel
theorem dX5_grow_142 : decode cX5_grow 142 = .ok (.invokevirtual 66, 3) := by decide +kernel
theorem dX5_grow_145 : decode cX5_grow 145 = .ok (.istore 17, 2) := by decide +kernel
theorem dX5_grow_147 : decode cX5_grow 147 = .ok (.aload_n 0, 1) := by decide +kernel
theorem dX5_grow_148 : decode cX5_grow 148 = .ok (.getfield 9, 3) := by decide +kernel
theorem dX5_grow_151 : decode cX5_grow 151 = .ok (.iload 11, 2) := by decide +kernel
theorem dX5_grow_153 : decode cX5_grow 153 = .ok (.iconst 3, 1) := by decide +kernel
theorem dX5_grow_154 : decode cX5_grow 154 = .ok (.invokevirtual 66, 3) := by decide +kernel
theorem dX5_grow_157 : decode cX5_grow 157 = .ok (.istore 18, 2) := by decide +kernel
theorem dX5_grow_159 : decode cX5_grow 159 = .ok (.lconst 1, 1) := by decide +kernel
theorem dX5_grow_160 : decode cX5_grow 160 = .ok (.aload_n 1, 1) := by decide +kernel
theorem dX5_grow_161 : decode cX5_grow 161 = .ok (.iload 17, 2) := by decide +kernel
theorem dX5_grow_163 : decode cX5_grow 163 = .ok (.iload 13, 2) := by decide +kernel
theorem dX5_grow_165 : decode cX5_grow 165 = .ok (.iload 15, 2) := by decide +kernel
theorem dX5_grow_167 : decode cX5_grow 167 = .ok (.invokevirtual 69, 3) := by decide +kernel
theorem dX5_grow_170 : decode cX5_grow 170 = .ok (.invokestatic 73, 3) := by decide +kernel
theorem dX5_grow_173 : decode cX5_grow 173 = .ok (.lstore 19, 2) := by decide +kernel
theorem dX5_grow_175 : decode cX5_grow 175 = .ok (.lconst 1, 1) := by decide +kernel
theorem dX5_grow_176 : decode cX5_grow 176 = .ok (.aload_n 1, 1) := by decide +kernel
theorem dX5_grow_177 : decode cX5_grow 177 = .ok (.iload 18, 2) := by decide +kernel
theorem dX5_grow_179 : decode cX5_grow 179 = .ok (.iload 14, 2) := by decide +kernel
theorem dX5_grow_181 : decode cX5_grow 181 = .ok (.iload 16, 2) := by decide +kernel
theorem dX5_grow_183 : decode cX5_grow 183 = .ok (.invokevirtual 69, 3) := by decide +kernel
theorem dX5_grow_186 : decode cX5_grow 186 = .ok (.invokestatic 73, 3) := by decide +kernel
theorem dX5_grow_189 : decode cX5_grow 189 = .ok (.lstore 21, 2) := by decide +kernel
theorem dX5_grow_191 : decode cX5_grow 191 = .ok (.aload_n 0, 1) := by decide +kernel
theorem dX5_grow_192 : decode cX5_grow 192 = .ok (.aload_n 1, 1) := by decide +kernel
theorem dX5_grow_193 : decode cX5_grow 193 = .ok (.aload_n 0, 1) := by decide +kernel
theorem dX5_grow_194 : decode cX5_grow 194 = .ok (.getfield 9, 3) := by decide +kernel
theorem dX5_grow_197 : decode cX5_grow 197 = .ok (.iload 11, 2) := by decide +kernel
theorem dX5_grow_199 : decode cX5_grow 199 = .ok (.iconst 1, 1) := by decide +kernel
theorem dX5_grow_200 : decode cX5_grow 200 = .ok (.invokevirtual 66, 3) := by decide +kernel
theorem dX5_grow_203 : decode cX5_grow 203 = .ok (.aload_n 1, 1) := by decide +kernel
theorem dX5_grow_204 : decode cX5_grow 204 = .ok (.iload_n 3, 1) := by decide +kernel
theorem dX5_grow_205 : decode cX5_grow 205 = .ok (.iconst 0, 1) := by decide +kernel
theorem dX5_grow_206 : decode cX5_grow 206 = .ok (.invokevirtual 60, 3) := by decide +kernel
theorem dX5_grow_209 : decode cX5_grow 209 = .ok (.iload 4, 2) := by decide +kernel
theorem dX5_grow_211 : decode cX5_grow 211 = .ok (.iload 12, 2) := by decide +kernel
theorem dX5_grow_213 : decode cX5_grow 213 = .ok (.lload 9, 2) := by decide +kernel
theorem dX5_grow_215 : decode cX5_grow 215 = .ok (.lload 21, 2) := by decide +kernel
theorem dX5_grow_217 : decode cX5_grow 217 = .ok (.ldiv, 1) := by decide +kernel
theorem dX5_grow_218 : decode cX5_grow 218 = .ok (.lload 19, 2) := by decide +kernel
theorem dX5_grow_220 : decode cX5_grow 220 = .ok (.ldiv, 1) := by decide +kernel
theorem dX5_grow_221 : decode cX5_grow 221 = .ok (.invokevirtual 79, 3) := by decide +kernel
theorem dX5_grow_224 : decode cX5_grow 224 = .ok (.aload_n 0, 1) := by decide +kernel
theorem dX5_grow_225 : decode cX5_grow 225 = .ok (.aload_n 1, 1) := by decide +kernel
theorem dX5_grow_226 : decode cX5_grow 226 = .ok (.iload 17, 2) := by decide +kernel
theorem dX5_grow_228 : decode cX5_grow 228 = .ok (.iload 15, 2) := by decide +kernel
theorem dX5_grow_230 : decode cX5_grow 230 = .ok (.iload 4, 2) := by decide +kernel
theorem dX5_grow_232 : decode cX5_grow 232 = .ok (.iload 12, 2) := by decide +kernel
theorem dX5_grow_234 : decode cX5_grow 234 = .ok (.iadd, 1) := by decide +kernel
theorem dX5_grow_235 : decode cX5_grow 235 = .ok (.iload 13, 2) := by decide +kernel
theorem dX5_grow_237 : decode cX5_grow 237 = .ok (.lload 9, 2) := by decide +kernel
theorem dX5_grow_239 : decode cX5_grow 239 = .ok (.lload 21, 2) := by decide +kernel
theorem dX5_grow_241 : decode cX5_grow 241 = .ok (.ldiv, 1) := by decide +kernel
theorem dX5_grow_242 : decode cX5_grow 242 = .ok (.lload 19, 2) := by decide +kernel
theorem dX5_grow_244 : decode cX5_grow 244 = .ok (.lrem, 1) := by decide +kernel
theorem dX5_grow_245 : decode cX5_grow 245 = .ok (.invokevirtual 79, 3) := by decide +kernel
theorem dX5_grow_248 : decode cX5_grow 248 = .ok (.aload_n 0, 1) := by decide +kernel
theorem dX5_grow_249 : decode cX5_grow 249 = .ok (.aload_n 1, 1) := by decide +kernel
theorem dX5_grow_250 : decode cX5_grow 250 = .ok (.iload 18, 2) := by decide +kernel
theorem dX5_grow_252 : decode cX5_grow 252 = .ok (.iload 16, 2) := by decide +kernel
theorem dX5_grow_254 : decode cX5_grow 254 = .ok (.iload 4, 2) := by decide +kernel
theorem dX5_grow_256 : decode cX5_grow 256 = .ok (.iload 12, 2) := by decide +kernel
theorem dX5_grow_258 : decode cX5_grow 258 = .ok (.iadd, 1) := by decide +kernel
theorem dX5_grow_259 : decode cX5_grow 259 = .ok (.iload 13, 2) := by decide +kernel
theorem dX5_grow_261 : decode cX5_grow 261 = .ok (.iadd, 1) := by decide +kernel
theorem dX5_grow_262 : decode cX5_grow 262 = .ok (.iload 14, 2) := by decide +kernel
theorem dX5_grow_264 : decode cX5_grow 264 = .ok (.lload 9, 2) := by decide +kernel
theorem dX5_grow_266 : decode cX5_grow 266 = .ok (.lload 21, 2) := by decide +kernel
theorem dX5_grow_268 : decode cX5_grow 268 = .ok (.lrem, 1) := by decide +kernel
theorem dX5_grow_269 : decode cX5_grow 269 = .ok (.invokevirtual 79, 3) := by decide +kernel
theorem dX5_grow_272 : decode cX5_grow 272 = .ok (.return_, 1) := by decide +kernel
set_option maxRecDepth 20000 in
theorem ggX5_choose_X0_ofProduction : GoodIn wsX5_choose wsX0_ofProduction := goodIn_r _ [11, 12, 13, 14, 15, 16, 17, 18, 19, 20, 21, 22, 10, 23, 24, 25, 26, 27, 28, 29, 30, 31, 32, 33, 34, 35, 36, 37, 38, 39, 40, 41, 42, 43, 44, 45, 46, 47, 48, 49, 50, 51, 52, 53, 54, 55, 56, 57, 58, 59, 60, 61, 62, 63, 64, 91, 92, 93, 94, 95, 96, 97, 84, 85, 86, 87, 88, 89, 90, 98, 99] (by decide +kernel) (by decide +kernel)
set_option maxRecDepth 20000 in
theorem gX5_choose_X0_ofProduction_u85X2 : GoodIn wsX5_choose (va_wsU RX5 85 RX2 "GrammarAmbiguity$Counts" ⟨"GrammarAmbiguity$Counts", "ofProduction", "(IIII)J"⟩ yX0_ofProduction wsX0_ofProduction) := goodIn_app (goodIn_of _ (by decide +kernel)) ggX5_choose_X0_ofProduction
set_option maxRecDepth 20000 in
theorem gX5_choose_X0_ofProduction_u85X4 : GoodIn wsX5_choose (va_wsU RX5 85 RX4 "GrammarAmbiguity$Counts" ⟨"GrammarAmbiguity$Counts", "ofProduction", "(IIII)J"⟩ yX0_ofProduction wsX0_ofProduction) := goodIn_app (goodIn_of _ (by decide +kernel)) ggX5_choose_X0_ofProduction
set_option maxRecDepth 20000 in
theorem ggX5_choose_X0_ofFirst : GoodIn wsX5_choose wsX0_ofFirst := goodIn_r _ [23, 12, 13, 14, 15, 16, 17, 18, 24, 25, 26, 27, 28, 29, 30, 31, 32, 33, 34, 35, 36, 37, 10, 38, 39, 40, 41, 42, 43, 44, 45, 46, 47, 48, 49, 50, 51, 52, 53, 54, 55, 56, 57, 58, 59, 60, 61, 62, 63, 91, 92, 93, 94, 95, 96, 97, 84, 85, 86, 87, 88, 89, 90, 98, 99] (by decide +kernel) (by decide +kernel)
set_option maxRecDepth 20000 in
theorem gX5_choose_X0_ofFirst_u89X2 : GoodIn wsX5_choose (va_wsU RX5 89 RX2 "GrammarAmbiguity$Counts" ⟨"GrammarAmbiguity$Counts", "ofFirst", "(IIII)J"⟩ yX0_ofFirst wsX0_ofFirst) := goodIn_app (goodIn_of _ (by decide +kernel)) ggX5_choose_X0_ofFirst
set_option maxRecDepth 20000 in
theorem gX5_choose_X0_ofFirst_u89X4 : GoodIn wsX5_choose (va_wsU RX5 89 RX4 "GrammarAmbiguity$Counts" ⟨"GrammarAmbiguity$Counts", "ofFirst", "(IIII)J"⟩ yX0_ofFirst wsX0_ofFirst) := goodIn_app (goodIn_of _ (by decide +kernel)) ggX5_choose_X0_ofFirst
set_option maxRecDepth 20000 in
theorem ggX5_choose_X0_ofSecond : GoodIn wsX5_choose wsX0_ofSecond := goodIn_r _ [71, 12, 13, 14, 15, 16, 17, 18, 24, 25, 26, 27, 28, 29, 30, 31, 32, 33, 34, 35, 36, 37, 10, 38, 39, 40, 41, 42, 43, 44, 45, 46, 47, 48, 49, 50, 51, 52, 53, 54, 55, 56, 57, 58, 59, 60, 61, 62, 63, 91, 92, 93, 94, 95, 96, 97, 84, 85, 86, 87, 88, 89, 90, 98, 99] (by decide +kernel) (by decide +kernel)
set_option maxRecDepth 20000 in
theorem gX5_choose_X0_ofSecond_u92X2 : GoodIn wsX5_choose (va_wsU RX5 92 RX2 "GrammarAmbiguity$Counts" ⟨"GrammarAmbiguity$Counts", "ofSecond", "(IIIII)J"⟩ yX0_ofSecond wsX0_ofSecond) := goodIn_app (goodIn_of _ (by decide +kernel)) ggX5_choose_X0_ofSecond
set_option maxRecDepth 20000 in
theorem gX5_choose_X0_ofSecond_u92X4 : GoodIn wsX5_choose (va_wsU RX5 92 RX4 "GrammarAmbiguity$Counts" ⟨"GrammarAmbiguity$Counts", "ofSecond", "(IIIII)J"⟩ yX0_ofSecond wsX0_ofSecond) := goodIn_app (goodIn_of _ (by decide +kernel)) ggX5_choose_X0_ofSecond
theorem dX5_choose_0 : decode cX5_choose 0 = .ok (.aload_n 0, 1) := by decide +kernel
theorem dX5_choose_1 : decode cX5_choose 1 = .ok (.getfield 34, 3) := by decide +kernel
theorem dX5_choose_4 : decode cX5_choose 4 = .ok (.iload 4, 2) := by decide +kernel
theorem dX5_choose_6 : decode cX5_choose 6 = .ok (.iaload, 1) := by decide +kernel
theorem dX5_choose_7 : decode cX5_choose 7 = .ok (.istore 7, 2) := by decide +kernel
theorem dX5_choose_9 : decode cX5_choose 9 = .ok (.lload 5, 2) := by decide +kernel
theorem dX5_choose_11 : decode cX5_choose 11 = .ok (.lstore 8, 2) := by decide +kernel
theorem dX5_choose_13 : decode cX5_choose 13 = .ok (.iconst 0, 1) := by decide +kernel
theorem dX5_choose_14 : decode cX5_choose 14 = .ok (.istore 10, 2) := by decide +kernel
theorem dX5_choose_16 : decode cX5_choose 16 = .ok (.iload 10, 2) := by decide +kernel
theorem dX5_choose_18 : decode cX5_choose 18 = .ok (.aload_n 0, 1) := by decide +kernel
theorem dX5_choose_19 : decode cX5_choose 19 = .ok (.getfield 9, 3) := by decide +kernel
theorem dX5_choose_22 : decode cX5_choose 22 = .ok (.getfield 83, 3) := by decide +kernel
theorem dX5_choose_25 : decode cX5_choose 25 = .ok (.iconst 1, 1) := by decide +kernel
theorem dX5_choose_26 : decode cX5_choose 26 = .ok (.isub, 1) := by decide +kernel
theorem dX5_choose_27 : decode cX5_choose 27 = .ok (.if_icmp .ge 39, 3) := by decide +kernel
theorem dX5_choose_30 : decode cX5_choose 30 = .ok (.aload_n 1, 1) := by decide +kernel
theorem dX5_choose_31 : decode cX5_choose 31 = .ok (.iload_n 2, 1) := by decide +kernel
theorem dX5_choose_32 : decode cX5_choose 32 = .ok (.iload 10, 2) := by decide +kernel
theorem dX5_choose_34 : decode cX5_choose 34 = .ok (.iload 7, 2) := by decide +kernel
theorem dX5_choose_36 : decode cX5_choose 36 = .ok (.iload_n 3, 1) := by decide +kernel
theorem dX5_choose_37 : decode cX5_choose 37 = .ok (.invokevirtual 85, 3) := by decide +kernel
theorem dX5_choose_40 : decode cX5_choose 40 = .ok (.lstore 11, 2) := by decide +kernel
theorem dX5_choose_42 : decode cX5_choose 42 = .ok (.lload 8, 2) := by decide +kernel
theorem dX5_choose_44 : decode cX5_choose 44 = .ok (.lload 11, 2) := by decide +kernel
theorem dX5_choose_46 : decode cX5_choose 46 = .ok (.lcmp, 1) := by decide +kernel
theorem dX5_choose_47 : decode cX5_choose 47 = .ok (.ifCond .ge 6, 3) := by decide +kernel
theorem dX5_choose_50 : decode cX5_choose 50 = .ok (.goto 16, 3) := by decide +kernel
theorem dX5_choose_53 : decode cX5_choose 53 = .ok (.lload 8, 2) := by decide +kernel
theorem dX5_choose_55 : decode cX5_choose 55 = .ok (.lload 11, 2) := by decide +kernel
theorem dX5_choose_57 : decode cX5_choose 57 = .ok (.lsub, 1) := by decide +kernel
theorem dX5_choose_58 : decode cX5_choose 58 = .ok (.lstore 8, 2) := by decide +kernel
theorem dX5_choose_60 : decode cX5_choose 60 = .ok (.iinc 10 1, 3) := by decide +kernel
theorem dX5_choose_63 : decode cX5_choose 63 = .ok (.goto (-47), 3) := by decide +kernel
theorem dX5_choose_66 : decode cX5_choose 66 = .ok (.iconst 1, 1) := by decide +kernel
theorem dX5_choose_67 : decode cX5_choose 67 = .ok (.istore 11, 2) := by decide +kernel
theorem dX5_choose_69 : decode cX5_choose 69 = .ok (.iload 11, 2) := by decide +kernel
theorem dX5_choose_71 : decode cX5_choose 71 = .ok (.iload 7, 2) := by decide +kernel
theorem dX5_choose_73 : decode cX5_choose 73 = .ok (.if_icmp .ge 40, 3) := by decide +kernel
theorem dX5_choose_76 : decode cX5_choose 76 = .ok (.aload_n 1, 1) := by decide +kernel
theorem dX5_choose_77 : decode cX5_choose 77 = .ok (.iload 10, 2) := by decide +kernel
theorem dX5_choose_79 : decode cX5_choose 79 = .ok (.iload 7, 2) := by decide +kernel
theorem dX5_choose_81 : decode cX5_choose 81 = .ok (.iload_n 3, 1) := by decide +kernel
theorem dX5_choose_82 : decode cX5_choose 82 = .ok (.iload 11, 2) := by decide +kernel
theorem dX5_choose_84 : decode cX5_choose 84 = .ok (.invokevirtual 89, 3) := by decide +kernel
theorem dX5_choose_87 : decode cX5_choose 87 = .ok (.lstore 12, 2) := by decide +kernel
theorem dX5_choose_89 : decode cX5_choose 89 = .ok (.lload 8, 2) := by decide +kernel
theorem dX5_choose_91 : decode cX5_choose 91 = .ok (.lload 12, 2) := by decide +kernel
theorem dX5_choose_93 : decode cX5_choose 93 = .ok (.lcmp, 1) := by decide +kernel
theorem dX5_choose_94 : decode cX5_choose 94 = .ok (.ifCond .ge 6, 3) := by decide +kernel
theorem dX5_choose_97 : decode cX5_choose 97 = .ok (.goto 16, 3) := by decide +kernel
theorem dX5_choose_100 : decode cX5_choose 100 = .ok (.lload 8, 2) := by decide +kernel
theorem dX5_choose_102 : decode cX5_choose 102 = .ok (.lload 12, 2) := by decide +kernel
theorem dX5_choose_104 : decode cX5_choose 104 = .ok (.lsub, 1) := by decide +kernel
theorem dX5_choose_105 : decode cX5_choose 105 = .ok (.lstore 8, 2) := by decide +kernel
theorem dX5_choose_107 : decode cX5_choose 107 = .ok (.iinc 11 1, 3) := by decide +kernel
theorem dX5_choose_110 : decode cX5_choose 110 = .ok (.goto (-41), 3) := by decide +kernel
theorem dX5_choose_113 : decode cX5_choose 113 = .ok (.iconst 0, 1) := by decide +kernel
theorem dX5_choose_114 : decode cX5_choose 114 = .ok (.istore 12, 2) := by decide +kernel
theorem dX5_choose_116 : decode cX5_choose 116 = .ok (.iload 12, 2) := by decide +kernel
theorem dX5_choose_118 : decode cX5_choose 118 = .ok (.iload 7, 2) := by decide +kernel
theorem dX5_choose_120 : decode cX5_choose 120 = .ok (.iload 11, 2) := by decide +kernel
theorem dX5_choose_122 : decode cX5_choose 122 = .ok (.isub, 1) := by decide +kernel
theorem dX5_choose_123 : decode cX5_choose 123 = .ok (.if_icmp .ge 42, 3) := by decide +kernel
theorem dX5_choose_126 : decode cX5_choose 126 = .ok (.aload_n 1, 1) := by decide +kernel
theorem dX5_choose_127 : decode cX5_choose 127 = .ok (.iload 10, 2) := by decide +kernel
theorem dX5_choose_129 : decode cX5_choose 129 = .ok (.iload 7, 2) := by decide +kernel
theorem dX5_choose_131 : decode cX5_choose 131 = .ok (.iload_n 3, 1) := by decide +kernel
theorem dX5_choose_132 : decode cX5_choose 132 = .ok (.iload 11, 2) := by decide +kernel
theorem dX5_choose_134 : decode cX5_choose 134 = .ok (.iload 12, 2) := by decide +kernel
theorem dX5_choose_136 : decode cX5_choose 136 = .ok (.invokevirtual 92, 3) := by decide +kernel
theorem dX5_choose_139 : decode cX5_choose 139 = .ok (.lstore 13, 2) := by decide +kernel
theorem dX5_choose_141 : decode cX5_choose 141 = .ok (.lload 8, 2) := by decide +kernel
theorem dX5_choose_143 : decode cX5_choose 143 = .ok (.lload 13, 2) := by decide +kernel
theorem dX5_choose_145 : decode cX5_choose 145 = .ok (.lcmp, 1) := by decide +kernel
theorem dX5_choose_146 : decode cX5_choose 146 = .ok (.ifCond .ge 6, 3) := by decide +kernel
theorem dX5_choose_149 : decode cX5_choose 149 = .ok (.goto 16, 3) := by decide +kernel
theorem dX5_choose_152 : decode cX5_choose 152 = .ok (.lload 8, 2) := by decide +kernel
theorem dX5_choose_154 : decode cX5_choose 154 = .ok (.lload 13, 2) := by decide +kernel
theorem dX5_choose_156 : decode cX5_choose 156 = .ok (.lsub, 1) := by decide +kernel
theorem dX5_choose_157 : decode cX5_choose 157 = .ok (.lstore 8, 2) := by decide +kernel
theorem dX5_choose_159 : decode cX5_choose 159 = .ok (.iinc 12 1, 3) := by decide +kernel
theorem dX5_choose_162 : decode cX5_choose 162 = .ok (.goto (-46), 3) := by decide +kernel
theorem dX5_choose_165 : decode cX5_choose 165 = .ok (.aload_n 0, 1) := by decide +kernel
theorem dX5_choose_166 : decode cX5_choose 166 = .ok (.getfield 27, 3) := by decide +kernel
theorem dX5_choose_169 : decode cX5_choose 169 = .ok (.iload 4, 2) := by decide +kernel
theorem dX5_choose_171 : decode cX5_choose 171 = .ok (.iload 10, 2) := by decide +kernel
theorem dX5_choose_173 : decode cX5_choose 173 = .ok (.iastore, 1) := by decide +kernel
theorem dX5_choose_174 : decode cX5_choose 174 = .ok (.aload_n 0, 1) := by decide +kernel
theorem dX5_choose_175 : decode cX5_choose 175 = .ok (.getfield 37, 3) := by decide +kernel
theorem dX5_choose_178 : decode cX5_choose 178 = .ok (.iload 4, 2) := by decide +kernel
theorem dX5_choose_180 : decode cX5_choose 180 = .ok (.iload 11, 2) := by decide +kernel
theorem dX5_choose_182 : decode cX5_choose 182 = .ok (.iastore, 1) := by decide +kernel
theorem dX5_choose_183 : decode cX5_choose 183 = .ok (.aload_n 0, 1) := by decide +kernel
theorem dX5_choose_184 : decode cX5_choose 184 = .ok (.getfield 40, 3) := by decide +kernel
theorem dX5_choose_187 : decode cX5_choose 187 = .ok (.iload 4, 2) := by decide +kernel
theorem dX5_choose_189 : decode cX5_choose 189 = .ok (.iload 12, 2) := by decide +kernel
theorem dX5_choose_191 : decode cX5_choose 191 = .ok (.iastore, 1) := by decide +kernel
theorem dX5_choose_192 : decode cX5_choose 192 = .ok (.lload 8, 2) := by decide +kernel
theorem dX5_choose_194 : decode cX5_choose 194 = .ok (.lreturn, 1) := by decide +kernel
set_option maxRecDepth 20000 in
theorem ggX5_spell_X1_symbol : GoodIn wsX5_spell wsX1_symbol := goodIn_r _ [10, 11, 12, 33, 34, 35, 36, 37, 38, 39] (by decide +kernel) (by decide +kernel)
set_option maxRecDepth 20000 in
theorem gX5_spell_X1_symbol_n66 : GoodIn wsX5_spell (wsX1_symbol) := ggX5_spell_X1_symbol
set_option maxRecDepth 20000 in
theorem ggX5_spell_X5_spellPart : GoodIn wsX5_spell wsX5_spellPart := goodIn_r _ [16, 17, 18, 19, 20, 21, 40, 41] (by decide +kernel) (by decide +kernel)
set_option maxRecDepth 20000 in
theorem gX5_spell_X5_spellPart : GoodIn wsX5_spell (va_wsS RX5 96 yX5_spellPart wsX5_spellPart) := goodIn_app (goodIn_of _ (by decide +kernel)) ggX5_spell_X5_spellPart
theorem dX5_spell_0 : decode cX5_spell 0 = .ok (.iconst 0, 1) := by decide +kernel
theorem dX5_spell_1 : decode cX5_spell 1 = .ok (.istore_n 2, 1) := by decide +kernel
theorem dX5_spell_2 : decode cX5_spell 2 = .ok (.iload_n 2, 1) := by decide +kernel
theorem dX5_spell_3 : decode cX5_spell 3 = .ok (.aload_n 0, 1) := by decide +kernel
theorem dX5_spell_4 : decode cX5_spell 4 = .ok (.getfield 23, 3) := by decide +kernel
theorem dX5_spell_7 : decode cX5_spell 7 = .ok (.if_icmp .ge 97, 3) := by decide +kernel
theorem dX5_spell_10 : decode cX5_spell 10 = .ok (.iload_n 2, 1) := by decide +kernel
theorem dX5_spell_11 : decode cX5_spell 11 = .ok (.bipush 15, 2) := by decide +kernel
theorem dX5_spell_13 : decode cX5_spell 13 = .ok (.if_icmp .ge 91, 3) := by decide +kernel
theorem dX5_spell_16 : decode cX5_spell 16 = .ok (.aload_n 0, 1) := by decide +kernel
theorem dX5_spell_17 : decode cX5_spell 17 = .ok (.getfield 31, 3) := by decide +kernel
theorem dX5_spell_20 : decode cX5_spell 20 = .ok (.iload_n 2, 1) := by decide +kernel
theorem dX5_spell_21 : decode cX5_spell 21 = .ok (.iaload, 1) := by decide +kernel
theorem dX5_spell_22 : decode cX5_spell 22 = .ok (.istore_n 3, 1) := by decide +kernel
theorem dX5_spell_23 : decode cX5_spell 23 = .ok (.aload_n 1, 1) := by decide +kernel
theorem dX5_spell_24 : decode cX5_spell 24 = .ok (.iload_n 3, 1) := by decide +kernel
theorem dX5_spell_25 : decode cX5_spell 25 = .ok (.aload_n 0, 1) := by decide +kernel
theorem dX5_spell_26 : decode cX5_spell 26 = .ok (.getfield 9, 3) := by decide +kernel
theorem dX5_spell_29 : decode cX5_spell 29 = .ok (.aload_n 0, 1) := by decide +kernel
theorem dX5_spell_30 : decode cX5_spell 30 = .ok (.getfield 27, 3) := by decide +kernel
theorem dX5_spell_33 : decode cX5_spell 33 = .ok (.iload_n 2, 1) := by decide +kernel
theorem dX5_spell_34 : decode cX5_spell 34 = .ok (.iaload, 1) := by decide +kernel
theorem dX5_spell_35 : decode cX5_spell 35 = .ok (.iconst 1, 1) := by decide +kernel
theorem dX5_spell_36 : decode cX5_spell 36 = .ok (.invokevirtual 66, 3) := by decide +kernel
theorem dX5_spell_39 : decode cX5_spell 39 = .ok (.invokestatic 96, 3) := by decide +kernel
theorem dX5_spell_42 : decode cX5_spell 42 = .ok (.iload_n 3, 1) := by decide +kernel
theorem dX5_spell_43 : decode cX5_spell 43 = .ok (.aload_n 0, 1) := by decide +kernel
theorem dX5_spell_44 : decode cX5_spell 44 = .ok (.getfield 37, 3) := by decide +kernel
theorem dX5_spell_47 : decode cX5_spell 47 = .ok (.iload_n 2, 1) := by decide +kernel
theorem dX5_spell_48 : decode cX5_spell 48 = .ok (.iaload, 1) := by decide +kernel
theorem dX5_spell_49 : decode cX5_spell 49 = .ok (.iadd, 1) := by decide +kernel
theorem dX5_spell_50 : decode cX5_spell 50 = .ok (.istore_n 3, 1) := by decide +kernel
theorem dX5_spell_51 : decode cX5_spell 51 = .ok (.aload_n 1, 1) := by decide +kernel
theorem dX5_spell_52 : decode cX5_spell 52 = .ok (.iload_n 3, 1) := by decide +kernel
theorem dX5_spell_53 : decode cX5_spell 53 = .ok (.aload_n 0, 1) := by decide +kernel
theorem dX5_spell_54 : decode cX5_spell 54 = .ok (.getfield 9, 3) := by decide +kernel
theorem dX5_spell_57 : decode cX5_spell 57 = .ok (.aload_n 0, 1) := by decide +kernel
theorem dX5_spell_58 : decode cX5_spell 58 = .ok (.getfield 27, 3) := by decide +kernel
theorem dX5_spell_61 : decode cX5_spell 61 = .ok (.iload_n 2, 1) := by decide +kernel
theorem dX5_spell_62 : decode cX5_spell 62 = .ok (.iaload, 1) := by decide +kernel
theorem dX5_spell_63 : decode cX5_spell 63 = .ok (.iconst 2, 1) := by decide +kernel
theorem dX5_spell_64 : decode cX5_spell 64 = .ok (.invokevirtual 66, 3) := by decide +kernel
theorem dX5_spell_67 : decode cX5_spell 67 = .ok (.invokestatic 96, 3) := by decide +kernel
theorem dX5_spell_70 : decode cX5_spell 70 = .ok (.iload_n 3, 1) := by decide +kernel
theorem dX5_spell_71 : decode cX5_spell 71 = .ok (.aload_n 0, 1) := by decide +kernel
theorem dX5_spell_72 : decode cX5_spell 72 = .ok (.getfield 40, 3) := by decide +kernel
theorem dX5_spell_75 : decode cX5_spell 75 = .ok (.iload_n 2, 1) := by decide +kernel
theorem dX5_spell_76 : decode cX5_spell 76 = .ok (.iaload, 1) := by decide +kernel
theorem dX5_spell_77 : decode cX5_spell 77 = .ok (.iadd, 1) := by decide +kernel
theorem dX5_spell_78 : decode cX5_spell 78 = .ok (.istore_n 3, 1) := by decide +kernel
theorem dX5_spell_79 : decode cX5_spell 79 = .ok (.aload_n 1, 1) := by decide +kernel
theorem dX5_spell_80 : decode cX5_spell 80 = .ok (.iload_n 3, 1) := by decide +kernel
theorem dX5_spell_81 : decode cX5_spell 81 = .ok (.aload_n 0, 1) := by decide +kernel
theorem dX5_spell_82 : decode cX5_spell 82 = .ok (.getfield 9, 3) := by decide +kernel
theorem dX5_spell_85 : decode cX5_spell 85 = .ok (.aload_n 0, 1) := by decide +kernel
theorem dX5_spell_86 : decode cX5_spell 86 = .ok (.getfield 27, 3) := by decide +kernel
theorem dX5_spell_89 : decode cX5_spell 89 = .ok (.iload_n 2, 1) := by decide +kernel
theorem dX5_spell_90 : decode cX5_spell 90 = .ok (.iaload, 1) := by decide +kernel
theorem dX5_spell_91 : decode cX5_spell 91 = .ok (.iconst 3, 1) := by decide +kernel
theorem dX5_spell_92 : decode cX5_spell 92 = .ok (.invokevirtual 66, 3) := by decide +kernel
theorem dX5_spell_95 : decode cX5_spell 95 = .ok (.invokestatic 96, 3) := by decide +kernel
theorem dX5_spell_98 : decode cX5_spell 98 = .ok (.iinc 2 1, 3) := by decide +kernel
theorem dX5_spell_101 : decode cX5_spell 101 = .ok (.goto (-99), 3) := by decide +kernel
theorem dX5_spell_104 : decode cX5_spell 104 = .ok (.return_, 1) := by decide +kernel
set_option maxRecDepth 20000 in
theorem ggX5_spellPart_X6_put : GoodIn wsX5_spellPart wsX6_put := goodIn_r _ [4, 5, 6, 7] (by decide +kernel) (by decide +kernel)
set_option maxRecDepth 20000 in
theorem gX5_spellPart_X6_put_n100 : GoodIn wsX5_spellPart (wsX6_put) := ggX5_spellPart_X6_put
theorem dX5_spellPart_0 : decode cX5_spellPart 0 = .ok (.iload_n 2, 1) := by decide +kernel
theorem dX5_spellPart_1 : decode cX5_spellPart 1 = .ok (.bipush 10, 2) := by decide +kernel
theorem dX5_spellPart_3 : decode cX5_spellPart 3 = .ok (.if_icmp .lt 12, 3) := by decide +kernel
theorem dX5_spellPart_6 : decode cX5_spellPart 6 = .ok (.aload_n 0, 1) := by decide +kernel
theorem dX5_spellPart_7 : decode cX5_spellPart 7 = .ok (.iload_n 1, 1) := by decide +kernel
theorem dX5_spellPart_8 : decode cX5_spellPart 8 = .ok (.iload_n 2, 1) := by decide +kernel
theorem dX5_spellPart_9 : decode cX5_spellPart 9 = .ok (.bipush 10, 2) := by decide +kernel
theorem dX5_spellPart_11 : decode cX5_spellPart 11 = .ok (.isub, 1) := by decide +kernel
theorem dX5_spellPart_12 : decode cX5_spellPart 12 = .ok (.invokevirtual 100, 3) := by decide +kernel
theorem dX5_spellPart_15 : decode cX5_spellPart 15 = .ok (.return_, 1) := by decide +kernel
set_option maxRecDepth 20000 in
theorem ggX5_findNumber_X1_symbol : GoodIn wsX5_findNumber wsX1_symbol := goodIn_r _ [15, 16, 17, 104, 105, 106, 107, 108, 109, 110] (by decide +kernel) (by decide +kernel)
set_option maxRecDepth 20000 in
theorem gX5_findNumber_X1_symbol_n66 : GoodIn wsX5_findNumber (wsX1_symbol) := ggX5_findNumber_X1_symbol
set_option maxRecDepth 20000 in
theorem ggX5_findNumber_X1_isNonterminal : GoodIn wsX5_findNumber wsX1_isNonterminal := goodIn_r _ [20, 21, 104, 105, 106, 107, 108, 109, 110] (by decide +kernel) (by decide +kernel)
set_option maxRecDepth 20000 in
theorem gX5_findNumber_X1_isNonterminal_n50 : GoodIn wsX5_findNumber (wsX1_isNonterminal) := ggX5_findNumber_X1_isNonterminal
set_option maxRecDepth 20000 in
theorem ggX5_findNumber_X0_count : GoodIn wsX5_findNumber wsX0_count := goodIn_r _ [27, 28, 29, 30, 31, 32, 33, 34, 35, 36, 37, 38, 39, 40, 41, 42, 43, 44, 45, 46, 47, 111, 112, 113, 114, 115, 116, 117, 118, 119] (by decide +kernel) (by decide +kernel)
set_option maxRecDepth 20000 in
theorem gX5_findNumber_X0_count_u109X4 : GoodIn wsX5_findNumber (va_wsU RX5 109 RX4 "GrammarAmbiguity$Counts" ⟨"GrammarAmbiguity$SpanCounts", "count", "(III)J"⟩ yX0_count wsX0_count) := goodIn_app (goodIn_of _ (by decide +kernel)) ggX5_findNumber_X0_count
set_option maxRecDepth 20000 in
theorem ggX5_findNumber_X5_countBefore : GoodIn wsX5_findNumber wsX5_countBefore := goodIn_r _ [52, 7, 6, 8, 9, 53, 54, 12, 13, 14, 15, 16, 17, 55, 56, 57, 58, 26, 59, 60, 61, 62, 63, 64, 65, 66, 67, 68, 69, 33, 70, 71, 72, 37, 73, 74, 75, 76, 25, 27, 28, 29, 30, 31, 32, 34, 35, 36, 38, 39, 40, 41, 42, 43, 44, 45, 46, 47, 77, 78, 79, 80, 81, 82, 83, 84, 85, 86, 87, 88, 89, 90, 91, 92, 93, 94, 95, 96, 97, 98, 99, 100, 101, 102, 103, 104, 105, 106, 107, 108, 109, 110, 111, 112, 113, 114, 115, 116, 117, 118, 119] (by decide +kernel) (by decide +kernel)
set_option maxRecDepth 20000 in
theorem gX5_findNumber_X5_countBefore : GoodIn wsX5_findNumber (wsV RX5 112 RX5 yX5_countBefore wsX5_countBefore) := goodIn_app (goodIn_of _ (by decide +kernel)) ggX5_findNumber_X5_countBefore
theorem dX5_findNumber_0 : decode cX5_findNumber 0 = .ok (.aload_n 0, 1) := by decide +kernel
theorem dX5_findNumber_1 : decode cX5_findNumber 1 = .ok (.getfield 23, 3) := by decide +kernel
theorem dX5_findNumber_4 : decode cX5_findNumber 4 = .ok (.bipush 15, 2) := by decide +kernel
theorem dX5_findNumber_6 : decode cX5_findNumber 6 = .ok (.invokestatic 106, 3) := by decide +kernel
theorem dX5_findNumber_9 : decode cX5_findNumber 9 = .ok (.iconst 1, 1) := by decide +kernel
theorem dX5_findNumber_10 : decode cX5_findNumber 10 = .ok (.isub, 1) := by decide +kernel
theorem dX5_findNumber_11 : decode cX5_findNumber 11 = .ok (.istore_n 2, 1) := by decide +kernel
theorem dX5_findNumber_12 : decode cX5_findNumber 12 = .ok (.iload_n 2, 1) := by decide +kernel
theorem dX5_findNumber_13 : decode cX5_findNumber 13 = .ok (.ifCond .lt 129, 3) := by decide +kernel
theorem dX5_findNumber_16 : decode cX5_findNumber 16 = .ok (.iload_n 2, 1) := by decide +kernel
theorem dX5_findNumber_17 : decode cX5_findNumber 17 = .ok (.iconst 1, 1) := by decide +kernel
theorem dX5_findNumber_18 : decode cX5_findNumber 18 = .ok (.iadd, 1) := by decide +kernel
theorem dX5_findNumber_19 : decode cX5_findNumber 19 = .ok (.istore_n 3, 1) := by decide +kernel
theorem dX5_findNumber_20 : decode cX5_findNumber 20 = .ok (.lconst 0, 1) := by decide +kernel
theorem dX5_findNumber_21 : decode cX5_findNumber 21 = .ok (.lstore 4, 2) := by decide +kernel
theorem dX5_findNumber_23 : decode cX5_findNumber 23 = .ok (.iconst 1, 1) := by decide +kernel
theorem dX5_findNumber_24 : decode cX5_findNumber 24 = .ok (.istore 6, 2) := by decide +kernel
theorem dX5_findNumber_26 : decode cX5_findNumber 26 = .ok (.iload 6, 2) := by decide +kernel
theorem dX5_findNumber_28 : decode cX5_findNumber 28 = .ok (.iconst 3, 1) := by decide +kernel
theorem dX5_findNumber_29 : decode cX5_findNumber 29 = .ok (.if_icmp .gt 85, 3) := by decide +kernel
theorem dX5_findNumber_32 : decode cX5_findNumber 32 = .ok (.aload_n 0, 1) := by decide +kernel
theorem dX5_findNumber_33 : decode cX5_findNumber 33 = .ok (.getfield 9, 3) := by decide +kernel
theorem dX5_findNumber_36 : decode cX5_findNumber 36 = .ok (.aload_n 0, 1) := by decide +kernel
theorem dX5_findNumber_37 : decode cX5_findNumber 37 = .ok (.getfield 27, 3) := by decide +kernel
theorem dX5_findNumber_40 : decode cX5_findNumber 40 = .ok (.iload_n 2, 1) := by decide +kernel
theorem dX5_findNumber_41 : decode cX5_findNumber 41 = .ok (.iaload, 1) := by decide +kernel
theorem dX5_findNumber_42 : decode cX5_findNumber 42 = .ok (.iload 6, 2) := by decide +kernel
theorem dX5_findNumber_44 : decode cX5_findNumber 44 = .ok (.invokevirtual 66, 3) := by decide +kernel
theorem dX5_findNumber_47 : decode cX5_findNumber 47 = .ok (.istore 7, 2) := by decide +kernel
theorem dX5_findNumber_49 : decode cX5_findNumber 49 = .ok (.aload_n 0, 1) := by decide +kernel
theorem dX5_findNumber_50 : decode cX5_findNumber 50 = .ok (.getfield 9, 3) := by decide +kernel
theorem dX5_findNumber_53 : decode cX5_findNumber 53 = .ok (.iload 7, 2) := by decide +kernel
theorem dX5_findNumber_55 : decode cX5_findNumber 55 = .ok (.invokevirtual 50, 3) := by decide +kernel
theorem dX5_findNumber_58 : decode cX5_findNumber 58 = .ok (.ifCond .eq 50, 3) := by decide +kernel
theorem dX5_findNumber_61 : decode cX5_findNumber 61 = .ok (.iload_n 3, 1) := by decide +kernel
theorem dX5_findNumber_62 : decode cX5_findNumber 62 = .ok (.ifCond .lt 46, 3) := by decide +kernel
theorem dX5_findNumber_65 : decode cX5_findNumber 65 = .ok (.iload_n 3, 1) := by decide +kernel
theorem dX5_findNumber_66 : decode cX5_findNumber 66 = .ok (.bipush 15, 2) := by decide +kernel
theorem dX5_findNumber_68 : decode cX5_findNumber 68 = .ok (.if_icmp .ge 40, 3) := by decide +kernel
theorem dX5_findNumber_71 : decode cX5_findNumber 71 = .ok (.lload 4, 2) := by decide +kernel
theorem dX5_findNumber_73 : decode cX5_findNumber 73 = .ok (.aload_n 1, 1) := by decide +kernel
theorem dX5_findNumber_74 : decode cX5_findNumber 74 = .ok (.iload 7, 2) := by decide +kernel
theorem dX5_findNumber_76 : decode cX5_findNumber 76 = .ok (.aload_n 0, 1) := by decide +kernel
theorem dX5_findNumber_77 : decode cX5_findNumber 77 = .ok (.getfield 34, 3) := by decide +kernel
theorem dX5_findNumber_80 : decode cX5_findNumber 80 = .ok (.iload_n 3, 1) := by decide +kernel
theorem dX5_findNumber_81 : decode cX5_findNumber 81 = .ok (.iaload, 1) := by decide +kernel
theorem dX5_findNumber_82 : decode cX5_findNumber 82 = .ok (.aload_n 0, 1) := by decide +kernel
theorem dX5_findNumber_83 : decode cX5_findNumber 83 = .ok (.getfield 31, 3) := by decide +kernel
theorem dX5_findNumber_86 : decode cX5_findNumber 86 = .ok (.iload_n 3, 1) := by decide +kernel
theorem dX5_findNumber_87 : decode cX5_findNumber 87 = .ok (.iaload, 1) := by decide +kernel
theorem dX5_findNumber_88 : decode cX5_findNumber 88 = .ok (.invokevirtual 109, 3) := by decide +kernel
theorem dX5_findNumber_91 : decode cX5_findNumber 91 = .ok (.lmul, 1) := by decide +kernel
theorem dX5_findNumber_92 : decode cX5_findNumber 92 = .ok (.aload_n 0, 1) := by decide +kernel
theorem dX5_findNumber_93 : decode cX5_findNumber 93 = .ok (.getfield 46, 3) := by decide +kernel
theorem dX5_findNumber_96 : decode cX5_findNumber 96 = .ok (.iload_n 3, 1) := by decide +kernel
theorem dX5_findNumber_97 : decode cX5_findNumber 97 = .ok (.laload, 1) := by decide +kernel
theorem dX5_findNumber_98 : decode cX5_findNumber 98 = .ok (.ladd, 1) := by decide +kernel
theorem dX5_findNumber_99 : decode cX5_findNumber 99 = .ok (.lstore 4, 2) := by decide +kernel
theorem dX5_findNumber_101 : decode cX5_findNumber 101 = .ok (.aload_n 0, 1) := by decide +kernel
theorem dX5_findNumber_102 : decode cX5_findNumber 102 = .ok (.getfield 43, 3) := by decide +kernel
theorem dX5_findNumber_105 : decode cX5_findNumber 105 = .ok (.iload_n 3, 1) := by decide +kernel
theorem dX5_findNumber_106 : decode cX5_findNumber 106 = .ok (.iaload, 1) := by decide +kernel
theorem dX5_findNumber_107 : decode cX5_findNumber 107 = .ok (.istore_n 3, 1) := by decide +kernel
theorem dX5_findNumber_108 : decode cX5_findNumber 108 = .ok (.iinc 6 1, 3) := by decide +kernel
theorem dX5_findNumber_111 : decode cX5_findNumber 111 = .ok (.goto (-85), 3) := by decide +kernel
theorem dX5_findNumber_114 : decode cX5_findNumber 114 = .ok (.aload_n 0, 1) := by decide +kernel
theorem dX5_findNumber_115 : decode cX5_findNumber 115 = .ok (.getfield 43, 3) := by decide +kernel
theorem dX5_findNumber_118 : decode cX5_findNumber 118 = .ok (.iload_n 2, 1) := by decide +kernel
theorem dX5_findNumber_119 : decode cX5_findNumber 119 = .ok (.iload_n 3, 1) := by decide +kernel
theorem dX5_findNumber_120 : decode cX5_findNumber 120 = .ok (.iastore, 1) := by decide +kernel
theorem dX5_findNumber_121 : decode cX5_findNumber 121 = .ok (.aload_n 0, 1) := by decide +kernel
theorem dX5_findNumber_122 : decode cX5_findNumber 122 = .ok (.getfield 46, 3) := by decide +kernel
theorem dX5_findNumber_125 : decode cX5_findNumber 125 = .ok (.iload_n 2, 1) := by decide +kernel
theorem dX5_findNumber_126 : decode cX5_findNumber 126 = .ok (.aload_n 0, 1) := by decide +kernel
theorem dX5_findNumber_127 : decode cX5_findNumber 127 = .ok (.aload_n 1, 1) := by decide +kernel
theorem dX5_findNumber_128 : decode cX5_findNumber 128 = .ok (.iload_n 2, 1) := by decide +kernel
theorem dX5_findNumber_129 : decode cX5_findNumber 129 = .ok (.invokevirtual 112, 3) := by decide +kernel
theorem dX5_findNumber_132 : decode cX5_findNumber 132 = .ok (.lload 4, 2) := by decide +kernel
theorem dX5_findNumber_134 : decode cX5_findNumber 134 = .ok (.ladd, 1) := by decide +kernel
theorem dX5_findNumber_135 : decode cX5_findNumber 135 = .ok (.lastore, 1) := by decide +kernel
theorem dX5_findNumber_136 : decode cX5_findNumber 136 = .ok (.iinc 2 (-1), 3) := by decide +kernel
theorem dX5_findNumber_139 : decode cX5_findNumber 139 = .ok (.goto (-127), 3) := by decide +kernel
theorem dX5_findNumber_142 : decode cX5_findNumber 142 = .ok (.aload_n 0, 1) := by decide +kernel
theorem dX5_findNumber_143 : decode cX5_findNumber 143 = .ok (.getfield 46, 3) := by decide +kernel
theorem dX5_findNumber_146 : decode cX5_findNumber 146 = .ok (.iconst 0, 1) := by decide +kernel
theorem dX5_findNumber_147 : decode cX5_findNumber 147 = .ok (.laload, 1) := by decide +kernel
theorem dX5_findNumber_148 : decode cX5_findNumber 148 = .ok (.lreturn, 1) := by decide +kernel
set_option maxRecDepth 20000 in
theorem ggX5_countBefore_X1_symbol : GoodIn wsX5_countBefore wsX1_symbol := goodIn_r _ [10, 11, 12, 85, 86, 87, 88, 89, 90, 91] (by decide +kernel) (by decide +kernel)
set_option maxRecDepth 20000 in
theorem gX5_countBefore_X1_symbol_n66 : GoodIn wsX5_countBefore (wsX1_symbol) := ggX5_countBefore_X1_symbol
set_option maxRecDepth 20000 in
theorem ggX5_countBefore_X0_ofProduction : GoodIn wsX5_countBefore wsX0_ofProduction := goodIn_r _ [18, 19, 7, 8, 9, 10, 11, 12, 20, 21, 22, 23, 17, 24, 25, 26, 27, 28, 29, 30, 31, 32, 33, 34, 35, 36, 37, 38, 39, 40, 41, 42, 43, 44, 45, 46, 47, 48, 49, 50, 51, 52, 53, 54, 55, 56, 57, 58, 59, 60, 61, 62, 63, 64, 65, 92, 93, 94, 95, 96, 97, 98, 85, 86, 87, 88, 89, 90, 91, 99, 100] (by decide +kernel) (by decide +kernel)
set_option maxRecDepth 20000 in
theorem gX5_countBefore_X0_ofProduction_u116X4 : GoodIn wsX5_countBefore (va_wsU RX5 116 RX4 "GrammarAmbiguity$Counts" ⟨"GrammarAmbiguity$SpanCounts", "ofProduction", "(IIII)J"⟩ yX0_ofProduction wsX0_ofProduction) := goodIn_app (goodIn_of _ (by decide +kernel)) ggX5_countBefore_X0_ofProduction
set_option maxRecDepth 20000 in
theorem ggX5_countBefore_X0_ofFirst : GoodIn wsX5_countBefore wsX0_ofFirst := goodIn_r _ [24, 19, 7, 8, 9, 10, 11, 12, 25, 26, 27, 28, 29, 30, 31, 32, 33, 34, 35, 36, 37, 38, 17, 39, 40, 41, 42, 43, 44, 45, 46, 47, 48, 49, 50, 51, 52, 53, 54, 55, 56, 57, 58, 59, 60, 61, 62, 63, 64, 92, 93, 94, 95, 96, 97, 98, 85, 86, 87, 88, 89, 90, 91, 99, 100] (by decide +kernel) (by decide +kernel)
set_option maxRecDepth 20000 in
theorem gX5_countBefore_X0_ofFirst_u117X4 : GoodIn wsX5_countBefore (va_wsU RX5 117 RX4 "GrammarAmbiguity$Counts" ⟨"GrammarAmbiguity$SpanCounts", "ofFirst", "(IIII)J"⟩ yX0_ofFirst wsX0_ofFirst) := goodIn_app (goodIn_of _ (by decide +kernel)) ggX5_countBefore_X0_ofFirst
set_option maxRecDepth 20000 in
theorem ggX5_countBefore_X0_ofSecond : GoodIn wsX5_countBefore wsX0_ofSecond := goodIn_r _ [73, 19, 7, 8, 9, 10, 11, 12, 25, 26, 27, 28, 29, 30, 31, 32, 33, 34, 35, 36, 37, 38, 17, 39, 40, 41, 42, 43, 44, 45, 46, 47, 48, 49, 50, 51, 52, 53, 54, 55, 56, 57, 58, 59, 60, 61, 62, 63, 64, 92, 93, 94, 95, 96, 97, 98, 85, 86, 87, 88, 89, 90, 91, 99, 100] (by decide +kernel) (by decide +kernel)
set_option maxRecDepth 20000 in
theorem gX5_countBefore_X0_ofSecond_u118X4 : GoodIn wsX5_countBefore (va_wsU RX5 118 RX4 "GrammarAmbiguity$Counts" ⟨"GrammarAmbiguity$SpanCounts", "ofSecond", "(IIIII)J"⟩ yX0_ofSecond wsX0_ofSecond) := goodIn_app (goodIn_of _ (by decide +kernel)) ggX5_countBefore_X0_ofSecond
theorem dX5_countBefore_0 : decode cX5_countBefore 0 = .ok (.aload_n 0, 1) := by decide +kernel
theorem dX5_countBefore_1 : decode cX5_countBefore 1 = .ok (.getfield 27, 3) := by decide +kernel
theorem dX5_countBefore_4 : decode cX5_countBefore 4 = .ok (.iload_n 2, 1) := by decide +kernel
theorem dX5_countBefore_5 : decode cX5_countBefore 5 = .ok (.iaload, 1) := by decide +kernel
theorem dX5_countBefore_6 : decode cX5_countBefore 6 = .ok (.istore_n 3, 1) := by decide +kernel
theorem dX5_countBefore_7 : decode cX5_countBefore 7 = .ok (.aload_n 0, 1) := by decide +kernel
theorem dX5_countBefore_8 : decode cX5_countBefore 8 = .ok (.getfield 9, 3) := by decide +kernel
theorem dX5_countBefore_11 : decode cX5_countBefore 11 = .ok (.iload_n 3, 1) := by decide +kernel
theorem dX5_countBefore_12 : decode cX5_countBefore 12 = .ok (.iconst 0, 1) := by decide +kernel
theorem dX5_countBefore_13 : decode cX5_countBefore 13 = .ok (.invokevirtual 66, 3) := by decide +kernel
theorem dX5_countBefore_16 : decode cX5_countBefore 16 = .ok (.istore 4, 2) := by decide +kernel
theorem dX5_countBefore_18 : decode cX5_countBefore 18 = .ok (.aload_n 0, 1) := by decide +kernel
theorem dX5_countBefore_19 : decode cX5_countBefore 19 = .ok (.getfield 34, 3) := by decide +kernel
theorem dX5_countBefore_22 : decode cX5_countBefore 22 = .ok (.iload_n 2, 1) := by decide +kernel
theorem dX5_countBefore_23 : decode cX5_countBefore 23 = .ok (.iaload, 1) := by decide +kernel
theorem dX5_countBefore_24 : decode cX5_countBefore 24 = .ok (.istore 5, 2) := by decide +kernel
theorem dX5_countBefore_26 : decode cX5_countBefore 26 = .ok (.aload_n 0, 1) := by decide +kernel
theorem dX5_countBefore_27 : decode cX5_countBefore 27 = .ok (.getfield 31, 3) := by decide +kernel
theorem dX5_countBefore_30 : decode cX5_countBefore 30 = .ok (.iload_n 2, 1) := by decide +kernel
theorem dX5_countBefore_31 : decode cX5_countBefore 31 = .ok (.iaload, 1) := by decide +kernel
theorem dX5_countBefore_32 : decode cX5_countBefore 32 = .ok (.istore 6, 2) := by decide +kernel
theorem dX5_countBefore_34 : decode cX5_countBefore 34 = .ok (.lconst 0, 1) := by decide +kernel
theorem dX5_countBefore_35 : decode cX5_countBefore 35 = .ok (.lstore 7, 2) := by decide +kernel
theorem dX5_countBefore_37 : decode cX5_countBefore 37 = .ok (.iconst 0, 1) := by decide +kernel
theorem dX5_countBefore_38 : decode cX5_countBefore 38 = .ok (.istore 9, 2) := by decide +kernel
theorem dX5_countBefore_40 : decode cX5_countBefore 40 = .ok (.iload 9, 2) := by decide +kernel
theorem dX5_countBefore_42 : decode cX5_countBefore 42 = .ok (.iload_n 3, 1) := by decide +kernel
theorem dX5_countBefore_43 : decode cX5_countBefore 43 = .ok (.if_icmp .ge 26, 3) := by decide +kernel
theorem dX5_countBefore_46 : decode cX5_countBefore 46 = .ok (.lload 7, 2) := by decide +kernel
theorem dX5_countBefore_48 : decode cX5_countBefore 48 = .ok (.aload_n 1, 1) := by decide +kernel
theorem dX5_countBefore_49 : decode cX5_countBefore 49 = .ok (.iload 4, 2) := by decide +kernel
theorem dX5_countBefore_51 : decode cX5_countBefore 51 = .ok (.iload 9, 2) := by decide +kernel
theorem dX5_countBefore_53 : decode cX5_countBefore 53 = .ok (.iload 5, 2) := by decide +kernel
theorem dX5_countBefore_55 : decode cX5_countBefore 55 = .ok (.iload 6, 2) := by decide +kernel
theorem dX5_countBefore_57 : decode cX5_countBefore 57 = .ok (.invokevirtual 116, 3) := by decide +kernel
theorem dX5_countBefore_60 : decode cX5_countBefore 60 = .ok (.ladd, 1) := by decide +kernel
theorem dX5_countBefore_61 : decode cX5_countBefore 61 = .ok (.lstore 7, 2) := by decide +kernel
theorem dX5_countBefore_63 : decode cX5_countBefore 63 = .ok (.iinc 9 1, 3) := by decide +kernel
theorem dX5_countBefore_66 : decode cX5_countBefore 66 = .ok (.goto (-26), 3) := by decide +kernel
theorem dX5_countBefore_69 : decode cX5_countBefore 69 = .ok (.iconst 1, 1) := by decide +kernel
theorem dX5_countBefore_70 : decode cX5_countBefore 70 = .ok (.istore 9, 2) := by decide +kernel
theorem dX5_countBefore_72 : decode cX5_countBefore 72 = .ok (.iload 9, 2) := by decide +kernel
theorem dX5_countBefore_74 : decode cX5_countBefore 74 = .ok (.aload_n 0, 1) := by decide +kernel
theorem dX5_countBefore_75 : decode cX5_countBefore 75 = .ok (.getfield 37, 3) := by decide +kernel
theorem dX5_countBefore_78 : decode cX5_countBefore 78 = .ok (.iload_n 2, 1) := by decide +kernel
theorem dX5_countBefore_79 : decode cX5_countBefore 79 = .ok (.iaload, 1) := by decide +kernel
theorem dX5_countBefore_80 : decode cX5_countBefore 80 = .ok (.if_icmp .ge 25, 3) := by decide +kernel
theorem dX5_countBefore_83 : decode cX5_countBefore 83 = .ok (.lload 7, 2) := by decide +kernel
theorem dX5_countBefore_85 : decode cX5_countBefore 85 = .ok (.aload_n 1, 1) := by decide +kernel
theorem dX5_countBefore_86 : decode cX5_countBefore 86 = .ok (.iload_n 3, 1) := by decide +kernel
theorem dX5_countBefore_87 : decode cX5_countBefore 87 = .ok (.iload 5, 2) := by decide +kernel
theorem dX5_countBefore_89 : decode cX5_countBefore 89 = .ok (.iload 6, 2) := by decide +kernel
theorem dX5_countBefore_91 : decode cX5_countBefore 91 = .ok (.iload 9, 2) := by decide +kernel
theorem dX5_countBefore_93 : decode cX5_countBefore 93 = .ok (.invokevirtual 117, 3) := by decide +kernel
theorem dX5_countBefore_96 : decode cX5_countBefore 96 = .ok (.ladd, 1) := by decide +kernel
theorem dX5_countBefore_97 : decode cX5_countBefore 97 = .ok (.lstore 7, 2) := by decide +kernel
theorem dX5_countBefore_99 : decode cX5_countBefore 99 = .ok (.iinc 9 1, 3) := by decide +kernel
theorem dX5_countBefore_102 : decode cX5_countBefore 102 = .ok (.goto (-30), 3) := by decide +kernel
theorem dX5_countBefore_105 : decode cX5_countBefore 105 = .ok (.iconst 0, 1) := by decide +kernel
theorem dX5_countBefore_106 : decode cX5_countBefore 106 = .ok (.istore 9, 2) := by decide +kernel
theorem dX5_countBefore_108 : decode cX5_countBefore 108 = .ok (.iload 9, 2) := by decide +kernel
theorem dX5_countBefore_110 : decode cX5_countBefore 110 = .ok (.aload_n 0, 1) := by decide +kernel
