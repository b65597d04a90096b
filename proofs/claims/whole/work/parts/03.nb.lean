theorem dX0_init_0 : decode cX0_init 0 = .ok (.aload_n 0, 1) := by decide +kernel
theorem dX0_init_1 : decode cX0_init 1 = .ok (.invokespecial 3, 3) := by decide +kernel
theorem dX0_init_4 : decode cX0_init 4 = .ok (.aload_n 0, 1) := by decide +kernel
theorem dX0_init_5 : decode cX0_init 5 = .ok (.aload_n 1, 1) := by decide +kernel
theorem dX0_init_6 : decode cX0_init 6 = .ok (.putfield 9, 3) := by decide +kernel
theorem dX0_init_9 : decode cX0_init 9 = .ok (.aload_n 0, 1) := by decide +kernel
theorem dX0_init_10 : decode cX0_init 10 = .ok (.iload_n 2, 1) := by decide +kernel
theorem dX0_init_11 : decode cX0_init 11 = .ok (.iconst 1, 1) := by decide +kernel
theorem dX0_init_12 : decode cX0_init 12 = .ok (.if_icmp .ge 7, 3) := by decide +kernel
theorem dX0_init_15 : decode cX0_init 15 = .ok (.iconst 0, 1) := by decide +kernel
theorem dX0_init_16 : decode cX0_init 16 = .ok (.goto 7, 3) := by decide +kernel
theorem dX0_init_19 : decode cX0_init 19 = .ok (.iload_n 2, 1) := by decide +kernel
theorem dX0_init_20 : decode cX0_init 20 = .ok (.bipush 6, 2) := by decide +kernel
theorem dX0_init_22 : decode cX0_init 22 = .ok (.imul, 1) := by decide +kernel
theorem dX0_init_23 : decode cX0_init 23 = .ok (.newarray .long, 2) := by decide +kernel
theorem dX0_init_25 : decode cX0_init 25 = .ok (.putfield 15, 3) := by decide +kernel
theorem dX0_init_28 : decode cX0_init 28 = .ok (.aload_n 0, 1) := by decide +kernel
theorem dX0_init_29 : decode cX0_init 29 = .ok (.iconst 0, 1) := by decide +kernel
theorem dX0_init_30 : decode cX0_init 30 = .ok (.putfield 19, 3) := by decide +kernel
theorem dX0_init_33 : decode cX0_init 33 = .ok (.return_, 1) := by decide +kernel
theorem dX0_fill_0 : decode cX0_fill 0 = .ok (.aload_n 0, 1) := by decide +kernel
theorem dX0_fill_1 : decode cX0_fill 1 = .ok (.getfield 19, 3) := by decide +kernel
theorem dX0_fill_4 : decode cX0_fill 4 = .ok (.iconst 1, 1) := by decide +kernel
theorem dX0_fill_5 : decode cX0_fill 5 = .ok (.iadd, 1) := by decide +kernel
theorem dX0_fill_6 : decode cX0_fill 6 = .ok (.istore_n 2, 1) := by decide +kernel
theorem dX0_fill_7 : decode cX0_fill 7 = .ok (.iload_n 2, 1) := by decide +kernel
theorem dX0_fill_8 : decode cX0_fill 8 = .ok (.iload_n 1, 1) := by decide +kernel
theorem dX0_fill_9 : decode cX0_fill 9 = .ok (.if_icmp .gt 102, 3) := by decide +kernel
theorem dX0_fill_12 : decode cX0_fill 12 = .ok (.aload_n 0, 1) := by decide +kernel
theorem dX0_fill_13 : decode cX0_fill 13 = .ok (.iload_n 2, 1) := by decide +kernel
theorem dX0_fill_14 : decode cX0_fill 14 = .ok (.invokevirtual 23, 3) := by decide +kernel
theorem dX0_fill_17 : decode cX0_fill 17 = .ok (.istore_n 3, 1) := by decide +kernel
theorem dX0_fill_18 : decode cX0_fill 18 = .ok (.iconst 0, 1) := by decide +kernel
theorem dX0_fill_19 : decode cX0_fill 19 = .ok (.istore 4, 2) := by decide +kernel
theorem dX0_fill_21 : decode cX0_fill 21 = .ok (.iload 4, 2) := by decide +kernel
theorem dX0_fill_23 : decode cX0_fill 23 = .ok (.iload_n 3, 1) := by decide +kernel
theorem dX0_fill_24 : decode cX0_fill 24 = .ok (.if_icmp .ge 81, 3) := by decide +kernel
theorem dX0_fill_27 : decode cX0_fill 27 = .ok (.iconst 0, 1) := by decide +kernel
theorem dX0_fill_28 : decode cX0_fill 28 = .ok (.istore 5, 2) := by decide +kernel
theorem dX0_fill_30 : decode cX0_fill 30 = .ok (.iload 5, 2) := by decide +kernel
theorem dX0_fill_32 : decode cX0_fill 32 = .ok (.aload_n 0, 1) := by decide +kernel
theorem dX0_fill_33 : decode cX0_fill 33 = .ok (.getfield 9, 3) := by decide +kernel
theorem dX0_fill_36 : decode cX0_fill 36 = .ok (.getfield 27, 3) := by decide +kernel
theorem dX0_fill_39 : decode cX0_fill 39 = .ok (.if_icmp .ge 60, 3) := by decide +kernel
theorem dX0_fill_42 : decode cX0_fill 42 = .ok (.lconst 0, 1) := by decide +kernel
theorem dX0_fill_43 : decode cX0_fill 43 = .ok (.lstore 6, 2) := by decide +kernel
theorem dX0_fill_45 : decode cX0_fill 45 = .ok (.iconst 0, 1) := by decide +kernel
theorem dX0_fill_46 : decode cX0_fill 46 = .ok (.istore 8, 2) := by decide +kernel
theorem dX0_fill_48 : decode cX0_fill 48 = .ok (.iload 8, 2) := by decide +kernel
theorem dX0_fill_50 : decode cX0_fill 50 = .ok (.aload_n 0, 1) := by decide +kernel
theorem dX0_fill_51 : decode cX0_fill 51 = .ok (.getfield 9, 3) := by decide +kernel
theorem dX0_fill_54 : decode cX0_fill 54 = .ok (.getfield 32, 3) := by decide +kernel
theorem dX0_fill_57 : decode cX0_fill 57 = .ok (.if_icmp .ge 25, 3) := by decide +kernel
theorem dX0_fill_60 : decode cX0_fill 60 = .ok (.lload 6, 2) := by decide +kernel
theorem dX0_fill_62 : decode cX0_fill 62 = .ok (.aload_n 0, 1) := by decide +kernel
theorem dX0_fill_63 : decode cX0_fill 63 = .ok (.iload 5, 2) := by decide +kernel
theorem dX0_fill_65 : decode cX0_fill 65 = .ok (.iload 8, 2) := by decide +kernel
theorem dX0_fill_67 : decode cX0_fill 67 = .ok (.iload_n 2, 1) := by decide +kernel
theorem dX0_fill_68 : decode cX0_fill 68 = .ok (.iload 4, 2) := by decide +kernel
theorem dX0_fill_70 : decode cX0_fill 70 = .ok (.invokevirtual 35, 3) := by decide +kernel
theorem dX0_fill_73 : decode cX0_fill 73 = .ok (.ladd, 1) := by decide +kernel
theorem dX0_fill_74 : decode cX0_fill 74 = .ok (.lstore 6, 2) := by decide +kernel
theorem dX0_fill_76 : decode cX0_fill 76 = .ok (.iinc 8 1, 3) := by decide +kernel
theorem dX0_fill_79 : decode cX0_fill 79 = .ok (.goto (-31), 3) := by decide +kernel
theorem dX0_fill_82 : decode cX0_fill 82 = .ok (.aload_n 0, 1) := by decide +kernel
theorem dX0_fill_83 : decode cX0_fill 83 = .ok (.iload 5, 2) := by decide +kernel
theorem dX0_fill_85 : decode cX0_fill 85 = .ok (.iload_n 2, 1) := by decide +kernel
theorem dX0_fill_86 : decode cX0_fill 86 = .ok (.iload 4, 2) := by decide +kernel
theorem dX0_fill_88 : decode cX0_fill 88 = .ok (.lload 6, 2) := by decide +kernel
theorem dX0_fill_90 : decode cX0_fill 90 = .ok (.invokevirtual 39, 3) := by decide +kernel
theorem dX0_fill_93 : decode cX0_fill 93 = .ok (.iinc 5 1, 3) := by decide +kernel
theorem dX0_fill_96 : decode cX0_fill 96 = .ok (.goto (-66), 3) := by decide +kernel
theorem dX0_fill_99 : decode cX0_fill 99 = .ok (.iinc 4 1, 3) := by decide +kernel
theorem dX0_fill_102 : decode cX0_fill 102 = .ok (.goto (-81), 3) := by decide +kernel
theorem dX0_fill_105 : decode cX0_fill 105 = .ok (.iinc 2 1, 3) := by decide +kernel
theorem dX0_fill_108 : decode cX0_fill 108 = .ok (.goto (-101), 3) := by decide +kernel
theorem dX0_fill_111 : decode cX0_fill 111 = .ok (.aload_n 0, 1) := by decide +kernel
theorem dX0_fill_112 : decode cX0_fill 112 = .ok (.aload_n 0, 1) := by decide +kernel
theorem dX0_fill_113 : decode cX0_fill 113 = .ok (.getfield 19, 3) := by decide +kernel
theorem dX0_fill_116 : decode cX0_fill 116 = .ok (.iload_n 1, 1) := by decide +kernel
theorem dX0_fill_117 : decode cX0_fill 117 = .ok (.invokestatic 43, 3) := by decide +kernel
theorem dX0_fill_120 : decode cX0_fill 120 = .ok (.putfield 19, 3) := by decide +kernel
theorem dX0_fill_123 : decode cX0_fill 123 = .ok (.return_, 1) := by decide +kernel
theorem dX0_forget_0 : decode cX0_forget 0 = .ok (.aload_n 0, 1) := by decide +kernel
theorem dX0_forget_1 : decode cX0_forget 1 = .ok (.iconst 0, 1) := by decide +kernel
theorem dX0_forget_2 : decode cX0_forget 2 = .ok (.putfield 19, 3) := by decide +kernel
theorem dX0_forget_5 : decode cX0_forget 5 = .ok (.return_, 1) := by decide +kernel
theorem dX0_put_0 : decode cX0_put 0 = .ok (.aload_n 0, 1) := by decide +kernel
theorem dX0_put_1 : decode cX0_put 1 = .ok (.iload_n 2, 1) := by decide +kernel
theorem dX0_put_2 : decode cX0_put 2 = .ok (.iload_n 3, 1) := by decide +kernel
theorem dX0_put_3 : decode cX0_put 3 = .ok (.invokevirtual 49, 3) := by decide +kernel
theorem dX0_put_6 : decode cX0_put 6 = .ok (.bipush 6, 2) := by decide +kernel
theorem dX0_put_8 : decode cX0_put 8 = .ok (.imul, 1) := by decide +kernel
theorem dX0_put_9 : decode cX0_put 9 = .ok (.iload_n 1, 1) := by decide +kernel
theorem dX0_put_10 : decode cX0_put 10 = .ok (.iadd, 1) := by decide +kernel
theorem dX0_put_11 : decode cX0_put 11 = .ok (.istore 6, 2) := by decide +kernel
theorem dX0_put_13 : decode cX0_put 13 = .ok (.iload 6, 2) := by decide +kernel
theorem dX0_put_15 : decode cX0_put 15 = .ok (.ifCond .lt 22, 3) := by decide +kernel
theorem dX0_put_18 : decode cX0_put 18 = .ok (.iload 6, 2) := by decide +kernel
theorem dX0_put_20 : decode cX0_put 20 = .ok (.aload_n 0, 1) := by decide +kernel
theorem dX0_put_21 : decode cX0_put 21 = .ok (.getfield 15, 3) := by decide +kernel
theorem dX0_put_24 : decode cX0_put 24 = .ok (.arraylength, 1) := by decide +kernel
theorem dX0_put_25 : decode cX0_put 25 = .ok (.if_icmp .ge 12, 3) := by decide +kernel
theorem dX0_put_28 : decode cX0_put 28 = .ok (.aload_n 0, 1) := by decide +kernel
theorem dX0_put_29 : decode cX0_put 29 = .ok (.getfield 15, 3) := by decide +kernel
theorem dX0_put_32 : decode cX0_put 32 = .ok (.iload 6, 2) := by decide +kernel
theorem dX0_put_34 : decode cX0_put 34 = .ok (.lload 4, 2) := by decide +kernel
theorem dX0_put_36 : decode cX0_put 36 = .ok (.lastore, 1) := by decide +kernel
theorem dX0_put_37 : decode cX0_put 37 = .ok (.return_, 1) := by decide +kernel
theorem dX0_count_0 : decode cX0_count 0 = .ok (.iload_n 1, 1) := by decide +kernel
theorem dX0_count_1 : decode cX0_count 1 = .ok (.iconst (-1), 1) := by decide +kernel
theorem dX0_count_2 : decode cX0_count 2 = .ok (.if_icmp .ne 13, 3) := by decide +kernel
theorem dX0_count_5 : decode cX0_count 5 = .ok (.iload_n 2, 1) := by decide +kernel
theorem dX0_count_6 : decode cX0_count 6 = .ok (.ifCond .ne 7, 3) := by decide +kernel
theorem dX0_count_9 : decode cX0_count 9 = .ok (.lconst 1, 1) := by decide +kernel
theorem dX0_count_10 : decode cX0_count 10 = .ok (.goto 4, 3) := by decide +kernel
theorem dX0_count_13 : decode cX0_count 13 = .ok (.lconst 0, 1) := by decide +kernel
theorem dX0_count_14 : decode cX0_count 14 = .ok (.lreturn, 1) := by decide +kernel
theorem dX0_count_15 : decode cX0_count 15 = .ok (.iload_n 2, 1) := by decide +kernel
theorem dX0_count_16 : decode cX0_count 16 = .ok (.iconst 1, 1) := by decide +kernel
theorem dX0_count_17 : decode cX0_count 17 = .ok (.if_icmp .ge 5, 3) := by decide +kernel
theorem dX0_count_20 : decode cX0_count 20 = .ok (.lconst 0, 1) := by decide +kernel
theorem dX0_count_21 : decode cX0_count 21 = .ok (.lreturn, 1) := by decide +kernel
theorem dX0_count_22 : decode cX0_count 22 = .ok (.iload_n 1, 1) := by decide +kernel
theorem dX0_count_23 : decode cX0_count 23 = .ok (.bipush 10, 2) := by decide +kernel
theorem dX0_count_25 : decode cX0_count 25 = .ok (.if_icmp .lt 26, 3) := by decide +kernel
theorem dX0_count_28 : decode cX0_count 28 = .ok (.iload_n 2, 1) := by decide +kernel
theorem dX0_count_29 : decode cX0_count 29 = .ok (.iconst 1, 1) := by decide +kernel
theorem dX0_count_30 : decode cX0_count 30 = .ok (.if_icmp .ne 19, 3) := by decide +kernel
theorem dX0_count_33 : decode cX0_count 33 = .ok (.aload_n 0, 1) := by decide +kernel
theorem dX0_count_34 : decode cX0_count 34 = .ok (.iload_n 3, 1) := by decide +kernel
theorem dX0_count_35 : decode cX0_count 35 = .ok (.iload_n 1, 1) := by decide +kernel
theorem dX0_count_36 : decode cX0_count 36 = .ok (.bipush 10, 2) := by decide +kernel
theorem dX0_count_38 : decode cX0_count 38 = .ok (.isub, 1) := by decide +kernel
theorem dX0_count_39 : decode cX0_count 39 = .ok (.invokevirtual 52, 3) := by decide +kernel
theorem dX0_count_42 : decode cX0_count 42 = .ok (.ifCond .eq 7, 3) := by decide +kernel
theorem dX0_count_45 : decode cX0_count 45 = .ok (.lconst 1, 1) := by decide +kernel
theorem dX0_count_46 : decode cX0_count 46 = .ok (.goto 4, 3) := by decide +kernel
theorem dX0_count_49 : decode cX0_count 49 = .ok (.lconst 0, 1) := by decide +kernel
theorem dX0_count_50 : decode cX0_count 50 = .ok (.lreturn, 1) := by decide +kernel
theorem dX0_count_51 : decode cX0_count 51 = .ok (.aload_n 0, 1) := by decide +kernel
theorem dX0_count_52 : decode cX0_count 52 = .ok (.iload_n 2, 1) := by decide +kernel
theorem dX0_count_53 : decode cX0_count 53 = .ok (.iload_n 3, 1) := by decide +kernel
theorem dX0_count_54 : decode cX0_count 54 = .ok (.invokevirtual 49, 3) := by decide +kernel
theorem dX0_count_57 : decode cX0_count 57 = .ok (.bipush 6, 2) := by decide +kernel
theorem dX0_count_59 : decode cX0_count 59 = .ok (.imul, 1) := by decide +kernel
theorem dX0_count_60 : decode cX0_count 60 = .ok (.iload_n 1, 1) := by decide +kernel
theorem dX0_count_61 : decode cX0_count 61 = .ok (.iadd, 1) := by decide +kernel
theorem dX0_count_62 : decode cX0_count 62 = .ok (.istore 4, 2) := by decide +kernel
theorem dX0_count_64 : decode cX0_count 64 = .ok (.iload 4, 2) := by decide +kernel
theorem dX0_count_66 : decode cX0_count 66 = .ok (.ifCond .lt 23, 3) := by decide +kernel
theorem dX0_count_69 : decode cX0_count 69 = .ok (.iload 4, 2) := by decide +kernel
theorem dX0_count_71 : decode cX0_count 71 = .ok (.aload_n 0, 1) := by decide +kernel
theorem dX0_count_72 : decode cX0_count 72 = .ok (.getfield 15, 3) := by decide +kernel
theorem dX0_count_75 : decode cX0_count 75 = .ok (.arraylength, 1) := by decide +kernel
theorem dX0_count_76 : decode cX0_count 76 = .ok (.if_icmp .ge 13, 3) := by decide +kernel
theorem dX0_count_79 : decode cX0_count 79 = .ok (.aload_n 0, 1) := by decide +kernel
theorem dX0_count_80 : decode cX0_count 80 = .ok (.getfield 15, 3) := by decide +kernel
theorem dX0_count_83 : decode cX0_count 83 = .ok (.iload 4, 2) := by decide +kernel
theorem dX0_count_85 : decode cX0_count 85 = .ok (.laload, 1) := by decide +kernel
theorem dX0_count_86 : decode cX0_count 86 = .ok (.goto 4, 3) := by decide +kernel
theorem dX0_count_89 : decode cX0_count 89 = .ok (.lconst 0, 1) := by decide +kernel
theorem dX0_count_90 : decode cX0_count 90 = .ok (.lreturn, 1) := by decide +kernel
theorem dX0_ofProduction_0 : decode cX0_ofProduction 0 = .ok (.aload_n 0, 1) := by decide +kernel
theorem dX0_ofProduction_1 : decode cX0_ofProduction 1 = .ok (.getfield 9, 3) := by decide +kernel
theorem dX0_ofProduction_4 : decode cX0_ofProduction 4 = .ok (.iload_n 2, 1) := by decide +kernel
theorem dX0_ofProduction_5 : decode cX0_ofProduction 5 = .ok (.iconst 0, 1) := by decide +kernel
theorem dX0_ofProduction_6 : decode cX0_ofProduction 6 = .ok (.invokevirtual 56, 3) := by decide +kernel
theorem dX0_ofProduction_9 : decode cX0_ofProduction 9 = .ok (.iload_n 1, 1) := by decide +kernel
theorem dX0_ofProduction_10 : decode cX0_ofProduction 10 = .ok (.if_icmp .eq 5, 3) := by decide +kernel
theorem dX0_ofProduction_13 : decode cX0_ofProduction 13 = .ok (.lconst 0, 1) := by decide +kernel
theorem dX0_ofProduction_14 : decode cX0_ofProduction 14 = .ok (.lreturn, 1) := by decide +kernel
theorem dX0_ofProduction_15 : decode cX0_ofProduction 15 = .ok (.lconst 0, 1) := by decide +kernel
theorem dX0_ofProduction_16 : decode cX0_ofProduction 16 = .ok (.lstore 5, 2) := by decide +kernel
theorem dX0_ofProduction_18 : decode cX0_ofProduction 18 = .ok (.iconst 1, 1) := by decide +kernel
theorem dX0_ofProduction_19 : decode cX0_ofProduction 19 = .ok (.istore 7, 2) := by decide +kernel
theorem dX0_ofProduction_21 : decode cX0_ofProduction 21 = .ok (.iload 7, 2) := by decide +kernel
theorem dX0_ofProduction_23 : decode cX0_ofProduction 23 = .ok (.iload_n 3, 1) := by decide +kernel
theorem dX0_ofProduction_24 : decode cX0_ofProduction 24 = .ok (.if_icmp .gt 24, 3) := by decide +kernel
theorem dX0_ofProduction_27 : decode cX0_ofProduction 27 = .ok (.lload 5, 2) := by decide +kernel
theorem dX0_ofProduction_29 : decode cX0_ofProduction 29 = .ok (.aload_n 0, 1) := by decide +kernel
theorem dX0_ofProduction_30 : decode cX0_ofProduction 30 = .ok (.iload_n 2, 1) := by decide +kernel
theorem dX0_ofProduction_31 : decode cX0_ofProduction 31 = .ok (.iload_n 3, 1) := by decide +kernel
theorem dX0_ofProduction_32 : decode cX0_ofProduction 32 = .ok (.iload 4, 2) := by decide +kernel
theorem dX0_ofProduction_34 : decode cX0_ofProduction 34 = .ok (.iload 7, 2) := by decide +kernel
theorem dX0_ofProduction_36 : decode cX0_ofProduction 36 = .ok (.invokevirtual 59, 3) := by decide +kernel
theorem dX0_ofProduction_39 : decode cX0_ofProduction 39 = .ok (.ladd, 1) := by decide +kernel
theorem dX0_ofProduction_40 : decode cX0_ofProduction 40 = .ok (.lstore 5, 2) := by decide +kernel
theorem dX0_ofProduction_42 : decode cX0_ofProduction 42 = .ok (.iinc 7 1, 3) := by decide +kernel
theorem dX0_ofProduction_45 : decode cX0_ofProduction 45 = .ok (.goto (-24), 3) := by decide +kernel
theorem dX0_ofProduction_48 : decode cX0_ofProduction 48 = .ok (.lload 5, 2) := by decide +kernel
theorem dX0_ofProduction_50 : decode cX0_ofProduction 50 = .ok (.lreturn, 1) := by decide +kernel
theorem dX0_ofFirst_0 : decode cX0_ofFirst 0 = .ok (.iload_n 2, 1) := by decide +kernel
theorem dX0_ofFirst_1 : decode cX0_ofFirst 1 = .ok (.iload 4, 2) := by decide +kernel
theorem dX0_ofFirst_3 : decode cX0_ofFirst 3 = .ok (.isub, 1) := by decide +kernel
theorem dX0_ofFirst_4 : decode cX0_ofFirst 4 = .ok (.istore 5, 2) := by decide +kernel
theorem dX0_ofFirst_6 : decode cX0_ofFirst 6 = .ok (.aload_n 0, 1) := by decide +kernel
theorem dX0_ofFirst_7 : decode cX0_ofFirst 7 = .ok (.getfield 9, 3) := by decide +kernel
theorem dX0_ofFirst_10 : decode cX0_ofFirst 10 = .ok (.iload_n 1, 1) := by decide +kernel
theorem dX0_ofFirst_11 : decode cX0_ofFirst 11 = .ok (.iconst 2, 1) := by decide +kernel
theorem dX0_ofFirst_12 : decode cX0_ofFirst 12 = .ok (.invokevirtual 56, 3) := by decide +kernel
theorem dX0_ofFirst_15 : decode cX0_ofFirst 15 = .ok (.iconst (-1), 1) := by decide +kernel
theorem dX0_ofFirst_16 : decode cX0_ofFirst 16 = .ok (.if_icmp .ne 7, 3) := by decide +kernel
theorem dX0_ofFirst_19 : decode cX0_ofFirst 19 = .ok (.iconst 1, 1) := by decide +kernel
theorem dX0_ofFirst_20 : decode cX0_ofFirst 20 = .ok (.goto 4, 3) := by decide +kernel
theorem dX0_ofFirst_23 : decode cX0_ofFirst 23 = .ok (.iconst 0, 1) := by decide +kernel
theorem dX0_ofFirst_24 : decode cX0_ofFirst 24 = .ok (.istore 6, 2) := by decide +kernel
theorem dX0_ofFirst_26 : decode cX0_ofFirst 26 = .ok (.iload 6, 2) := by decide +kernel
theorem dX0_ofFirst_28 : decode cX0_ofFirst 28 = .ok (.iload 5, 2) := by decide +kernel
theorem dX0_ofFirst_30 : decode cX0_ofFirst 30 = .ok (.ifCond .ne 7, 3) := by decide +kernel
theorem dX0_ofFirst_33 : decode cX0_ofFirst 33 = .ok (.iconst 1, 1) := by decide +kernel
theorem dX0_ofFirst_34 : decode cX0_ofFirst 34 = .ok (.goto 4, 3) := by decide +kernel
theorem dX0_ofFirst_37 : decode cX0_ofFirst 37 = .ok (.iconst 0, 1) := by decide +kernel
theorem dX0_ofFirst_38 : decode cX0_ofFirst 38 = .ok (.if_icmp .eq 5, 3) := by decide +kernel
theorem dX0_ofFirst_41 : decode cX0_ofFirst 41 = .ok (.lconst 0, 1) := by decide +kernel
theorem dX0_ofFirst_42 : decode cX0_ofFirst 42 = .ok (.lreturn, 1) := by decide +kernel
theorem dX0_ofFirst_43 : decode cX0_ofFirst 43 = .ok (.aload_n 0, 1) := by decide +kernel
theorem dX0_ofFirst_44 : decode cX0_ofFirst 44 = .ok (.aload_n 0, 1) := by decide +kernel
theorem dX0_ofFirst_45 : decode cX0_ofFirst 45 = .ok (.getfield 9, 3) := by decide +kernel
theorem dX0_ofFirst_48 : decode cX0_ofFirst 48 = .ok (.iload_n 1, 1) := by decide +kernel
theorem dX0_ofFirst_49 : decode cX0_ofFirst 49 = .ok (.iconst 1, 1) := by decide +kernel
theorem dX0_ofFirst_50 : decode cX0_ofFirst 50 = .ok (.invokevirtual 56, 3) := by decide +kernel
theorem dX0_ofFirst_53 : decode cX0_ofFirst 53 = .ok (.iload 4, 2) := by decide +kernel
theorem dX0_ofFirst_55 : decode cX0_ofFirst 55 = .ok (.aload_n 0, 1) := by decide +kernel
theorem dX0_ofFirst_56 : decode cX0_ofFirst 56 = .ok (.iload_n 3, 1) := by decide +kernel
theorem dX0_ofFirst_57 : decode cX0_ofFirst 57 = .ok (.iconst 0, 1) := by decide +kernel
theorem dX0_ofFirst_58 : decode cX0_ofFirst 58 = .ok (.invokevirtual 62, 3) := by decide +kernel
theorem dX0_ofFirst_61 : decode cX0_ofFirst 61 = .ok (.invokevirtual 65, 3) := by decide +kernel
theorem dX0_ofFirst_64 : decode cX0_ofFirst 64 = .ok (.lstore 7, 2) := by decide +kernel
theorem dX0_ofFirst_66 : decode cX0_ofFirst 66 = .ok (.lload 7, 2) := by decide +kernel
theorem dX0_ofFirst_68 : decode cX0_ofFirst 68 = .ok (.lconst 0, 1) := by decide +kernel
theorem dX0_ofFirst_69 : decode cX0_ofFirst 69 = .ok (.lcmp, 1) := by decide +kernel
theorem dX0_ofFirst_70 : decode cX0_ofFirst 70 = .ok (.ifCond .ne 5, 3) := by decide +kernel
theorem dX0_ofFirst_73 : decode cX0_ofFirst 73 = .ok (.lconst 0, 1) := by decide +kernel
theorem dX0_ofFirst_74 : decode cX0_ofFirst 74 = .ok (.lreturn, 1) := by decide +kernel
theorem dX0_ofFirst_75 : decode cX0_ofFirst 75 = .ok (.aload_n 0, 1) := by decide +kernel
theorem dX0_ofFirst_76 : decode cX0_ofFirst 76 = .ok (.getfield 9, 3) := by decide +kernel
theorem dX0_ofFirst_79 : decode cX0_ofFirst 79 = .ok (.iload_n 1, 1) := by decide +kernel
theorem dX0_ofFirst_80 : decode cX0_ofFirst 80 = .ok (.iconst 3, 1) := by decide +kernel
theorem dX0_ofFirst_81 : decode cX0_ofFirst 81 = .ok (.invokevirtual 56, 3) := by decide +kernel
theorem dX0_ofFirst_84 : decode cX0_ofFirst 84 = .ok (.iconst (-1), 1) := by decide +kernel
theorem dX0_ofFirst_85 : decode cX0_ofFirst 85 = .ok (.if_icmp .eq 7, 3) := by decide +kernel
theorem dX0_ofFirst_88 : decode cX0_ofFirst 88 = .ok (.iconst 1, 1) := by decide +kernel
theorem dX0_ofFirst_89 : decode cX0_ofFirst 89 = .ok (.goto 4, 3) := by decide +kernel
theorem dX0_ofFirst_92 : decode cX0_ofFirst 92 = .ok (.iconst 0, 1) := by decide +kernel
theorem dX0_ofFirst_93 : decode cX0_ofFirst 93 = .ok (.istore 9, 2) := by decide +kernel
theorem dX0_ofFirst_95 : decode cX0_ofFirst 95 = .ok (.iload 9, 2) := by decide +kernel
theorem dX0_ofFirst_97 : decode cX0_ofFirst 97 = .ok (.ifCond .eq 10, 3) := by decide +kernel
theorem dX0_ofFirst_100 : decode cX0_ofFirst 100 = .ok (.iload 5, 2) := by decide +kernel
theorem dX0_ofFirst_102 : decode cX0_ofFirst 102 = .ok (.iconst 1, 1) := by decide +kernel
theorem dX0_ofFirst_103 : decode cX0_ofFirst 103 = .ok (.isub, 1) := by decide +kernel
theorem dX0_ofFirst_104 : decode cX0_ofFirst 104 = .ok (.goto 5, 3) := by decide +kernel
theorem dX0_ofFirst_107 : decode cX0_ofFirst 107 = .ok (.iload 5, 2) := by decide +kernel
theorem dX0_ofFirst_109 : decode cX0_ofFirst 109 = .ok (.istore 10, 2) := by decide +kernel
theorem dX0_ofFirst_111 : decode cX0_ofFirst 111 = .ok (.lconst 0, 1) := by decide +kernel
theorem dX0_ofFirst_112 : decode cX0_ofFirst 112 = .ok (.lstore 11, 2) := by decide +kernel
theorem dX0_ofFirst_114 : decode cX0_ofFirst 114 = .ok (.iload 9, 2) := by decide +kernel
theorem dX0_ofFirst_116 : decode cX0_ofFirst 116 = .ok (.ifCond .eq 7, 3) := by decide +kernel
theorem dX0_ofFirst_119 : decode cX0_ofFirst 119 = .ok (.iconst 1, 1) := by decide +kernel
theorem dX0_ofFirst_120 : decode cX0_ofFirst 120 = .ok (.goto 5, 3) := by decide +kernel
theorem dX0_ofFirst_123 : decode cX0_ofFirst 123 = .ok (.iload 5, 2) := by decide +kernel
theorem dX0_ofFirst_125 : decode cX0_ofFirst 125 = .ok (.istore 13, 2) := by decide +kernel
theorem dX0_ofFirst_127 : decode cX0_ofFirst 127 = .ok (.iload 13, 2) := by decide +kernel
theorem dX0_ofFirst_129 : decode cX0_ofFirst 129 = .ok (.iload 10, 2) := by decide +kernel
theorem dX0_ofFirst_131 : decode cX0_ofFirst 131 = .ok (.if_icmp .gt 25, 3) := by decide +kernel
theorem dX0_ofFirst_134 : decode cX0_ofFirst 134 = .ok (.lload 11, 2) := by decide +kernel
theorem dX0_ofFirst_136 : decode cX0_ofFirst 136 = .ok (.aload_n 0, 1) := by decide +kernel
theorem dX0_ofFirst_137 : decode cX0_ofFirst 137 = .ok (.iload_n 1, 1) := by decide +kernel
theorem dX0_ofFirst_138 : decode cX0_ofFirst 138 = .ok (.iload_n 2, 1) := by decide +kernel
theorem dX0_ofFirst_139 : decode cX0_ofFirst 139 = .ok (.iload_n 3, 1) := by decide +kernel
theorem dX0_ofFirst_140 : decode cX0_ofFirst 140 = .ok (.iload 4, 2) := by decide +kernel
theorem dX0_ofFirst_142 : decode cX0_ofFirst 142 = .ok (.iload 13, 2) := by decide +kernel
theorem dX0_ofFirst_144 : decode cX0_ofFirst 144 = .ok (.invokevirtual 69, 3) := by decide +kernel
theorem dX0_ofFirst_147 : decode cX0_ofFirst 147 = .ok (.ladd, 1) := by decide +kernel
theorem dX0_ofFirst_148 : decode cX0_ofFirst 148 = .ok (.lstore 11, 2) := by decide +kernel
theorem dX0_ofFirst_150 : decode cX0_ofFirst 150 = .ok (.iinc 13 1, 3) := by decide +kernel
theorem dX0_ofFirst_153 : decode cX0_ofFirst 153 = .ok (.goto (-26), 3) := by decide +kernel
theorem dX0_ofFirst_156 : decode cX0_ofFirst 156 = .ok (.lload 7, 2) := by decide +kernel
theorem dX0_ofFirst_158 : decode cX0_ofFirst 158 = .ok (.lload 11, 2) := by decide +kernel
theorem dX0_ofFirst_160 : decode cX0_ofFirst 160 = .ok (.lmul, 1) := by decide +kernel
theorem dX0_ofFirst_161 : decode cX0_ofFirst 161 = .ok (.lreturn, 1) := by decide +kernel
theorem dX0_ofSecond_0 : decode cX0_ofSecond 0 = .ok (.aload_n 0, 1) := by decide +kernel
theorem dX0_ofSecond_1 : decode cX0_ofSecond 1 = .ok (.aload_n 0, 1) := by decide +kernel
theorem dX0_ofSecond_2 : decode cX0_ofSecond 2 = .ok (.getfield 9, 3) := by decide +kernel
theorem dX0_ofSecond_5 : decode cX0_ofSecond 5 = .ok (.iload_n 1, 1) := by decide +kernel
theorem dX0_ofSecond_6 : decode cX0_ofSecond 6 = .ok (.iconst 1, 1) := by decide +kernel
theorem dX0_ofSecond_7 : decode cX0_ofSecond 7 = .ok (.invokevirtual 56, 3) := by decide +kernel
theorem dX0_ofSecond_10 : decode cX0_ofSecond 10 = .ok (.iload 4, 2) := by decide +kernel
theorem dX0_ofSecond_12 : decode cX0_ofSecond 12 = .ok (.aload_n 0, 1) := by decide +kernel
theorem dX0_ofSecond_13 : decode cX0_ofSecond 13 = .ok (.iload_n 3, 1) := by decide +kernel
theorem dX0_ofSecond_14 : decode cX0_ofSecond 14 = .ok (.iconst 0, 1) := by decide +kernel
theorem dX0_ofSecond_15 : decode cX0_ofSecond 15 = .ok (.invokevirtual 62, 3) := by decide +kernel
theorem dX0_ofSecond_18 : decode cX0_ofSecond 18 = .ok (.invokevirtual 65, 3) := by decide +kernel
theorem dX0_ofSecond_21 : decode cX0_ofSecond 21 = .ok (.aload_n 0, 1) := by decide +kernel
theorem dX0_ofSecond_22 : decode cX0_ofSecond 22 = .ok (.iload_n 1, 1) := by decide +kernel
theorem dX0_ofSecond_23 : decode cX0_ofSecond 23 = .ok (.iload_n 2, 1) := by decide +kernel
theorem dX0_ofSecond_24 : decode cX0_ofSecond 24 = .ok (.iload_n 3, 1) := by decide +kernel
theorem dX0_ofSecond_25 : decode cX0_ofSecond 25 = .ok (.iload 4, 2) := by decide +kernel
theorem dX0_ofSecond_27 : decode cX0_ofSecond 27 = .ok (.iload 5, 2) := by decide +kernel
theorem dX0_ofSecond_29 : decode cX0_ofSecond 29 = .ok (.invokevirtual 69, 3) := by decide +kernel
theorem dX0_ofSecond_32 : decode cX0_ofSecond 32 = .ok (.lmul, 1) := by decide +kernel
theorem dX0_ofSecond_33 : decode cX0_ofSecond 33 = .ok (.lreturn, 1) := by decide +kernel
theorem dX0_tailsOf_0 : decode cX0_tailsOf 0 = .ok (.aload_n 0, 1) := by decide +kernel
theorem dX0_tailsOf_1 : decode cX0_tailsOf 1 = .ok (.aload_n 0, 1) := by decide +kernel
theorem dX0_tailsOf_2 : decode cX0_tailsOf 2 = .ok (.getfield 9, 3) := by decide +kernel
theorem dX0_tailsOf_5 : decode cX0_tailsOf 5 = .ok (.iload_n 1, 1) := by decide +kernel
theorem dX0_tailsOf_6 : decode cX0_tailsOf 6 = .ok (.iconst 2, 1) := by decide +kernel
theorem dX0_tailsOf_7 : decode cX0_tailsOf 7 = .ok (.invokevirtual 56, 3) := by decide +kernel
theorem dX0_tailsOf_10 : decode cX0_tailsOf 10 = .ok (.iload 5, 2) := by decide +kernel
theorem dX0_tailsOf_12 : decode cX0_tailsOf 12 = .ok (.aload_n 0, 1) := by decide +kernel
theorem dX0_tailsOf_13 : decode cX0_tailsOf 13 = .ok (.iload_n 3, 1) := by decide +kernel
theorem dX0_tailsOf_14 : decode cX0_tailsOf 14 = .ok (.iload 4, 2) := by decide +kernel
theorem dX0_tailsOf_16 : decode cX0_tailsOf 16 = .ok (.invokevirtual 62, 3) := by decide +kernel
theorem dX0_tailsOf_19 : decode cX0_tailsOf 19 = .ok (.invokevirtual 65, 3) := by decide +kernel
theorem dX0_tailsOf_22 : decode cX0_tailsOf 22 = .ok (.lstore 6, 2) := by decide +kernel
theorem dX0_tailsOf_24 : decode cX0_tailsOf 24 = .ok (.lload 6, 2) := by decide +kernel
theorem dX0_tailsOf_26 : decode cX0_tailsOf 26 = .ok (.lconst 0, 1) := by decide +kernel
theorem dX0_tailsOf_27 : decode cX0_tailsOf 27 = .ok (.lcmp, 1) := by decide +kernel
theorem dX0_tailsOf_28 : decode cX0_tailsOf 28 = .ok (.ifCond .ne 5, 3) := by decide +kernel
theorem dX0_tailsOf_31 : decode cX0_tailsOf 31 = .ok (.lconst 0, 1) := by decide +kernel
theorem dX0_tailsOf_32 : decode cX0_tailsOf 32 = .ok (.lreturn, 1) := by decide +kernel
theorem dX0_tailsOf_33 : decode cX0_tailsOf 33 = .ok (.iload 4, 2) := by decide +kernel
theorem dX0_tailsOf_35 : decode cX0_tailsOf 35 = .ok (.iload 5, 2) := by decide +kernel
theorem dX0_tailsOf_37 : decode cX0_tailsOf 37 = .ok (.iadd, 1) := by decide +kernel
theorem dX0_tailsOf_38 : decode cX0_tailsOf 38 = .ok (.istore 8, 2) := by decide +kernel
theorem dX0_tailsOf_40 : decode cX0_tailsOf 40 = .ok (.lload 6, 2) := by decide +kernel
theorem dX0_tailsOf_42 : decode cX0_tailsOf 42 = .ok (.aload_n 0, 1) := by decide +kernel
theorem dX0_tailsOf_43 : decode cX0_tailsOf 43 = .ok (.aload_n 0, 1) := by decide +kernel
theorem dX0_tailsOf_44 : decode cX0_tailsOf 44 = .ok (.getfield 9, 3) := by decide +kernel
theorem dX0_tailsOf_47 : decode cX0_tailsOf 47 = .ok (.iload_n 1, 1) := by decide +kernel
theorem dX0_tailsOf_48 : decode cX0_tailsOf 48 = .ok (.iconst 3, 1) := by decide +kernel
theorem dX0_tailsOf_49 : decode cX0_tailsOf 49 = .ok (.invokevirtual 56, 3) := by decide +kernel
theorem dX0_tailsOf_52 : decode cX0_tailsOf 52 = .ok (.iload_n 2, 1) := by decide +kernel
theorem dX0_tailsOf_53 : decode cX0_tailsOf 53 = .ok (.iload 8, 2) := by decide +kernel
theorem dX0_tailsOf_55 : decode cX0_tailsOf 55 = .ok (.isub, 1) := by decide +kernel
theorem dX0_tailsOf_56 : decode cX0_tailsOf 56 = .ok (.aload_n 0, 1) := by decide +kernel
theorem dX0_tailsOf_57 : decode cX0_tailsOf 57 = .ok (.iload_n 3, 1) := by decide +kernel
theorem dX0_tailsOf_58 : decode cX0_tailsOf 58 = .ok (.iload 8, 2) := by decide +kernel
theorem dX0_tailsOf_60 : decode cX0_tailsOf 60 = .ok (.invokevirtual 62, 3) := by decide +kernel
theorem dX0_tailsOf_63 : decode cX0_tailsOf 63 = .ok (.invokevirtual 65, 3) := by decide +kernel
theorem dX0_tailsOf_66 : decode cX0_tailsOf 66 = .ok (.lmul, 1) := by decide +kernel
theorem dX0_tailsOf_67 : decode cX0_tailsOf 67 = .ok (.lreturn, 1) := by decide +kernel
theorem dX1_init_0 : decode cX1_init 0 = .ok (.aload_n 0, 1) := by decide +kernel
theorem dX1_init_1 : decode cX1_init 1 = .ok (.invokespecial 3, 3) := by decide +kernel
theorem dX1_init_4 : decode cX1_init 4 = .ok (.aload_n 0, 1) := by decide +kernel
theorem dX1_init_5 : decode cX1_init 5 = .ok (.iconst 1, 1) := by decide +kernel
theorem dX1_init_6 : decode cX1_init 6 = .ok (.putfield 9, 3) := by decide +kernel
theorem dX1_init_9 : decode cX1_init 9 = .ok (.aload_n 0, 1) := by decide +kernel
theorem dX1_init_10 : decode cX1_init 10 = .ok (.iconst 2, 1) := by decide +kernel
theorem dX1_init_11 : decode cX1_init 11 = .ok (.putfield 15, 3) := by decide +kernel
theorem dX1_init_14 : decode cX1_init 14 = .ok (.aload_n 0, 1) := by decide +kernel
theorem dX1_init_15 : decode cX1_init 15 = .ok (.iconst 0, 1) := by decide +kernel
theorem dX1_init_16 : decode cX1_init 16 = .ok (.putfield 18, 3) := by decide +kernel
theorem dX1_init_19 : decode cX1_init 19 = .ok (.aload_n 0, 1) := by decide +kernel
theorem dX1_init_20 : decode cX1_init 20 = .ok (.iconst 0, 1) := by decide +kernel
theorem dX1_init_21 : decode cX1_init 21 = .ok (.putfield 21, 3) := by decide +kernel
theorem dX1_init_24 : decode cX1_init 24 = .ok (.aload_n 0, 1) := by decide +kernel
theorem dX1_init_25 : decode cX1_init 25 = .ok (.bipush 96, 2) := by decide +kernel
theorem dX1_init_27 : decode cX1_init 27 = .ok (.newarray .int, 2) := by decide +kernel
theorem dX1_init_29 : decode cX1_init 29 = .ok (.putfield 24, 3) := by decide +kernel
theorem dX1_init_32 : decode cX1_init 32 = .ok (.aload_n 0, 1) := by decide +kernel
theorem dX1_init_33 : decode cX1_init 33 = .ok (.bipush 6, 2) := by decide +kernel
theorem dX1_init_35 : decode cX1_init 35 = .ok (.newarray .int, 2) := by decide +kernel
theorem dX1_init_37 : decode cX1_init 37 = .ok (.putfield 28, 3) := by decide +kernel
theorem dX1_init_40 : decode cX1_init 40 = .ok (.aload_n 0, 1) := by decide +kernel
theorem dX1_init_41 : decode cX1_init 41 = .ok (.bipush 6, 2) := by decide +kernel
theorem dX1_init_43 : decode cX1_init 43 = .ok (.newarray .boolean, 2) := by decide +kernel
theorem dX1_init_45 : decode cX1_init 45 = .ok (.putfield 31, 3) := by decide +kernel
theorem dX1_init_48 : decode cX1_init 48 = .ok (.return_, 1) := by decide +kernel
theorem dX1_begin_0 : decode cX1_begin 0 = .ok (.aload_n 0, 1) := by decide +kernel
theorem dX1_begin_1 : decode cX1_begin 1 = .ok (.iload_n 1, 1) := by decide +kernel
theorem dX1_begin_2 : decode cX1_begin 2 = .ok (.putfield 9, 3) := by decide +kernel
theorem dX1_begin_5 : decode cX1_begin 5 = .ok (.aload_n 0, 1) := by decide +kernel
theorem dX1_begin_6 : decode cX1_begin 6 = .ok (.iload_n 2, 1) := by decide +kernel
theorem dX1_begin_7 : decode cX1_begin 7 = .ok (.putfield 15, 3) := by decide +kernel
theorem dX1_begin_10 : decode cX1_begin 10 = .ok (.aload_n 0, 1) := by decide +kernel
theorem dX1_begin_11 : decode cX1_begin 11 = .ok (.iconst 0, 1) := by decide +kernel
theorem dX1_begin_12 : decode cX1_begin 12 = .ok (.putfield 18, 3) := by decide +kernel
theorem dX1_begin_15 : decode cX1_begin 15 = .ok (.aload_n 0, 1) := by decide +kernel
theorem dX1_begin_16 : decode cX1_begin 16 = .ok (.iconst 0, 1) := by decide +kernel
theorem dX1_begin_17 : decode cX1_begin 17 = .ok (.putfield 21, 3) := by decide +kernel
theorem dX1_begin_20 : decode cX1_begin 20 = .ok (.return_, 1) := by decide +kernel
theorem dX1_copy_0 : decode cX1_copy 0 = .ok (.aload_n 0, 1) := by decide +kernel
theorem dX1_copy_1 : decode cX1_copy 1 = .ok (.aload_n 1, 1) := by decide +kernel
theorem dX1_copy_2 : decode cX1_copy 2 = .ok (.getfield 9, 3) := by decide +kernel
theorem dX1_copy_5 : decode cX1_copy 5 = .ok (.putfield 9, 3) := by decide +kernel
theorem dX1_copy_8 : decode cX1_copy 8 = .ok (.aload_n 0, 1) := by decide +kernel
theorem dX1_copy_9 : decode cX1_copy 9 = .ok (.aload_n 1, 1) := by decide +kernel
theorem dX1_copy_10 : decode cX1_copy 10 = .ok (.getfield 15, 3) := by decide +kernel
theorem dX1_copy_13 : decode cX1_copy 13 = .ok (.putfield 15, 3) := by decide +kernel
theorem dX1_copy_16 : decode cX1_copy 16 = .ok (.aload_n 0, 1) := by decide +kernel
theorem dX1_copy_17 : decode cX1_copy 17 = .ok (.aload_n 1, 1) := by decide +kernel
theorem dX1_copy_18 : decode cX1_copy 18 = .ok (.getfield 18, 3) := by decide +kernel
theorem dX1_copy_21 : decode cX1_copy 21 = .ok (.putfield 18, 3) := by decide +kernel
theorem dX1_copy_24 : decode cX1_copy 24 = .ok (.aload_n 0, 1) := by decide +kernel
theorem dX1_copy_25 : decode cX1_copy 25 = .ok (.aload_n 1, 1) := by decide +kernel
theorem dX1_copy_26 : decode cX1_copy 26 = .ok (.getfield 21, 3) := by decide +kernel
theorem dX1_copy_29 : decode cX1_copy 29 = .ok (.putfield 21, 3) := by decide +kernel
theorem dX1_copy_32 : decode cX1_copy 32 = .ok (.iconst 0, 1) := by decide +kernel
theorem dX1_copy_33 : decode cX1_copy 33 = .ok (.istore_n 2, 1) := by decide +kernel
theorem dX1_copy_34 : decode cX1_copy 34 = .ok (.iload_n 2, 1) := by decide +kernel
theorem dX1_copy_35 : decode cX1_copy 35 = .ok (.aload_n 0, 1) := by decide +kernel
theorem dX1_copy_36 : decode cX1_copy 36 = .ok (.getfield 24, 3) := by decide +kernel
theorem dX1_copy_39 : decode cX1_copy 39 = .ok (.arraylength, 1) := by decide +kernel
theorem dX1_copy_40 : decode cX1_copy 40 = .ok (.if_icmp .ge 30, 3) := by decide +kernel
theorem dX1_copy_43 : decode cX1_copy 43 = .ok (.iload_n 2, 1) := by decide +kernel
theorem dX1_copy_44 : decode cX1_copy 44 = .ok (.aload_n 1, 1) := by decide +kernel
theorem dX1_copy_45 : decode cX1_copy 45 = .ok (.getfield 24, 3) := by decide +kernel
theorem dX1_copy_48 : decode cX1_copy 48 = .ok (.arraylength, 1) := by decide +kernel
theorem dX1_copy_49 : decode cX1_copy 49 = .ok (.if_icmp .ge 21, 3) := by decide +kernel
theorem dX1_copy_52 : decode cX1_copy 52 = .ok (.aload_n 0, 1) := by decide +kernel
theorem dX1_copy_53 : decode cX1_copy 53 = .ok (.getfield 24, 3) := by decide +kernel
theorem dX1_copy_56 : decode cX1_copy 56 = .ok (.iload_n 2, 1) := by decide +kernel
theorem dX1_copy_57 : decode cX1_copy 57 = .ok (.aload_n 1, 1) := by decide +kernel
theorem dX1_copy_58 : decode cX1_copy 58 = .ok (.getfield 24, 3) := by decide +kernel
theorem dX1_copy_61 : decode cX1_copy 61 = .ok (.iload_n 2, 1) := by decide +kernel
theorem dX1_copy_62 : decode cX1_copy 62 = .ok (.iaload, 1) := by decide +kernel
theorem dX1_copy_63 : decode cX1_copy 63 = .ok (.iastore, 1) := by decide +kernel
theorem dX1_copy_64 : decode cX1_copy 64 = .ok (.iinc 2 1, 3) := by decide +kernel
theorem dX1_copy_67 : decode cX1_copy 67 = .ok (.goto (-33), 3) := by decide +kernel
theorem dX1_copy_70 : decode cX1_copy 70 = .ok (.return_, 1) := by decide +kernel
theorem dX1_isNonterminal_0 : decode cX1_isNonterminal 0 = .ok (.iload_n 1, 1) := by decide +kernel
theorem dX1_isNonterminal_1 : decode cX1_isNonterminal 1 = .ok (.ifCond .lt 21, 3) := by decide +kernel
theorem dX1_isNonterminal_4 : decode cX1_isNonterminal 4 = .ok (.iload_n 1, 1) := by decide +kernel
theorem dX1_isNonterminal_5 : decode cX1_isNonterminal 5 = .ok (.aload_n 0, 1) := by decide +kernel
theorem dX1_isNonterminal_6 : decode cX1_isNonterminal 6 = .ok (.getfield 9, 3) := by decide +kernel
theorem dX1_isNonterminal_9 : decode cX1_isNonterminal 9 = .ok (.if_icmp .ge 13, 3) := by decide +kernel
theorem dX1_isNonterminal_12 : decode cX1_isNonterminal 12 = .ok (.iload_n 1, 1) := by decide +kernel
theorem dX1_isNonterminal_13 : decode cX1_isNonterminal 13 = .ok (.bipush 6, 2) := by decide +kernel
theorem dX1_isNonterminal_15 : decode cX1_isNonterminal 15 = .ok (.if_icmp .ge 7, 3) := by decide +kernel
theorem dX1_isNonterminal_18 : decode cX1_isNonterminal 18 = .ok (.iconst 1, 1) := by decide +kernel
theorem dX1_isNonterminal_19 : decode cX1_isNonterminal 19 = .ok (.goto 4, 3) := by decide +kernel
theorem dX1_isNonterminal_22 : decode cX1_isNonterminal 22 = .ok (.iconst 0, 1) := by decide +kernel
theorem dX1_isNonterminal_23 : decode cX1_isNonterminal 23 = .ok (.ireturn, 1) := by decide +kernel
theorem dX1_isTerminal_0 : decode cX1_isTerminal 0 = .ok (.iload_n 1, 1) := by decide +kernel
theorem dX1_isTerminal_1 : decode cX1_isTerminal 1 = .ok (.ifCond .lt 15, 3) := by decide +kernel
theorem dX1_isTerminal_4 : decode cX1_isTerminal 4 = .ok (.iload_n 1, 1) := by decide +kernel
theorem dX1_isTerminal_5 : decode cX1_isTerminal 5 = .ok (.aload_n 0, 1) := by decide +kernel
theorem dX1_isTerminal_6 : decode cX1_isTerminal 6 = .ok (.getfield 15, 3) := by decide +kernel
theorem dX1_isTerminal_9 : decode cX1_isTerminal 9 = .ok (.if_icmp .ge 7, 3) := by decide +kernel
theorem dX1_isTerminal_12 : decode cX1_isTerminal 12 = .ok (.iconst 1, 1) := by decide +kernel
theorem dX1_isTerminal_13 : decode cX1_isTerminal 13 = .ok (.goto 4, 3) := by decide +kernel
theorem dX1_isTerminal_16 : decode cX1_isTerminal 16 = .ok (.iconst 0, 1) := by decide +kernel
theorem dX1_isTerminal_17 : decode cX1_isTerminal 17 = .ok (.ireturn, 1) := by decide +kernel
theorem dX1_isSymbol_0 : decode cX1_isSymbol 0 = .ok (.aload_n 0, 1) := by decide +kernel
theorem dX1_isSymbol_1 : decode cX1_isSymbol 1 = .ok (.iload_n 1, 1) := by decide +kernel
theorem dX1_isSymbol_2 : decode cX1_isSymbol 2 = .ok (.invokevirtual 35, 3) := by decide +kernel
theorem dX1_isSymbol_5 : decode cX1_isSymbol 5 = .ok (.ifCond .ne 20, 3) := by decide +kernel
theorem dX1_isSymbol_8 : decode cX1_isSymbol 8 = .ok (.iload_n 1, 1) := by decide +kernel
theorem dX1_isSymbol_9 : decode cX1_isSymbol 9 = .ok (.bipush 10, 2) := by decide +kernel
theorem dX1_isSymbol_11 : decode cX1_isSymbol 11 = .ok (.if_icmp .lt 18, 3) := by decide +kernel
theorem dX1_isSymbol_14 : decode cX1_isSymbol 14 = .ok (.aload_n 0, 1) := by decide +kernel
theorem dX1_isSymbol_15 : decode cX1_isSymbol 15 = .ok (.iload_n 1, 1) := by decide +kernel
theorem dX1_isSymbol_16 : decode cX1_isSymbol 16 = .ok (.bipush 10, 2) := by decide +kernel
theorem dX1_isSymbol_18 : decode cX1_isSymbol 18 = .ok (.isub, 1) := by decide +kernel
theorem dX1_isSymbol_19 : decode cX1_isSymbol 19 = .ok (.invokevirtual 39, 3) := by decide +kernel
theorem dX1_isSymbol_22 : decode cX1_isSymbol 22 = .ok (.ifCond .eq 7, 3) := by decide +kernel
theorem dX1_isSymbol_25 : decode cX1_isSymbol 25 = .ok (.iconst 1, 1) := by decide +kernel
theorem dX1_isSymbol_26 : decode cX1_isSymbol 26 = .ok (.goto 4, 3) := by decide +kernel
theorem dX1_isSymbol_29 : decode cX1_isSymbol 29 = .ok (.iconst 0, 1) := by decide +kernel
theorem dX1_isSymbol_30 : decode cX1_isSymbol 30 = .ok (.ireturn, 1) := by decide +kernel
theorem dX1_isRightSide_0 : decode cX1_isRightSide 0 = .ok (.aload_n 0, 1) := by decide +kernel
theorem dX1_isRightSide_1 : decode cX1_isRightSide 1 = .ok (.iload_n 1, 1) := by decide +kernel
theorem dX1_isRightSide_2 : decode cX1_isRightSide 2 = .ok (.invokevirtual 42, 3) := by decide +kernel
theorem dX1_isRightSide_5 : decode cX1_isRightSide 5 = .ok (.ifCond .ne 5, 3) := by decide +kernel
theorem dX1_isRightSide_8 : decode cX1_isRightSide 8 = .ok (.iconst 0, 1) := by decide +kernel
theorem dX1_isRightSide_9 : decode cX1_isRightSide 9 = .ok (.ireturn, 1) := by decide +kernel
theorem dX1_isRightSide_10 : decode cX1_isRightSide 10 = .ok (.iload_n 2, 1) := by decide +kernel
theorem dX1_isRightSide_11 : decode cX1_isRightSide 11 = .ok (.iconst (-1), 1) := by decide +kernel
theorem dX1_isRightSide_12 : decode cX1_isRightSide 12 = .ok (.if_icmp .ne 22, 3) := by decide +kernel
theorem dX1_isRightSide_15 : decode cX1_isRightSide 15 = .ok (.iload_n 3, 1) := by decide +kernel
theorem dX1_isRightSide_16 : decode cX1_isRightSide 16 = .ok (.iconst (-1), 1) := by decide +kernel
theorem dX1_isRightSide_17 : decode cX1_isRightSide 17 = .ok (.if_icmp .ne 15, 3) := by decide +kernel
theorem dX1_isRightSide_20 : decode cX1_isRightSide 20 = .ok (.aload_n 0, 1) := by decide +kernel
theorem dX1_isRightSide_21 : decode cX1_isRightSide 21 = .ok (.iload_n 1, 1) := by decide +kernel
theorem dX1_isRightSide_22 : decode cX1_isRightSide 22 = .ok (.invokevirtual 35, 3) := by decide +kernel
theorem dX1_isRightSide_25 : decode cX1_isRightSide 25 = .ok (.ifCond .ne 7, 3) := by decide +kernel
theorem dX1_isRightSide_28 : decode cX1_isRightSide 28 = .ok (.iconst 1, 1) := by decide +kernel
theorem dX1_isRightSide_29 : decode cX1_isRightSide 29 = .ok (.goto 4, 3) := by decide +kernel
theorem dX1_isRightSide_32 : decode cX1_isRightSide 32 = .ok (.iconst 0, 1) := by decide +kernel
theorem dX1_isRightSide_33 : decode cX1_isRightSide 33 = .ok (.ireturn, 1) := by decide +kernel
theorem dX1_isRightSide_34 : decode cX1_isRightSide 34 = .ok (.aload_n 0, 1) := by decide +kernel
theorem dX1_isRightSide_35 : decode cX1_isRightSide 35 = .ok (.iload_n 2, 1) := by decide +kernel
theorem dX1_isRightSide_36 : decode cX1_isRightSide 36 = .ok (.invokevirtual 42, 3) := by decide +kernel
theorem dX1_isRightSide_39 : decode cX1_isRightSide 39 = .ok (.ifCond .eq 20, 3) := by decide +kernel
theorem dX1_isRightSide_42 : decode cX1_isRightSide 42 = .ok (.iload_n 3, 1) := by decide +kernel
theorem dX1_isRightSide_43 : decode cX1_isRightSide 43 = .ok (.iconst (-1), 1) := by decide +kernel
theorem dX1_isRightSide_44 : decode cX1_isRightSide 44 = .ok (.if_icmp .eq 11, 3) := by decide +kernel
theorem dX1_isRightSide_47 : decode cX1_isRightSide 47 = .ok (.aload_n 0, 1) := by decide +kernel
theorem dX1_isRightSide_48 : decode cX1_isRightSide 48 = .ok (.iload_n 3, 1) := by decide +kernel
theorem dX1_isRightSide_49 : decode cX1_isRightSide 49 = .ok (.invokevirtual 42, 3) := by decide +kernel
theorem dX1_isRightSide_52 : decode cX1_isRightSide 52 = .ok (.ifCond .eq 7, 3) := by decide +kernel
theorem dX1_isRightSide_55 : decode cX1_isRightSide 55 = .ok (.iconst 1, 1) := by decide +kernel
theorem dX1_isRightSide_56 : decode cX1_isRightSide 56 = .ok (.goto 4, 3) := by decide +kernel
theorem dX1_isRightSide_59 : decode cX1_isRightSide 59 = .ok (.iconst 0, 1) := by decide +kernel
theorem dX1_isRightSide_60 : decode cX1_isRightSide 60 = .ok (.ireturn, 1) := by decide +kernel
theorem dX1_symbol_0 : decode cX1_symbol 0 = .ok (.iload_n 1, 1) := by decide +kernel
theorem dX1_symbol_1 : decode cX1_symbol 1 = .ok (.ifCond .lt 26, 3) := by decide +kernel
theorem dX1_symbol_4 : decode cX1_symbol 4 = .ok (.iload_n 1, 1) := by decide +kernel
theorem dX1_symbol_5 : decode cX1_symbol 5 = .ok (.aload_n 0, 1) := by decide +kernel
theorem dX1_symbol_6 : decode cX1_symbol 6 = .ok (.getfield 21, 3) := by decide +kernel
theorem dX1_symbol_9 : decode cX1_symbol 9 = .ok (.if_icmp .ge 18, 3) := by decide +kernel
theorem dX1_symbol_12 : decode cX1_symbol 12 = .ok (.iload_n 1, 1) := by decide +kernel
theorem dX1_symbol_13 : decode cX1_symbol 13 = .ok (.bipush 24, 2) := by decide +kernel
theorem dX1_symbol_15 : decode cX1_symbol 15 = .ok (.if_icmp .ge 12, 3) := by decide +kernel
theorem dX1_symbol_18 : decode cX1_symbol 18 = .ok (.iload_n 2, 1) := by decide +kernel
theorem dX1_symbol_19 : decode cX1_symbol 19 = .ok (.ifCond .lt 8, 3) := by decide +kernel
theorem dX1_symbol_22 : decode cX1_symbol 22 = .ok (.iload_n 2, 1) := by decide +kernel
theorem dX1_symbol_23 : decode cX1_symbol 23 = .ok (.iconst 3, 1) := by decide +kernel
theorem dX1_symbol_24 : decode cX1_symbol 24 = .ok (.if_icmp .le 5, 3) := by decide +kernel
theorem dX1_symbol_27 : decode cX1_symbol 27 = .ok (.iconst (-1), 1) := by decide +kernel
theorem dX1_symbol_28 : decode cX1_symbol 28 = .ok (.ireturn, 1) := by decide +kernel
theorem dX1_symbol_29 : decode cX1_symbol 29 = .ok (.aload_n 0, 1) := by decide +kernel
theorem dX1_symbol_30 : decode cX1_symbol 30 = .ok (.getfield 24, 3) := by decide +kernel
theorem dX1_symbol_33 : decode cX1_symbol 33 = .ok (.iload_n 1, 1) := by decide +kernel
theorem dX1_symbol_34 : decode cX1_symbol 34 = .ok (.iconst 4, 1) := by decide +kernel
theorem dX1_symbol_35 : decode cX1_symbol 35 = .ok (.imul, 1) := by decide +kernel
theorem dX1_symbol_36 : decode cX1_symbol 36 = .ok (.iload_n 2, 1) := by decide +kernel
theorem dX1_symbol_37 : decode cX1_symbol 37 = .ok (.iadd, 1) := by decide +kernel
theorem dX1_symbol_38 : decode cX1_symbol 38 = .ok (.iaload, 1) := by decide +kernel
theorem dX1_symbol_39 : decode cX1_symbol 39 = .ok (.ireturn, 1) := by decide +kernel
theorem dX1_holds_0 : decode cX1_holds 0 = .ok (.iconst 0, 1) := by decide +kernel
theorem dX1_holds_1 : decode cX1_holds 1 = .ok (.istore 5, 2) := by decide +kernel
theorem dX1_holds_3 : decode cX1_holds 3 = .ok (.iload 5, 2) := by decide +kernel
theorem dX1_holds_5 : decode cX1_holds 5 = .ok (.aload_n 0, 1) := by decide +kernel
theorem dX1_holds_6 : decode cX1_holds 6 = .ok (.getfield 21, 3) := by decide +kernel
theorem dX1_holds_9 : decode cX1_holds 9 = .ok (.if_icmp .ge 56, 3) := by decide +kernel
theorem dX1_holds_12 : decode cX1_holds 12 = .ok (.aload_n 0, 1) := by decide +kernel
theorem dX1_holds_13 : decode cX1_holds 13 = .ok (.iload 5, 2) := by decide +kernel
theorem dX1_holds_15 : decode cX1_holds 15 = .ok (.iconst 0, 1) := by decide +kernel
theorem dX1_holds_16 : decode cX1_holds 16 = .ok (.invokevirtual 45, 3) := by decide +kernel
theorem dX1_holds_19 : decode cX1_holds 19 = .ok (.iload_n 1, 1) := by decide +kernel
theorem dX1_holds_20 : decode cX1_holds 20 = .ok (.if_icmp .ne 39, 3) := by decide +kernel
theorem dX1_holds_23 : decode cX1_holds 23 = .ok (.aload_n 0, 1) := by decide +kernel
theorem dX1_holds_24 : decode cX1_holds 24 = .ok (.iload 5, 2) := by decide +kernel
theorem dX1_holds_26 : decode cX1_holds 26 = .ok (.iconst 1, 1) := by decide +kernel
theorem dX1_holds_27 : decode cX1_holds 27 = .ok (.invokevirtual 45, 3) := by decide +kernel
theorem dX1_holds_30 : decode cX1_holds 30 = .ok (.iload_n 2, 1) := by decide +kernel
theorem dX1_holds_31 : decode cX1_holds 31 = .ok (.if_icmp .ne 28, 3) := by decide +kernel
theorem dX1_holds_34 : decode cX1_holds 34 = .ok (.aload_n 0, 1) := by decide +kernel
theorem dX1_holds_35 : decode cX1_holds 35 = .ok (.iload 5, 2) := by decide +kernel
theorem dX1_holds_37 : decode cX1_holds 37 = .ok (.iconst 2, 1) := by decide +kernel
theorem dX1_holds_38 : decode cX1_holds 38 = .ok (.invokevirtual 45, 3) := by decide +kernel
theorem dX1_holds_41 : decode cX1_holds 41 = .ok (.iload_n 3, 1) := by decide +kernel
theorem dX1_holds_42 : decode cX1_holds 42 = .ok (.if_icmp .ne 17, 3) := by decide +kernel
theorem dX1_holds_45 : decode cX1_holds 45 = .ok (.aload_n 0, 1) := by decide +kernel
theorem dX1_holds_46 : decode cX1_holds 46 = .ok (.iload 5, 2) := by decide +kernel
theorem dX1_holds_48 : decode cX1_holds 48 = .ok (.iconst 3, 1) := by decide +kernel
theorem dX1_holds_49 : decode cX1_holds 49 = .ok (.invokevirtual 45, 3) := by decide +kernel
theorem dX1_holds_52 : decode cX1_holds 52 = .ok (.iload 4, 2) := by decide +kernel
theorem dX1_holds_54 : decode cX1_holds 54 = .ok (.if_icmp .ne 5, 3) := by decide +kernel
theorem dX1_holds_57 : decode cX1_holds 57 = .ok (.iconst 1, 1) := by decide +kernel
theorem dX1_holds_58 : decode cX1_holds 58 = .ok (.ireturn, 1) := by decide +kernel
theorem dX1_holds_59 : decode cX1_holds 59 = .ok (.iinc 5 1, 3) := by decide +kernel
theorem dX1_holds_62 : decode cX1_holds 62 = .ok (.goto (-59), 3) := by decide +kernel
theorem dX1_holds_65 : decode cX1_holds 65 = .ok (.iconst 0, 1) := by decide +kernel
theorem dX1_holds_66 : decode cX1_holds 66 = .ok (.ireturn, 1) := by decide +kernel
theorem dX1_add_0 : decode cX1_add 0 = .ok (.aload_n 0, 1) := by decide +kernel
theorem dX1_add_1 : decode cX1_add 1 = .ok (.getfield 21, 3) := by decide +kernel
theorem dX1_add_4 : decode cX1_add 4 = .ok (.ifCond .lt 12, 3) := by decide +kernel
theorem dX1_add_7 : decode cX1_add 7 = .ok (.aload_n 0, 1) := by decide +kernel
theorem dX1_add_8 : decode cX1_add 8 = .ok (.getfield 21, 3) := by decide +kernel
theorem dX1_add_11 : decode cX1_add 11 = .ok (.bipush 24, 2) := by decide +kernel
theorem dX1_add_13 : decode cX1_add 13 = .ok (.if_icmp .lt 4, 3) := by decide +kernel
theorem dX1_add_16 : decode cX1_add 16 = .ok (.return_, 1) := by decide +kernel
theorem dX1_add_17 : decode cX1_add 17 = .ok (.aload_n 0, 1) := by decide +kernel
theorem dX1_add_18 : decode cX1_add 18 = .ok (.getfield 21, 3) := by decide +kernel
theorem dX1_add_21 : decode cX1_add 21 = .ok (.iconst 4, 1) := by decide +kernel
theorem dX1_add_22 : decode cX1_add 22 = .ok (.imul, 1) := by decide +kernel
theorem dX1_add_23 : decode cX1_add 23 = .ok (.istore 5, 2) := by decide +kernel
theorem dX1_add_25 : decode cX1_add 25 = .ok (.aload_n 0, 1) := by decide +kernel
theorem dX1_add_26 : decode cX1_add 26 = .ok (.getfield 24, 3) := by decide +kernel
theorem dX1_add_29 : decode cX1_add 29 = .ok (.iload 5, 2) := by decide +kernel
theorem dX1_add_31 : decode cX1_add 31 = .ok (.iload_n 1, 1) := by decide +kernel
theorem dX1_add_32 : decode cX1_add 32 = .ok (.iastore, 1) := by decide +kernel
theorem dX1_add_33 : decode cX1_add 33 = .ok (.aload_n 0, 1) := by decide +kernel
theorem dX1_add_34 : decode cX1_add 34 = .ok (.getfield 24, 3) := by decide +kernel
theorem dX1_add_37 : decode cX1_add 37 = .ok (.iload 5, 2) := by decide +kernel
theorem dX1_add_39 : decode cX1_add 39 = .ok (.iconst 1, 1) := by decide +kernel
theorem dX1_add_40 : decode cX1_add 40 = .ok (.iadd, 1) := by decide +kernel
theorem dX1_add_41 : decode cX1_add 41 = .ok (.iload_n 2, 1) := by decide +kernel
theorem dX1_add_42 : decode cX1_add 42 = .ok (.iastore, 1) := by decide +kernel
theorem dX1_add_43 : decode cX1_add 43 = .ok (.aload_n 0, 1) := by decide +kernel
theorem dX1_add_44 : decode cX1_add 44 = .ok (.getfield 24, 3) := by decide +kernel
theorem dX1_add_47 : decode cX1_add 47 = .ok (.iload 5, 2) := by decide +kernel
theorem dX1_add_49 : decode cX1_add 49 = .ok (.iconst 2, 1) := by decide +kernel
theorem dX1_add_50 : decode cX1_add 50 = .ok (.iadd, 1) := by decide +kernel
theorem dX1_add_51 : decode cX1_add 51 = .ok (.iload_n 3, 1) := by decide +kernel
theorem dX1_add_52 : decode cX1_add 52 = .ok (.iastore, 1) := by decide +kernel
theorem dX1_add_53 : decode cX1_add 53 = .ok (.aload_n 0, 1) := by decide +kernel
theorem dX1_add_54 : decode cX1_add 54 = .ok (.getfield 24, 3) := by decide +kernel
theorem dX1_add_57 : decode cX1_add 57 = .ok (.iload 5, 2) := by decide +kernel
theorem dX1_add_59 : decode cX1_add 59 = .ok (.iconst 3, 1) := by decide +kernel
theorem dX1_add_60 : decode cX1_add 60 = .ok (.iadd, 1) := by decide +kernel
theorem dX1_add_61 : decode cX1_add 61 = .ok (.iload 4, 2) := by decide +kernel
theorem dX1_add_63 : decode cX1_add 63 = .ok (.iastore, 1) := by decide +kernel
theorem dX1_add_64 : decode cX1_add 64 = .ok (.aload_n 0, 1) := by decide +kernel
theorem dX1_add_65 : decode cX1_add 65 = .ok (.dup, 1) := by decide +kernel
theorem dX1_add_66 : decode cX1_add 66 = .ok (.getfield 21, 3) := by decide +kernel
theorem dX1_add_69 : decode cX1_add 69 = .ok (.iconst 1, 1) := by decide +kernel
theorem dX1_add_70 : decode cX1_add 70 = .ok (.iadd, 1) := by decide +kernel
theorem dX1_add_71 : decode cX1_add 71 = .ok (.putfield 21, 3) := by decide +kernel
theorem dX1_add_74 : decode cX1_add 74 = .ok (.return_, 1) := by decide +kernel
theorem dX1_remove_0 : decode cX1_remove 0 = .ok (.iload_n 1, 1) := by decide +kernel
theorem dX1_remove_1 : decode cX1_remove 1 = .ok (.ifCond .lt 20, 3) := by decide +kernel
theorem dX1_remove_4 : decode cX1_remove 4 = .ok (.iload_n 1, 1) := by decide +kernel
theorem dX1_remove_5 : decode cX1_remove 5 = .ok (.aload_n 0, 1) := by decide +kernel
theorem dX1_remove_6 : decode cX1_remove 6 = .ok (.getfield 21, 3) := by decide +kernel
theorem dX1_remove_9 : decode cX1_remove 9 = .ok (.if_icmp .ge 12, 3) := by decide +kernel
theorem dX1_remove_12 : decode cX1_remove 12 = .ok (.aload_n 0, 1) := by decide +kernel
theorem dX1_remove_13 : decode cX1_remove 13 = .ok (.getfield 21, 3) := by decide +kernel
theorem dX1_remove_16 : decode cX1_remove 16 = .ok (.bipush 24, 2) := by decide +kernel
theorem dX1_remove_18 : decode cX1_remove 18 = .ok (.if_icmp .le 4, 3) := by decide +kernel
theorem dX1_remove_21 : decode cX1_remove 21 = .ok (.return_, 1) := by decide +kernel
theorem dX1_remove_22 : decode cX1_remove 22 = .ok (.iconst 4, 1) := by decide +kernel
theorem dX1_remove_23 : decode cX1_remove 23 = .ok (.istore_n 2, 1) := by decide +kernel
theorem dX1_remove_24 : decode cX1_remove 24 = .ok (.iload_n 1, 1) := by decide +kernel
theorem dX1_remove_25 : decode cX1_remove 25 = .ok (.iload_n 2, 1) := by decide +kernel
theorem dX1_remove_26 : decode cX1_remove 26 = .ok (.imul, 1) := by decide +kernel
theorem dX1_remove_27 : decode cX1_remove 27 = .ok (.istore_n 3, 1) := by decide +kernel
theorem dX1_remove_28 : decode cX1_remove 28 = .ok (.iload_n 3, 1) := by decide +kernel
theorem dX1_remove_29 : decode cX1_remove 29 = .ok (.aload_n 0, 1) := by decide +kernel
theorem dX1_remove_30 : decode cX1_remove 30 = .ok (.getfield 21, 3) := by decide +kernel
theorem dX1_remove_33 : decode cX1_remove 33 = .ok (.iconst 1, 1) := by decide +kernel
theorem dX1_remove_34 : decode cX1_remove 34 = .ok (.isub, 1) := by decide +kernel
theorem dX1_remove_35 : decode cX1_remove 35 = .ok (.iload_n 2, 1) := by decide +kernel
theorem dX1_remove_36 : decode cX1_remove 36 = .ok (.imul, 1) := by decide +kernel
theorem dX1_remove_37 : decode cX1_remove 37 = .ok (.if_icmp .ge 23, 3) := by decide +kernel
theorem dX1_remove_40 : decode cX1_remove 40 = .ok (.aload_n 0, 1) := by decide +kernel
theorem dX1_remove_41 : decode cX1_remove 41 = .ok (.getfield 24, 3) := by decide +kernel
theorem dX1_remove_44 : decode cX1_remove 44 = .ok (.iload_n 3, 1) := by decide +kernel
theorem dX1_remove_45 : decode cX1_remove 45 = .ok (.aload_n 0, 1) := by decide +kernel
theorem dX1_remove_46 : decode cX1_remove 46 = .ok (.getfield 24, 3) := by decide +kernel
theorem dX1_remove_49 : decode cX1_remove 49 = .ok (.iload_n 3, 1) := by decide +kernel
theorem dX1_remove_50 : decode cX1_remove 50 = .ok (.iload_n 2, 1) := by decide +kernel
theorem dX1_remove_51 : decode cX1_remove 51 = .ok (.iadd, 1) := by decide +kernel
theorem dX1_remove_52 : decode cX1_remove 52 = .ok (.iaload, 1) := by decide +kernel
theorem dX1_remove_53 : decode cX1_remove 53 = .ok (.iastore, 1) := by decide +kernel
theorem dX1_remove_54 : decode cX1_remove 54 = .ok (.iinc 3 1, 3) := by decide +kernel
theorem dX1_remove_57 : decode cX1_remove 57 = .ok (.goto (-29), 3) := by decide +kernel
theorem dX1_remove_60 : decode cX1_remove 60 = .ok (.aload_n 0, 1) := by decide +kernel
theorem dX1_remove_61 : decode cX1_remove 61 = .ok (.dup, 1) := by decide +kernel
theorem dX1_remove_62 : decode cX1_remove 62 = .ok (.getfield 21, 3) := by decide +kernel
theorem dX1_remove_65 : decode cX1_remove 65 = .ok (.iconst 1, 1) := by decide +kernel
theorem dX1_remove_66 : decode cX1_remove 66 = .ok (.isub, 1) := by decide +kernel
theorem dX1_remove_67 : decode cX1_remove 67 = .ok (.putfield 21, 3) := by decide +kernel
theorem dX1_remove_70 : decode cX1_remove 70 = .ok (.return_, 1) := by decide +kernel
theorem dX1_measure_0 : decode cX1_measure 0 = .ok (.iconst 0, 1) := by decide +kernel
theorem dX1_measure_1 : decode cX1_measure 1 = .ok (.istore_n 1, 1) := by decide +kernel
theorem dX1_measure_2 : decode cX1_measure 2 = .ok (.iload_n 1, 1) := by decide +kernel
theorem dX1_measure_3 : decode cX1_measure 3 = .ok (.bipush 6, 2) := by decide +kernel
theorem dX1_measure_5 : decode cX1_measure 5 = .ok (.if_icmp .ge 16, 3) := by decide +kernel
theorem dX1_measure_8 : decode cX1_measure 8 = .ok (.aload_n 0, 1) := by decide +kernel
theorem dX1_measure_9 : decode cX1_measure 9 = .ok (.getfield 28, 3) := by decide +kernel
theorem dX1_measure_12 : decode cX1_measure 12 = .ok (.iload_n 1, 1) := by decide +kernel
theorem dX1_measure_13 : decode cX1_measure 13 = .ok (.iconst 0, 1) := by decide +kernel
theorem dX1_measure_14 : decode cX1_measure 14 = .ok (.iastore, 1) := by decide +kernel
theorem dX1_measure_15 : decode cX1_measure 15 = .ok (.iinc 1 1, 3) := by decide +kernel
theorem dX1_measure_18 : decode cX1_measure 18 = .ok (.goto (-16), 3) := by decide +kernel
theorem dX1_measure_21 : decode cX1_measure 21 = .ok (.iconst 0, 1) := by decide +kernel
theorem dX1_measure_22 : decode cX1_measure 22 = .ok (.istore_n 1, 1) := by decide +kernel
theorem dX1_measure_23 : decode cX1_measure 23 = .ok (.iload_n 1, 1) := by decide +kernel
theorem dX1_measure_24 : decode cX1_measure 24 = .ok (.aload_n 0, 1) := by decide +kernel
theorem dX1_measure_25 : decode cX1_measure 25 = .ok (.getfield 9, 3) := by decide +kernel
theorem dX1_measure_28 : decode cX1_measure 28 = .ok (.if_icmp .ge 40, 3) := by decide +kernel
theorem dX1_measure_31 : decode cX1_measure 31 = .ok (.iconst 0, 1) := by decide +kernel
theorem dX1_measure_32 : decode cX1_measure 32 = .ok (.istore_n 2, 1) := by decide +kernel
theorem dX1_measure_33 : decode cX1_measure 33 = .ok (.iload_n 2, 1) := by decide +kernel
theorem dX1_measure_34 : decode cX1_measure 34 = .ok (.aload_n 0, 1) := by decide +kernel
theorem dX1_measure_35 : decode cX1_measure 35 = .ok (.getfield 21, 3) := by decide +kernel
theorem dX1_measure_38 : decode cX1_measure 38 = .ok (.if_icmp .ge 24, 3) := by decide +kernel
theorem dX1_measure_41 : decode cX1_measure 41 = .ok (.aload_n 0, 1) := by decide +kernel
theorem dX1_measure_42 : decode cX1_measure 42 = .ok (.aload_n 0, 1) := by decide +kernel
theorem dX1_measure_43 : decode cX1_measure 43 = .ok (.iload_n 2, 1) := by decide +kernel
theorem dX1_measure_44 : decode cX1_measure 44 = .ok (.iconst 0, 1) := by decide +kernel
theorem dX1_measure_45 : decode cX1_measure 45 = .ok (.invokevirtual 45, 3) := by decide +kernel
theorem dX1_measure_48 : decode cX1_measure 48 = .ok (.aload_n 0, 1) := by decide +kernel
theorem dX1_measure_49 : decode cX1_measure 49 = .ok (.iload_n 2, 1) := by decide +kernel
theorem dX1_measure_50 : decode cX1_measure 50 = .ok (.invokevirtual 49, 3) := by decide +kernel
theorem dX1_measure_53 : decode cX1_measure 53 = .ok (.invokevirtual 53, 3) := by decide +kernel
theorem dX1_measure_56 : decode cX1_measure 56 = .ok (.iinc 2 1, 3) := by decide +kernel
theorem dX1_measure_59 : decode cX1_measure 59 = .ok (.goto (-26), 3) := by decide +kernel
theorem dX1_measure_62 : decode cX1_measure 62 = .ok (.iinc 1 1, 3) := by decide +kernel
theorem dX1_measure_65 : decode cX1_measure 65 = .ok (.goto (-42), 3) := by decide +kernel
theorem dX1_measure_68 : decode cX1_measure 68 = .ok (.return_, 1) := by decide +kernel
theorem dX1_shorten_0 : decode cX1_shorten 0 = .ok (.aload_n 0, 1) := by decide +kernel
theorem dX1_shorten_1 : decode cX1_shorten 1 = .ok (.iload_n 1, 1) := by decide +kernel
theorem dX1_shorten_2 : decode cX1_shorten 2 = .ok (.invokevirtual 35, 3) := by decide +kernel
theorem dX1_shorten_5 : decode cX1_shorten 5 = .ok (.ifCond .eq 8, 3) := by decide +kernel
theorem dX1_shorten_8 : decode cX1_shorten 8 = .ok (.iload_n 2, 1) := by decide +kernel
theorem dX1_shorten_9 : decode cX1_shorten 9 = .ok (.iconst 1, 1) := by decide +kernel
theorem dX1_shorten_10 : decode cX1_shorten 10 = .ok (.if_icmp .ge 4, 3) := by decide +kernel
theorem dX1_shorten_13 : decode cX1_shorten 13 = .ok (.return_, 1) := by decide +kernel
theorem dX1_shorten_14 : decode cX1_shorten 14 = .ok (.aload_n 0, 1) := by decide +kernel
theorem dX1_shorten_15 : decode cX1_shorten 15 = .ok (.getfield 28, 3) := by decide +kernel
theorem dX1_shorten_18 : decode cX1_shorten 18 = .ok (.iload_n 1, 1) := by decide +kernel
theorem dX1_shorten_19 : decode cX1_shorten 19 = .ok (.iaload, 1) := by decide +kernel
theorem dX1_shorten_20 : decode cX1_shorten 20 = .ok (.ifCond .eq 13, 3) := by decide +kernel
theorem dX1_shorten_23 : decode cX1_shorten 23 = .ok (.iload_n 2, 1) := by decide +kernel
theorem dX1_shorten_24 : decode cX1_shorten 24 = .ok (.aload_n 0, 1) := by decide +kernel
theorem dX1_shorten_25 : decode cX1_shorten 25 = .ok (.getfield 28, 3) := by decide +kernel
theorem dX1_shorten_28 : decode cX1_shorten 28 = .ok (.iload_n 1, 1) := by decide +kernel
theorem dX1_shorten_29 : decode cX1_shorten 29 = .ok (.iaload, 1) := by decide +kernel
theorem dX1_shorten_30 : decode cX1_shorten 30 = .ok (.if_icmp .ge 10, 3) := by decide +kernel
theorem dX1_shorten_33 : decode cX1_shorten 33 = .ok (.aload_n 0, 1) := by decide +kernel
theorem dX1_shorten_34 : decode cX1_shorten 34 = .ok (.getfield 28, 3) := by decide +kernel
theorem dX1_shorten_37 : decode cX1_shorten 37 = .ok (.iload_n 1, 1) := by decide +kernel
theorem dX1_shorten_38 : decode cX1_shorten 38 = .ok (.iload_n 2, 1) := by decide +kernel
theorem dX1_shorten_39 : decode cX1_shorten 39 = .ok (.iastore, 1) := by decide +kernel
theorem dX1_shorten_40 : decode cX1_shorten 40 = .ok (.return_, 1) := by decide +kernel
theorem dX1_shortestOf_0 : decode cX1_shortestOf 0 = .ok (.iconst 0, 1) := by decide +kernel
theorem dX1_shortestOf_1 : decode cX1_shortestOf 1 = .ok (.istore_n 2, 1) := by decide +kernel
theorem dX1_shortestOf_2 : decode cX1_shortestOf 2 = .ok (.iconst 1, 1) := by decide +kernel
theorem dX1_shortestOf_3 : decode cX1_shortestOf 3 = .ok (.istore_n 3, 1) := by decide +kernel
theorem dX1_shortestOf_4 : decode cX1_shortestOf 4 = .ok (.iload_n 3, 1) := by decide +kernel
theorem dX1_shortestOf_5 : decode cX1_shortestOf 5 = .ok (.iconst 3, 1) := by decide +kernel
theorem dX1_shortestOf_6 : decode cX1_shortestOf 6 = .ok (.if_icmp .gt 43, 3) := by decide +kernel
theorem dX1_shortestOf_9 : decode cX1_shortestOf 9 = .ok (.aload_n 0, 1) := by decide +kernel
theorem dX1_shortestOf_10 : decode cX1_shortestOf 10 = .ok (.iload_n 1, 1) := by decide +kernel
theorem dX1_shortestOf_11 : decode cX1_shortestOf 11 = .ok (.iload_n 3, 1) := by decide +kernel
theorem dX1_shortestOf_12 : decode cX1_shortestOf 12 = .ok (.invokevirtual 45, 3) := by decide +kernel
theorem dX1_shortestOf_15 : decode cX1_shortestOf 15 = .ok (.istore 4, 2) := by decide +kernel
theorem dX1_shortestOf_17 : decode cX1_shortestOf 17 = .ok (.iload 4, 2) := by decide +kernel
theorem dX1_shortestOf_19 : decode cX1_shortestOf 19 = .ok (.iconst (-1), 1) := by decide +kernel
theorem dX1_shortestOf_20 : decode cX1_shortestOf 20 = .ok (.if_icmp .eq 23, 3) := by decide +kernel
theorem dX1_shortestOf_23 : decode cX1_shortestOf 23 = .ok (.aload_n 0, 1) := by decide +kernel
theorem dX1_shortestOf_24 : decode cX1_shortestOf 24 = .ok (.iload 4, 2) := by decide +kernel
theorem dX1_shortestOf_26 : decode cX1_shortestOf 26 = .ok (.invokevirtual 57, 3) := by decide +kernel
theorem dX1_shortestOf_29 : decode cX1_shortestOf 29 = .ok (.istore 5, 2) := by decide +kernel
theorem dX1_shortestOf_31 : decode cX1_shortestOf 31 = .ok (.iload 5, 2) := by decide +kernel
theorem dX1_shortestOf_33 : decode cX1_shortestOf 33 = .ok (.ifCond .ne 5, 3) := by decide +kernel
theorem dX1_shortestOf_36 : decode cX1_shortestOf 36 = .ok (.iconst 0, 1) := by decide +kernel
theorem dX1_shortestOf_37 : decode cX1_shortestOf 37 = .ok (.ireturn, 1) := by decide +kernel
theorem dX1_shortestOf_38 : decode cX1_shortestOf 38 = .ok (.iload_n 2, 1) := by decide +kernel
theorem dX1_shortestOf_39 : decode cX1_shortestOf 39 = .ok (.iload 5, 2) := by decide +kernel
theorem dX1_shortestOf_41 : decode cX1_shortestOf 41 = .ok (.iadd, 1) := by decide +kernel
theorem dX1_shortestOf_42 : decode cX1_shortestOf 42 = .ok (.istore_n 2, 1) := by decide +kernel
theorem dX1_shortestOf_43 : decode cX1_shortestOf 43 = .ok (.iinc 3 1, 3) := by decide +kernel
theorem dX1_shortestOf_46 : decode cX1_shortestOf 46 = .ok (.goto (-42), 3) := by decide +kernel
theorem dX1_shortestOf_49 : decode cX1_shortestOf 49 = .ok (.iload_n 2, 1) := by decide +kernel
theorem dX1_shortestOf_50 : decode cX1_shortestOf 50 = .ok (.ireturn, 1) := by decide +kernel
theorem dX1_shortestPart_0 : decode cX1_shortestPart 0 = .ok (.aload_n 0, 1) := by decide +kernel
theorem dX1_shortestPart_1 : decode cX1_shortestPart 1 = .ok (.iload_n 1, 1) := by decide +kernel
theorem dX1_shortestPart_2 : decode cX1_shortestPart 2 = .ok (.invokevirtual 35, 3) := by decide +kernel
theorem dX1_shortestPart_5 : decode cX1_shortestPart 5 = .ok (.ifCond .eq 12, 3) := by decide +kernel
theorem dX1_shortestPart_8 : decode cX1_shortestPart 8 = .ok (.aload_n 0, 1) := by decide +kernel
theorem dX1_shortestPart_9 : decode cX1_shortestPart 9 = .ok (.getfield 28, 3) := by decide +kernel
theorem dX1_shortestPart_12 : decode cX1_shortestPart 12 = .ok (.iload_n 1, 1) := by decide +kernel
theorem dX1_shortestPart_13 : decode cX1_shortestPart 13 = .ok (.iaload, 1) := by decide +kernel
theorem dX1_shortestPart_14 : decode cX1_shortestPart 14 = .ok (.goto 4, 3) := by decide +kernel
theorem dX1_shortestPart_17 : decode cX1_shortestPart 17 = .ok (.iconst 1, 1) := by decide +kernel
theorem dX1_shortestPart_18 : decode cX1_shortestPart 18 = .ok (.ireturn, 1) := by decide +kernel
theorem dX1_removeUnused_0 : decode cX1_removeUnused 0 = .ok (.aload_n 0, 1) := by decide +kernel
theorem dX1_removeUnused_1 : decode cX1_removeUnused 1 = .ok (.invokevirtual 60, 3) := by decide +kernel
theorem dX1_removeUnused_4 : decode cX1_removeUnused 4 = .ok (.aload_n 0, 1) := by decide +kernel
theorem dX1_removeUnused_5 : decode cX1_removeUnused 5 = .ok (.invokevirtual 63, 3) := by decide +kernel
theorem dX1_removeUnused_8 : decode cX1_removeUnused 8 = .ok (.iconst 0, 1) := by decide +kernel
theorem dX1_removeUnused_9 : decode cX1_removeUnused 9 = .ok (.istore_n 1, 1) := by decide +kernel
theorem dX1_removeUnused_10 : decode cX1_removeUnused 10 = .ok (.aload_n 0, 1) := by decide +kernel
theorem dX1_removeUnused_11 : decode cX1_removeUnused 11 = .ok (.getfield 21, 3) := by decide +kernel
theorem dX1_removeUnused_14 : decode cX1_removeUnused 14 = .ok (.iconst 1, 1) := by decide +kernel
theorem dX1_removeUnused_15 : decode cX1_removeUnused 15 = .ok (.isub, 1) := by decide +kernel
theorem dX1_removeUnused_16 : decode cX1_removeUnused 16 = .ok (.istore_n 2, 1) := by decide +kernel
theorem dX1_removeUnused_17 : decode cX1_removeUnused 17 = .ok (.iload_n 2, 1) := by decide +kernel
theorem dX1_removeUnused_18 : decode cX1_removeUnused 18 = .ok (.ifCond .lt 25, 3) := by decide +kernel
theorem dX1_removeUnused_21 : decode cX1_removeUnused 21 = .ok (.aload_n 0, 1) := by decide +kernel
theorem dX1_removeUnused_22 : decode cX1_removeUnused 22 = .ok (.iload_n 2, 1) := by decide +kernel
theorem dX1_removeUnused_23 : decode cX1_removeUnused 23 = .ok (.invokevirtual 66, 3) := by decide +kernel
theorem dX1_removeUnused_26 : decode cX1_removeUnused 26 = .ok (.ifCond .ne 11, 3) := by decide +kernel
theorem dX1_removeUnused_29 : decode cX1_removeUnused 29 = .ok (.aload_n 0, 1) := by decide +kernel
theorem dX1_removeUnused_30 : decode cX1_removeUnused 30 = .ok (.iload_n 2, 1) := by decide +kernel
theorem dX1_removeUnused_31 : decode cX1_removeUnused 31 = .ok (.invokevirtual 69, 3) := by decide +kernel
theorem dX1_removeUnused_34 : decode cX1_removeUnused 34 = .ok (.iinc 1 1, 3) := by decide +kernel
theorem dX1_removeUnused_37 : decode cX1_removeUnused 37 = .ok (.iinc 2 (-1), 3) := by decide +kernel
theorem dX1_removeUnused_40 : decode cX1_removeUnused 40 = .ok (.goto (-23), 3) := by decide +kernel
theorem dX1_removeUnused_43 : decode cX1_removeUnused 43 = .ok (.iload_n 1, 1) := by decide +kernel
theorem dX1_removeUnused_44 : decode cX1_removeUnused 44 = .ok (.ireturn, 1) := by decide +kernel
theorem dX1_isUsed_0 : decode cX1_isUsed 0 = .ok (.aload_n 0, 1) := by decide +kernel
theorem dX1_isUsed_1 : decode cX1_isUsed 1 = .ok (.iload_n 1, 1) := by decide +kernel
theorem dX1_isUsed_2 : decode cX1_isUsed 2 = .ok (.iconst 0, 1) := by decide +kernel
theorem dX1_isUsed_3 : decode cX1_isUsed 3 = .ok (.invokevirtual 45, 3) := by decide +kernel
theorem dX1_isUsed_6 : decode cX1_isUsed 6 = .ok (.istore_n 2, 1) := by decide +kernel
theorem dX1_isUsed_7 : decode cX1_isUsed 7 = .ok (.aload_n 0, 1) := by decide +kernel
theorem dX1_isUsed_8 : decode cX1_isUsed 8 = .ok (.iload_n 2, 1) := by decide +kernel
theorem dX1_isUsed_9 : decode cX1_isUsed 9 = .ok (.invokevirtual 35, 3) := by decide +kernel
theorem dX1_isUsed_12 : decode cX1_isUsed 12 = .ok (.ifCond .eq 24, 3) := by decide +kernel
theorem dX1_isUsed_15 : decode cX1_isUsed 15 = .ok (.aload_n 0, 1) := by decide +kernel
theorem dX1_isUsed_16 : decode cX1_isUsed 16 = .ok (.getfield 31, 3) := by decide +kernel
theorem dX1_isUsed_19 : decode cX1_isUsed 19 = .ok (.iload_n 2, 1) := by decide +kernel
theorem dX1_isUsed_20 : decode cX1_isUsed 20 = .ok (.baload, 1) := by decide +kernel
theorem dX1_isUsed_21 : decode cX1_isUsed 21 = .ok (.ifCond .eq 15, 3) := by decide +kernel
theorem dX1_isUsed_24 : decode cX1_isUsed 24 = .ok (.aload_n 0, 1) := by decide +kernel
theorem dX1_isUsed_25 : decode cX1_isUsed 25 = .ok (.iload_n 1, 1) := by decide +kernel
theorem dX1_isUsed_26 : decode cX1_isUsed 26 = .ok (.invokevirtual 49, 3) := by decide +kernel
theorem dX1_isUsed_29 : decode cX1_isUsed 29 = .ok (.ifCond .le 7, 3) := by decide +kernel
theorem dX1_isUsed_32 : decode cX1_isUsed 32 = .ok (.iconst 1, 1) := by decide +kernel
theorem dX1_isUsed_33 : decode cX1_isUsed 33 = .ok (.goto 4, 3) := by decide +kernel
theorem dX1_isUsed_36 : decode cX1_isUsed 36 = .ok (.iconst 0, 1) := by decide +kernel
theorem dX1_isUsed_37 : decode cX1_isUsed 37 = .ok (.ireturn, 1) := by decide +kernel
theorem dX1_reach_0 : decode cX1_reach 0 = .ok (.iconst 0, 1) := by decide +kernel
theorem dX1_reach_1 : decode cX1_reach 1 = .ok (.istore_n 1, 1) := by decide +kernel
theorem dX1_reach_2 : decode cX1_reach 2 = .ok (.iload_n 1, 1) := by decide +kernel
theorem dX1_reach_3 : decode cX1_reach 3 = .ok (.bipush 6, 2) := by decide +kernel
theorem dX1_reach_5 : decode cX1_reach 5 = .ok (.if_icmp .ge 28, 3) := by decide +kernel
theorem dX1_reach_8 : decode cX1_reach 8 = .ok (.aload_n 0, 1) := by decide +kernel
theorem dX1_reach_9 : decode cX1_reach 9 = .ok (.getfield 31, 3) := by decide +kernel
theorem dX1_reach_12 : decode cX1_reach 12 = .ok (.iload_n 1, 1) := by decide +kernel
theorem dX1_reach_13 : decode cX1_reach 13 = .ok (.iload_n 1, 1) := by decide +kernel
theorem dX1_reach_14 : decode cX1_reach 14 = .ok (.aload_n 0, 1) := by decide +kernel
theorem dX1_reach_15 : decode cX1_reach 15 = .ok (.getfield 18, 3) := by decide +kernel
theorem dX1_reach_18 : decode cX1_reach 18 = .ok (.if_icmp .ne 7, 3) := by decide +kernel
theorem dX1_reach_21 : decode cX1_reach 21 = .ok (.iconst 1, 1) := by decide +kernel
theorem dX1_reach_22 : decode cX1_reach 22 = .ok (.goto 4, 3) := by decide +kernel
theorem dX1_reach_25 : decode cX1_reach 25 = .ok (.iconst 0, 1) := by decide +kernel
theorem dX1_reach_26 : decode cX1_reach 26 = .ok (.bastore, 1) := by decide +kernel
theorem dX1_reach_27 : decode cX1_reach 27 = .ok (.iinc 1 1, 3) := by decide +kernel
theorem dX1_reach_30 : decode cX1_reach 30 = .ok (.goto (-28), 3) := by decide +kernel
theorem dX1_reach_33 : decode cX1_reach 33 = .ok (.iconst 0, 1) := by decide +kernel
theorem dX1_reach_34 : decode cX1_reach 34 = .ok (.istore_n 1, 1) := by decide +kernel
theorem dX1_reach_35 : decode cX1_reach 35 = .ok (.iload_n 1, 1) := by decide +kernel
theorem dX1_reach_36 : decode cX1_reach 36 = .ok (.aload_n 0, 1) := by decide +kernel
theorem dX1_reach_37 : decode cX1_reach 37 = .ok (.getfield 9, 3) := by decide +kernel
theorem dX1_reach_40 : decode cX1_reach 40 = .ok (.if_icmp .ge 38, 3) := by decide +kernel
theorem dX1_reach_43 : decode cX1_reach 43 = .ok (.iconst 0, 1) := by decide +kernel
theorem dX1_reach_44 : decode cX1_reach 44 = .ok (.istore_n 2, 1) := by decide +kernel
theorem dX1_reach_45 : decode cX1_reach 45 = .ok (.iload_n 2, 1) := by decide +kernel
theorem dX1_reach_46 : decode cX1_reach 46 = .ok (.aload_n 0, 1) := by decide +kernel
theorem dX1_reach_47 : decode cX1_reach 47 = .ok (.getfield 21, 3) := by decide +kernel
theorem dX1_reach_50 : decode cX1_reach 50 = .ok (.if_icmp .ge 22, 3) := by decide +kernel
theorem dX1_reach_53 : decode cX1_reach 53 = .ok (.aload_n 0, 1) := by decide +kernel
theorem dX1_reach_54 : decode cX1_reach 54 = .ok (.iload_n 2, 1) := by decide +kernel
theorem dX1_reach_55 : decode cX1_reach 55 = .ok (.invokevirtual 66, 3) := by decide +kernel
theorem dX1_reach_58 : decode cX1_reach 58 = .ok (.ifCond .eq 8, 3) := by decide +kernel
theorem dX1_reach_61 : decode cX1_reach 61 = .ok (.aload_n 0, 1) := by decide +kernel
theorem dX1_reach_62 : decode cX1_reach 62 = .ok (.iload_n 2, 1) := by decide +kernel
theorem dX1_reach_63 : decode cX1_reach 63 = .ok (.invokevirtual 73, 3) := by decide +kernel
theorem dX1_reach_66 : decode cX1_reach 66 = .ok (.iinc 2 1, 3) := by decide +kernel
theorem dX1_reach_69 : decode cX1_reach 69 = .ok (.goto (-24), 3) := by decide +kernel
theorem dX1_reach_72 : decode cX1_reach 72 = .ok (.iinc 1 1, 3) := by decide +kernel
theorem dX1_reach_75 : decode cX1_reach 75 = .ok (.goto (-40), 3) := by decide +kernel
theorem dX1_reach_78 : decode cX1_reach 78 = .ok (.return_, 1) := by decide +kernel
theorem dX1_reachParts_0 : decode cX1_reachParts 0 = .ok (.iconst 1, 1) := by decide +kernel
theorem dX1_reachParts_1 : decode cX1_reachParts 1 = .ok (.istore_n 2, 1) := by decide +kernel
theorem dX1_reachParts_2 : decode cX1_reachParts 2 = .ok (.iload_n 2, 1) := by decide +kernel
theorem dX1_reachParts_3 : decode cX1_reachParts 3 = .ok (.iconst 3, 1) := by decide +kernel
theorem dX1_reachParts_4 : decode cX1_reachParts 4 = .ok (.if_icmp .gt 31, 3) := by decide +kernel
theorem dX1_reachParts_7 : decode cX1_reachParts 7 = .ok (.aload_n 0, 1) := by decide +kernel
theorem dX1_reachParts_8 : decode cX1_reachParts 8 = .ok (.iload_n 1, 1) := by decide +kernel
theorem dX1_reachParts_9 : decode cX1_reachParts 9 = .ok (.iload_n 2, 1) := by decide +kernel
theorem dX1_reachParts_10 : decode cX1_reachParts 10 = .ok (.invokevirtual 45, 3) := by decide +kernel
theorem dX1_reachParts_13 : decode cX1_reachParts 13 = .ok (.istore_n 3, 1) := by decide +kernel
theorem dX1_reachParts_14 : decode cX1_reachParts 14 = .ok (.aload_n 0, 1) := by decide +kernel
theorem dX1_reachParts_15 : decode cX1_reachParts 15 = .ok (.iload_n 3, 1) := by decide +kernel
theorem dX1_reachParts_16 : decode cX1_reachParts 16 = .ok (.invokevirtual 35, 3) := by decide +kernel
theorem dX1_reachParts_19 : decode cX1_reachParts 19 = .ok (.ifCond .eq 10, 3) := by decide +kernel
theorem dX1_reachParts_22 : decode cX1_reachParts 22 = .ok (.aload_n 0, 1) := by decide +kernel
theorem dX1_reachParts_23 : decode cX1_reachParts 23 = .ok (.getfield 31, 3) := by decide +kernel
theorem dX1_reachParts_26 : decode cX1_reachParts 26 = .ok (.iload_n 3, 1) := by decide +kernel
theorem dX1_reachParts_27 : decode cX1_reachParts 27 = .ok (.iconst 1, 1) := by decide +kernel
theorem dX1_reachParts_28 : decode cX1_reachParts 28 = .ok (.bastore, 1) := by decide +kernel
theorem dX1_reachParts_29 : decode cX1_reachParts 29 = .ok (.iinc 2 1, 3) := by decide +kernel
theorem dX1_reachParts_32 : decode cX1_reachParts 32 = .ok (.goto (-30), 3) := by decide +kernel
theorem dX1_reachParts_35 : decode cX1_reachParts 35 = .ok (.return_, 1) := by decide +kernel
theorem dX2_init_0 : decode cX2_init 0 = .ok (.aload_n 0, 1) := by decide +kernel
theorem dX2_init_1 : decode cX2_init 1 = .ok (.aload_n 1, 1) := by decide +kernel
theorem dX2_init_2 : decode cX2_init 2 = .ok (.bipush 10, 2) := by decide +kernel
theorem dX2_init_4 : decode cX2_init 4 = .ok (.invokespecial 3, 3) := by decide +kernel
theorem dX2_init_7 : decode cX2_init 7 = .ok (.return_, 1) := by decide +kernel
theorem dX2_pieces_0 : decode cX2_pieces 0 = .ok (.iconst 1, 1) := by decide +kernel
theorem dX2_pieces_1 : decode cX2_pieces 1 = .ok (.ireturn, 1) := by decide +kernel
theorem dX2_place_0 : decode cX2_place 0 = .ok (.iload_n 1, 1) := by decide +kernel
theorem dX2_place_1 : decode cX2_place 1 = .ok (.iconst 1, 1) := by decide +kernel
theorem dX2_place_2 : decode cX2_place 2 = .ok (.isub, 1) := by decide +kernel
theorem dX2_place_3 : decode cX2_place 3 = .ok (.ireturn, 1) := by decide +kernel
theorem dX2_part_0 : decode cX2_part 0 = .ok (.iconst 0, 1) := by decide +kernel
theorem dX2_part_1 : decode cX2_part 1 = .ok (.ireturn, 1) := by decide +kernel
theorem dX2_fits_0 : decode cX2_fits 0 = .ok (.iconst 1, 1) := by decide +kernel
theorem dX2_fits_1 : decode cX2_fits 1 = .ok (.ireturn, 1) := by decide +kernel
theorem dX3_init_0 : decode cX3_init 0 = .ok (.aload_n 0, 1) := by decide +kernel
theorem dX3_init_1 : decode cX3_init 1 = .ok (.invokespecial 3, 3) := by decide +kernel
theorem dX3_init_4 : decode cX3_init 4 = .ok (.aload_n 0, 1) := by decide +kernel
theorem dX3_init_5 : decode cX3_init 5 = .ok (.iconst 3, 1) := by decide +kernel
theorem dX3_init_6 : decode cX3_init 6 = .ok (.newarray .boolean, 2) := by decide +kernel
theorem dX3_init_8 : decode cX3_init 8 = .ok (.putfield 9, 3) := by decide +kernel
theorem dX3_init_11 : decode cX3_init 11 = .ok (.aload_n 0, 1) := by decide +kernel
theorem dX3_init_12 : decode cX3_init 12 = .ok (.iconst 3, 1) := by decide +kernel
theorem dX3_init_13 : decode cX3_init 13 = .ok (.newarray .boolean, 2) := by decide +kernel
theorem dX3_init_15 : decode cX3_init 15 = .ok (.putfield 15, 3) := by decide +kernel
theorem dX3_init_18 : decode cX3_init 18 = .ok (.aload_n 0, 1) := by decide +kernel
theorem dX3_init_19 : decode cX3_init 19 = .ok (.iconst 3, 1) := by decide +kernel
theorem dX3_init_20 : decode cX3_init 20 = .ok (.newarray .int, 2) := by decide +kernel
theorem dX3_init_22 : decode cX3_init 22 = .ok (.putfield 18, 3) := by decide +kernel
theorem dX3_init_25 : decode cX3_init 25 = .ok (.aload_n 0, 1) := by decide +kernel
theorem dX3_init_26 : decode cX3_init 26 = .ok (.bipush 120, 2) := by decide +kernel
theorem dX3_init_28 : decode cX3_init 28 = .ok (.newarray .int, 2) := by decide +kernel
theorem dX3_init_30 : decode cX3_init 30 = .ok (.putfield 22, 3) := by decide +kernel
theorem dX3_init_33 : decode cX3_init 33 = .ok (.return_, 1) := by decide +kernel
theorem dX3_begin_0 : decode cX3_begin 0 = .ok (.iload_n 1, 1) := by decide +kernel
theorem dX3_begin_1 : decode cX3_begin 1 = .ok (.ifCond .lt 8, 3) := by decide +kernel
theorem dX3_begin_4 : decode cX3_begin 4 = .ok (.iload_n 1, 1) := by decide +kernel
theorem dX3_begin_5 : decode cX3_begin 5 = .ok (.iconst 3, 1) := by decide +kernel
theorem dX3_begin_6 : decode cX3_begin 6 = .ok (.if_icmp .lt 4, 3) := by decide +kernel
theorem dX3_begin_9 : decode cX3_begin 9 = .ok (.return_, 1) := by decide +kernel
theorem dX3_begin_10 : decode cX3_begin 10 = .ok (.aload_n 0, 1) := by decide +kernel
theorem dX3_begin_11 : decode cX3_begin 11 = .ok (.getfield 9, 3) := by decide +kernel
theorem dX3_begin_14 : decode cX3_begin 14 = .ok (.iload_n 1, 1) := by decide +kernel
theorem dX3_begin_15 : decode cX3_begin 15 = .ok (.iconst 1, 1) := by decide +kernel
theorem dX3_begin_16 : decode cX3_begin 16 = .ok (.bastore, 1) := by decide +kernel
theorem dX3_begin_17 : decode cX3_begin 17 = .ok (.aload_n 0, 1) := by decide +kernel
theorem dX3_begin_18 : decode cX3_begin 18 = .ok (.getfield 15, 3) := by decide +kernel
theorem dX3_begin_21 : decode cX3_begin 21 = .ok (.iload_n 1, 1) := by decide +kernel
theorem dX3_begin_22 : decode cX3_begin 22 = .ok (.iload_n 2, 1) := by decide +kernel
theorem dX3_begin_23 : decode cX3_begin 23 = .ok (.bastore, 1) := by decide +kernel
theorem dX3_begin_24 : decode cX3_begin 24 = .ok (.aload_n 0, 1) := by decide +kernel
theorem dX3_begin_25 : decode cX3_begin 25 = .ok (.getfield 18, 3) := by decide +kernel
theorem dX3_begin_28 : decode cX3_begin 28 = .ok (.iload_n 1, 1) := by decide +kernel
theorem dX3_begin_29 : decode cX3_begin 29 = .ok (.iload_n 3, 1) := by decide +kernel
theorem dX3_begin_30 : decode cX3_begin 30 = .ok (.iastore, 1) := by decide +kernel
theorem dX3_begin_31 : decode cX3_begin 31 = .ok (.iconst 0, 1) := by decide +kernel
theorem dX3_begin_32 : decode cX3_begin 32 = .ok (.istore 4, 2) := by decide +kernel
theorem dX3_begin_34 : decode cX3_begin 34 = .ok (.iload 4, 2) := by decide +kernel
theorem dX3_begin_36 : decode cX3_begin 36 = .ok (.bipush 40, 2) := by decide +kernel
theorem dX3_begin_38 : decode cX3_begin 38 = .ok (.if_icmp .ge 22, 3) := by decide +kernel
theorem dX3_begin_41 : decode cX3_begin 41 = .ok (.aload_n 0, 1) := by decide +kernel
theorem dX3_begin_42 : decode cX3_begin 42 = .ok (.getfield 22, 3) := by decide +kernel
theorem dX3_begin_45 : decode cX3_begin 45 = .ok (.iload_n 1, 1) := by decide +kernel
theorem dX3_begin_46 : decode cX3_begin 46 = .ok (.bipush 40, 2) := by decide +kernel
theorem dX3_begin_48 : decode cX3_begin 48 = .ok (.imul, 1) := by decide +kernel
theorem dX3_begin_49 : decode cX3_begin 49 = .ok (.iload 4, 2) := by decide +kernel
theorem dX3_begin_51 : decode cX3_begin 51 = .ok (.iadd, 1) := by decide +kernel
theorem dX3_begin_52 : decode cX3_begin 52 = .ok (.iconst 0, 1) := by decide +kernel
theorem dX3_begin_53 : decode cX3_begin 53 = .ok (.iastore, 1) := by decide +kernel
theorem dX3_begin_54 : decode cX3_begin 54 = .ok (.iinc 4 1, 3) := by decide +kernel
theorem dX3_begin_57 : decode cX3_begin 57 = .ok (.goto (-23), 3) := by decide +kernel
theorem dX3_begin_60 : decode cX3_begin 60 = .ok (.return_, 1) := by decide +kernel
theorem dX3_isHeld_0 : decode cX3_isHeld 0 = .ok (.iload_n 1, 1) := by decide +kernel
theorem dX3_isHeld_1 : decode cX3_isHeld 1 = .ok (.ifCond .lt 21, 3) := by decide +kernel
theorem dX3_isHeld_4 : decode cX3_isHeld 4 = .ok (.iload_n 1, 1) := by decide +kernel
theorem dX3_isHeld_5 : decode cX3_isHeld 5 = .ok (.iconst 3, 1) := by decide +kernel
theorem dX3_isHeld_6 : decode cX3_isHeld 6 = .ok (.if_icmp .ge 16, 3) := by decide +kernel
theorem dX3_isHeld_9 : decode cX3_isHeld 9 = .ok (.aload_n 0, 1) := by decide +kernel
theorem dX3_isHeld_10 : decode cX3_isHeld 10 = .ok (.getfield 9, 3) := by decide +kernel
theorem dX3_isHeld_13 : decode cX3_isHeld 13 = .ok (.iload_n 1, 1) := by decide +kernel
theorem dX3_isHeld_14 : decode cX3_isHeld 14 = .ok (.baload, 1) := by decide +kernel
theorem dX3_isHeld_15 : decode cX3_isHeld 15 = .ok (.ifCond .eq 7, 3) := by decide +kernel
theorem dX3_isHeld_18 : decode cX3_isHeld 18 = .ok (.iconst 1, 1) := by decide +kernel
theorem dX3_isHeld_19 : decode cX3_isHeld 19 = .ok (.goto 4, 3) := by decide +kernel
theorem dX3_isHeld_22 : decode cX3_isHeld 22 = .ok (.iconst 0, 1) := by decide +kernel
theorem dX3_isHeld_23 : decode cX3_isHeld 23 = .ok (.ireturn, 1) := by decide +kernel
theorem dX3_length_0 : decode cX3_length 0 = .ok (.aload_n 0, 1) := by decide +kernel
theorem dX3_length_1 : decode cX3_length 1 = .ok (.iload_n 1, 1) := by decide +kernel
theorem dX3_length_2 : decode cX3_length 2 = .ok (.invokevirtual 25, 3) := by decide +kernel
theorem dX3_length_5 : decode cX3_length 5 = .ok (.ifCond .eq 12, 3) := by decide +kernel
theorem dX3_length_8 : decode cX3_length 8 = .ok (.aload_n 0, 1) := by decide +kernel
theorem dX3_length_9 : decode cX3_length 9 = .ok (.getfield 18, 3) := by decide +kernel
theorem dX3_length_12 : decode cX3_length 12 = .ok (.iload_n 1, 1) := by decide +kernel
theorem dX3_length_13 : decode cX3_length 13 = .ok (.iaload, 1) := by decide +kernel
theorem dX3_length_14 : decode cX3_length 14 = .ok (.goto 4, 3) := by decide +kernel
theorem dX3_length_17 : decode cX3_length 17 = .ok (.iconst 0, 1) := by decide +kernel
theorem dX3_length_18 : decode cX3_length 18 = .ok (.ireturn, 1) := by decide +kernel
theorem dX3_isElement_0 : decode cX3_isElement 0 = .ok (.aload_n 0, 1) := by decide +kernel
theorem dX3_isElement_1 : decode cX3_isElement 1 = .ok (.iload_n 1, 1) := by decide +kernel
theorem dX3_isElement_2 : decode cX3_isElement 2 = .ok (.invokevirtual 25, 3) := by decide +kernel
theorem dX3_isElement_5 : decode cX3_isElement 5 = .ok (.ifCond .eq 17, 3) := by decide +kernel
theorem dX3_isElement_8 : decode cX3_isElement 8 = .ok (.iload_n 2, 1) := by decide +kernel
theorem dX3_isElement_9 : decode cX3_isElement 9 = .ok (.ifCond .lt 13, 3) := by decide +kernel
theorem dX3_isElement_12 : decode cX3_isElement 12 = .ok (.iload_n 2, 1) := by decide +kernel
theorem dX3_isElement_13 : decode cX3_isElement 13 = .ok (.bipush 40, 2) := by decide +kernel
theorem dX3_isElement_15 : decode cX3_isElement 15 = .ok (.if_icmp .ge 7, 3) := by decide +kernel
theorem dX3_isElement_18 : decode cX3_isElement 18 = .ok (.iconst 1, 1) := by decide +kernel
theorem dX3_isElement_19 : decode cX3_isElement 19 = .ok (.goto 4, 3) := by decide +kernel
theorem dX3_isElement_22 : decode cX3_isElement 22 = .ok (.iconst 0, 1) := by decide +kernel
theorem dX3_isElement_23 : decode cX3_isElement 23 = .ok (.ireturn, 1) := by decide +kernel
theorem dX3_element_0 : decode cX3_element 0 = .ok (.aload_n 0, 1) := by decide +kernel
theorem dX3_element_1 : decode cX3_element 1 = .ok (.iload_n 1, 1) := by decide +kernel
theorem dX3_element_2 : decode cX3_element 2 = .ok (.iload_n 2, 1) := by decide +kernel
theorem dX3_element_3 : decode cX3_element 3 = .ok (.invokevirtual 29, 3) := by decide +kernel
theorem dX3_element_6 : decode cX3_element 6 = .ok (.ifCond .eq 17, 3) := by decide +kernel
theorem dX3_element_9 : decode cX3_element 9 = .ok (.aload_n 0, 1) := by decide +kernel
theorem dX3_element_10 : decode cX3_element 10 = .ok (.getfield 22, 3) := by decide +kernel
theorem dX3_element_13 : decode cX3_element 13 = .ok (.iload_n 1, 1) := by decide +kernel
theorem dX3_element_14 : decode cX3_element 14 = .ok (.bipush 40, 2) := by decide +kernel
theorem dX3_element_16 : decode cX3_element 16 = .ok (.imul, 1) := by decide +kernel
theorem dX3_element_17 : decode cX3_element 17 = .ok (.iload_n 2, 1) := by decide +kernel
theorem dX3_element_18 : decode cX3_element 18 = .ok (.iadd, 1) := by decide +kernel
theorem dX3_element_19 : decode cX3_element 19 = .ok (.iaload, 1) := by decide +kernel
theorem dX3_element_20 : decode cX3_element 20 = .ok (.goto 4, 3) := by decide +kernel
theorem dX3_element_23 : decode cX3_element 23 = .ok (.iconst 0, 1) := by decide +kernel
theorem dX3_element_24 : decode cX3_element 24 = .ok (.ireturn, 1) := by decide +kernel
theorem dX3_put_0 : decode cX3_put 0 = .ok (.aload_n 0, 1) := by decide +kernel
theorem dX3_put_1 : decode cX3_put 1 = .ok (.iload_n 1, 1) := by decide +kernel
theorem dX3_put_2 : decode cX3_put 2 = .ok (.iload_n 2, 1) := by decide +kernel
theorem dX3_put_3 : decode cX3_put 3 = .ok (.invokevirtual 29, 3) := by decide +kernel
theorem dX3_put_6 : decode cX3_put 6 = .ok (.ifCond .eq 29, 3) := by decide +kernel
theorem dX3_put_9 : decode cX3_put 9 = .ok (.aload_n 0, 1) := by decide +kernel
theorem dX3_put_10 : decode cX3_put 10 = .ok (.getfield 22, 3) := by decide +kernel
theorem dX3_put_13 : decode cX3_put 13 = .ok (.iload_n 1, 1) := by decide +kernel
theorem dX3_put_14 : decode cX3_put 14 = .ok (.bipush 40, 2) := by decide +kernel
theorem dX3_put_16 : decode cX3_put 16 = .ok (.imul, 1) := by decide +kernel
theorem dX3_put_17 : decode cX3_put 17 = .ok (.iload_n 2, 1) := by decide +kernel
theorem dX3_put_18 : decode cX3_put 18 = .ok (.iadd, 1) := by decide +kernel
theorem dX3_put_19 : decode cX3_put 19 = .ok (.aload_n 0, 1) := by decide +kernel
theorem dX3_put_20 : decode cX3_put 20 = .ok (.getfield 15, 3) := by decide +kernel
theorem dX3_put_23 : decode cX3_put 23 = .ok (.iload_n 1, 1) := by decide +kernel
theorem dX3_put_24 : decode cX3_put 24 = .ok (.baload, 1) := by decide +kernel
theorem dX3_put_25 : decode cX3_put 25 = .ok (.ifCond .eq 7, 3) := by decide +kernel
theorem dX3_put_28 : decode cX3_put 28 = .ok (.iload_n 3, 1) := by decide +kernel
theorem dX3_put_29 : decode cX3_put 29 = .ok (.goto 5, 3) := by decide +kernel
theorem dX3_put_32 : decode cX3_put 32 = .ok (.iload_n 3, 1) := by decide +kernel
theorem dX3_put_33 : decode cX3_put 33 = .ok (.i2s, 1) := by decide +kernel
theorem dX3_put_34 : decode cX3_put 34 = .ok (.iastore, 1) := by decide +kernel
theorem dX3_put_35 : decode cX3_put 35 = .ok (.return_, 1) := by decide +kernel
theorem dX4_init_0 : decode cX4_init 0 = .ok (.aload_n 0, 1) := by decide +kernel
theorem dX4_init_1 : decode cX4_init 1 = .ok (.aload_n 1, 1) := by decide +kernel
theorem dX4_init_2 : decode cX4_init 2 = .ok (.bipush 64, 2) := by decide +kernel
theorem dX4_init_4 : decode cX4_init 4 = .ok (.invokespecial 3, 3) := by decide +kernel
theorem dX4_init_7 : decode cX4_init 7 = .ok (.aload_n 0, 1) := by decide +kernel
theorem dX4_init_8 : decode cX4_init 8 = .ok (.aload_n 2, 1) := by decide +kernel
theorem dX4_init_9 : decode cX4_init 9 = .ok (.putfield 9, 3) := by decide +kernel
theorem dX4_init_12 : decode cX4_init 12 = .ok (.return_, 1) := by decide +kernel
theorem dX4_pieces_0 : decode cX4_pieces 0 = .ok (.aload_n 0, 1) := by decide +kernel
theorem dX4_pieces_1 : decode cX4_pieces 1 = .ok (.getfield 9, 3) := by decide +kernel
theorem dX4_pieces_4 : decode cX4_pieces 4 = .ok (.getfield 15, 3) := by decide +kernel
theorem dX4_pieces_7 : decode cX4_pieces 7 = .ok (.iload_n 1, 1) := by decide +kernel
theorem dX4_pieces_8 : decode cX4_pieces 8 = .ok (.isub, 1) := by decide +kernel
theorem dX4_pieces_9 : decode cX4_pieces 9 = .ok (.iconst 1, 1) := by decide +kernel
theorem dX4_pieces_10 : decode cX4_pieces 10 = .ok (.iadd, 1) := by decide +kernel
theorem dX4_pieces_11 : decode cX4_pieces 11 = .ok (.ireturn, 1) := by decide +kernel
theorem dX4_place_0 : decode cX4_place 0 = .ok (.iload_n 1, 1) := by decide +kernel
theorem dX4_place_1 : decode cX4_place 1 = .ok (.iconst 1, 1) := by decide +kernel
theorem dX4_place_2 : decode cX4_place 2 = .ok (.isub, 1) := by decide +kernel
theorem dX4_place_3 : decode cX4_place 3 = .ok (.bipush 8, 2) := by decide +kernel
theorem dX4_place_5 : decode cX4_place 5 = .ok (.imul, 1) := by decide +kernel
theorem dX4_place_6 : decode cX4_place 6 = .ok (.iload_n 2, 1) := by decide +kernel
theorem dX4_place_7 : decode cX4_place 7 = .ok (.iadd, 1) := by decide +kernel
theorem dX4_place_8 : decode cX4_place 8 = .ok (.ireturn, 1) := by decide +kernel
theorem dX4_part_0 : decode cX4_part 0 = .ok (.iload_n 1, 1) := by decide +kernel
theorem dX4_part_1 : decode cX4_part 1 = .ok (.iload_n 2, 1) := by decide +kernel
theorem dX4_part_2 : decode cX4_part 2 = .ok (.iadd, 1) := by decide +kernel
theorem dX4_part_3 : decode cX4_part 3 = .ok (.ireturn, 1) := by decide +kernel
theorem dX4_fits_0 : decode cX4_fits 0 = .ok (.iload_n 1, 1) := by decide +kernel
theorem dX4_fits_1 : decode cX4_fits 1 = .ok (.ifCond .lt 26, 3) := by decide +kernel
theorem dX4_fits_4 : decode cX4_fits 4 = .ok (.iload_n 1, 1) := by decide +kernel
theorem dX4_fits_5 : decode cX4_fits 5 = .ok (.bipush 8, 2) := by decide +kernel
theorem dX4_fits_7 : decode cX4_fits 7 = .ok (.if_icmp .ge 20, 3) := by decide +kernel
theorem dX4_fits_10 : decode cX4_fits 10 = .ok (.aload_n 0, 1) := by decide +kernel
theorem dX4_fits_11 : decode cX4_fits 11 = .ok (.getfield 9, 3) := by decide +kernel
theorem dX4_fits_14 : decode cX4_fits 14 = .ok (.getfield 21, 3) := by decide +kernel
theorem dX4_fits_17 : decode cX4_fits 17 = .ok (.iload_n 1, 1) := by decide +kernel
theorem dX4_fits_18 : decode cX4_fits 18 = .ok (.iaload, 1) := by decide +kernel
theorem dX4_fits_19 : decode cX4_fits 19 = .ok (.iload_n 2, 1) := by decide +kernel
theorem dX4_fits_20 : decode cX4_fits 20 = .ok (.if_icmp .ne 7, 3) := by decide +kernel
theorem dX4_fits_23 : decode cX4_fits 23 = .ok (.iconst 1, 1) := by decide +kernel
theorem dX4_fits_24 : decode cX4_fits 24 = .ok (.goto 4, 3) := by decide +kernel
theorem dX4_fits_27 : decode cX4_fits 27 = .ok (.iconst 0, 1) := by decide +kernel
theorem dX4_fits_28 : decode cX4_fits 28 = .ok (.ireturn, 1) := by decide +kernel
theorem dX5_init_0 : decode cX5_init 0 = .ok (.aload_n 0, 1) := by decide +kernel
theorem dX5_init_1 : decode cX5_init 1 = .ok (.invokespecial 3, 3) := by decide +kernel
theorem dX5_init_4 : decode cX5_init 4 = .ok (.aload_n 0, 1) := by decide +kernel
theorem dX5_init_5 : decode cX5_init 5 = .ok (.aload_n 1, 1) := by decide +kernel
theorem dX5_init_6 : decode cX5_init 6 = .ok (.putfield 9, 3) := by decide +kernel
theorem dX5_init_9 : decode cX5_init 9 = .ok (.aload_n 0, 1) := by decide +kernel
theorem dX5_init_10 : decode cX5_init 10 = .ok (.iconst 0, 1) := by decide +kernel
theorem dX5_init_11 : decode cX5_init 11 = .ok (.putfield 15, 3) := by decide +kernel
theorem dX5_init_14 : decode cX5_init 14 = .ok (.aload_n 0, 1) := by decide +kernel
theorem dX5_init_15 : decode cX5_init 15 = .ok (.lconst 0, 1) := by decide +kernel
theorem dX5_init_16 : decode cX5_init 16 = .ok (.putfield 19, 3) := by decide +kernel
theorem dX5_init_19 : decode cX5_init 19 = .ok (.aload_n 0, 1) := by decide +kernel
theorem dX5_init_20 : decode cX5_init 20 = .ok (.iconst 0, 1) := by decide +kernel
theorem dX5_init_21 : decode cX5_init 21 = .ok (.putfield 23, 3) := by decide +kernel
theorem dX5_init_24 : decode cX5_init 24 = .ok (.aload_n 0, 1) := by decide +kernel
theorem dX5_init_25 : decode cX5_init 25 = .ok (.bipush 15, 2) := by decide +kernel
theorem dX5_init_27 : decode cX5_init 27 = .ok (.newarray .int, 2) := by decide +kernel
theorem dX5_init_29 : decode cX5_init 29 = .ok (.putfield 27, 3) := by decide +kernel
theorem dX5_init_32 : decode cX5_init 32 = .ok (.aload_n 0, 1) := by decide +kernel
theorem dX5_init_33 : decode cX5_init 33 = .ok (.bipush 15, 2) := by decide +kernel
theorem dX5_init_35 : decode cX5_init 35 = .ok (.newarray .int, 2) := by decide +kernel
theorem dX5_init_37 : decode cX5_init 37 = .ok (.putfield 31, 3) := by decide +kernel
theorem dX5_init_40 : decode cX5_init 40 = .ok (.aload_n 0, 1) := by decide +kernel
theorem dX5_init_41 : decode cX5_init 41 = .ok (.bipush 15, 2) := by decide +kernel
theorem dX5_init_43 : decode cX5_init 43 = .ok (.newarray .int, 2) := by decide +kernel
theorem dX5_init_45 : decode cX5_init 45 = .ok (.putfield 34, 3) := by decide +kernel
theorem dX5_init_48 : decode cX5_init 48 = .ok (.aload_n 0, 1) := by decide +kernel
theorem dX5_init_49 : decode cX5_init 49 = .ok (.bipush 15, 2) := by decide +kernel
theorem dX5_init_51 : decode cX5_init 51 = .ok (.newarray .int, 2) := by decide +kernel
theorem dX5_init_53 : decode cX5_init 53 = .ok (.putfield 37, 3) := by decide +kernel
theorem dX5_init_56 : decode cX5_init 56 = .ok (.aload_n 0, 1) := by decide +kernel
theorem dX5_init_57 : decode cX5_init 57 = .ok (.bipush 15, 2) := by decide +kernel
theorem dX5_init_59 : decode cX5_init 59 = .ok (.newarray .int, 2) := by decide +kernel
theorem dX5_init_61 : decode cX5_init 61 = .ok (.putfield 40, 3) := by decide +kernel
theorem dX5_init_64 : decode cX5_init 64 = .ok (.aload_n 0, 1) := by decide +kernel
theorem dX5_init_65 : decode cX5_init 65 = .ok (.bipush 15, 2) := by decide +kernel
theorem dX5_init_67 : decode cX5_init 67 = .ok (.newarray .int, 2) := by decide +kernel
theorem dX5_init_69 : decode cX5_init 69 = .ok (.putfield 43, 3) := by decide +kernel
theorem dX5_init_72 : decode cX5_init 72 = .ok (.aload_n 0, 1) := by decide +kernel
theorem dX5_init_73 : decode cX5_init 73 = .ok (.bipush 15, 2) := by decide +kernel
theorem dX5_init_75 : decode cX5_init 75 = .ok (.newarray .long, 2) := by decide +kernel
theorem dX5_init_77 : decode cX5_init 77 = .ok (.putfield 46, 3) := by decide +kernel
theorem dX5_init_80 : decode cX5_init 80 = .ok (.return_, 1) := by decide +kernel
theorem dX5_grow_0 : decode cX5_grow 0 = .ok (.aload_n 0, 1) := by decide +kernel
theorem dX5_grow_1 : decode cX5_grow 1 = .ok (.getfield 23, 3) := by decide +kernel
theorem dX5_grow_4 : decode cX5_grow 4 = .ok (.istore 8, 2) := by decide +kernel
theorem dX5_grow_6 : decode cX5_grow 6 = .ok (.aload_n 0, 1) := by decide +kernel
theorem dX5_grow_7 : decode cX5_grow 7 = .ok (.getfield 9, 3) := by decide +kernel
theorem dX5_grow_10 : decode cX5_grow 10 = .ok (.iload_n 2, 1) := by decide +kernel
theorem dX5_grow_11 : decode cX5_grow 11 = .ok (.invokevirtual 50, 3) := by decide +kernel
theorem dX5_grow_14 : decode cX5_grow 14 = .ok (.ifCond .eq 21, 3) := by decide +kernel
theorem dX5_grow_17 : decode cX5_grow 17 = .ok (.iload 5, 2) := by decide +kernel
theorem dX5_grow_19 : decode cX5_grow 19 = .ok (.iconst 1, 1) := by decide +kernel
theorem dX5_grow_20 : decode cX5_grow 20 = .ok (.if_icmp .lt 15, 3) := by decide +kernel
theorem dX5_grow_23 : decode cX5_grow 23 = .ok (.iload 8, 2) := by decide +kernel
theorem dX5_grow_25 : decode cX5_grow 25 = .ok (.ifCond .lt 10, 3) := by decide +kernel
theorem dX5_grow_28 : decode cX5_grow 28 = .ok (.iload 8, 2) := by decide +kernel
theorem dX5_grow_30 : decode cX5_grow 30 = .ok (.bipush 15, 2) := by decide +kernel
theorem dX5_grow_32 : decode cX5_grow 32 = .ok (.if_icmp .lt 4, 3) := by decide +kernel
theorem dX5_grow_35 : decode cX5_grow 35 = .ok (.return_, 1) := by decide +kernel
theorem dX5_grow_36 : decode cX5_grow 36 = .ok (.aload_n 0, 1) := by decide +kernel
theorem dX5_grow_37 : decode cX5_grow 37 = .ok (.dup, 1) := by decide +kernel
theorem dX5_grow_38 : decode cX5_grow 38 = .ok (.getfield 23, 3) := by decide +kernel
theorem dX5_grow_41 : decode cX5_grow 41 = .ok (.iconst 1, 1) := by decide +kernel
theorem dX5_grow_42 : decode cX5_grow 42 = .ok (.iadd, 1) := by decide +kernel
theorem dX5_grow_43 : decode cX5_grow 43 = .ok (.putfield 23, 3) := by decide +kernel
theorem dX5_grow_46 : decode cX5_grow 46 = .ok (.aload_n 0, 1) := by decide +kernel
theorem dX5_grow_47 : decode cX5_grow 47 = .ok (.getfield 31, 3) := by decide +kernel
theorem dX5_grow_50 : decode cX5_grow 50 = .ok (.iload 8, 2) := by decide +kernel
theorem dX5_grow_52 : decode cX5_grow 52 = .ok (.iload 4, 2) := by decide +kernel
theorem dX5_grow_54 : decode cX5_grow 54 = .ok (.iastore, 1) := by decide +kernel
theorem dX5_grow_55 : decode cX5_grow 55 = .ok (.aload_n 0, 1) := by decide +kernel
theorem dX5_grow_56 : decode cX5_grow 56 = .ok (.getfield 34, 3) := by decide +kernel
theorem dX5_grow_59 : decode cX5_grow 59 = .ok (.iload 8, 2) := by decide +kernel
theorem dX5_grow_61 : decode cX5_grow 61 = .ok (.iload 5, 2) := by decide +kernel
theorem dX5_grow_63 : decode cX5_grow 63 = .ok (.iastore, 1) := by decide +kernel
theorem dX5_grow_64 : decode cX5_grow 64 = .ok (.aload_n 0, 1) := by decide +kernel
theorem dX5_grow_65 : decode cX5_grow 65 = .ok (.aload_n 1, 1) := by decide +kernel
theorem dX5_grow_66 : decode cX5_grow 66 = .ok (.iload_n 2, 1) := by decide +kernel
theorem dX5_grow_67 : decode cX5_grow 67 = .ok (.iload_n 3, 1) := by decide +kernel
theorem dX5_grow_68 : decode cX5_grow 68 = .ok (.iload 8, 2) := by decide +kernel
theorem dX5_grow_70 : decode cX5_grow 70 = .ok (.lload 6, 2) := by decide +kernel
theorem dX5_grow_72 : decode cX5_grow 72 = .ok (.invokevirtual 56, 3) := by decide +kernel
theorem dX5_grow_75 : decode cX5_grow 75 = .ok (.lstore 9, 2) := by decide +kernel
theorem dX5_grow_77 : decode cX5_grow 77 = .ok (.aload_n 0, 1) := by decide +kernel
theorem dX5_grow_78 : decode cX5_grow 78 = .ok (.getfield 27, 3) := by decide +kernel
theorem dX5_grow_81 : decode cX5_grow 81 = .ok (.iload 8, 2) := by decide +kernel
theorem dX5_grow_83 : decode cX5_grow 83 = .ok (.iaload, 1) := by decide +kernel
theorem dX5_grow_84 : decode cX5_grow 84 = .ok (.istore 11, 2) := by decide +kernel
theorem dX5_grow_86 : decode cX5_grow 86 = .ok (.aload_n 0, 1) := by decide +kernel
theorem dX5_grow_87 : decode cX5_grow 87 = .ok (.getfield 37, 3) := by decide +kernel
theorem dX5_grow_90 : decode cX5_grow 90 = .ok (.iload 8, 2) := by decide +kernel
theorem dX5_grow_92 : decode cX5_grow 92 = .ok (.iaload, 1) := by decide +kernel
theorem dX5_grow_93 : decode cX5_grow 93 = .ok (.istore 12, 2) := by decide +kernel
theorem dX5_grow_95 : decode cX5_grow 95 = .ok (.aload_n 0, 1) := by decide +kernel
theorem dX5_grow_96 : decode cX5_grow 96 = .ok (.getfield 40, 3) := by decide +kernel
theorem dX5_grow_99 : decode cX5_grow 99 = .ok (.iload 8, 2) := by decide +kernel
theorem dX5_grow_101 : decode cX5_grow 101 = .ok (.iaload, 1) := by decide +kernel
theorem dX5_grow_102 : decode cX5_grow 102 = .ok (.istore 13, 2) := by decide +kernel
theorem dX5_grow_104 : decode cX5_grow 104 = .ok (.iload 5, 2) := by decide +kernel
theorem dX5_grow_106 : decode cX5_grow 106 = .ok (.iload 12, 2) := by decide +kernel
theorem dX5_grow_108 : decode cX5_grow 108 = .ok (.isub, 1) := by decide +kernel
theorem dX5_grow_109 : decode cX5_grow 109 = .ok (.iload 13, 2) := by decide +kernel
theorem dX5_grow_111 : decode cX5_grow 111 = .ok (.isub, 1) := by decide +kernel
theorem dX5_grow_112 : decode cX5_grow 112 = .ok (.istore 14, 2) := by decide +kernel
theorem dX5_grow_114 : decode cX5_grow 114 = .ok (.aload_n 1, 1) := by decide +kernel
theorem dX5_grow_115 : decode cX5_grow 115 = .ok (.iload_n 3, 1) := by decide +kernel
theorem dX5_grow_116 : decode cX5_grow 116 = .ok (.iload 12, 2) := by decide +kernel
theorem dX5_grow_118 : decode cX5_grow 118 = .ok (.invokevirtual 60, 3) := by decide +kernel
theorem dX5_grow_121 : decode cX5_grow 121 = .ok (.istore 15, 2) := by decide +kernel
theorem dX5_grow_123 : decode cX5_grow 123 = .ok (.aload_n 1, 1) := by decide +kernel
theorem dX5_grow_124 : decode cX5_grow 124 = .ok (.iload_n 3, 1) := by decide +kernel
theorem dX5_grow_125 : decode cX5_grow 125 = .ok (.iload 12, 2) := by decide +kernel
theorem dX5_grow_127 : decode cX5_grow 127 = .ok (.iload 13, 2) := by decide +kernel
theorem dX5_grow_129 : decode cX5_grow 129 = .ok (.iadd, 1) := by decide +kernel
theorem dX5_grow_130 : decode cX5_grow 130 = .ok (.invokevirtual 60, 3) := by decide +kernel
theorem dX5_grow_133 : decode cX5_grow 133 = .ok (.istore 16, 2) := by decide +kernel
theorem dX5_grow_135 : decode cX5_grow 135 = .ok (.aload_n 0, 1) := by decide +kernel
theorem dX5_grow_136 : decode cX5_grow 136 = .ok (.getfield 9, 3) := by decide +kernel
theorem dX5_grow_139 : decode cX5_grow 139 = .ok (.iload 11, 2) := by decide +kernel
theorem dX5_grow_141 : decode cX5_grow 141 = .ok (.iconst 2, 1) := by decide +kernel
theorem dX5_grow_142 : decode cX5_grow 142 = .ok (.invokevirtual 66, 3) := by decide +kernel
theorem dX5_grow_145 : decode cX5_grow 145 = .ok (.istore 17, 2) := by decide +kernel
theorem dX5_grow_147 : decode cX5_grow 147 = .ok (.aload_n 0, 1) := by decide +kernel
theorem dX5_grow_148 : decode cX5_grow 148 = .ok (.getfield 9, 3) := by decide +kernel
theorem dX5_grow_151 : decode cX5_grow 151 = .ok (.iload 11, 2) := by decide +kernel
theorem dX5_grow_153 : decode cX5_grow 153 = .ok (.iconst 3, 1) := by decide +kernel
theorem dX5_grow_154 : decode cX5_grow 154 = .ok (.invokevirtual 66, 3) := by decide +kernel
theorem dX5_grow_157 : decode cX5_grow 157 = .ok (.istore 18, 2) := by decide +kernel
theorem dX5_grow_159 : decode cX5_grow 159 = .ok (.lconst 1, 1) := by decide +kernel
theorem dX5_grow_160 : decode cX5_grow 160 = .ok (.aload_n 1, 1) := by decide +kernel
theorem dX5_grow_161 : decode cX5_grow 161 = .ok (.iload 17, 2) := by decide +kernel
theorem dX5_grow_163 : decode cX5_grow 163 = .ok (.iload 13, 2) := by decide +kernel
theorem dX5_grow_165 : decode cX5_grow 165 = .ok (.iload 15, 2) := by decide +kernel
theorem dX5_grow_167 : decode cX5_grow 167 = .ok (.invokevirtual 69, 3) := by decide +kernel
theorem dX5_grow_170 : decode cX5_grow 170 = .ok (.invokestatic 73, 3) := by decide +kernel
theorem dX5_grow_173 : decode cX5_grow 173 = .ok (.lstore 19, 2) := by decide +kernel
theorem dX5_grow_175 : decode cX5_grow 175 = .ok (.lconst 1, 1) := by decide +kernel
theorem dX5_grow_176 : decode cX5_grow 176 = .ok (.aload_n 1, 1) := by decide +kernel
theorem dX5_grow_177 : decode cX5_grow 177 = .ok (.iload 18, 2) := by decide +kernel
theorem dX5_grow_179 : decode cX5_grow 179 = .ok (.iload 14, 2) := by decide +kernel
theorem dX5_grow_181 : decode cX5_grow 181 = .ok (.iload 16, 2) := by decide +kernel
theorem dX5_grow_183 : decode cX5_grow 183 = .ok (.invokevirtual 69, 3) := by decide +kernel
theorem dX5_grow_186 : decode cX5_grow 186 = .ok (.invokestatic 73, 3) := by decide +kernel
theorem dX5_grow_189 : decode cX5_grow 189 = .ok (.lstore 21, 2) := by decide +kernel
theorem dX5_grow_191 : decode cX5_grow 191 = .ok (.aload_n 0, 1) := by decide +kernel
theorem dX5_grow_192 : decode cX5_grow 192 = .ok (.aload_n 1, 1) := by decide +kernel
theorem dX5_grow_193 : decode cX5_grow 193 = .ok (.aload_n 0, 1) := by decide +kernel
theorem dX5_grow_194 : decode cX5_grow 194 = .ok (.getfield 9, 3) := by decide +kernel
theorem dX5_grow_197 : decode cX5_grow 197 = .ok (.iload 11, 2) := by decide +kernel
theorem dX5_grow_199 : decode cX5_grow 199 = .ok (.iconst 1, 1) := by decide +kernel
theorem dX5_grow_200 : decode cX5_grow 200 = .ok (.invokevirtual 66, 3) := by decide +kernel
theorem dX5_grow_203 : decode cX5_grow 203 = .ok (.aload_n 1, 1) := by decide +kernel
theorem dX5_grow_204 : decode cX5_grow 204 = .ok (.iload_n 3, 1) := by decide +kernel
theorem dX5_grow_205 : decode cX5_grow 205 = .ok (.iconst 0, 1) := by decide +kernel
theorem dX5_grow_206 : decode cX5_grow 206 = .ok (.invokevirtual 60, 3) := by decide +kernel
theorem dX5_grow_209 : decode cX5_grow 209 = .ok (.iload 4, 2) := by decide +kernel
theorem dX5_grow_211 : decode cX5_grow 211 = .ok (.iload 12, 2) := by decide +kernel
theorem dX5_grow_213 : decode cX5_grow 213 = .ok (.lload 9, 2) := by decide +kernel
theorem dX5_grow_215 : decode cX5_grow 215 = .ok (.lload 21, 2) := by decide +kernel
theorem dX5_grow_217 : decode cX5_grow 217 = .ok (.ldiv, 1) := by decide +kernel
theorem dX5_grow_218 : decode cX5_grow 218 = .ok (.lload 19, 2) := by decide +kernel
theorem dX5_grow_220 : decode cX5_grow 220 = .ok (.ldiv, 1) := by decide +kernel
theorem dX5_grow_221 : decode cX5_grow 221 = .ok (.invokevirtual 79, 3) := by decide +kernel
theorem dX5_grow_224 : decode cX5_grow 224 = .ok (.aload_n 0, 1) := by decide +kernel
theorem dX5_grow_225 : decode cX5_grow 225 = .ok (.aload_n 1, 1) := by decide +kernel
theorem dX5_grow_226 : decode cX5_grow 226 = .ok (.iload 17, 2) := by decide +kernel
theorem dX5_grow_228 : decode cX5_grow 228 = .ok (.iload 15, 2) := by decide +kernel
theorem dX5_grow_230 : decode cX5_grow 230 = .ok (.iload 4, 2) := by decide +kernel
theorem dX5_grow_232 : decode cX5_grow 232 = .ok (.iload 12, 2) := by decide +kernel
theorem dX5_grow_234 : decode cX5_grow 234 = .ok (.iadd, 1) := by decide +kernel
theorem dX5_grow_235 : decode cX5_grow 235 = .ok (.iload 13, 2) := by decide +kernel
theorem dX5_grow_237 : decode cX5_grow 237 = .ok (.lload 9, 2) := by decide +kernel
theorem dX5_grow_239 : decode cX5_grow 239 = .ok (.lload 21, 2) := by decide +kernel
theorem dX5_grow_241 : decode cX5_grow 241 = .ok (.ldiv, 1) := by decide +kernel
theorem dX5_grow_242 : decode cX5_grow 242 = .ok (.lload 19, 2) := by decide +kernel
theorem dX5_grow_244 : decode cX5_grow 244 = .ok (.lrem, 1) := by decide +kernel
theorem dX5_grow_245 : decode cX5_grow 245 = .ok (.invokevirtual 79, 3) := by decide +kernel
theorem dX5_grow_248 : decode cX5_grow 248 = .ok (.aload_n 0, 1) := by decide +kernel
theorem dX5_grow_249 : decode cX5_grow 249 = .ok (.aload_n 1, 1) := by decide +kernel
theorem dX5_grow_250 : decode cX5_grow 250 = .ok (.iload 18, 2) := by decide +kernel
theorem dX5_grow_252 : decode cX5_grow 252 = .ok (.iload 16, 2) := by decide +kernel
theorem dX5_grow_254 : decode cX5_grow 254 = .ok (.iload 4, 2) := by decide +kernel
theorem dX5_grow_256 : decode cX5_grow 256 = .ok (.iload 12, 2) := by decide +kernel
theorem dX5_grow_258 : decode cX5_grow 258 = .ok (.iadd, 1) := by decide +kernel
theorem dX5_grow_259 : decode cX5_grow 259 = .ok (.iload 13, 2) := by decide +kernel
theorem dX5_grow_261 : decode cX5_grow 261 = .ok (.iadd, 1) := by decide +kernel
theorem dX5_grow_262 : decode cX5_grow 262 = .ok (.iload 14, 2) := by decide +kernel
theorem dX5_grow_264 : decode cX5_grow 264 = .ok (.lload 9, 2) := by decide +kernel
theorem dX5_grow_266 : decode cX5_grow 266 = .ok (.lload 21, 2) := by decide +kernel
theorem dX5_grow_268 : decode cX5_grow 268 = .ok (.lrem, 1) := by decide +kernel
theorem dX5_grow_269 : decode cX5_grow 269 = .ok (.invokevirtual 79, 3) := by decide +kernel
theorem dX5_grow_272 : decode cX5_grow 272 = .ok (.return_, 1) := by decide +kernel
theorem dX5_choose_0 : decode cX5_choose 0 = .ok (.aload_n 0, 1) := by decide +kernel
theorem dX5_choose_1 : decode cX5_choose 1 = .ok (.getfield 34, 3) := by decide +kernel
theorem dX5_choose_4 : decode cX5_choose 4 = .ok (.iload 4, 2) := by decide +kernel
theorem dX5_choose_6 : decode cX5_choose 6 = .ok (.iaload, 1) := by decide +kernel
theorem dX5_choose_7 : decode cX5_choose 7 = .ok (.istore 7, 2) := by decide +kernel
theorem dX5_choose_9 : decode cX5_choose 9 = .ok (.lload 5, 2) := by decide +kernel
theorem dX5_choose_11 : decode cX5_choose 11 = .ok (.lstore 8, 2) := by decide +kernel
theorem dX5_choose_13 : decode cX5_choose 13 = .ok (.iconst 0, 1) := by decide +kernel
theorem dX5_choose_14 : decode cX5_choose 14 = .ok (.istore 10, 2) := by decide +kernel
theorem dX5_choose_16 : decode cX5_choose 16 = .ok (.iload 10, 2) := by decide +kernel
theorem dX5_choose_18 : decode cX5_choose 18 = .ok (.aload_n 0, 1) := by decide +kernel
theorem dX5_choose_19 : decode cX5_choose 19 = .ok (.getfield 9, 3) := by decide +kernel
theorem dX5_choose_22 : decode cX5_choose 22 = .ok (.getfield 83, 3) := by decide +kernel
theorem dX5_choose_25 : decode cX5_choose 25 = .ok (.iconst 1, 1) := by decide +kernel
theorem dX5_choose_26 : decode cX5_choose 26 = .ok (.isub, 1) := by decide +kernel
theorem dX5_choose_27 : decode cX5_choose 27 = .ok (.if_icmp .ge 39, 3) := by decide +kernel
theorem dX5_choose_30 : decode cX5_choose 30 = .ok (.aload_n 1, 1) := by decide +kernel
theorem dX5_choose_31 : decode cX5_choose 31 = .ok (.iload_n 2, 1) := by decide +kernel
theorem dX5_choose_32 : decode cX5_choose 32 = .ok (.iload 10, 2) := by decide +kernel
theorem dX5_choose_34 : decode cX5_choose 34 = .ok (.iload 7, 2) := by decide +kernel
theorem dX5_choose_36 : decode cX5_choose 36 = .ok (.iload_n 3, 1) := by decide +kernel
theorem dX5_choose_37 : decode cX5_choose 37 = .ok (.invokevirtual 85, 3) := by decide +kernel
theorem dX5_choose_40 : decode cX5_choose 40 = .ok (.lstore 11, 2) := by decide +kernel
theorem dX5_choose_42 : decode cX5_choose 42 = .ok (.lload 8, 2) := by decide +kernel
theorem dX5_choose_44 : decode cX5_choose 44 = .ok (.lload 11, 2) := by decide +kernel
theorem dX5_choose_46 : decode cX5_choose 46 = .ok (.lcmp, 1) := by decide +kernel
theorem dX5_choose_47 : decode cX5_choose 47 = .ok (.ifCond .ge 6, 3) := by decide +kernel
theorem dX5_choose_50 : decode cX5_choose 50 = .ok (.goto 16, 3) := by decide +kernel
theorem dX5_choose_53 : decode cX5_choose 53 = .ok (.lload 8, 2) := by decide +kernel
theorem dX5_choose_55 : decode cX5_choose 55 = .ok (.lload 11, 2) := by decide +kernel
theorem dX5_choose_57 : decode cX5_choose 57 = .ok (.lsub, 1) := by decide +kernel
theorem dX5_choose_58 : decode cX5_choose 58 = .ok (.lstore 8, 2) := by decide +kernel
theorem dX5_choose_60 : decode cX5_choose 60 = .ok (.iinc 10 1, 3) := by decide +kernel
theorem dX5_choose_63 : decode cX5_choose 63 = .ok (.goto (-47), 3) := by decide +kernel
theorem dX5_choose_66 : decode cX5_choose 66 = .ok (.iconst 1, 1) := by decide +kernel
theorem dX5_choose_67 : decode cX5_choose 67 = .ok (.istore 11, 2) := by decide +kernel
theorem dX5_choose_69 : decode cX5_choose 69 = .ok (.iload 11, 2) := by decide +kernel
theorem dX5_choose_71 : decode cX5_choose 71 = .ok (.iload 7, 2) := by decide +kernel
theorem dX5_choose_73 : decode cX5_choose 73 = .ok (.if_icmp .ge 40, 3) := by decide +kernel
theorem dX5_choose_76 : decode cX5_choose 76 = .ok (.aload_n 1, 1) := by decide +kernel
theorem dX5_choose_77 : decode cX5_choose 77 = .ok (.iload 10, 2) := by decide +kernel
theorem dX5_choose_79 : decode cX5_choose 79 = .ok (.iload 7, 2) := by decide +kernel
theorem dX5_choose_81 : decode cX5_choose 81 = .ok (.iload_n 3, 1) := by decide +kernel
theorem dX5_choose_82 : decode cX5_choose 82 = .ok (.iload 11, 2) := by decide +kernel
theorem dX5_choose_84 : decode cX5_choose 84 = .ok (.invokevirtual 89, 3) := by decide +kernel
theorem dX5_choose_87 : decode cX5_choose 87 = .ok (.lstore 12, 2) := by decide +kernel
theorem dX5_choose_89 : decode cX5_choose 89 = .ok (.lload 8, 2) := by decide +kernel
theorem dX5_choose_91 : decode cX5_choose 91 = .ok (.lload 12, 2) := by decide +kernel
theorem dX5_choose_93 : decode cX5_choose 93 = .ok (.lcmp, 1) := by decide +kernel
theorem dX5_choose_94 : decode cX5_choose 94 = .ok (.ifCond .ge 6, 3) := by decide +kernel
theorem dX5_choose_97 : decode cX5_choose 97 = .ok (.goto 16, 3) := by decide +kernel
theorem dX5_choose_100 : decode cX5_choose 100 = .ok (.lload 8, 2) := by decide +kernel
theorem dX5_choose_102 : decode cX5_choose 102 = .ok (.lload 12, 2) := by decide +kernel
theorem dX5_choose_104 : decode cX5_choose 104 = .ok (.lsub, 1) := by decide +kernel
theorem dX5_choose_105 : decode cX5_choose 105 = .ok (.lstore 8, 2) := by decide +kernel
theorem dX5_choose_107 : decode cX5_choose 107 = .ok (.iinc 11 1, 3) := by decide +kernel
theorem dX5_choose_110 : decode cX5_choose 110 = .ok (.goto (-41), 3) := by decide +kernel
theorem dX5_choose_113 : decode cX5_choose 113 = .ok (.iconst 0, 1) := by decide +kernel
theorem dX5_choose_114 : decode cX5_choose 114 = .ok (.istore 12, 2) := by decide +kernel
theorem dX5_choose_116 : decode cX5_choose 116 = .ok (.iload 12, 2) := by decide +kernel
theorem dX5_choose_118 : decode cX5_choose 118 = .ok (.iload 7, 2) := by decide +kernel
theorem dX5_choose_120 : decode cX5_choose 120 = .ok (.iload 11, 2) := by decide +kernel
theorem dX5_choose_122 : decode cX5_choose 122 = .ok (.isub, 1) := by decide +kernel
theorem dX5_choose_123 : decode cX5_choose 123 = .ok (.if_icmp .ge 42, 3) := by decide +kernel
theorem dX5_choose_126 : decode cX5_choose 126 = .ok (.aload_n 1, 1) := by decide +kernel
theorem dX5_choose_127 : decode cX5_choose 127 = .ok (.iload 10, 2) := by decide +kernel
theorem dX5_choose_129 : decode cX5_choose 129 = .ok (.iload 7, 2) := by decide +kernel
theorem dX5_choose_131 : decode cX5_choose 131 = .ok (.iload_n 3, 1) := by decide +kernel
theorem dX5_choose_132 : decode cX5_choose 132 = .ok (.iload 11, 2) := by decide +kernel
theorem dX5_choose_134 : decode cX5_choose 134 = .ok (.iload 12, 2) := by decide +kernel
theorem dX5_choose_136 : decode cX5_choose 136 = .ok (.invokevirtual 92, 3) := by decide +kernel
theorem dX5_choose_139 : decode cX5_choose 139 = .ok (.lstore 13, 2) := by decide +kernel
theorem dX5_choose_141 : decode cX5_choose 141 = .ok (.lload 8, 2) := by decide +kernel
theorem dX5_choose_143 : decode cX5_choose 143 = .ok (.lload 13, 2) := by decide +kernel
theorem dX5_choose_145 : decode cX5_choose 145 = .ok (.lcmp, 1) := by decide +kernel
theorem dX5_choose_146 : decode cX5_choose 146 = .ok (.ifCond .ge 6, 3) := by decide +kernel
theorem dX5_choose_149 : decode cX5_choose 149 = .ok (.goto 16, 3) := by decide +kernel
theorem dX5_choose_152 : decode cX5_choose 152 = .ok (.lload 8, 2) := by decide +kernel
theorem dX5_choose_154 : decode cX5_choose 154 = .ok (.lload 13, 2) := by decide +kernel
theorem dX5_choose_156 : decode cX5_choose 156 = .ok (.lsub, 1) := by decide +kernel
theorem dX5_choose_157 : decode cX5_choose 157 = .ok (.lstore 8, 2) := by decide +kernel
theorem dX5_choose_159 : decode cX5_choose 159 = .ok (.iinc 12 1, 3) := by decide +kernel
theorem dX5_choose_162 : decode cX5_choose 162 = .ok (.goto (-46), 3) := by decide +kernel
theorem dX5_choose_165 : decode cX5_choose 165 = .ok (.aload_n 0, 1) := by decide +kernel
theorem dX5_choose_166 : decode cX5_choose 166 = .ok (.getfield 27, 3) := by decide +kernel
theorem dX5_choose_169 : decode cX5_choose 169 = .ok (.iload 4, 2) := by decide +kernel
theorem dX5_choose_171 : decode cX5_choose 171 = .ok (.iload 10, 2) := by decide +kernel
theorem dX5_choose_173 : decode cX5_choose 173 = .ok (.iastore, 1) := by decide +kernel
theorem dX5_choose_174 : decode cX5_choose 174 = .ok (.aload_n 0, 1) := by decide +kernel
theorem dX5_choose_175 : decode cX5_choose 175 = .ok (.getfield 37, 3) := by decide +kernel
theorem dX5_choose_178 : decode cX5_choose 178 = .ok (.iload 4, 2) := by decide +kernel
theorem dX5_choose_180 : decode cX5_choose 180 = .ok (.iload 11, 2) := by decide +kernel
theorem dX5_choose_182 : decode cX5_choose 182 = .ok (.iastore, 1) := by decide +kernel
theorem dX5_choose_183 : decode cX5_choose 183 = .ok (.aload_n 0, 1) := by decide +kernel
theorem dX5_choose_184 : decode cX5_choose 184 = .ok (.getfield 40, 3) := by decide +kernel
theorem dX5_choose_187 : decode cX5_choose 187 = .ok (.iload 4, 2) := by decide +kernel
theorem dX5_choose_189 : decode cX5_choose 189 = .ok (.iload 12, 2) := by decide +kernel
theorem dX5_choose_191 : decode cX5_choose 191 = .ok (.iastore, 1) := by decide +kernel
theorem dX5_choose_192 : decode cX5_choose 192 = .ok (.lload 8, 2) := by decide +kernel
theorem dX5_choose_194 : decode cX5_choose 194 = .ok (.lreturn, 1) := by decide +kernel
theorem dX5_spell_0 : decode cX5_spell 0 = .ok (.iconst 0, 1) := by decide +kernel
theorem dX5_spell_1 : decode cX5_spell 1 = .ok (.istore_n 2, 1) := by decide +kernel
theorem dX5_spell_2 : decode cX5_spell 2 = .ok (.iload_n 2, 1) := by decide +kernel
theorem dX5_spell_3 : decode cX5_spell 3 = .ok (.aload_n 0, 1) := by decide +kernel
theorem dX5_spell_4 : decode cX5_spell 4 = .ok (.getfield 23, 3) := by decide +kernel
theorem dX5_spell_7 : decode cX5_spell 7 = .ok (.if_icmp .ge 97, 3) := by decide +kernel
theorem dX5_spell_10 : decode cX5_spell 10 = .ok (.iload_n 2, 1) := by decide +kernel
theorem dX5_spell_11 : decode cX5_spell 11 = .ok (.bipush 15, 2) := by decide +kernel
theorem dX5_spell_13 : decode cX5_spell 13 = .ok (.if_icmp .ge 91, 3) := by decide +kernel
theorem dX5_spell_16 : decode cX5_spell 16 = .ok (.aload_n 0, 1) := by decide +kernel
theorem dX5_spell_17 : decode cX5_spell 17 = .ok (.getfield 31, 3) := by decide +kernel
theorem dX5_spell_20 : decode cX5_spell 20 = .ok (.iload_n 2, 1) := by decide +kernel
theorem dX5_spell_21 : decode cX5_spell 21 = .ok (.iaload, 1) := by decide +kernel
theorem dX5_spell_22 : decode cX5_spell 22 = .ok (.istore_n 3, 1) := by decide +kernel
theorem dX5_spell_23 : decode cX5_spell 23 = .ok (.aload_n 1, 1) := by decide +kernel
theorem dX5_spell_24 : decode cX5_spell 24 = .ok (.iload_n 3, 1) := by decide +kernel
theorem dX5_spell_25 : decode cX5_spell 25 = .ok (.aload_n 0, 1) := by decide +kernel
theorem dX5_spell_26 : decode cX5_spell 26 = .ok (.getfield 9, 3) := by decide +kernel
theorem dX5_spell_29 : decode cX5_spell 29 = .ok (.aload_n 0, 1) := by decide +kernel
theorem dX5_spell_30 : decode cX5_spell 30 = .ok (.getfield 27, 3) := by decide +kernel
theorem dX5_spell_33 : decode cX5_spell 33 = .ok (.iload_n 2, 1) := by decide +kernel
theorem dX5_spell_34 : decode cX5_spell 34 = .ok (.iaload, 1) := by decide +kernel
theorem dX5_spell_35 : decode cX5_spell 35 = .ok (.iconst 1, 1) := by decide +kernel
theorem dX5_spell_36 : decode cX5_spell 36 = .ok (.invokevirtual 66, 3) := by decide +kernel
theorem dX5_spell_39 : decode cX5_spell 39 = .ok (.invokestatic 96, 3) := by decide +kernel
theorem dX5_spell_42 : decode cX5_spell 42 = .ok (.iload_n 3, 1) := by decide +kernel
theorem dX5_spell_43 : decode cX5_spell 43 = .ok (.aload_n 0, 1) := by decide +kernel
theorem dX5_spell_44 : decode cX5_spell 44 = .ok (.getfield 37, 3) := by decide +kernel
theorem dX5_spell_47 : decode cX5_spell 47 = .ok (.iload_n 2, 1) := by decide +kernel
theorem dX5_spell_48 : decode cX5_spell 48 = .ok (.iaload, 1) := by decide +kernel
theorem dX5_spell_49 : decode cX5_spell 49 = .ok (.iadd, 1) := by decide +kernel
theorem dX5_spell_50 : decode cX5_spell 50 = .ok (.istore_n 3, 1) := by decide +kernel
theorem dX5_spell_51 : decode cX5_spell 51 = .ok (.aload_n 1, 1) := by decide +kernel
theorem dX5_spell_52 : decode cX5_spell 52 = .ok (.iload_n 3, 1) := by decide +kernel
theorem dX5_spell_53 : decode cX5_spell 53 = .ok (.aload_n 0, 1) := by decide +kernel
theorem dX5_spell_54 : decode cX5_spell 54 = .ok (.getfield 9, 3) := by decide +kernel
theorem dX5_spell_57 : decode cX5_spell 57 = .ok (.aload_n 0, 1) := by decide +kernel
theorem dX5_spell_58 : decode cX5_spell 58 = .ok (.getfield 27, 3) := by decide +kernel
theorem dX5_spell_61 : decode cX5_spell 61 = .ok (.iload_n 2, 1) := by decide +kernel
theorem dX5_spell_62 : decode cX5_spell 62 = .ok (.iaload, 1) := by decide +kernel
theorem dX5_spell_63 : decode cX5_spell 63 = .ok (.iconst 2, 1) := by decide +kernel
theorem dX5_spell_64 : decode cX5_spell 64 = .ok (.invokevirtual 66, 3) := by decide +kernel
theorem dX5_spell_67 : decode cX5_spell 67 = .ok (.invokestatic 96, 3) := by decide +kernel
theorem dX5_spell_70 : decode cX5_spell 70 = .ok (.iload_n 3, 1) := by decide +kernel
theorem dX5_spell_71 : decode cX5_spell 71 = .ok (.aload_n 0, 1) := by decide +kernel
theorem dX5_spell_72 : decode cX5_spell 72 = .ok (.getfield 40, 3) := by decide +kernel
theorem dX5_spell_75 : decode cX5_spell 75 = .ok (.iload_n 2, 1) := by decide +kernel
theorem dX5_spell_76 : decode cX5_spell 76 = .ok (.iaload, 1) := by decide +kernel
theorem dX5_spell_77 : decode cX5_spell 77 = .ok (.iadd, 1) := by decide +kernel
theorem dX5_spell_78 : decode cX5_spell 78 = .ok (.istore_n 3, 1) := by decide +kernel
theorem dX5_spell_79 : decode cX5_spell 79 = .ok (.aload_n 1, 1) := by decide +kernel
theorem dX5_spell_80 : decode cX5_spell 80 = .ok (.iload_n 3, 1) := by decide +kernel
theorem dX5_spell_81 : decode cX5_spell 81 = .ok (.aload_n 0, 1) := by decide +kernel
theorem dX5_spell_82 : decode cX5_spell 82 = .ok (.getfield 9, 3) := by decide +kernel
theorem dX5_spell_85 : decode cX5_spell 85 = .ok (.aload_n 0, 1) := by decide +kernel
theorem dX5_spell_86 : decode cX5_spell 86 = .ok (.getfield 27, 3) := by decide +kernel
theorem dX5_spell_89 : decode cX5_spell 89 = .ok (.iload_n 2, 1) := by decide +kernel
theorem dX5_spell_90 : decode cX5_spell 90 = .ok (.iaload, 1) := by decide +kernel
theorem dX5_spell_91 : decode cX5_spell 91 = .ok (.iconst 3, 1) := by decide +kernel
theorem dX5_spell_92 : decode cX5_spell 92 = .ok (.invokevirtual 66, 3) := by decide +kernel
theorem dX5_spell_95 : decode cX5_spell 95 = .ok (.invokestatic 96, 3) := by decide +kernel
theorem dX5_spell_98 : decode cX5_spell 98 = .ok (.iinc 2 1, 3) := by decide +kernel
theorem dX5_spell_101 : decode cX5_spell 101 = .ok (.goto (-99), 3) := by decide +kernel
theorem dX5_spell_104 : decode cX5_spell 104 = .ok (.return_, 1) := by decide +kernel
theorem dX5_spellPart_0 : decode cX5_spellPart 0 = .ok (.iload_n 2, 1) := by decide +kernel
theorem dX5_spellPart_1 : decode cX5_spellPart 1 = .ok (.bipush 10, 2) := by decide +kernel
theorem dX5_spellPart_3 : decode cX5_spellPart 3 = .ok (.if_icmp .lt 12, 3) := by decide +kernel
theorem dX5_spellPart_6 : decode cX5_spellPart 6 = .ok (.aload_n 0, 1) := by decide +kernel
theorem dX5_spellPart_7 : decode cX5_spellPart 7 = .ok (.iload_n 1, 1) := by decide +kernel
theorem dX5_spellPart_8 : decode cX5_spellPart 8 = .ok (.iload_n 2, 1) := by decide +kernel
theorem dX5_spellPart_9 : decode cX5_spellPart 9 = .ok (.bipush 10, 2) := by decide +kernel
theorem dX5_spellPart_11 : decode cX5_spellPart 11 = .ok (.isub, 1) := by decide +kernel
theorem dX5_spellPart_12 : decode cX5_spellPart 12 = .ok (.invokevirtual 100, 3) := by decide +kernel
theorem dX5_spellPart_15 : decode cX5_spellPart 15 = .ok (.return_, 1) := by decide +kernel
theorem dX5_findNumber_0 : decode cX5_findNumber 0 = .ok (.aload_n 0, 1) := by decide +kernel
theorem dX5_findNumber_1 : decode cX5_findNumber 1 = .ok (.getfield 23, 3) := by decide +kernel
theorem dX5_findNumber_4 : decode cX5_findNumber 4 = .ok (.bipush 15, 2) := by decide +kernel
theorem dX5_findNumber_6 : decode cX5_findNumber 6 = .ok (.invokestatic 106, 3) := by decide +kernel
theorem dX5_findNumber_9 : decode cX5_findNumber 9 = .ok (.iconst 1, 1) := by decide +kernel
theorem dX5_findNumber_10 : decode cX5_findNumber 10 = .ok (.isub, 1) := by decide +kernel
theorem dX5_findNumber_11 : decode cX5_findNumber 11 = .ok (.istore_n 2, 1) := by decide +kernel
theorem dX5_findNumber_12 : decode cX5_findNumber 12 = .ok (.iload_n 2, 1) := by decide +kernel
theorem dX5_findNumber_13 : decode cX5_findNumber 13 = .ok (.ifCond .lt 129, 3) := by decide +kernel
theorem dX5_findNumber_16 : decode cX5_findNumber 16 = .ok (.iload_n 2, 1) := by decide +kernel
theorem dX5_findNumber_17 : decode cX5_findNumber 17 = .ok (.iconst 1, 1) := by decide +kernel
theorem dX5_findNumber_18 : decode cX5_findNumber 18 = .ok (.iadd, 1) := by decide +kernel
theorem dX5_findNumber_19 : decode cX5_findNumber 19 = .ok (.istore_n 3, 1) := by decide +kernel
theorem dX5_findNumber_20 : decode cX5_findNumber 20 = .ok (.lconst 0, 1) := by decide +kernel
theorem dX5_findNumber_21 : decode cX5_findNumber 21 = .ok (.lstore 4, 2) := by decide +kernel
theorem dX5_findNumber_23 : decode cX5_findNumber 23 = .ok (.iconst 1, 1) := by decide +kernel
theorem dX5_findNumber_24 : decode cX5_findNumber 24 = .ok (.istore 6, 2) := by decide +kernel
theorem dX5_findNumber_26 : decode cX5_findNumber 26 = .ok (.iload 6, 2) := by decide +kernel
theorem dX5_findNumber_28 : decode cX5_findNumber 28 = .ok (.iconst 3, 1) := by decide +kernel
theorem dX5_findNumber_29 : decode cX5_findNumber 29 = .ok (.if_icmp .gt 85, 3) := by decide +kernel
theorem dX5_findNumber_32 : decode cX5_findNumber 32 = .ok (.aload_n 0, 1) := by decide +kernel
theorem dX5_findNumber_33 : decode cX5_findNumber 33 = .ok (.getfield 9, 3) := by decide +kernel
theorem dX5_findNumber_36 : decode cX5_findNumber 36 = .ok (.aload_n 0, 1) := by decide +kernel
theorem dX5_findNumber_37 : decode cX5_findNumber 37 = .ok (.getfield 27, 3) := by decide +kernel
theorem dX5_findNumber_40 : decode cX5_findNumber 40 = .ok (.iload_n 2, 1) := by decide +kernel
theorem dX5_findNumber_41 : decode cX5_findNumber 41 = .ok (.iaload, 1) := by decide +kernel
theorem dX5_findNumber_42 : decode cX5_findNumber 42 = .ok (.iload 6, 2) := by decide +kernel
theorem dX5_findNumber_44 : decode cX5_findNumber 44 = .ok (.invokevirtual 66, 3) := by decide +kernel
theorem dX5_findNumber_47 : decode cX5_findNumber 47 = .ok (.istore 7, 2) := by decide +kernel
theorem dX5_findNumber_49 : decode cX5_findNumber 49 = .ok (.aload_n 0, 1) := by decide +kernel
theorem dX5_findNumber_50 : decode cX5_findNumber 50 = .ok (.getfield 9, 3) := by decide +kernel
theorem dX5_findNumber_53 : decode cX5_findNumber 53 = .ok (.iload 7, 2) := by decide +kernel
theorem dX5_findNumber_55 : decode cX5_findNumber 55 = .ok (.invokevirtual 50, 3) := by decide +kernel
theorem dX5_findNumber_58 : decode cX5_findNumber 58 = .ok (.ifCond .eq 50, 3) := by decide +kernel
theorem dX5_findNumber_61 : decode cX5_findNumber 61 = .ok (.iload_n 3, 1) := by decide +kernel
theorem dX5_findNumber_62 : decode cX5_findNumber 62 = .ok (.ifCond .lt 46, 3) := by decide +kernel
theorem dX5_findNumber_65 : decode cX5_findNumber 65 = .ok (.iload_n 3, 1) := by decide +kernel
theorem dX5_findNumber_66 : decode cX5_findNumber 66 = .ok (.bipush 15, 2) := by decide +kernel
theorem dX5_findNumber_68 : decode cX5_findNumber 68 = .ok (.if_icmp .ge 40, 3) := by decide +kernel
theorem dX5_findNumber_71 : decode cX5_findNumber 71 = .ok (.lload 4, 2) := by decide +kernel
theorem dX5_findNumber_73 : decode cX5_findNumber 73 = .ok (.aload_n 1, 1) := by decide +kernel
theorem dX5_findNumber_74 : decode cX5_findNumber 74 = .ok (.iload 7, 2) := by decide +kernel
theorem dX5_findNumber_76 : decode cX5_findNumber 76 = .ok (.aload_n 0, 1) := by decide +kernel
theorem dX5_findNumber_77 : decode cX5_findNumber 77 = .ok (.getfield 34, 3) := by decide +kernel
theorem dX5_findNumber_80 : decode cX5_findNumber 80 = .ok (.iload_n 3, 1) := by decide +kernel
theorem dX5_findNumber_81 : decode cX5_findNumber 81 = .ok (.iaload, 1) := by decide +kernel
theorem dX5_findNumber_82 : decode cX5_findNumber 82 = .ok (.aload_n 0, 1) := by decide +kernel
theorem dX5_findNumber_83 : decode cX5_findNumber 83 = .ok (.getfield 31, 3) := by decide +kernel
theorem dX5_findNumber_86 : decode cX5_findNumber 86 = .ok (.iload_n 3, 1) := by decide +kernel
theorem dX5_findNumber_87 : decode cX5_findNumber 87 = .ok (.iaload, 1) := by decide +kernel
theorem dX5_findNumber_88 : decode cX5_findNumber 88 = .ok (.invokevirtual 109, 3) := by decide +kernel
theorem dX5_findNumber_91 : decode cX5_findNumber 91 = .ok (.lmul, 1) := by decide +kernel
theorem dX5_findNumber_92 : decode cX5_findNumber 92 = .ok (.aload_n 0, 1) := by decide +kernel
theorem dX5_findNumber_93 : decode cX5_findNumber 93 = .ok (.getfield 46, 3) := by decide +kernel
theorem dX5_findNumber_96 : decode cX5_findNumber 96 = .ok (.iload_n 3, 1) := by decide +kernel
theorem dX5_findNumber_97 : decode cX5_findNumber 97 = .ok (.laload, 1) := by decide +kernel
theorem dX5_findNumber_98 : decode cX5_findNumber 98 = .ok (.ladd, 1) := by decide +kernel
theorem dX5_findNumber_99 : decode cX5_findNumber 99 = .ok (.lstore 4, 2) := by decide +kernel
theorem dX5_findNumber_101 : decode cX5_findNumber 101 = .ok (.aload_n 0, 1) := by decide +kernel
theorem dX5_findNumber_102 : decode cX5_findNumber 102 = .ok (.getfield 43, 3) := by decide +kernel
theorem dX5_findNumber_105 : decode cX5_findNumber 105 = .ok (.iload_n 3, 1) := by decide +kernel
theorem dX5_findNumber_106 : decode cX5_findNumber 106 = .ok (.iaload, 1) := by decide +kernel
theorem dX5_findNumber_107 : decode cX5_findNumber 107 = .ok (.istore_n 3, 1) := by decide +kernel
theorem dX5_findNumber_108 : decode cX5_findNumber 108 = .ok (.iinc 6 1, 3) := by decide +kernel
theorem dX5_findNumber_111 : decode cX5_findNumber 111 = .ok (.goto (-85), 3) := by decide +kernel
theorem dX5_findNumber_114 : decode cX5_findNumber 114 = .ok (.aload_n 0, 1) := by decide +kernel
theorem dX5_findNumber_115 : decode cX5_findNumber 115 = .ok (.getfield 43, 3) := by decide +kernel
theorem dX5_findNumber_118 : decode cX5_findNumber 118 = .ok (.iload_n 2, 1) := by decide +kernel
theorem dX5_findNumber_119 : decode cX5_findNumber 119 = .ok (.iload_n 3, 1) := by decide +kernel
theorem dX5_findNumber_120 : decode cX5_findNumber 120 = .ok (.iastore, 1) := by decide +kernel
theorem dX5_findNumber_121 : decode cX5_findNumber 121 = .ok (.aload_n 0, 1) := by decide +kernel
theorem dX5_findNumber_122 : decode cX5_findNumber 122 = .ok (.getfield 46, 3) := by decide +kernel
theorem dX5_findNumber_125 : decode cX5_findNumber 125 = .ok (.iload_n 2, 1) := by decide +kernel
theorem dX5_findNumber_126 : decode cX5_findNumber 126 = .ok (.aload_n 0, 1) := by decide +kernel
theorem dX5_findNumber_127 : decode cX5_findNumber 127 = .ok (.aload_n 1, 1) := by decide +kernel
theorem dX5_findNumber_128 : decode cX5_findNumber 128 = .ok (.iload_n 2, 1) := by decide +kernel
theorem dX5_findNumber_129 : decode cX5_findNumber 129 = .ok (.invokevirtual 112, 3) := by decide +kernel
theorem dX5_findNumber_132 : decode cX5_findNumber 132 = .ok (.lload 4, 2) := by decide +kernel
theorem dX5_findNumber_134 : decode cX5_findNumber 134 = .ok (.ladd, 1) := by decide +kernel
theorem dX5_findNumber_135 : decode cX5_findNumber 135 = .ok (.lastore, 1) := by decide +kernel
theorem dX5_findNumber_136 : decode cX5_findNumber 136 = .ok (.iinc 2 (-1), 3) := by decide +kernel
theorem dX5_findNumber_139 : decode cX5_findNumber 139 = .ok (.goto (-127), 3) := by decide +kernel
theorem dX5_findNumber_142 : decode cX5_findNumber 142 = .ok (.aload_n 0, 1) := by decide +kernel
theorem dX5_findNumber_143 : decode cX5_findNumber 143 = .ok (.getfield 46, 3) := by decide +kernel
theorem dX5_findNumber_146 : decode cX5_findNumber 146 = .ok (.iconst 0, 1) := by decide +kernel
theorem dX5_findNumber_147 : decode cX5_findNumber 147 = .ok (.laload, 1) := by decide +kernel
theorem dX5_findNumber_148 : decode cX5_findNumber 148 = .ok (.lreturn, 1) := by decide +kernel
theorem dX5_countBefore_0 : decode cX5_countBefore 0 = .ok (.aload_n 0, 1) := by decide +kernel
theorem dX5_countBefore_1 : decode cX5_countBefore 1 = .ok (.getfield 27, 3) := by decide +kernel
theorem dX5_countBefore_4 : decode cX5_countBefore 4 = .ok (.iload_n 2, 1) := by decide +kernel
theorem dX5_countBefore_5 : decode cX5_countBefore 5 = .ok (.iaload, 1) := by decide +kernel
theorem dX5_countBefore_6 : decode cX5_countBefore 6 = .ok (.istore_n 3, 1) := by decide +kernel
theorem dX5_countBefore_7 : decode cX5_countBefore 7 = .ok (.aload_n 0, 1) := by decide +kernel
theorem dX5_countBefore_8 : decode cX5_countBefore 8 = .ok (.getfield 9, 3) := by decide +kernel
theorem dX5_countBefore_11 : decode cX5_countBefore 11 = .ok (.iload_n 3, 1) := by decide +kernel
theorem dX5_countBefore_12 : decode cX5_countBefore 12 = .ok (.iconst 0, 1) := by decide +kernel
theorem dX5_countBefore_13 : decode cX5_countBefore 13 = .ok (.invokevirtual 66, 3) := by decide +kernel
theorem dX5_countBefore_16 : decode cX5_countBefore 16 = .ok (.istore 4, 2) := by decide +kernel
theorem dX5_countBefore_18 : decode cX5_countBefore 18 = .ok (.aload_n 0, 1) := by decide +kernel
theorem dX5_countBefore_19 : decode cX5_countBefore 19 = .ok (.getfield 34, 3) := by decide +kernel
theorem dX5_countBefore_22 : decode cX5_countBefore 22 = .ok (.iload_n 2, 1) := by decide +kernel
theorem dX5_countBefore_23 : decode cX5_countBefore 23 = .ok (.iaload, 1) := by decide +kernel
theorem dX5_countBefore_24 : decode cX5_countBefore 24 = .ok (.istore 5, 2) := by decide +kernel
theorem dX5_countBefore_26 : decode cX5_countBefore 26 = .ok (.aload_n 0, 1) := by decide +kernel
theorem dX5_countBefore_27 : decode cX5_countBefore 27 = .ok (.getfield 31, 3) := by decide +kernel
theorem dX5_countBefore_30 : decode cX5_countBefore 30 = .ok (.iload_n 2, 1) := by decide +kernel
theorem dX5_countBefore_31 : decode cX5_countBefore 31 = .ok (.iaload, 1) := by decide +kernel
theorem dX5_countBefore_32 : decode cX5_countBefore 32 = .ok (.istore 6, 2) := by decide +kernel
theorem dX5_countBefore_34 : decode cX5_countBefore 34 = .ok (.lconst 0, 1) := by decide +kernel
theorem dX5_countBefore_35 : decode cX5_countBefore 35 = .ok (.lstore 7, 2) := by decide +kernel
theorem dX5_countBefore_37 : decode cX5_countBefore 37 = .ok (.iconst 0, 1) := by decide +kernel
theorem dX5_countBefore_38 : decode cX5_countBefore 38 = .ok (.istore 9, 2) := by decide +kernel
theorem dX5_countBefore_40 : decode cX5_countBefore 40 = .ok (.iload 9, 2) := by decide +kernel
theorem dX5_countBefore_42 : decode cX5_countBefore 42 = .ok (.iload_n 3, 1) := by decide +kernel
theorem dX5_countBefore_43 : decode cX5_countBefore 43 = .ok (.if_icmp .ge 26, 3) := by decide +kernel
theorem dX5_countBefore_46 : decode cX5_countBefore 46 = .ok (.lload 7, 2) := by decide +kernel
theorem dX5_countBefore_48 : decode cX5_countBefore 48 = .ok (.aload_n 1, 1) := by decide +kernel
theorem dX5_countBefore_49 : decode cX5_countBefore 49 = .ok (.iload 4, 2) := by decide +kernel
theorem dX5_countBefore_51 : decode cX5_countBefore 51 = .ok (.iload 9, 2) := by decide +kernel
theorem dX5_countBefore_53 : decode cX5_countBefore 53 = .ok (.iload 5, 2) := by decide +kernel
theorem dX5_countBefore_55 : decode cX5_countBefore 55 = .ok (.iload 6, 2) := by decide +kernel
theorem dX5_countBefore_57 : decode cX5_countBefore 57 = .ok (.invokevirtual 116, 3) := by decide +kernel
theorem dX5_countBefore_60 : decode cX5_countBefore 60 = .ok (.ladd, 1) := by decide +kernel
theorem dX5_countBefore_61 : decode cX5_countBefore 61 = .ok (.lstore 7, 2) := by decide +kernel
theorem dX5_countBefore_63 : decode cX5_countBefore 63 = .ok (.iinc 9 1, 3) := by decide +kernel
theorem dX5_countBefore_66 : decode cX5_countBefore 66 = .ok (.goto (-26), 3) := by decide +kernel
theorem dX5_countBefore_69 : decode cX5_countBefore 69 = .ok (.iconst 1, 1) := by decide +kernel
theorem dX5_countBefore_70 : decode cX5_countBefore 70 = .ok (.istore 9, 2) := by decide +kernel
theorem dX5_countBefore_72 : decode cX5_countBefore 72 = .ok (.iload 9, 2) := by decide +kernel
theorem dX5_countBefore_74 : decode cX5_countBefore 74 = .ok (.aload_n 0, 1) := by decide +kernel
theorem dX5_countBefore_75 : decode cX5_countBefore 75 = .ok (.getfield 37, 3) := by decide +kernel
theorem dX5_countBefore_78 : decode cX5_countBefore 78 = .ok (.iload_n 2, 1) := by decide +kernel
theorem dX5_countBefore_79 : decode cX5_countBefore 79 = .ok (.iaload, 1) := by decide +kernel
theorem dX5_countBefore_80 : decode cX5_countBefore 80 = .ok (.if_icmp .ge 25, 3) := by decide +kernel
theorem dX5_countBefore_83 : decode cX5_countBefore 83 = .ok (.lload 7, 2) := by decide +kernel
theorem dX5_countBefore_85 : decode cX5_countBefore 85 = .ok (.aload_n 1, 1) := by decide +kernel
theorem dX5_countBefore_86 : decode cX5_countBefore 86 = .ok (.iload_n 3, 1) := by decide +kernel
theorem dX5_countBefore_87 : decode cX5_countBefore 87 = .ok (.iload 5, 2) := by decide +kernel
theorem dX5_countBefore_89 : decode cX5_countBefore 89 = .ok (.iload 6, 2) := by decide +kernel
theorem dX5_countBefore_91 : decode cX5_countBefore 91 = .ok (.iload 9, 2) := by decide +kernel
theorem dX5_countBefore_93 : decode cX5_countBefore 93 = .ok (.invokevirtual 117, 3) := by decide +kernel
theorem dX5_countBefore_96 : decode cX5_countBefore 96 = .ok (.ladd, 1) := by decide +kernel
theorem dX5_countBefore_97 : decode cX5_countBefore 97 = .ok (.lstore 7, 2) := by decide +kernel
theorem dX5_countBefore_99 : decode cX5_countBefore 99 = .ok (.iinc 9 1, 3) := by decide +kernel
theorem dX5_countBefore_102 : decode cX5_countBefore 102 = .ok (.goto (-30), 3) := by decide +kernel
theorem dX5_countBefore_105 : decode cX5_countBefore 105 = .ok (.iconst 0, 1) := by decide +kernel
theorem dX5_countBefore_106 : decode cX5_countBefore 106 = .ok (.istore 9, 2) := by decide +kernel
theorem dX5_countBefore_108 : decode cX5_countBefore 108 = .ok (.iload 9, 2) := by decide +kernel
theorem dX5_countBefore_110 : decode cX5_countBefore 110 = .ok (.aload_n 0, 1) := by decide +kernel
theorem dX5_countBefore_111 : decode cX5_countBefore 111 = .ok (.getfield 40, 3) := by decide +kernel
theorem dX5_countBefore_114 : decode cX5_countBefore 114 = .ok (.iload_n 2, 1) := by decide +kernel
theorem dX5_countBefore_115 : decode cX5_countBefore 115 = .ok (.iaload, 1) := by decide +kernel
theorem dX5_countBefore_116 : decode cX5_countBefore 116 = .ok (.if_icmp .ge 31, 3) := by decide +kernel
theorem dX5_countBefore_119 : decode cX5_countBefore 119 = .ok (.lload 7, 2) := by decide +kernel
theorem dX5_countBefore_121 : decode cX5_countBefore 121 = .ok (.aload_n 1, 1) := by decide +kernel
theorem dX5_countBefore_122 : decode cX5_countBefore 122 = .ok (.iload_n 3, 1) := by decide +kernel
theorem dX5_countBefore_123 : decode cX5_countBefore 123 = .ok (.iload 5, 2) := by decide +kernel
theorem dX5_countBefore_125 : decode cX5_countBefore 125 = .ok (.iload 6, 2) := by decide +kernel
theorem dX5_countBefore_127 : decode cX5_countBefore 127 = .ok (.aload_n 0, 1) := by decide +kernel
theorem dX5_countBefore_128 : decode cX5_countBefore 128 = .ok (.getfield 37, 3) := by decide +kernel
theorem dX5_countBefore_131 : decode cX5_countBefore 131 = .ok (.iload_n 2, 1) := by decide +kernel
theorem dX5_countBefore_132 : decode cX5_countBefore 132 = .ok (.iaload, 1) := by decide +kernel
theorem dX5_countBefore_133 : decode cX5_countBefore 133 = .ok (.iload 9, 2) := by decide +kernel
theorem dX5_countBefore_135 : decode cX5_countBefore 135 = .ok (.invokevirtual 118, 3) := by decide +kernel
theorem dX5_countBefore_138 : decode cX5_countBefore 138 = .ok (.ladd, 1) := by decide +kernel
theorem dX5_countBefore_139 : decode cX5_countBefore 139 = .ok (.lstore 7, 2) := by decide +kernel
theorem dX5_countBefore_141 : decode cX5_countBefore 141 = .ok (.iinc 9 1, 3) := by decide +kernel
theorem dX5_countBefore_144 : decode cX5_countBefore 144 = .ok (.goto (-36), 3) := by decide +kernel
theorem dX5_countBefore_147 : decode cX5_countBefore 147 = .ok (.lload 7, 2) := by decide +kernel
theorem dX5_countBefore_149 : decode cX5_countBefore 149 = .ok (.lreturn, 1) := by decide +kernel
theorem dX6_init_0 : decode cX6_init 0 = .ok (.aload_n 0, 1) := by decide +kernel
theorem dX6_init_1 : decode cX6_init 1 = .ok (.invokespecial 3, 3) := by decide +kernel
theorem dX6_init_4 : decode cX6_init 4 = .ok (.aload_n 0, 1) := by decide +kernel
theorem dX6_init_5 : decode cX6_init 5 = .ok (.iconst 0, 1) := by decide +kernel
theorem dX6_init_6 : decode cX6_init 6 = .ok (.putfield 9, 3) := by decide +kernel
theorem dX6_init_9 : decode cX6_init 9 = .ok (.aload_n 0, 1) := by decide +kernel
theorem dX6_init_10 : decode cX6_init 10 = .ok (.bipush 8, 2) := by decide +kernel
theorem dX6_init_12 : decode cX6_init 12 = .ok (.newarray .int, 2) := by decide +kernel
theorem dX6_init_14 : decode cX6_init 14 = .ok (.putfield 15, 3) := by decide +kernel
theorem dX6_init_17 : decode cX6_init 17 = .ok (.return_, 1) := by decide +kernel
theorem dX6_copy_0 : decode cX6_copy 0 = .ok (.aload_n 0, 1) := by decide +kernel
theorem dX6_copy_1 : decode cX6_copy 1 = .ok (.aload_n 1, 1) := by decide +kernel
theorem dX6_copy_2 : decode cX6_copy 2 = .ok (.getfield 9, 3) := by decide +kernel
theorem dX6_copy_5 : decode cX6_copy 5 = .ok (.putfield 9, 3) := by decide +kernel
theorem dX6_copy_8 : decode cX6_copy 8 = .ok (.iconst 0, 1) := by decide +kernel
theorem dX6_copy_9 : decode cX6_copy 9 = .ok (.istore_n 2, 1) := by decide +kernel
theorem dX6_copy_10 : decode cX6_copy 10 = .ok (.iload_n 2, 1) := by decide +kernel
theorem dX6_copy_11 : decode cX6_copy 11 = .ok (.bipush 8, 2) := by decide +kernel
theorem dX6_copy_13 : decode cX6_copy 13 = .ok (.if_icmp .ge 21, 3) := by decide +kernel
theorem dX6_copy_16 : decode cX6_copy 16 = .ok (.aload_n 0, 1) := by decide +kernel
theorem dX6_copy_17 : decode cX6_copy 17 = .ok (.getfield 15, 3) := by decide +kernel
theorem dX6_copy_20 : decode cX6_copy 20 = .ok (.iload_n 2, 1) := by decide +kernel
theorem dX6_copy_21 : decode cX6_copy 21 = .ok (.aload_n 1, 1) := by decide +kernel
theorem dX6_copy_22 : decode cX6_copy 22 = .ok (.getfield 15, 3) := by decide +kernel
theorem dX6_copy_25 : decode cX6_copy 25 = .ok (.iload_n 2, 1) := by decide +kernel
theorem dX6_copy_26 : decode cX6_copy 26 = .ok (.iaload, 1) := by decide +kernel
theorem dX6_copy_27 : decode cX6_copy 27 = .ok (.iastore, 1) := by decide +kernel
theorem dX6_copy_28 : decode cX6_copy 28 = .ok (.iinc 2 1, 3) := by decide +kernel
theorem dX6_copy_31 : decode cX6_copy 31 = .ok (.goto (-21), 3) := by decide +kernel
theorem dX6_copy_34 : decode cX6_copy 34 = .ok (.return_, 1) := by decide +kernel
theorem dX6_letter_0 : decode cX6_letter 0 = .ok (.iload_n 1, 1) := by decide +kernel
theorem dX6_letter_1 : decode cX6_letter 1 = .ok (.ifCond .lt 18, 3) := by decide +kernel
theorem dX6_letter_4 : decode cX6_letter 4 = .ok (.iload_n 1, 1) := by decide +kernel
theorem dX6_letter_5 : decode cX6_letter 5 = .ok (.bipush 8, 2) := by decide +kernel
theorem dX6_letter_7 : decode cX6_letter 7 = .ok (.if_icmp .ge 12, 3) := by decide +kernel
theorem dX6_letter_10 : decode cX6_letter 10 = .ok (.aload_n 0, 1) := by decide +kernel
theorem dX6_letter_11 : decode cX6_letter 11 = .ok (.getfield 15, 3) := by decide +kernel
theorem dX6_letter_14 : decode cX6_letter 14 = .ok (.iload_n 1, 1) := by decide +kernel
theorem dX6_letter_15 : decode cX6_letter 15 = .ok (.iaload, 1) := by decide +kernel
theorem dX6_letter_16 : decode cX6_letter 16 = .ok (.goto 4, 3) := by decide +kernel
theorem dX6_letter_19 : decode cX6_letter 19 = .ok (.iconst 0, 1) := by decide +kernel
theorem dX6_letter_20 : decode cX6_letter 20 = .ok (.ireturn, 1) := by decide +kernel
theorem dX6_put_0 : decode cX6_put 0 = .ok (.iload_n 1, 1) := by decide +kernel
theorem dX6_put_1 : decode cX6_put 1 = .ok (.ifCond .lt 16, 3) := by decide +kernel
theorem dX6_put_4 : decode cX6_put 4 = .ok (.iload_n 1, 1) := by decide +kernel
theorem dX6_put_5 : decode cX6_put 5 = .ok (.bipush 8, 2) := by decide +kernel
theorem dX6_put_7 : decode cX6_put 7 = .ok (.if_icmp .ge 10, 3) := by decide +kernel
theorem dX6_put_10 : decode cX6_put 10 = .ok (.aload_n 0, 1) := by decide +kernel
theorem dX6_put_11 : decode cX6_put 11 = .ok (.getfield 15, 3) := by decide +kernel
theorem dX6_put_14 : decode cX6_put 14 = .ok (.iload_n 1, 1) := by decide +kernel
theorem dX6_put_15 : decode cX6_put 15 = .ok (.iload_n 2, 1) := by decide +kernel
theorem dX6_put_16 : decode cX6_put 16 = .ok (.iastore, 1) := by decide +kernel
theorem dX6_put_17 : decode cX6_put 17 = .ok (.return_, 1) := by decide +kernel
theorem dX6_key_0 : decode cX6_key 0 = .ok (.iconst 0, 1) := by decide +kernel
theorem dX6_key_1 : decode cX6_key 1 = .ok (.istore_n 2, 1) := by decide +kernel
theorem dX6_key_2 : decode cX6_key 2 = .ok (.iconst 0, 1) := by decide +kernel
theorem dX6_key_3 : decode cX6_key 3 = .ok (.istore_n 3, 1) := by decide +kernel
theorem dX6_key_4 : decode cX6_key 4 = .ok (.iload_n 3, 1) := by decide +kernel
theorem dX6_key_5 : decode cX6_key 5 = .ok (.aload_n 0, 1) := by decide +kernel
theorem dX6_key_6 : decode cX6_key 6 = .ok (.getfield 9, 3) := by decide +kernel
theorem dX6_key_9 : decode cX6_key 9 = .ok (.if_icmp .ge 19, 3) := by decide +kernel
theorem dX6_key_12 : decode cX6_key 12 = .ok (.iload_n 2, 1) := by decide +kernel
theorem dX6_key_13 : decode cX6_key 13 = .ok (.iload_n 1, 1) := by decide +kernel
theorem dX6_key_14 : decode cX6_key 14 = .ok (.imul, 1) := by decide +kernel
theorem dX6_key_15 : decode cX6_key 15 = .ok (.aload_n 0, 1) := by decide +kernel
theorem dX6_key_16 : decode cX6_key 16 = .ok (.iload_n 3, 1) := by decide +kernel
theorem dX6_key_17 : decode cX6_key 17 = .ok (.invokevirtual 19, 3) := by decide +kernel
theorem dX6_key_20 : decode cX6_key 20 = .ok (.iadd, 1) := by decide +kernel
theorem dX6_key_21 : decode cX6_key 21 = .ok (.istore_n 2, 1) := by decide +kernel
theorem dX6_key_22 : decode cX6_key 22 = .ok (.iinc 3 1, 3) := by decide +kernel
theorem dX6_key_25 : decode cX6_key 25 = .ok (.goto (-21), 3) := by decide +kernel
theorem dX6_key_28 : decode cX6_key 28 = .ok (.iload_n 2, 1) := by decide +kernel
theorem dX6_key_29 : decode cX6_key 29 = .ok (.ireturn, 1) := by decide +kernel
theorem dX6_set_0 : decode cX6_set 0 = .ok (.iconst 1, 1) := by decide +kernel
theorem dX6_set_1 : decode cX6_set 1 = .ok (.iload_n 3, 1) := by decide +kernel
theorem dX6_set_2 : decode cX6_set 2 = .ok (.invokestatic 23, 3) := by decide +kernel
theorem dX6_set_5 : decode cX6_set 5 = .ok (.istore 4, 2) := by decide +kernel
theorem dX6_set_7 : decode cX6_set 7 = .ok (.iload_n 2, 1) := by decide +kernel
theorem dX6_set_8 : decode cX6_set 8 = .ok (.istore 5, 2) := by decide +kernel
theorem dX6_set_10 : decode cX6_set 10 = .ok (.aload_n 0, 1) := by decide +kernel
theorem dX6_set_11 : decode cX6_set 11 = .ok (.iload_n 1, 1) := by decide +kernel
theorem dX6_set_12 : decode cX6_set 12 = .ok (.putfield 9, 3) := by decide +kernel
theorem dX6_set_15 : decode cX6_set 15 = .ok (.iload_n 1, 1) := by decide +kernel
theorem dX6_set_16 : decode cX6_set 16 = .ok (.iconst 1, 1) := by decide +kernel
theorem dX6_set_17 : decode cX6_set 17 = .ok (.isub, 1) := by decide +kernel
theorem dX6_set_18 : decode cX6_set 18 = .ok (.istore 6, 2) := by decide +kernel
theorem dX6_set_20 : decode cX6_set 20 = .ok (.iload 6, 2) := by decide +kernel
theorem dX6_set_22 : decode cX6_set 22 = .ok (.ifCond .lt 27, 3) := by decide +kernel
theorem dX6_set_25 : decode cX6_set 25 = .ok (.aload_n 0, 1) := by decide +kernel
theorem dX6_set_26 : decode cX6_set 26 = .ok (.iload 6, 2) := by decide +kernel
theorem dX6_set_28 : decode cX6_set 28 = .ok (.iload 5, 2) := by decide +kernel
theorem dX6_set_30 : decode cX6_set 30 = .ok (.iload 4, 2) := by decide +kernel
theorem dX6_set_32 : decode cX6_set 32 = .ok (.irem, 1) := by decide +kernel
theorem dX6_set_33 : decode cX6_set 33 = .ok (.invokevirtual 29, 3) := by decide +kernel
theorem dX6_set_36 : decode cX6_set 36 = .ok (.iload 5, 2) := by decide +kernel
theorem dX6_set_38 : decode cX6_set 38 = .ok (.iload 4, 2) := by decide +kernel
theorem dX6_set_40 : decode cX6_set 40 = .ok (.idiv, 1) := by decide +kernel
theorem dX6_set_41 : decode cX6_set 41 = .ok (.istore 5, 2) := by decide +kernel
theorem dX6_set_43 : decode cX6_set 43 = .ok (.iinc 6 (-1), 3) := by decide +kernel
theorem dX6_set_46 : decode cX6_set 46 = .ok (.goto (-26), 3) := by decide +kernel
theorem dX6_set_49 : decode cX6_set 49 = .ok (.return_, 1) := by decide +kernel
theorem dX7_init_0 : decode cX7_init 0 = .ok (.aload_n 0, 1) := by decide +kernel
theorem dX7_init_1 : decode cX7_init 1 = .ok (.invokespecial 3, 3) := by decide +kernel
theorem dX7_init_4 : decode cX7_init 4 = .ok (.aload_n 0, 1) := by decide +kernel
theorem dX7_init_5 : decode cX7_init 5 = .ok (.aload_n 1, 1) := by decide +kernel
theorem dX7_init_6 : decode cX7_init 6 = .ok (.putfield 9, 3) := by decide +kernel
theorem dX7_init_9 : decode cX7_init 9 = .ok (.aload_n 0, 1) := by decide +kernel
theorem dX7_init_10 : decode cX7_init 10 = .ok (.aload_n 2, 1) := by decide +kernel
theorem dX7_init_11 : decode cX7_init 11 = .ok (.putfield 15, 3) := by decide +kernel
theorem dX7_init_14 : decode cX7_init 14 = .ok (.aload_n 0, 1) := by decide +kernel
theorem dX7_init_15 : decode cX7_init 15 = .ok (.sipush 10930, 3) := by decide +kernel
theorem dX7_init_18 : decode cX7_init 18 = .ok (.newarray .long, 2) := by decide +kernel
theorem dX7_init_20 : decode cX7_init 20 = .ok (.putfield 19, 3) := by decide +kernel
theorem dX7_init_23 : decode cX7_init 23 = .ok (.aload_n 0, 1) := by decide +kernel
theorem dX7_init_24 : decode cX7_init 24 = .ok (.iconst 0, 1) := by decide +kernel
theorem dX7_init_25 : decode cX7_init 25 = .ok (.putfield 23, 3) := by decide +kernel
theorem dX7_init_28 : decode cX7_init 28 = .ok (.iconst 0, 1) := by decide +kernel
theorem dX7_init_29 : decode cX7_init 29 = .ok (.istore_n 3, 1) := by decide +kernel
theorem dX7_init_30 : decode cX7_init 30 = .ok (.iload_n 3, 1) := by decide +kernel
theorem dX7_init_31 : decode cX7_init 31 = .ok (.iconst 3, 1) := by decide +kernel
theorem dX7_init_32 : decode cX7_init 32 = .ok (.if_icmp .ge 31, 3) := by decide +kernel
theorem dX7_init_35 : decode cX7_init 35 = .ok (.aload_n 0, 1) := by decide +kernel
theorem dX7_init_36 : decode cX7_init 36 = .ok (.getfield 19, 3) := by decide +kernel
theorem dX7_init_39 : decode cX7_init 39 = .ok (.bipush 6, 2) := by decide +kernel
theorem dX7_init_41 : decode cX7_init 41 = .ok (.iload_n 3, 1) := by decide +kernel
theorem dX7_init_42 : decode cX7_init 42 = .ok (.iadd, 1) := by decide +kernel
theorem dX7_init_43 : decode cX7_init 43 = .ok (.sipush 1093, 3) := by decide +kernel
theorem dX7_init_46 : decode cX7_init 46 = .ok (.imul, 1) := by decide +kernel
theorem dX7_init_47 : decode cX7_init 47 = .ok (.getstatic 27, 3) := by decide +kernel
theorem dX7_init_50 : decode cX7_init 50 = .ok (.iconst 1, 1) := by decide +kernel
theorem dX7_init_51 : decode cX7_init 51 = .ok (.iaload, 1) := by decide +kernel
theorem dX7_init_52 : decode cX7_init 52 = .ok (.iadd, 1) := by decide +kernel
theorem dX7_init_53 : decode cX7_init 53 = .ok (.iload_n 3, 1) := by decide +kernel
theorem dX7_init_54 : decode cX7_init 54 = .ok (.iadd, 1) := by decide +kernel
theorem dX7_init_55 : decode cX7_init 55 = .ok (.lconst 1, 1) := by decide +kernel
theorem dX7_init_56 : decode cX7_init 56 = .ok (.lastore, 1) := by decide +kernel
theorem dX7_init_57 : decode cX7_init 57 = .ok (.iinc 3 1, 3) := by decide +kernel
theorem dX7_init_60 : decode cX7_init 60 = .ok (.goto (-30), 3) := by decide +kernel
theorem dX7_init_63 : decode cX7_init 63 = .ok (.aload_n 0, 1) := by decide +kernel
theorem dX7_init_64 : decode cX7_init 64 = .ok (.getfield 19, 3) := by decide +kernel
theorem dX7_init_67 : decode cX7_init 67 = .ok (.sipush 9837, 3) := by decide +kernel
theorem dX7_init_70 : decode cX7_init 70 = .ok (.lconst 1, 1) := by decide +kernel
theorem dX7_init_71 : decode cX7_init 71 = .ok (.lastore, 1) := by decide +kernel
theorem dX7_init_72 : decode cX7_init 72 = .ok (.return_, 1) := by decide +kernel
theorem dX7_forget_0 : decode cX7_forget 0 = .ok (.aload_n 0, 1) := by decide +kernel
theorem dX7_forget_1 : decode cX7_forget 1 = .ok (.iconst 0, 1) := by decide +kernel
theorem dX7_forget_2 : decode cX7_forget 2 = .ok (.putfield 23, 3) := by decide +kernel
theorem dX7_forget_5 : decode cX7_forget 5 = .ok (.return_, 1) := by decide +kernel
theorem dX7_fill_0 : decode cX7_fill 0 = .ok (.aload_n 0, 1) := by decide +kernel
theorem dX7_fill_1 : decode cX7_fill 1 = .ok (.getfield 23, 3) := by decide +kernel
theorem dX7_fill_4 : decode cX7_fill 4 = .ok (.iconst 1, 1) := by decide +kernel
theorem dX7_fill_5 : decode cX7_fill 5 = .ok (.iadd, 1) := by decide +kernel
theorem dX7_fill_6 : decode cX7_fill 6 = .ok (.istore_n 2, 1) := by decide +kernel
theorem dX7_fill_7 : decode cX7_fill 7 = .ok (.iload_n 2, 1) := by decide +kernel
theorem dX7_fill_8 : decode cX7_fill 8 = .ok (.iload_n 1, 1) := by decide +kernel
theorem dX7_fill_9 : decode cX7_fill 9 = .ok (.if_icmp .gt 115, 3) := by decide +kernel
theorem dX7_fill_12 : decode cX7_fill 12 = .ok (.iconst 0, 1) := by decide +kernel
theorem dX7_fill_13 : decode cX7_fill 13 = .ok (.istore_n 3, 1) := by decide +kernel
theorem dX7_fill_14 : decode cX7_fill 14 = .ok (.iload_n 3, 1) := by decide +kernel
theorem dX7_fill_15 : decode cX7_fill 15 = .ok (.aload_n 0, 1) := by decide +kernel
theorem dX7_fill_16 : decode cX7_fill 16 = .ok (.getfield 9, 3) := by decide +kernel
theorem dX7_fill_19 : decode cX7_fill 19 = .ok (.getfield 31, 3) := by decide +kernel
theorem dX7_fill_22 : decode cX7_fill 22 = .ok (.if_icmp .ge 15, 3) := by decide +kernel
theorem dX7_fill_25 : decode cX7_fill 25 = .ok (.aload_n 0, 1) := by decide +kernel
theorem dX7_fill_26 : decode cX7_fill 26 = .ok (.iload_n 3, 1) := by decide +kernel
theorem dX7_fill_27 : decode cX7_fill 27 = .ok (.iload_n 2, 1) := by decide +kernel
theorem dX7_fill_28 : decode cX7_fill 28 = .ok (.invokevirtual 36, 3) := by decide +kernel
theorem dX7_fill_31 : decode cX7_fill 31 = .ok (.iinc 3 1, 3) := by decide +kernel
theorem dX7_fill_34 : decode cX7_fill 34 = .ok (.goto (-20), 3) := by decide +kernel
theorem dX7_fill_37 : decode cX7_fill 37 = .ok (.iconst 0, 1) := by decide +kernel
theorem dX7_fill_38 : decode cX7_fill 38 = .ok (.istore_n 3, 1) := by decide +kernel
theorem dX7_fill_39 : decode cX7_fill 39 = .ok (.iload_n 3, 1) := by decide +kernel
theorem dX7_fill_40 : decode cX7_fill 40 = .ok (.aload_n 0, 1) := by decide +kernel
theorem dX7_fill_41 : decode cX7_fill 41 = .ok (.getfield 9, 3) := by decide +kernel
theorem dX7_fill_44 : decode cX7_fill 44 = .ok (.getfield 40, 3) := by decide +kernel
theorem dX7_fill_47 : decode cX7_fill 47 = .ok (.if_icmp .ge 71, 3) := by decide +kernel
theorem dX7_fill_50 : decode cX7_fill 50 = .ok (.iconst 1, 1) := by decide +kernel
theorem dX7_fill_51 : decode cX7_fill 51 = .ok (.istore 4, 2) := by decide +kernel
theorem dX7_fill_53 : decode cX7_fill 53 = .ok (.iload 4, 2) := by decide +kernel
theorem dX7_fill_55 : decode cX7_fill 55 = .ok (.iload_n 2, 1) := by decide +kernel
theorem dX7_fill_56 : decode cX7_fill 56 = .ok (.if_icmp .gt 56, 3) := by decide +kernel
theorem dX7_fill_59 : decode cX7_fill 59 = .ok (.iconst 0, 1) := by decide +kernel
theorem dX7_fill_60 : decode cX7_fill 60 = .ok (.istore 5, 2) := by decide +kernel
theorem dX7_fill_62 : decode cX7_fill 62 = .ok (.iload 5, 2) := by decide +kernel
theorem dX7_fill_64 : decode cX7_fill 64 = .ok (.iload_n 2, 1) := by decide +kernel
theorem dX7_fill_65 : decode cX7_fill 65 = .ok (.iload 4, 2) := by decide +kernel
theorem dX7_fill_67 : decode cX7_fill 67 = .ok (.isub, 1) := by decide +kernel
theorem dX7_fill_68 : decode cX7_fill 68 = .ok (.if_icmp .gt 38, 3) := by decide +kernel
theorem dX7_fill_71 : decode cX7_fill 71 = .ok (.aload_n 0, 1) := by decide +kernel
theorem dX7_fill_72 : decode cX7_fill 72 = .ok (.getfield 15, 3) := by decide +kernel
theorem dX7_fill_75 : decode cX7_fill 75 = .ok (.iload_n 3, 1) := by decide +kernel
theorem dX7_fill_76 : decode cX7_fill 76 = .ok (.iload_n 2, 1) := by decide +kernel
theorem dX7_fill_77 : decode cX7_fill 77 = .ok (.iconst 0, 1) := by decide +kernel
theorem dX7_fill_78 : decode cX7_fill 78 = .ok (.iload 4, 2) := by decide +kernel
theorem dX7_fill_80 : decode cX7_fill 80 = .ok (.iload 5, 2) := by decide +kernel
theorem dX7_fill_82 : decode cX7_fill 82 = .ok (.invokevirtual 43, 3) := by decide +kernel
theorem dX7_fill_85 : decode cX7_fill 85 = .ok (.lconst 0, 1) := by decide +kernel
theorem dX7_fill_86 : decode cX7_fill 86 = .ok (.lcmp, 1) := by decide +kernel
theorem dX7_fill_87 : decode cX7_fill 87 = .ok (.ifCond .eq 13, 3) := by decide +kernel
theorem dX7_fill_90 : decode cX7_fill 90 = .ok (.aload_n 0, 1) := by decide +kernel
theorem dX7_fill_91 : decode cX7_fill 91 = .ok (.iload_n 3, 1) := by decide +kernel
theorem dX7_fill_92 : decode cX7_fill 92 = .ok (.iload_n 2, 1) := by decide +kernel
theorem dX7_fill_93 : decode cX7_fill 93 = .ok (.iload 4, 2) := by decide +kernel
theorem dX7_fill_95 : decode cX7_fill 95 = .ok (.iload 5, 2) := by decide +kernel
theorem dX7_fill_97 : decode cX7_fill 97 = .ok (.invokevirtual 49, 3) := by decide +kernel
theorem dX7_fill_100 : decode cX7_fill 100 = .ok (.iinc 5 1, 3) := by decide +kernel
theorem dX7_fill_103 : decode cX7_fill 103 = .ok (.goto (-41), 3) := by decide +kernel
theorem dX7_fill_106 : decode cX7_fill 106 = .ok (.iinc 4 1, 3) := by decide +kernel
theorem dX7_fill_109 : decode cX7_fill 109 = .ok (.goto (-56), 3) := by decide +kernel
theorem dX7_fill_112 : decode cX7_fill 112 = .ok (.iinc 3 1, 3) := by decide +kernel
theorem dX7_fill_115 : decode cX7_fill 115 = .ok (.goto (-76), 3) := by decide +kernel
theorem dX7_fill_118 : decode cX7_fill 118 = .ok (.iinc 2 1, 3) := by decide +kernel
theorem dX7_fill_121 : decode cX7_fill 121 = .ok (.goto (-114), 3) := by decide +kernel
theorem dX7_fill_124 : decode cX7_fill 124 = .ok (.aload_n 0, 1) := by decide +kernel
theorem dX7_fill_125 : decode cX7_fill 125 = .ok (.aload_n 0, 1) := by decide +kernel
theorem dX7_fill_126 : decode cX7_fill 126 = .ok (.getfield 23, 3) := by decide +kernel
theorem dX7_fill_129 : decode cX7_fill 129 = .ok (.iload_n 1, 1) := by decide +kernel
theorem dX7_fill_130 : decode cX7_fill 130 = .ok (.invokestatic 53, 3) := by decide +kernel
theorem dX7_fill_133 : decode cX7_fill 133 = .ok (.putfield 23, 3) := by decide +kernel
theorem dX7_fill_136 : decode cX7_fill 136 = .ok (.return_, 1) := by decide +kernel
theorem dX7_begin_0 : decode cX7_begin 0 = .ok (.iload_n 1, 1) := by decide +kernel
theorem dX7_begin_1 : decode cX7_begin 1 = .ok (.istore_n 3, 1) := by decide +kernel
theorem dX7_begin_2 : decode cX7_begin 2 = .ok (.iload_n 1, 1) := by decide +kernel
theorem dX7_begin_3 : decode cX7_begin 3 = .ok (.iconst (-1), 1) := by decide +kernel
theorem dX7_begin_4 : decode cX7_begin 4 = .ok (.if_icmp .ne 9, 3) := by decide +kernel
theorem dX7_begin_7 : decode cX7_begin 7 = .ok (.bipush 9, 2) := by decide +kernel
theorem dX7_begin_9 : decode cX7_begin 9 = .ok (.istore_n 3, 1) := by decide +kernel
theorem dX7_begin_10 : decode cX7_begin 10 = .ok (.goto 17, 3) := by decide +kernel
theorem dX7_begin_13 : decode cX7_begin 13 = .ok (.iload_n 1, 1) := by decide +kernel
theorem dX7_begin_14 : decode cX7_begin 14 = .ok (.bipush 10, 2) := by decide +kernel
theorem dX7_begin_16 : decode cX7_begin 16 = .ok (.if_icmp .lt 11, 3) := by decide +kernel
theorem dX7_begin_19 : decode cX7_begin 19 = .ok (.bipush 6, 2) := by decide +kernel
theorem dX7_begin_21 : decode cX7_begin 21 = .ok (.iload_n 1, 1) := by decide +kernel
theorem dX7_begin_22 : decode cX7_begin 22 = .ok (.iadd, 1) := by decide +kernel
theorem dX7_begin_23 : decode cX7_begin 23 = .ok (.bipush 10, 2) := by decide +kernel
theorem dX7_begin_25 : decode cX7_begin 25 = .ok (.isub, 1) := by decide +kernel
theorem dX7_begin_26 : decode cX7_begin 26 = .ok (.istore_n 3, 1) := by decide +kernel
theorem dX7_begin_27 : decode cX7_begin 27 = .ok (.iload_n 3, 1) := by decide +kernel
theorem dX7_begin_28 : decode cX7_begin 28 = .ok (.ifCond .lt 19, 3) := by decide +kernel
theorem dX7_begin_31 : decode cX7_begin 31 = .ok (.iload_n 3, 1) := by decide +kernel
theorem dX7_begin_32 : decode cX7_begin 32 = .ok (.bipush 10, 2) := by decide +kernel
theorem dX7_begin_34 : decode cX7_begin 34 = .ok (.if_icmp .ge 13, 3) := by decide +kernel
theorem dX7_begin_37 : decode cX7_begin 37 = .ok (.iload_n 2, 1) := by decide +kernel
theorem dX7_begin_38 : decode cX7_begin 38 = .ok (.ifCond .lt 9, 3) := by decide +kernel
theorem dX7_begin_41 : decode cX7_begin 41 = .ok (.iload_n 2, 1) := by decide +kernel
theorem dX7_begin_42 : decode cX7_begin 42 = .ok (.bipush 6, 2) := by decide +kernel
theorem dX7_begin_44 : decode cX7_begin 44 = .ok (.if_icmp .le 5, 3) := by decide +kernel
theorem dX7_begin_47 : decode cX7_begin 47 = .ok (.iconst (-1), 1) := by decide +kernel
theorem dX7_begin_48 : decode cX7_begin 48 = .ok (.ireturn, 1) := by decide +kernel
theorem dX7_begin_49 : decode cX7_begin 49 = .ok (.iload_n 3, 1) := by decide +kernel
theorem dX7_begin_50 : decode cX7_begin 50 = .ok (.sipush 1093, 3) := by decide +kernel
theorem dX7_begin_53 : decode cX7_begin 53 = .ok (.imul, 1) := by decide +kernel
theorem dX7_begin_54 : decode cX7_begin 54 = .ok (.getstatic 27, 3) := by decide +kernel
theorem dX7_begin_57 : decode cX7_begin 57 = .ok (.iload_n 2, 1) := by decide +kernel
theorem dX7_begin_58 : decode cX7_begin 58 = .ok (.iaload, 1) := by decide +kernel
theorem dX7_begin_59 : decode cX7_begin 59 = .ok (.iadd, 1) := by decide +kernel
theorem dX7_begin_60 : decode cX7_begin 60 = .ok (.ireturn, 1) := by decide +kernel
theorem dX7_ofLength_0 : decode cX7_ofLength 0 = .ok (.aload_n 0, 1) := by decide +kernel
theorem dX7_ofLength_1 : decode cX7_ofLength 1 = .ok (.getfield 9, 3) := by decide +kernel
theorem dX7_ofLength_4 : decode cX7_ofLength 4 = .ok (.getfield 59, 3) := by decide +kernel
theorem dX7_ofLength_7 : decode cX7_ofLength 7 = .ok (.iconst 1, 1) := by decide +kernel
theorem dX7_ofLength_8 : decode cX7_ofLength 8 = .ok (.isub, 1) := by decide +kernel
theorem dX7_ofLength_9 : decode cX7_ofLength 9 = .ok (.bipush 7, 2) := by decide +kernel
theorem dX7_ofLength_11 : decode cX7_ofLength 11 = .ok (.imul, 1) := by decide +kernel
theorem dX7_ofLength_12 : decode cX7_ofLength 12 = .ok (.iload_n 1, 1) := by decide +kernel
theorem dX7_ofLength_13 : decode cX7_ofLength 13 = .ok (.iadd, 1) := by decide +kernel
theorem dX7_ofLength_14 : decode cX7_ofLength 14 = .ok (.istore_n 2, 1) := by decide +kernel
theorem dX7_ofLength_15 : decode cX7_ofLength 15 = .ok (.iload_n 1, 1) := by decide +kernel
theorem dX7_ofLength_16 : decode cX7_ofLength 16 = .ok (.ifCond .lt 21, 3) := by decide +kernel
theorem dX7_ofLength_19 : decode cX7_ofLength 19 = .ok (.iload_n 1, 1) := by decide +kernel
theorem dX7_ofLength_20 : decode cX7_ofLength 20 = .ok (.bipush 6, 2) := by decide +kernel
theorem dX7_ofLength_22 : decode cX7_ofLength 22 = .ok (.if_icmp .gt 15, 3) := by decide +kernel
theorem dX7_ofLength_25 : decode cX7_ofLength 25 = .ok (.iload_n 2, 1) := by decide +kernel
theorem dX7_ofLength_26 : decode cX7_ofLength 26 = .ok (.ifCond .lt 11, 3) := by decide +kernel
theorem dX7_ofLength_29 : decode cX7_ofLength 29 = .ok (.iload_n 2, 1) := by decide +kernel
theorem dX7_ofLength_30 : decode cX7_ofLength 30 = .ok (.getstatic 62, 3) := by decide +kernel
theorem dX7_ofLength_33 : decode cX7_ofLength 33 = .ok (.arraylength, 1) := by decide +kernel
theorem dX7_ofLength_34 : decode cX7_ofLength 34 = .ok (.if_icmp .lt 5, 3) := by decide +kernel
theorem dX7_ofLength_37 : decode cX7_ofLength 37 = .ok (.iconst 0, 1) := by decide +kernel
theorem dX7_ofLength_38 : decode cX7_ofLength 38 = .ok (.ireturn, 1) := by decide +kernel
theorem dX7_ofLength_39 : decode cX7_ofLength 39 = .ok (.getstatic 62, 3) := by decide +kernel
theorem dX7_ofLength_42 : decode cX7_ofLength 42 = .ok (.iload_n 2, 1) := by decide +kernel
theorem dX7_ofLength_43 : decode cX7_ofLength 43 = .ok (.iaload, 1) := by decide +kernel
theorem dX7_ofLength_44 : decode cX7_ofLength 44 = .ok (.ireturn, 1) := by decide +kernel
theorem dX7_clear_0 : decode cX7_clear 0 = .ok (.aload_n 0, 1) := by decide +kernel
theorem dX7_clear_1 : decode cX7_clear 1 = .ok (.iload_n 1, 1) := by decide +kernel
theorem dX7_clear_2 : decode cX7_clear 2 = .ok (.iload_n 2, 1) := by decide +kernel
theorem dX7_clear_3 : decode cX7_clear 3 = .ok (.invokevirtual 65, 3) := by decide +kernel
theorem dX7_clear_6 : decode cX7_clear 6 = .ok (.istore_n 3, 1) := by decide +kernel
theorem dX7_clear_7 : decode cX7_clear 7 = .ok (.iload_n 3, 1) := by decide +kernel
theorem dX7_clear_8 : decode cX7_clear 8 = .ok (.ifCond .ge 4, 3) := by decide +kernel
theorem dX7_clear_11 : decode cX7_clear 11 = .ok (.return_, 1) := by decide +kernel
theorem dX7_clear_12 : decode cX7_clear 12 = .ok (.iload_n 3, 1) := by decide +kernel
theorem dX7_clear_13 : decode cX7_clear 13 = .ok (.aload_n 0, 1) := by decide +kernel
theorem dX7_clear_14 : decode cX7_clear 14 = .ok (.iload_n 2, 1) := by decide +kernel
theorem dX7_clear_15 : decode cX7_clear 15 = .ok (.invokevirtual 68, 3) := by decide +kernel
theorem dX7_clear_18 : decode cX7_clear 18 = .ok (.iadd, 1) := by decide +kernel
theorem dX7_clear_19 : decode cX7_clear 19 = .ok (.istore 4, 2) := by decide +kernel
theorem dX7_clear_21 : decode cX7_clear 21 = .ok (.iload_n 3, 1) := by decide +kernel
theorem dX7_clear_22 : decode cX7_clear 22 = .ok (.istore 5, 2) := by decide +kernel
theorem dX7_clear_24 : decode cX7_clear 24 = .ok (.iload 5, 2) := by decide +kernel
theorem dX7_clear_26 : decode cX7_clear 26 = .ok (.iload 4, 2) := by decide +kernel
theorem dX7_clear_28 : decode cX7_clear 28 = .ok (.if_icmp .ge 27, 3) := by decide +kernel
theorem dX7_clear_31 : decode cX7_clear 31 = .ok (.iload 5, 2) := by decide +kernel
theorem dX7_clear_33 : decode cX7_clear 33 = .ok (.aload_n 0, 1) := by decide +kernel
theorem dX7_clear_34 : decode cX7_clear 34 = .ok (.getfield 19, 3) := by decide +kernel
theorem dX7_clear_37 : decode cX7_clear 37 = .ok (.arraylength, 1) := by decide +kernel
theorem dX7_clear_38 : decode cX7_clear 38 = .ok (.if_icmp .ge 17, 3) := by decide +kernel
theorem dX7_clear_41 : decode cX7_clear 41 = .ok (.aload_n 0, 1) := by decide +kernel
theorem dX7_clear_42 : decode cX7_clear 42 = .ok (.getfield 19, 3) := by decide +kernel
theorem dX7_clear_45 : decode cX7_clear 45 = .ok (.iload 5, 2) := by decide +kernel
theorem dX7_clear_47 : decode cX7_clear 47 = .ok (.lconst 0, 1) := by decide +kernel
theorem dX7_clear_48 : decode cX7_clear 48 = .ok (.lastore, 1) := by decide +kernel
theorem dX7_clear_49 : decode cX7_clear 49 = .ok (.iinc 5 1, 3) := by decide +kernel
theorem dX7_clear_52 : decode cX7_clear 52 = .ok (.goto (-28), 3) := by decide +kernel
theorem dX7_clear_55 : decode cX7_clear 55 = .ok (.return_, 1) := by decide +kernel
theorem dX7_addWords_0 : decode cX7_addWords 0 = .ok (.iload_n 2, 1) := by decide +kernel
theorem dX7_addWords_1 : decode cX7_addWords 1 = .ok (.iload_n 3, 1) := by decide +kernel
theorem dX7_addWords_2 : decode cX7_addWords 2 = .ok (.isub, 1) := by decide +kernel
theorem dX7_addWords_3 : decode cX7_addWords 3 = .ok (.iload 4, 2) := by decide +kernel
theorem dX7_addWords_5 : decode cX7_addWords 5 = .ok (.isub, 1) := by decide +kernel
theorem dX7_addWords_6 : decode cX7_addWords 6 = .ok (.istore 5, 2) := by decide +kernel
theorem dX7_addWords_8 : decode cX7_addWords 8 = .ok (.aload_n 0, 1) := by decide +kernel
theorem dX7_addWords_9 : decode cX7_addWords 9 = .ok (.aload_n 0, 1) := by decide +kernel
theorem dX7_addWords_10 : decode cX7_addWords 10 = .ok (.getfield 9, 3) := by decide +kernel
theorem dX7_addWords_13 : decode cX7_addWords 13 = .ok (.iload_n 1, 1) := by decide +kernel
theorem dX7_addWords_14 : decode cX7_addWords 14 = .ok (.iconst 0, 1) := by decide +kernel
theorem dX7_addWords_15 : decode cX7_addWords 15 = .ok (.invokevirtual 72, 3) := by decide +kernel
theorem dX7_addWords_18 : decode cX7_addWords 18 = .ok (.iload_n 2, 1) := by decide +kernel
theorem dX7_addWords_19 : decode cX7_addWords 19 = .ok (.invokevirtual 65, 3) := by decide +kernel
theorem dX7_addWords_22 : decode cX7_addWords 22 = .ok (.istore 6, 2) := by decide +kernel
theorem dX7_addWords_24 : decode cX7_addWords 24 = .ok (.aload_n 0, 1) := by decide +kernel
theorem dX7_addWords_25 : decode cX7_addWords 25 = .ok (.aload_n 0, 1) := by decide +kernel
theorem dX7_addWords_26 : decode cX7_addWords 26 = .ok (.getfield 9, 3) := by decide +kernel
theorem dX7_addWords_29 : decode cX7_addWords 29 = .ok (.iload_n 1, 1) := by decide +kernel
theorem dX7_addWords_30 : decode cX7_addWords 30 = .ok (.iconst 1, 1) := by decide +kernel
theorem dX7_addWords_31 : decode cX7_addWords 31 = .ok (.invokevirtual 72, 3) := by decide +kernel
theorem dX7_addWords_34 : decode cX7_addWords 34 = .ok (.iload_n 3, 1) := by decide +kernel
theorem dX7_addWords_35 : decode cX7_addWords 35 = .ok (.invokevirtual 65, 3) := by decide +kernel
theorem dX7_addWords_38 : decode cX7_addWords 38 = .ok (.istore 7, 2) := by decide +kernel
theorem dX7_addWords_40 : decode cX7_addWords 40 = .ok (.aload_n 0, 1) := by decide +kernel
theorem dX7_addWords_41 : decode cX7_addWords 41 = .ok (.aload_n 0, 1) := by decide +kernel
theorem dX7_addWords_42 : decode cX7_addWords 42 = .ok (.getfield 9, 3) := by decide +kernel
theorem dX7_addWords_45 : decode cX7_addWords 45 = .ok (.iload_n 1, 1) := by decide +kernel
theorem dX7_addWords_46 : decode cX7_addWords 46 = .ok (.iconst 2, 1) := by decide +kernel
theorem dX7_addWords_47 : decode cX7_addWords 47 = .ok (.invokevirtual 72, 3) := by decide +kernel
theorem dX7_addWords_50 : decode cX7_addWords 50 = .ok (.iload 4, 2) := by decide +kernel
theorem dX7_addWords_52 : decode cX7_addWords 52 = .ok (.invokevirtual 65, 3) := by decide +kernel
theorem dX7_addWords_55 : decode cX7_addWords 55 = .ok (.istore 8, 2) := by decide +kernel
theorem dX7_addWords_57 : decode cX7_addWords 57 = .ok (.aload_n 0, 1) := by decide +kernel
theorem dX7_addWords_58 : decode cX7_addWords 58 = .ok (.aload_n 0, 1) := by decide +kernel
theorem dX7_addWords_59 : decode cX7_addWords 59 = .ok (.getfield 9, 3) := by decide +kernel
theorem dX7_addWords_62 : decode cX7_addWords 62 = .ok (.iload_n 1, 1) := by decide +kernel
theorem dX7_addWords_63 : decode cX7_addWords 63 = .ok (.iconst 3, 1) := by decide +kernel
theorem dX7_addWords_64 : decode cX7_addWords 64 = .ok (.invokevirtual 72, 3) := by decide +kernel
theorem dX7_addWords_67 : decode cX7_addWords 67 = .ok (.iload 5, 2) := by decide +kernel
theorem dX7_addWords_69 : decode cX7_addWords 69 = .ok (.invokevirtual 65, 3) := by decide +kernel
theorem dX7_addWords_72 : decode cX7_addWords 72 = .ok (.istore 9, 2) := by decide +kernel
theorem dX7_addWords_74 : decode cX7_addWords 74 = .ok (.iload 6, 2) := by decide +kernel
theorem dX7_addWords_76 : decode cX7_addWords 76 = .ok (.ifCond .lt 18, 3) := by decide +kernel
theorem dX7_addWords_79 : decode cX7_addWords 79 = .ok (.iload 7, 2) := by decide +kernel
theorem dX7_addWords_81 : decode cX7_addWords 81 = .ok (.ifCond .lt 13, 3) := by decide +kernel
theorem dX7_addWords_84 : decode cX7_addWords 84 = .ok (.iload 8, 2) := by decide +kernel
theorem dX7_addWords_86 : decode cX7_addWords 86 = .ok (.ifCond .lt 8, 3) := by decide +kernel
theorem dX7_addWords_89 : decode cX7_addWords 89 = .ok (.iload 9, 2) := by decide +kernel
theorem dX7_addWords_91 : decode cX7_addWords 91 = .ok (.ifCond .ge 4, 3) := by decide +kernel
theorem dX7_addWords_94 : decode cX7_addWords 94 = .ok (.return_, 1) := by decide +kernel
theorem dX7_addWords_95 : decode cX7_addWords 95 = .ok (.iload 7, 2) := by decide +kernel
theorem dX7_addWords_97 : decode cX7_addWords 97 = .ok (.aload_n 0, 1) := by decide +kernel
theorem dX7_addWords_98 : decode cX7_addWords 98 = .ok (.iload_n 3, 1) := by decide +kernel
theorem dX7_addWords_99 : decode cX7_addWords 99 = .ok (.invokevirtual 68, 3) := by decide +kernel
theorem dX7_addWords_102 : decode cX7_addWords 102 = .ok (.iadd, 1) := by decide +kernel
theorem dX7_addWords_103 : decode cX7_addWords 103 = .ok (.istore 10, 2) := by decide +kernel
theorem dX7_addWords_105 : decode cX7_addWords 105 = .ok (.iload 8, 2) := by decide +kernel
theorem dX7_addWords_107 : decode cX7_addWords 107 = .ok (.aload_n 0, 1) := by decide +kernel
theorem dX7_addWords_108 : decode cX7_addWords 108 = .ok (.iload 4, 2) := by decide +kernel
theorem dX7_addWords_110 : decode cX7_addWords 110 = .ok (.invokevirtual 68, 3) := by decide +kernel
theorem dX7_addWords_113 : decode cX7_addWords 113 = .ok (.iadd, 1) := by decide +kernel
theorem dX7_addWords_114 : decode cX7_addWords 114 = .ok (.istore 11, 2) := by decide +kernel
theorem dX7_addWords_116 : decode cX7_addWords 116 = .ok (.aload_n 0, 1) := by decide +kernel
theorem dX7_addWords_117 : decode cX7_addWords 117 = .ok (.iload 5, 2) := by decide +kernel
theorem dX7_addWords_119 : decode cX7_addWords 119 = .ok (.invokevirtual 68, 3) := by decide +kernel
theorem dX7_addWords_122 : decode cX7_addWords 122 = .ok (.istore 12, 2) := by decide +kernel
theorem dX7_addWords_124 : decode cX7_addWords 124 = .ok (.iload 7, 2) := by decide +kernel
theorem dX7_addWords_126 : decode cX7_addWords 126 = .ok (.istore 13, 2) := by decide +kernel
theorem dX7_addWords_128 : decode cX7_addWords 128 = .ok (.iload 13, 2) := by decide +kernel
theorem dX7_addWords_130 : decode cX7_addWords 130 = .ok (.iload 10, 2) := by decide +kernel
theorem dX7_addWords_132 : decode cX7_addWords 132 = .ok (.if_icmp .ge 102, 3) := by decide +kernel
theorem dX7_addWords_135 : decode cX7_addWords 135 = .ok (.iload 13, 2) := by decide +kernel
theorem dX7_addWords_137 : decode cX7_addWords 137 = .ok (.aload_n 0, 1) := by decide +kernel
theorem dX7_addWords_138 : decode cX7_addWords 138 = .ok (.getfield 19, 3) := by decide +kernel
theorem dX7_addWords_141 : decode cX7_addWords 141 = .ok (.arraylength, 1) := by decide +kernel
theorem dX7_addWords_142 : decode cX7_addWords 142 = .ok (.if_icmp .ge 92, 3) := by decide +kernel
theorem dX7_addWords_145 : decode cX7_addWords 145 = .ok (.iload 8, 2) := by decide +kernel
theorem dX7_addWords_147 : decode cX7_addWords 147 = .ok (.istore 14, 2) := by decide +kernel
theorem dX7_addWords_149 : decode cX7_addWords 149 = .ok (.iload 14, 2) := by decide +kernel
theorem dX7_addWords_151 : decode cX7_addWords 151 = .ok (.iload 11, 2) := by decide +kernel
theorem dX7_addWords_153 : decode cX7_addWords 153 = .ok (.if_icmp .ge 75, 3) := by decide +kernel
theorem dX7_addWords_156 : decode cX7_addWords 156 = .ok (.iload 14, 2) := by decide +kernel
theorem dX7_addWords_158 : decode cX7_addWords 158 = .ok (.aload_n 0, 1) := by decide +kernel
theorem dX7_addWords_159 : decode cX7_addWords 159 = .ok (.getfield 19, 3) := by decide +kernel
theorem dX7_addWords_162 : decode cX7_addWords 162 = .ok (.arraylength, 1) := by decide +kernel
theorem dX7_addWords_163 : decode cX7_addWords 163 = .ok (.if_icmp .ge 65, 3) := by decide +kernel
theorem dX7_addWords_166 : decode cX7_addWords 166 = .ok (.aload_n 0, 1) := by decide +kernel
theorem dX7_addWords_167 : decode cX7_addWords 167 = .ok (.getfield 19, 3) := by decide +kernel
theorem dX7_addWords_170 : decode cX7_addWords 170 = .ok (.iload 13, 2) := by decide +kernel
theorem dX7_addWords_172 : decode cX7_addWords 172 = .ok (.laload, 1) := by decide +kernel
theorem dX7_addWords_173 : decode cX7_addWords 173 = .ok (.lconst 0, 1) := by decide +kernel
theorem dX7_addWords_174 : decode cX7_addWords 174 = .ok (.lcmp, 1) := by decide +kernel
theorem dX7_addWords_175 : decode cX7_addWords 175 = .ok (.ifCond .eq 40, 3) := by decide +kernel
theorem dX7_addWords_178 : decode cX7_addWords 178 = .ok (.aload_n 0, 1) := by decide +kernel
theorem dX7_addWords_179 : decode cX7_addWords 179 = .ok (.getfield 19, 3) := by decide +kernel
theorem dX7_addWords_182 : decode cX7_addWords 182 = .ok (.iload 14, 2) := by decide +kernel
theorem dX7_addWords_184 : decode cX7_addWords 184 = .ok (.laload, 1) := by decide +kernel
theorem dX7_addWords_185 : decode cX7_addWords 185 = .ok (.lconst 0, 1) := by decide +kernel
theorem dX7_addWords_186 : decode cX7_addWords 186 = .ok (.lcmp, 1) := by decide +kernel
theorem dX7_addWords_187 : decode cX7_addWords 187 = .ok (.ifCond .eq 28, 3) := by decide +kernel
theorem dX7_addWords_190 : decode cX7_addWords 190 = .ok (.aload_n 0, 1) := by decide +kernel
theorem dX7_addWords_191 : decode cX7_addWords 191 = .ok (.iload 6, 2) := by decide +kernel
theorem dX7_addWords_193 : decode cX7_addWords 193 = .ok (.iload 9, 2) := by decide +kernel
theorem dX7_addWords_195 : decode cX7_addWords 195 = .ok (.iload 12, 2) := by decide +kernel
theorem dX7_addWords_197 : decode cX7_addWords 197 = .ok (.aload_n 0, 1) := by decide +kernel
theorem dX7_addWords_198 : decode cX7_addWords 198 = .ok (.getfield 19, 3) := by decide +kernel
theorem dX7_addWords_201 : decode cX7_addWords 201 = .ok (.iload 13, 2) := by decide +kernel
theorem dX7_addWords_203 : decode cX7_addWords 203 = .ok (.laload, 1) := by decide +kernel
theorem dX7_addWords_204 : decode cX7_addWords 204 = .ok (.aload_n 0, 1) := by decide +kernel
theorem dX7_addWords_205 : decode cX7_addWords 205 = .ok (.getfield 19, 3) := by decide +kernel
theorem dX7_addWords_208 : decode cX7_addWords 208 = .ok (.iload 14, 2) := by decide +kernel
theorem dX7_addWords_210 : decode cX7_addWords 210 = .ok (.laload, 1) := by decide +kernel
theorem dX7_addWords_211 : decode cX7_addWords 211 = .ok (.lmul, 1) := by decide +kernel
theorem dX7_addWords_212 : decode cX7_addWords 212 = .ok (.invokevirtual 75, 3) := by decide +kernel
theorem dX7_addWords_215 : decode cX7_addWords 215 = .ok (.iload 6, 2) := by decide +kernel
theorem dX7_addWords_217 : decode cX7_addWords 217 = .ok (.iload 12, 2) := by decide +kernel
theorem dX7_addWords_219 : decode cX7_addWords 219 = .ok (.iadd, 1) := by decide +kernel
theorem dX7_addWords_220 : decode cX7_addWords 220 = .ok (.istore 6, 2) := by decide +kernel
theorem dX7_addWords_222 : decode cX7_addWords 222 = .ok (.iinc 14 1, 3) := by decide +kernel
theorem dX7_addWords_225 : decode cX7_addWords 225 = .ok (.goto (-76), 3) := by decide +kernel
theorem dX7_addWords_228 : decode cX7_addWords 228 = .ok (.iinc 13 1, 3) := by decide +kernel
theorem dX7_addWords_231 : decode cX7_addWords 231 = .ok (.goto (-103), 3) := by decide +kernel
theorem dX7_addWords_234 : decode cX7_addWords 234 = .ok (.return_, 1) := by decide +kernel
theorem dX7_addTimes_0 : decode cX7_addTimes 0 = .ok (.iload_n 1, 1) := by decide +kernel
theorem dX7_addTimes_1 : decode cX7_addTimes 1 = .ok (.ifCond .lt 29, 3) := by decide +kernel
theorem dX7_addTimes_4 : decode cX7_addTimes 4 = .ok (.iload_n 2, 1) := by decide +kernel
theorem dX7_addTimes_5 : decode cX7_addTimes 5 = .ok (.ifCond .lt 25, 3) := by decide +kernel
theorem dX7_addTimes_8 : decode cX7_addTimes 8 = .ok (.iload_n 1, 1) := by decide +kernel
theorem dX7_addTimes_9 : decode cX7_addTimes 9 = .ok (.iload_n 3, 1) := by decide +kernel
theorem dX7_addTimes_10 : decode cX7_addTimes 10 = .ok (.iadd, 1) := by decide +kernel
theorem dX7_addTimes_11 : decode cX7_addTimes 11 = .ok (.aload_n 0, 1) := by decide +kernel
theorem dX7_addTimes_12 : decode cX7_addTimes 12 = .ok (.getfield 19, 3) := by decide +kernel
theorem dX7_addTimes_15 : decode cX7_addTimes 15 = .ok (.arraylength, 1) := by decide +kernel
theorem dX7_addTimes_16 : decode cX7_addTimes 16 = .ok (.if_icmp .gt 14, 3) := by decide +kernel
theorem dX7_addTimes_19 : decode cX7_addTimes 19 = .ok (.iload_n 2, 1) := by decide +kernel
theorem dX7_addTimes_20 : decode cX7_addTimes 20 = .ok (.iload_n 3, 1) := by decide +kernel
theorem dX7_addTimes_21 : decode cX7_addTimes 21 = .ok (.iadd, 1) := by decide +kernel
theorem dX7_addTimes_22 : decode cX7_addTimes 22 = .ok (.aload_n 0, 1) := by decide +kernel
theorem dX7_addTimes_23 : decode cX7_addTimes 23 = .ok (.getfield 19, 3) := by decide +kernel
theorem dX7_addTimes_26 : decode cX7_addTimes 26 = .ok (.arraylength, 1) := by decide +kernel
theorem dX7_addTimes_27 : decode cX7_addTimes 27 = .ok (.if_icmp .le 4, 3) := by decide +kernel
theorem dX7_addTimes_30 : decode cX7_addTimes 30 = .ok (.return_, 1) := by decide +kernel
theorem dX7_addTimes_31 : decode cX7_addTimes 31 = .ok (.iconst 0, 1) := by decide +kernel
theorem dX7_addTimes_32 : decode cX7_addTimes 32 = .ok (.istore 6, 2) := by decide +kernel
theorem dX7_addTimes_34 : decode cX7_addTimes 34 = .ok (.iload 6, 2) := by decide +kernel
theorem dX7_addTimes_36 : decode cX7_addTimes 36 = .ok (.iload_n 3, 1) := by decide +kernel
theorem dX7_addTimes_37 : decode cX7_addTimes 37 = .ok (.if_icmp .ge 33, 3) := by decide +kernel
theorem dX7_addTimes_40 : decode cX7_addTimes 40 = .ok (.aload_n 0, 1) := by decide +kernel
theorem dX7_addTimes_41 : decode cX7_addTimes 41 = .ok (.getfield 19, 3) := by decide +kernel
theorem dX7_addTimes_44 : decode cX7_addTimes 44 = .ok (.iload_n 1, 1) := by decide +kernel
theorem dX7_addTimes_45 : decode cX7_addTimes 45 = .ok (.iload 6, 2) := by decide +kernel
theorem dX7_addTimes_47 : decode cX7_addTimes 47 = .ok (.iadd, 1) := by decide +kernel
theorem dX7_addTimes_48 : decode cX7_addTimes 48 = .ok (.dup2, 1) := by decide +kernel
theorem dX7_addTimes_49 : decode cX7_addTimes 49 = .ok (.laload, 1) := by decide +kernel
theorem dX7_addTimes_50 : decode cX7_addTimes 50 = .ok (.lload 4, 2) := by decide +kernel
theorem dX7_addTimes_52 : decode cX7_addTimes 52 = .ok (.aload_n 0, 1) := by decide +kernel
theorem dX7_addTimes_53 : decode cX7_addTimes 53 = .ok (.getfield 19, 3) := by decide +kernel
theorem dX7_addTimes_56 : decode cX7_addTimes 56 = .ok (.iload_n 2, 1) := by decide +kernel
theorem dX7_addTimes_57 : decode cX7_addTimes 57 = .ok (.iload 6, 2) := by decide +kernel
theorem dX7_addTimes_59 : decode cX7_addTimes 59 = .ok (.iadd, 1) := by decide +kernel
theorem dX7_addTimes_60 : decode cX7_addTimes 60 = .ok (.laload, 1) := by decide +kernel
theorem dX7_addTimes_61 : decode cX7_addTimes 61 = .ok (.lmul, 1) := by decide +kernel
theorem dX7_addTimes_62 : decode cX7_addTimes 62 = .ok (.ladd, 1) := by decide +kernel
theorem dX7_addTimes_63 : decode cX7_addTimes 63 = .ok (.lastore, 1) := by decide +kernel
theorem dX7_addTimes_64 : decode cX7_addTimes 64 = .ok (.iinc 6 1, 3) := by decide +kernel
theorem dX7_addTimes_67 : decode cX7_addTimes 67 = .ok (.goto (-33), 3) := by decide +kernel
theorem dX7_addTimes_70 : decode cX7_addTimes 70 = .ok (.return_, 1) := by decide +kernel
theorem dX7_atLeast_0 : decode cX7_atLeast 0 = .ok (.aload_n 0, 1) := by decide +kernel
theorem dX7_atLeast_1 : decode cX7_atLeast 1 = .ok (.aload_n 0, 1) := by decide +kernel
theorem dX7_atLeast_2 : decode cX7_atLeast 2 = .ok (.iload_n 2, 1) := by decide +kernel
theorem dX7_atLeast_3 : decode cX7_atLeast 3 = .ok (.invokevirtual 68, 3) := by decide +kernel
theorem dX7_atLeast_6 : decode cX7_atLeast 6 = .ok (.iload_n 1, 1) := by decide +kernel
theorem dX7_atLeast_7 : decode cX7_atLeast 7 = .ok (.iload_n 2, 1) := by decide +kernel
theorem dX7_atLeast_8 : decode cX7_atLeast 8 = .ok (.invokevirtual 79, 3) := by decide +kernel
theorem dX7_atLeast_11 : decode cX7_atLeast 11 = .ok (.ireturn, 1) := by decide +kernel
theorem dX7_atLeastBefore_0 : decode cX7_atLeastBefore 0 = .ok (.iconst 0, 1) := by decide +kernel
theorem dX7_atLeastBefore_1 : decode cX7_atLeastBefore 1 = .ok (.istore 4, 2) := by decide +kernel
theorem dX7_atLeastBefore_3 : decode cX7_atLeastBefore 3 = .ok (.iconst 0, 1) := by decide +kernel
theorem dX7_atLeastBefore_4 : decode cX7_atLeastBefore 4 = .ok (.istore 5, 2) := by decide +kernel
theorem dX7_atLeastBefore_6 : decode cX7_atLeastBefore 6 = .ok (.iload 5, 2) := by decide +kernel
theorem dX7_atLeastBefore_8 : decode cX7_atLeastBefore 8 = .ok (.iload_n 1, 1) := by decide +kernel
theorem dX7_atLeastBefore_9 : decode cX7_atLeastBefore 9 = .ok (.if_icmp .ge 25, 3) := by decide +kernel
theorem dX7_atLeastBefore_12 : decode cX7_atLeastBefore 12 = .ok (.aload_n 0, 1) := by decide +kernel
theorem dX7_atLeastBefore_13 : decode cX7_atLeastBefore 13 = .ok (.iload_n 3, 1) := by decide +kernel
theorem dX7_atLeastBefore_14 : decode cX7_atLeastBefore 14 = .ok (.iload 5, 2) := by decide +kernel
theorem dX7_atLeastBefore_16 : decode cX7_atLeastBefore 16 = .ok (.invokevirtual 83, 3) := by decide +kernel
theorem dX7_atLeastBefore_19 : decode cX7_atLeastBefore 19 = .ok (.iload_n 2, 1) := by decide +kernel
theorem dX7_atLeastBefore_20 : decode cX7_atLeastBefore 20 = .ok (.i2l, 1) := by decide +kernel
theorem dX7_atLeastBefore_21 : decode cX7_atLeastBefore 21 = .ok (.lcmp, 1) := by decide +kernel
theorem dX7_atLeastBefore_22 : decode cX7_atLeastBefore 22 = .ok (.ifCond .lt 6, 3) := by decide +kernel
theorem dX7_atLeastBefore_25 : decode cX7_atLeastBefore 25 = .ok (.iinc 4 1, 3) := by decide +kernel
theorem dX7_atLeastBefore_28 : decode cX7_atLeastBefore 28 = .ok (.iinc 5 1, 3) := by decide +kernel
theorem dX7_atLeastBefore_31 : decode cX7_atLeastBefore 31 = .ok (.goto (-25), 3) := by decide +kernel
theorem dX7_atLeastBefore_34 : decode cX7_atLeastBefore 34 = .ok (.iload 4, 2) := by decide +kernel
theorem dX7_atLeastBefore_36 : decode cX7_atLeastBefore 36 = .ok (.ireturn, 1) := by decide +kernel
theorem dX7_find_0 : decode cX7_find 0 = .ok (.aload_n 0, 1) := by decide +kernel
theorem dX7_find_1 : decode cX7_find 1 = .ok (.iload_n 2, 1) := by decide +kernel
theorem dX7_find_2 : decode cX7_find 2 = .ok (.invokevirtual 68, 3) := by decide +kernel
theorem dX7_find_5 : decode cX7_find 5 = .ok (.istore 4, 2) := by decide +kernel
theorem dX7_find_7 : decode cX7_find 7 = .ok (.iconst 0, 1) := by decide +kernel
theorem dX7_find_8 : decode cX7_find 8 = .ok (.istore 5, 2) := by decide +kernel
theorem dX7_find_10 : decode cX7_find 10 = .ok (.iconst 0, 1) := by decide +kernel
theorem dX7_find_11 : decode cX7_find 11 = .ok (.istore 6, 2) := by decide +kernel
theorem dX7_find_13 : decode cX7_find 13 = .ok (.iload 6, 2) := by decide +kernel
theorem dX7_find_15 : decode cX7_find 15 = .ok (.iload 4, 2) := by decide +kernel
theorem dX7_find_17 : decode cX7_find 17 = .ok (.if_icmp .ge 34, 3) := by decide +kernel
theorem dX7_find_20 : decode cX7_find 20 = .ok (.aload_n 0, 1) := by decide +kernel
theorem dX7_find_21 : decode cX7_find 21 = .ok (.iload_n 2, 1) := by decide +kernel
theorem dX7_find_22 : decode cX7_find 22 = .ok (.iload 6, 2) := by decide +kernel
theorem dX7_find_24 : decode cX7_find 24 = .ok (.invokevirtual 83, 3) := by decide +kernel
theorem dX7_find_27 : decode cX7_find 27 = .ok (.iload_n 1, 1) := by decide +kernel
theorem dX7_find_28 : decode cX7_find 28 = .ok (.i2l, 1) := by decide +kernel
theorem dX7_find_29 : decode cX7_find 29 = .ok (.lcmp, 1) := by decide +kernel
theorem dX7_find_30 : decode cX7_find 30 = .ok (.ifCond .lt 15, 3) := by decide +kernel
theorem dX7_find_33 : decode cX7_find 33 = .ok (.iload 5, 2) := by decide +kernel
theorem dX7_find_35 : decode cX7_find 35 = .ok (.iload_n 3, 1) := by decide +kernel
theorem dX7_find_36 : decode cX7_find 36 = .ok (.if_icmp .ne 6, 3) := by decide +kernel
theorem dX7_find_39 : decode cX7_find 39 = .ok (.iload 6, 2) := by decide +kernel
theorem dX7_find_41 : decode cX7_find 41 = .ok (.ireturn, 1) := by decide +kernel
theorem dX7_find_42 : decode cX7_find 42 = .ok (.iinc 5 1, 3) := by decide +kernel
theorem dX7_find_45 : decode cX7_find 45 = .ok (.iinc 6 1, 3) := by decide +kernel
theorem dX7_find_48 : decode cX7_find 48 = .ok (.goto (-35), 3) := by decide +kernel
theorem dX7_find_51 : decode cX7_find 51 = .ok (.iconst (-1), 1) := by decide +kernel
theorem dX7_find_52 : decode cX7_find 52 = .ok (.ireturn, 1) := by decide +kernel
theorem dX7_count_0 : decode cX7_count 0 = .ok (.aload_n 0, 1) := by decide +kernel
theorem dX7_count_1 : decode cX7_count 1 = .ok (.aload_n 0, 1) := by decide +kernel
theorem dX7_count_2 : decode cX7_count 2 = .ok (.getfield 9, 3) := by decide +kernel
theorem dX7_count_5 : decode cX7_count 5 = .ok (.getfield 87, 3) := by decide +kernel
theorem dX7_count_8 : decode cX7_count 8 = .ok (.iload_n 1, 1) := by decide +kernel
theorem dX7_count_9 : decode cX7_count 9 = .ok (.invokevirtual 65, 3) := by decide +kernel
theorem dX7_count_12 : decode cX7_count 12 = .ok (.iload_n 2, 1) := by decide +kernel
theorem dX7_count_13 : decode cX7_count 13 = .ok (.iadd, 1) := by decide +kernel
theorem dX7_count_14 : decode cX7_count 14 = .ok (.istore_n 3, 1) := by decide +kernel
theorem dX7_count_15 : decode cX7_count 15 = .ok (.iload_n 3, 1) := by decide +kernel
theorem dX7_count_16 : decode cX7_count 16 = .ok (.ifCond .lt 21, 3) := by decide +kernel
theorem dX7_count_19 : decode cX7_count 19 = .ok (.iload_n 3, 1) := by decide +kernel
theorem dX7_count_20 : decode cX7_count 20 = .ok (.aload_n 0, 1) := by decide +kernel
theorem dX7_count_21 : decode cX7_count 21 = .ok (.getfield 19, 3) := by decide +kernel
theorem dX7_count_24 : decode cX7_count 24 = .ok (.arraylength, 1) := by decide +kernel
theorem dX7_count_25 : decode cX7_count 25 = .ok (.if_icmp .ge 12, 3) := by decide +kernel
theorem dX7_count_28 : decode cX7_count 28 = .ok (.aload_n 0, 1) := by decide +kernel
theorem dX7_count_29 : decode cX7_count 29 = .ok (.getfield 19, 3) := by decide +kernel
theorem dX7_count_32 : decode cX7_count 32 = .ok (.iload_n 3, 1) := by decide +kernel
theorem dX7_count_33 : decode cX7_count 33 = .ok (.laload, 1) := by decide +kernel
theorem dX7_count_34 : decode cX7_count 34 = .ok (.goto 4, 3) := by decide +kernel
theorem dX7_count_37 : decode cX7_count 37 = .ok (.lconst 0, 1) := by decide +kernel
theorem dX7_count_38 : decode cX7_count 38 = .ok (.lreturn, 1) := by decide +kernel
theorem dX8_init_0 : decode cX8_init 0 = .ok (.aload_n 0, 1) := by decide +kernel
theorem dX8_init_1 : decode cX8_init 1 = .ok (.invokespecial 3, 3) := by decide +kernel
theorem dX8_init_4 : decode cX8_init 4 = .ok (.aload_n 0, 1) := by decide +kernel
theorem dX8_init_5 : decode cX8_init 5 = .ok (.new 9, 3) := by decide +kernel
theorem dX8_init_8 : decode cX8_init 8 = .ok (.dup, 1) := by decide +kernel
theorem dX8_init_9 : decode cX8_init 9 = .ok (.invokespecial 11, 3) := by decide +kernel
theorem dX8_init_12 : decode cX8_init 12 = .ok (.putfield 12, 3) := by decide +kernel
theorem dX8_init_15 : decode cX8_init 15 = .ok (.aload_n 0, 1) := by decide +kernel
theorem dX8_init_16 : decode cX8_init 16 = .ok (.new 16, 3) := by decide +kernel
theorem dX8_init_19 : decode cX8_init 19 = .ok (.dup, 1) := by decide +kernel
theorem dX8_init_20 : decode cX8_init 20 = .ok (.invokespecial 18, 3) := by decide +kernel
theorem dX8_init_23 : decode cX8_init 23 = .ok (.putfield 19, 3) := by decide +kernel
theorem dX8_init_26 : decode cX8_init 26 = .ok (.aload_n 0, 1) := by decide +kernel
theorem dX8_init_27 : decode cX8_init 27 = .ok (.new 9, 3) := by decide +kernel
theorem dX8_init_30 : decode cX8_init 30 = .ok (.dup, 1) := by decide +kernel
theorem dX8_init_31 : decode cX8_init 31 = .ok (.invokespecial 11, 3) := by decide +kernel
theorem dX8_init_34 : decode cX8_init 34 = .ok (.putfield 23, 3) := by decide +kernel
theorem dX8_init_37 : decode cX8_init 37 = .ok (.aload_n 0, 1) := by decide +kernel
theorem dX8_init_38 : decode cX8_init 38 = .ok (.new 16, 3) := by decide +kernel
theorem dX8_init_41 : decode cX8_init 41 = .ok (.dup, 1) := by decide +kernel
theorem dX8_init_42 : decode cX8_init 42 = .ok (.invokespecial 18, 3) := by decide +kernel
theorem dX8_init_45 : decode cX8_init 45 = .ok (.putfield 26, 3) := by decide +kernel
theorem dX8_init_48 : decode cX8_init 48 = .ok (.aload_n 0, 1) := by decide +kernel
theorem dX8_init_49 : decode cX8_init 49 = .ok (.new 29, 3) := by decide +kernel
theorem dX8_init_52 : decode cX8_init 52 = .ok (.dup, 1) := by decide +kernel
theorem dX8_init_53 : decode cX8_init 53 = .ok (.aload_n 0, 1) := by decide +kernel
theorem dX8_init_54 : decode cX8_init 54 = .ok (.getfield 12, 3) := by decide +kernel
theorem dX8_init_57 : decode cX8_init 57 = .ok (.invokespecial 31, 3) := by decide +kernel
theorem dX8_init_60 : decode cX8_init 60 = .ok (.putfield 34, 3) := by decide +kernel
theorem dX8_init_63 : decode cX8_init 63 = .ok (.aload_n 0, 1) := by decide +kernel
theorem dX8_init_64 : decode cX8_init 64 = .ok (.new 38, 3) := by decide +kernel
theorem dX8_init_67 : decode cX8_init 67 = .ok (.dup, 1) := by decide +kernel
theorem dX8_init_68 : decode cX8_init 68 = .ok (.aload_n 0, 1) := by decide +kernel
theorem dX8_init_69 : decode cX8_init 69 = .ok (.getfield 12, 3) := by decide +kernel
theorem dX8_init_72 : decode cX8_init 72 = .ok (.aload_n 0, 1) := by decide +kernel
theorem dX8_init_73 : decode cX8_init 73 = .ok (.getfield 19, 3) := by decide +kernel
theorem dX8_init_76 : decode cX8_init 76 = .ok (.invokespecial 40, 3) := by decide +kernel
theorem dX8_init_79 : decode cX8_init 79 = .ok (.putfield 43, 3) := by decide +kernel
theorem dX8_init_82 : decode cX8_init 82 = .ok (.aload_n 0, 1) := by decide +kernel
theorem dX8_init_83 : decode cX8_init 83 = .ok (.new 47, 3) := by decide +kernel
theorem dX8_init_86 : decode cX8_init 86 = .ok (.dup, 1) := by decide +kernel
theorem dX8_init_87 : decode cX8_init 87 = .ok (.aload_n 0, 1) := by decide +kernel
theorem dX8_init_88 : decode cX8_init 88 = .ok (.getfield 12, 3) := by decide +kernel
theorem dX8_init_91 : decode cX8_init 91 = .ok (.aload_n 0, 1) := by decide +kernel
theorem dX8_init_92 : decode cX8_init 92 = .ok (.getfield 34, 3) := by decide +kernel
theorem dX8_init_95 : decode cX8_init 95 = .ok (.invokespecial 49, 3) := by decide +kernel
theorem dX8_init_98 : decode cX8_init 98 = .ok (.putfield 52, 3) := by decide +kernel
theorem dX8_init_101 : decode cX8_init 101 = .ok (.aload_n 0, 1) := by decide +kernel
theorem dX8_init_102 : decode cX8_init 102 = .ok (.new 56, 3) := by decide +kernel
theorem dX8_init_105 : decode cX8_init 105 = .ok (.dup, 1) := by decide +kernel
theorem dX8_init_106 : decode cX8_init 106 = .ok (.aload_n 0, 1) := by decide +kernel
theorem dX8_init_107 : decode cX8_init 107 = .ok (.getfield 12, 3) := by decide +kernel
theorem dX8_init_110 : decode cX8_init 110 = .ok (.invokespecial 58, 3) := by decide +kernel
theorem dX8_init_113 : decode cX8_init 113 = .ok (.putfield 59, 3) := by decide +kernel
theorem dX8_init_116 : decode cX8_init 116 = .ok (.aload_n 0, 1) := by decide +kernel
theorem dX8_init_117 : decode cX8_init 117 = .ok (.new 63, 3) := by decide +kernel
theorem dX8_init_120 : decode cX8_init 120 = .ok (.dup, 1) := by decide +kernel
theorem dX8_init_121 : decode cX8_init 121 = .ok (.invokespecial 65, 3) := by decide +kernel
theorem dX8_init_124 : decode cX8_init 124 = .ok (.putfield 66, 3) := by decide +kernel
theorem dX8_init_127 : decode cX8_init 127 = .ok (.aload_n 0, 1) := by decide +kernel
theorem dX8_init_128 : decode cX8_init 128 = .ok (.iconst 0, 1) := by decide +kernel
theorem dX8_init_129 : decode cX8_init 129 = .ok (.putfield 70, 3) := by decide +kernel
theorem dX8_init_132 : decode cX8_init 132 = .ok (.return_, 1) := by decide +kernel
theorem dX8_reset_0 : decode cX8_reset 0 = .ok (.iload_n 1, 1) := by decide +kernel
theorem dX8_reset_1 : decode cX8_reset 1 = .ok (.iconst 1, 1) := by decide +kernel
theorem dX8_reset_2 : decode cX8_reset 2 = .ok (.if_icmp .lt 9, 3) := by decide +kernel
theorem dX8_reset_5 : decode cX8_reset 5 = .ok (.iload_n 1, 1) := by decide +kernel
theorem dX8_reset_6 : decode cX8_reset 6 = .ok (.bipush 6, 2) := by decide +kernel
theorem dX8_reset_8 : decode cX8_reset 8 = .ok (.if_icmp .le 13, 3) := by decide +kernel
theorem dX8_reset_11 : decode cX8_reset 11 = .ok (.new 74, 3) := by decide +kernel
theorem dX8_reset_14 : decode cX8_reset 14 = .ok (.dup, 1) := by decide +kernel
theorem dX8_reset_15 : decode cX8_reset 15 = .ok (.ldc 76, 2) := by decide +kernel
theorem dX8_reset_17 : decode cX8_reset 17 = .ok (.invokespecial 78, 3) := by decide +kernel
theorem dX8_reset_20 : decode cX8_reset 20 = .ok (.athrow, 1) := by decide +kernel
theorem dX8_reset_21 : decode cX8_reset 21 = .ok (.iload_n 2, 1) := by decide +kernel
theorem dX8_reset_22 : decode cX8_reset 22 = .ok (.iconst 1, 1) := by decide +kernel
theorem dX8_reset_23 : decode cX8_reset 23 = .ok (.if_icmp .lt 8, 3) := by decide +kernel
theorem dX8_reset_26 : decode cX8_reset 26 = .ok (.iload_n 2, 1) := by decide +kernel
theorem dX8_reset_27 : decode cX8_reset 27 = .ok (.iconst 3, 1) := by decide +kernel
theorem dX8_reset_28 : decode cX8_reset 28 = .ok (.if_icmp .le 13, 3) := by decide +kernel
theorem dX8_reset_31 : decode cX8_reset 31 = .ok (.new 74, 3) := by decide +kernel
theorem dX8_reset_34 : decode cX8_reset 34 = .ok (.dup, 1) := by decide +kernel
theorem dX8_reset_35 : decode cX8_reset 35 = .ok (.ldc 81, 2) := by decide +kernel
theorem dX8_reset_37 : decode cX8_reset 37 = .ok (.invokespecial 78, 3) := by decide +kernel
theorem dX8_reset_40 : decode cX8_reset 40 = .ok (.athrow, 1) := by decide +kernel
theorem dX8_reset_41 : decode cX8_reset 41 = .ok (.aload_n 0, 1) := by decide +kernel
theorem dX8_reset_42 : decode cX8_reset 42 = .ok (.getfield 12, 3) := by decide +kernel
theorem dX8_reset_45 : decode cX8_reset 45 = .ok (.iload_n 1, 1) := by decide +kernel
theorem dX8_reset_46 : decode cX8_reset 46 = .ok (.iload_n 2, 1) := by decide +kernel
theorem dX8_reset_47 : decode cX8_reset 47 = .ok (.invokevirtual 83, 3) := by decide +kernel
theorem dX8_reset_50 : decode cX8_reset 50 = .ok (.aload_n 0, 1) := by decide +kernel
theorem dX8_reset_51 : decode cX8_reset 51 = .ok (.getfield 19, 3) := by decide +kernel
theorem dX8_reset_54 : decode cX8_reset 54 = .ok (.iconst 0, 1) := by decide +kernel
theorem dX8_reset_55 : decode cX8_reset 55 = .ok (.putfield 87, 3) := by decide +kernel
theorem dX8_reset_58 : decode cX8_reset 58 = .ok (.aload_n 0, 1) := by decide +kernel
theorem dX8_reset_59 : decode cX8_reset 59 = .ok (.invokevirtual 91, 3) := by decide +kernel
theorem dX8_reset_62 : decode cX8_reset 62 = .ok (.return_, 1) := by decide +kernel
theorem dX8_addProduction_0 : decode cX8_addProduction 0 = .ok (.aload_n 0, 1) := by decide +kernel
theorem dX8_addProduction_1 : decode cX8_addProduction 1 = .ok (.getfield 12, 3) := by decide +kernel
theorem dX8_addProduction_4 : decode cX8_addProduction 4 = .ok (.iload_n 1, 1) := by decide +kernel
theorem dX8_addProduction_5 : decode cX8_addProduction 5 = .ok (.invokevirtual 94, 3) := by decide +kernel
theorem dX8_addProduction_8 : decode cX8_addProduction 8 = .ok (.ifCond .eq 17, 3) := by decide +kernel
theorem dX8_addProduction_11 : decode cX8_addProduction 11 = .ok (.aload_n 0, 1) := by decide +kernel
theorem dX8_addProduction_12 : decode cX8_addProduction 12 = .ok (.getfield 12, 3) := by decide +kernel
theorem dX8_addProduction_15 : decode cX8_addProduction 15 = .ok (.iload_n 2, 1) := by decide +kernel
theorem dX8_addProduction_16 : decode cX8_addProduction 16 = .ok (.iload_n 3, 1) := by decide +kernel
theorem dX8_addProduction_17 : decode cX8_addProduction 17 = .ok (.iload 4, 2) := by decide +kernel
theorem dX8_addProduction_19 : decode cX8_addProduction 19 = .ok (.invokevirtual 98, 3) := by decide +kernel
theorem dX8_addProduction_22 : decode cX8_addProduction 22 = .ok (.ifCond .ne 13, 3) := by decide +kernel
theorem dX8_addProduction_25 : decode cX8_addProduction 25 = .ok (.new 74, 3) := by decide +kernel
theorem dX8_addProduction_28 : decode cX8_addProduction 28 = .ok (.dup, 1) := by decide +kernel
theorem dX8_addProduction_29 : decode cX8_addProduction 29 = .ok (.ldc 102, 2) := by decide +kernel
theorem dX8_addProduction_31 : decode cX8_addProduction 31 = .ok (.invokespecial 78, 3) := by decide +kernel
theorem dX8_addProduction_34 : decode cX8_addProduction 34 = .ok (.athrow, 1) := by decide +kernel
theorem dX8_addProduction_35 : decode cX8_addProduction 35 = .ok (.aload_n 0, 1) := by decide +kernel
theorem dX8_addProduction_36 : decode cX8_addProduction 36 = .ok (.getfield 12, 3) := by decide +kernel
theorem dX8_addProduction_39 : decode cX8_addProduction 39 = .ok (.iload_n 1, 1) := by decide +kernel
theorem dX8_addProduction_40 : decode cX8_addProduction 40 = .ok (.iload_n 2, 1) := by decide +kernel
theorem dX8_addProduction_41 : decode cX8_addProduction 41 = .ok (.iload_n 3, 1) := by decide +kernel
theorem dX8_addProduction_42 : decode cX8_addProduction 42 = .ok (.iload 4, 2) := by decide +kernel
theorem dX8_addProduction_44 : decode cX8_addProduction 44 = .ok (.invokevirtual 104, 3) := by decide +kernel
theorem dX8_addProduction_47 : decode cX8_addProduction 47 = .ok (.ifCond .eq 13, 3) := by decide +kernel
theorem dX8_addProduction_50 : decode cX8_addProduction 50 = .ok (.new 74, 3) := by decide +kernel
theorem dX8_addProduction_53 : decode cX8_addProduction 53 = .ok (.dup, 1) := by decide +kernel
theorem dX8_addProduction_54 : decode cX8_addProduction 54 = .ok (.ldc 108, 2) := by decide +kernel
theorem dX8_addProduction_56 : decode cX8_addProduction 56 = .ok (.invokespecial 78, 3) := by decide +kernel
theorem dX8_addProduction_59 : decode cX8_addProduction 59 = .ok (.athrow, 1) := by decide +kernel
theorem dX8_addProduction_60 : decode cX8_addProduction 60 = .ok (.aload_n 0, 1) := by decide +kernel
theorem dX8_addProduction_61 : decode cX8_addProduction 61 = .ok (.getfield 12, 3) := by decide +kernel
theorem dX8_addProduction_64 : decode cX8_addProduction 64 = .ok (.getfield 110, 3) := by decide +kernel
theorem dX8_addProduction_67 : decode cX8_addProduction 67 = .ok (.bipush 24, 2) := by decide +kernel
theorem dX8_addProduction_69 : decode cX8_addProduction 69 = .ok (.if_icmp .lt 13, 3) := by decide +kernel
theorem dX8_addProduction_72 : decode cX8_addProduction 72 = .ok (.new 113, 3) := by decide +kernel
theorem dX8_addProduction_75 : decode cX8_addProduction 75 = .ok (.dup, 1) := by decide +kernel
theorem dX8_addProduction_76 : decode cX8_addProduction 76 = .ok (.ldc 115, 2) := by decide +kernel
theorem dX8_addProduction_78 : decode cX8_addProduction 78 = .ok (.invokespecial 117, 3) := by decide +kernel
theorem dX8_addProduction_81 : decode cX8_addProduction 81 = .ok (.athrow, 1) := by decide +kernel
theorem dX8_addProduction_82 : decode cX8_addProduction 82 = .ok (.aload_n 0, 1) := by decide +kernel
theorem dX8_addProduction_83 : decode cX8_addProduction 83 = .ok (.getfield 12, 3) := by decide +kernel
theorem dX8_addProduction_86 : decode cX8_addProduction 86 = .ok (.getfield 110, 3) := by decide +kernel
theorem dX8_addProduction_89 : decode cX8_addProduction 89 = .ok (.istore 5, 2) := by decide +kernel
theorem dX8_addProduction_91 : decode cX8_addProduction 91 = .ok (.aload_n 0, 1) := by decide +kernel
theorem dX8_addProduction_92 : decode cX8_addProduction 92 = .ok (.getfield 12, 3) := by decide +kernel
theorem dX8_addProduction_95 : decode cX8_addProduction 95 = .ok (.iload_n 1, 1) := by decide +kernel
theorem dX8_addProduction_96 : decode cX8_addProduction 96 = .ok (.iload_n 2, 1) := by decide +kernel
theorem dX8_addProduction_97 : decode cX8_addProduction 97 = .ok (.iload_n 3, 1) := by decide +kernel
theorem dX8_addProduction_98 : decode cX8_addProduction 98 = .ok (.iload 4, 2) := by decide +kernel
theorem dX8_addProduction_100 : decode cX8_addProduction 100 = .ok (.invokevirtual 118, 3) := by decide +kernel
theorem dX8_addProduction_103 : decode cX8_addProduction 103 = .ok (.aload_n 0, 1) := by decide +kernel
theorem dX8_addProduction_104 : decode cX8_addProduction 104 = .ok (.invokevirtual 91, 3) := by decide +kernel
theorem dX8_addProduction_107 : decode cX8_addProduction 107 = .ok (.iload 5, 2) := by decide +kernel
theorem dX8_addProduction_109 : decode cX8_addProduction 109 = .ok (.ireturn, 1) := by decide +kernel
theorem dX8_removeProduction_0 : decode cX8_removeProduction 0 = .ok (.aload_n 0, 1) := by decide +kernel
theorem dX8_removeProduction_1 : decode cX8_removeProduction 1 = .ok (.iload_n 1, 1) := by decide +kernel
theorem dX8_removeProduction_2 : decode cX8_removeProduction 2 = .ok (.invokevirtual 122, 3) := by decide +kernel
theorem dX8_removeProduction_5 : decode cX8_removeProduction 5 = .ok (.aload_n 0, 1) := by decide +kernel
theorem dX8_removeProduction_6 : decode cX8_removeProduction 6 = .ok (.getfield 12, 3) := by decide +kernel
theorem dX8_removeProduction_9 : decode cX8_removeProduction 9 = .ok (.iload_n 1, 1) := by decide +kernel
theorem dX8_removeProduction_10 : decode cX8_removeProduction 10 = .ok (.invokevirtual 126, 3) := by decide +kernel
theorem dX8_removeProduction_13 : decode cX8_removeProduction 13 = .ok (.aload_n 0, 1) := by decide +kernel
theorem dX8_removeProduction_14 : decode cX8_removeProduction 14 = .ok (.invokevirtual 91, 3) := by decide +kernel
theorem dX8_removeProduction_17 : decode cX8_removeProduction 17 = .ok (.aload_n 0, 1) := by decide +kernel
theorem dX8_removeProduction_18 : decode cX8_removeProduction 18 = .ok (.getfield 12, 3) := by decide +kernel
theorem dX8_removeProduction_21 : decode cX8_removeProduction 21 = .ok (.getfield 110, 3) := by decide +kernel
theorem dX8_removeProduction_24 : decode cX8_removeProduction 24 = .ok (.ireturn, 1) := by decide +kernel
theorem dX8_removeUseless_0 : decode cX8_removeUseless 0 = .ok (.aload_n 0, 1) := by decide +kernel
theorem dX8_removeUseless_1 : decode cX8_removeUseless 1 = .ok (.getfield 12, 3) := by decide +kernel
theorem dX8_removeUseless_4 : decode cX8_removeUseless 4 = .ok (.invokevirtual 129, 3) := by decide +kernel
theorem dX8_removeUseless_7 : decode cX8_removeUseless 7 = .ok (.istore_n 1, 1) := by decide +kernel
theorem dX8_removeUseless_8 : decode cX8_removeUseless 8 = .ok (.aload_n 0, 1) := by decide +kernel
theorem dX8_removeUseless_9 : decode cX8_removeUseless 9 = .ok (.invokevirtual 91, 3) := by decide +kernel
theorem dX8_removeUseless_12 : decode cX8_removeUseless 12 = .ok (.iload_n 1, 1) := by decide +kernel
theorem dX8_removeUseless_13 : decode cX8_removeUseless 13 = .ok (.ireturn, 1) := by decide +kernel
theorem dX8_productionCount_0 : decode cX8_productionCount 0 = .ok (.aload_n 0, 1) := by decide +kernel
theorem dX8_productionCount_1 : decode cX8_productionCount 1 = .ok (.getfield 12, 3) := by decide +kernel
theorem dX8_productionCount_4 : decode cX8_productionCount 4 = .ok (.getfield 110, 3) := by decide +kernel
theorem dX8_productionCount_7 : decode cX8_productionCount 7 = .ok (.ireturn, 1) := by decide +kernel
theorem dX8_productionSymbol_0 : decode cX8_productionSymbol 0 = .ok (.aload_n 0, 1) := by decide +kernel
theorem dX8_productionSymbol_1 : decode cX8_productionSymbol 1 = .ok (.iload_n 1, 1) := by decide +kernel
theorem dX8_productionSymbol_2 : decode cX8_productionSymbol 2 = .ok (.invokevirtual 122, 3) := by decide +kernel
theorem dX8_productionSymbol_5 : decode cX8_productionSymbol 5 = .ok (.iload_n 2, 1) := by decide +kernel
theorem dX8_productionSymbol_6 : decode cX8_productionSymbol 6 = .ok (.ifCond .lt 8, 3) := by decide +kernel
theorem dX8_productionSymbol_9 : decode cX8_productionSymbol 9 = .ok (.iload_n 2, 1) := by decide +kernel
theorem dX8_productionSymbol_10 : decode cX8_productionSymbol 10 = .ok (.iconst 3, 1) := by decide +kernel
theorem dX8_productionSymbol_11 : decode cX8_productionSymbol 11 = .ok (.if_icmp .le 13, 3) := by decide +kernel
theorem dX8_productionSymbol_14 : decode cX8_productionSymbol 14 = .ok (.new 133, 3) := by decide +kernel
theorem dX8_productionSymbol_17 : decode cX8_productionSymbol 17 = .ok (.dup, 1) := by decide +kernel
theorem dX8_productionSymbol_18 : decode cX8_productionSymbol 18 = .ok (.ldc 135, 2) := by decide +kernel
theorem dX8_productionSymbol_20 : decode cX8_productionSymbol 20 = .ok (.invokespecial 137, 3) := by decide +kernel
theorem dX8_productionSymbol_23 : decode cX8_productionSymbol 23 = .ok (.athrow, 1) := by decide +kernel
theorem dX8_productionSymbol_24 : decode cX8_productionSymbol 24 = .ok (.aload_n 0, 1) := by decide +kernel
theorem dX8_productionSymbol_25 : decode cX8_productionSymbol 25 = .ok (.getfield 12, 3) := by decide +kernel
theorem dX8_productionSymbol_28 : decode cX8_productionSymbol 28 = .ok (.iload_n 1, 1) := by decide +kernel
theorem dX8_productionSymbol_29 : decode cX8_productionSymbol 29 = .ok (.iload_n 2, 1) := by decide +kernel
theorem dX8_productionSymbol_30 : decode cX8_productionSymbol 30 = .ok (.invokevirtual 138, 3) := by decide +kernel
theorem dX8_productionSymbol_33 : decode cX8_productionSymbol 33 = .ok (.ireturn, 1) := by decide +kernel
theorem dX8_setStart_0 : decode cX8_setStart 0 = .ok (.aload_n 0, 1) := by decide +kernel
theorem dX8_setStart_1 : decode cX8_setStart 1 = .ok (.iload_n 1, 1) := by decide +kernel
theorem dX8_setStart_2 : decode cX8_setStart 2 = .ok (.invokevirtual 142, 3) := by decide +kernel
theorem dX8_setStart_5 : decode cX8_setStart 5 = .ok (.aload_n 0, 1) := by decide +kernel
theorem dX8_setStart_6 : decode cX8_setStart 6 = .ok (.getfield 12, 3) := by decide +kernel
theorem dX8_setStart_9 : decode cX8_setStart 9 = .ok (.getfield 145, 3) := by decide +kernel
theorem dX8_setStart_12 : decode cX8_setStart 12 = .ok (.istore_n 2, 1) := by decide +kernel
theorem dX8_setStart_13 : decode cX8_setStart 13 = .ok (.aload_n 0, 1) := by decide +kernel
theorem dX8_setStart_14 : decode cX8_setStart 14 = .ok (.getfield 12, 3) := by decide +kernel
theorem dX8_setStart_17 : decode cX8_setStart 17 = .ok (.iload_n 1, 1) := by decide +kernel
theorem dX8_setStart_18 : decode cX8_setStart 18 = .ok (.putfield 145, 3) := by decide +kernel
theorem dX8_setStart_21 : decode cX8_setStart 21 = .ok (.aload_n 0, 1) := by decide +kernel
theorem dX8_setStart_22 : decode cX8_setStart 22 = .ok (.getfield 59, 3) := by decide +kernel
theorem dX8_setStart_25 : decode cX8_setStart 25 = .ok (.iconst 0, 1) := by decide +kernel
theorem dX8_setStart_26 : decode cX8_setStart 26 = .ok (.putfield 148, 3) := by decide +kernel
theorem dX8_setStart_29 : decode cX8_setStart 29 = .ok (.iload_n 2, 1) := by decide +kernel
theorem dX8_setStart_30 : decode cX8_setStart 30 = .ok (.ireturn, 1) := by decide +kernel
theorem dX8_shortestLength_0 : decode cX8_shortestLength 0 = .ok (.aload_n 0, 1) := by decide +kernel
theorem dX8_shortestLength_1 : decode cX8_shortestLength 1 = .ok (.iload_n 1, 1) := by decide +kernel
theorem dX8_shortestLength_2 : decode cX8_shortestLength 2 = .ok (.invokevirtual 142, 3) := by decide +kernel
theorem dX8_shortestLength_5 : decode cX8_shortestLength 5 = .ok (.aload_n 0, 1) := by decide +kernel
theorem dX8_shortestLength_6 : decode cX8_shortestLength 6 = .ok (.getfield 12, 3) := by decide +kernel
theorem dX8_shortestLength_9 : decode cX8_shortestLength 9 = .ok (.invokevirtual 151, 3) := by decide +kernel
theorem dX8_shortestLength_12 : decode cX8_shortestLength 12 = .ok (.aload_n 0, 1) := by decide +kernel
theorem dX8_shortestLength_13 : decode cX8_shortestLength 13 = .ok (.getfield 12, 3) := by decide +kernel
theorem dX8_shortestLength_16 : decode cX8_shortestLength 16 = .ok (.iload_n 1, 1) := by decide +kernel
theorem dX8_shortestLength_17 : decode cX8_shortestLength 17 = .ok (.invokevirtual 154, 3) := by decide +kernel
theorem dX8_shortestLength_20 : decode cX8_shortestLength 20 = .ok (.ireturn, 1) := by decide +kernel
theorem dX8_append_0 : decode cX8_append 0 = .ok (.aload_n 0, 1) := by decide +kernel
theorem dX8_append_1 : decode cX8_append 1 = .ok (.getfield 12, 3) := by decide +kernel
theorem dX8_append_4 : decode cX8_append 4 = .ok (.iload_n 1, 1) := by decide +kernel
theorem dX8_append_5 : decode cX8_append 5 = .ok (.invokevirtual 158, 3) := by decide +kernel
theorem dX8_append_8 : decode cX8_append 8 = .ok (.ifCond .ne 13, 3) := by decide +kernel
theorem dX8_append_11 : decode cX8_append 11 = .ok (.new 74, 3) := by decide +kernel
theorem dX8_append_14 : decode cX8_append 14 = .ok (.dup, 1) := by decide +kernel
theorem dX8_append_15 : decode cX8_append 15 = .ok (.ldc 161, 2) := by decide +kernel
theorem dX8_append_17 : decode cX8_append 17 = .ok (.invokespecial 78, 3) := by decide +kernel
theorem dX8_append_20 : decode cX8_append 20 = .ok (.athrow, 1) := by decide +kernel
theorem dX8_append_21 : decode cX8_append 21 = .ok (.aload_n 0, 1) := by decide +kernel
theorem dX8_append_22 : decode cX8_append 22 = .ok (.getfield 19, 3) := by decide +kernel
theorem dX8_append_25 : decode cX8_append 25 = .ok (.getfield 87, 3) := by decide +kernel
theorem dX8_append_28 : decode cX8_append 28 = .ok (.bipush 8, 2) := by decide +kernel
theorem dX8_append_30 : decode cX8_append 30 = .ok (.if_icmp .lt 13, 3) := by decide +kernel
theorem dX8_append_33 : decode cX8_append 33 = .ok (.new 113, 3) := by decide +kernel
theorem dX8_append_36 : decode cX8_append 36 = .ok (.dup, 1) := by decide +kernel
theorem dX8_append_37 : decode cX8_append 37 = .ok (.ldc 163, 2) := by decide +kernel
theorem dX8_append_39 : decode cX8_append 39 = .ok (.invokespecial 117, 3) := by decide +kernel
theorem dX8_append_42 : decode cX8_append 42 = .ok (.athrow, 1) := by decide +kernel
theorem dX8_append_43 : decode cX8_append 43 = .ok (.aload_n 0, 1) := by decide +kernel
theorem dX8_append_44 : decode cX8_append 44 = .ok (.getfield 19, 3) := by decide +kernel
theorem dX8_append_47 : decode cX8_append 47 = .ok (.dup, 1) := by decide +kernel
theorem dX8_append_48 : decode cX8_append 48 = .ok (.getfield 87, 3) := by decide +kernel
theorem dX8_append_51 : decode cX8_append 51 = .ok (.iconst 1, 1) := by decide +kernel
theorem dX8_append_52 : decode cX8_append 52 = .ok (.iadd, 1) := by decide +kernel
theorem dX8_append_53 : decode cX8_append 53 = .ok (.putfield 87, 3) := by decide +kernel
theorem dX8_append_56 : decode cX8_append 56 = .ok (.aload_n 0, 1) := by decide +kernel
theorem dX8_append_57 : decode cX8_append 57 = .ok (.getfield 19, 3) := by decide +kernel
theorem dX8_append_60 : decode cX8_append 60 = .ok (.aload_n 0, 1) := by decide +kernel
theorem dX8_append_61 : decode cX8_append 61 = .ok (.getfield 19, 3) := by decide +kernel
theorem dX8_append_64 : decode cX8_append 64 = .ok (.getfield 87, 3) := by decide +kernel
theorem dX8_append_67 : decode cX8_append 67 = .ok (.iconst 1, 1) := by decide +kernel
theorem dX8_append_68 : decode cX8_append 68 = .ok (.isub, 1) := by decide +kernel
theorem dX8_append_69 : decode cX8_append 69 = .ok (.iload_n 1, 1) := by decide +kernel
theorem dX8_append_70 : decode cX8_append 70 = .ok (.invokevirtual 165, 3) := by decide +kernel
theorem dX8_append_73 : decode cX8_append 73 = .ok (.aload_n 0, 1) := by decide +kernel
theorem dX8_append_74 : decode cX8_append 74 = .ok (.getfield 59, 3) := by decide +kernel
theorem dX8_append_77 : decode cX8_append 77 = .ok (.iconst 0, 1) := by decide +kernel
theorem dX8_append_78 : decode cX8_append 78 = .ok (.putfield 148, 3) := by decide +kernel
theorem dX8_append_81 : decode cX8_append 81 = .ok (.aload_n 0, 1) := by decide +kernel
theorem dX8_append_82 : decode cX8_append 82 = .ok (.getfield 19, 3) := by decide +kernel
theorem dX8_append_85 : decode cX8_append 85 = .ok (.getfield 87, 3) := by decide +kernel
theorem dX8_append_88 : decode cX8_append 88 = .ok (.ireturn, 1) := by decide +kernel
theorem dX8_clearWord_0 : decode cX8_clearWord 0 = .ok (.aload_n 0, 1) := by decide +kernel
theorem dX8_clearWord_1 : decode cX8_clearWord 1 = .ok (.getfield 19, 3) := by decide +kernel
theorem dX8_clearWord_4 : decode cX8_clearWord 4 = .ok (.getfield 87, 3) := by decide +kernel
theorem dX8_clearWord_7 : decode cX8_clearWord 7 = .ok (.istore_n 1, 1) := by decide +kernel
theorem dX8_clearWord_8 : decode cX8_clearWord 8 = .ok (.aload_n 0, 1) := by decide +kernel
theorem dX8_clearWord_9 : decode cX8_clearWord 9 = .ok (.getfield 19, 3) := by decide +kernel
theorem dX8_clearWord_12 : decode cX8_clearWord 12 = .ok (.iconst 0, 1) := by decide +kernel
theorem dX8_clearWord_13 : decode cX8_clearWord 13 = .ok (.putfield 87, 3) := by decide +kernel
theorem dX8_clearWord_16 : decode cX8_clearWord 16 = .ok (.aload_n 0, 1) := by decide +kernel
theorem dX8_clearWord_17 : decode cX8_clearWord 17 = .ok (.getfield 59, 3) := by decide +kernel
theorem dX8_clearWord_20 : decode cX8_clearWord 20 = .ok (.iconst 0, 1) := by decide +kernel
theorem dX8_clearWord_21 : decode cX8_clearWord 21 = .ok (.putfield 148, 3) := by decide +kernel
theorem dX8_clearWord_24 : decode cX8_clearWord 24 = .ok (.iload_n 1, 1) := by decide +kernel
theorem dX8_clearWord_25 : decode cX8_clearWord 25 = .ok (.ireturn, 1) := by decide +kernel
theorem dX8_wordLength_0 : decode cX8_wordLength 0 = .ok (.aload_n 0, 1) := by decide +kernel
theorem dX8_wordLength_1 : decode cX8_wordLength 1 = .ok (.getfield 19, 3) := by decide +kernel
theorem dX8_wordLength_4 : decode cX8_wordLength 4 = .ok (.getfield 87, 3) := by decide +kernel
theorem dX8_wordLength_7 : decode cX8_wordLength 7 = .ok (.ireturn, 1) := by decide +kernel
theorem dX8_terminalAt_0 : decode cX8_terminalAt 0 = .ok (.iload_n 1, 1) := by decide +kernel
theorem dX8_terminalAt_1 : decode cX8_terminalAt 1 = .ok (.ifCond .lt 14, 3) := by decide +kernel
theorem dX8_terminalAt_4 : decode cX8_terminalAt 4 = .ok (.iload_n 1, 1) := by decide +kernel
theorem dX8_terminalAt_5 : decode cX8_terminalAt 5 = .ok (.aload_n 0, 1) := by decide +kernel
theorem dX8_terminalAt_6 : decode cX8_terminalAt 6 = .ok (.getfield 19, 3) := by decide +kernel
theorem dX8_terminalAt_9 : decode cX8_terminalAt 9 = .ok (.getfield 87, 3) := by decide +kernel
theorem dX8_terminalAt_12 : decode cX8_terminalAt 12 = .ok (.if_icmp .lt 13, 3) := by decide +kernel
theorem dX8_terminalAt_15 : decode cX8_terminalAt 15 = .ok (.new 133, 3) := by decide +kernel
theorem dX8_terminalAt_18 : decode cX8_terminalAt 18 = .ok (.dup, 1) := by decide +kernel
theorem dX8_terminalAt_19 : decode cX8_terminalAt 19 = .ok (.ldc 168, 2) := by decide +kernel
theorem dX8_terminalAt_21 : decode cX8_terminalAt 21 = .ok (.invokespecial 137, 3) := by decide +kernel
theorem dX8_terminalAt_24 : decode cX8_terminalAt 24 = .ok (.athrow, 1) := by decide +kernel
theorem dX8_terminalAt_25 : decode cX8_terminalAt 25 = .ok (.aload_n 0, 1) := by decide +kernel
theorem dX8_terminalAt_26 : decode cX8_terminalAt 26 = .ok (.getfield 19, 3) := by decide +kernel
theorem dX8_terminalAt_29 : decode cX8_terminalAt 29 = .ok (.iload_n 1, 1) := by decide +kernel
theorem dX8_terminalAt_30 : decode cX8_terminalAt 30 = .ok (.invokevirtual 170, 3) := by decide +kernel
theorem dX8_terminalAt_33 : decode cX8_terminalAt 33 = .ok (.ireturn, 1) := by decide +kernel
theorem dX8_treeCount_0 : decode cX8_treeCount 0 = .ok (.aload_n 0, 1) := by decide +kernel
theorem dX8_treeCount_1 : decode cX8_treeCount 1 = .ok (.invokevirtual 173, 3) := by decide +kernel
theorem dX8_treeCount_4 : decode cX8_treeCount 4 = .ok (.aload_n 0, 1) := by decide +kernel
theorem dX8_treeCount_5 : decode cX8_treeCount 5 = .ok (.getfield 43, 3) := by decide +kernel
theorem dX8_treeCount_8 : decode cX8_treeCount 8 = .ok (.aload_n 0, 1) := by decide +kernel
theorem dX8_treeCount_9 : decode cX8_treeCount 9 = .ok (.getfield 12, 3) := by decide +kernel
theorem dX8_treeCount_12 : decode cX8_treeCount 12 = .ok (.getfield 145, 3) := by decide +kernel
theorem dX8_treeCount_15 : decode cX8_treeCount 15 = .ok (.aload_n 0, 1) := by decide +kernel
theorem dX8_treeCount_16 : decode cX8_treeCount 16 = .ok (.getfield 19, 3) := by decide +kernel
theorem dX8_treeCount_19 : decode cX8_treeCount 19 = .ok (.getfield 87, 3) := by decide +kernel
theorem dX8_treeCount_22 : decode cX8_treeCount 22 = .ok (.iconst 0, 1) := by decide +kernel
theorem dX8_treeCount_23 : decode cX8_treeCount 23 = .ok (.invokevirtual 176, 3) := by decide +kernel
theorem dX8_treeCount_26 : decode cX8_treeCount 26 = .ok (.lreturn, 1) := by decide +kernel
theorem dX8_treesOfLength_0 : decode cX8_treesOfLength 0 = .ok (.iload_n 1, 1) := by decide +kernel
theorem dX8_treesOfLength_1 : decode cX8_treesOfLength 1 = .ok (.bipush 10, 2) := by decide +kernel
theorem dX8_treesOfLength_3 : decode cX8_treesOfLength 3 = .ok (.invokestatic 180, 3) := by decide +kernel
theorem dX8_treesOfLength_6 : decode cX8_treesOfLength 6 = .ok (.aload_n 0, 1) := by decide +kernel
theorem dX8_treesOfLength_7 : decode cX8_treesOfLength 7 = .ok (.iload_n 1, 1) := by decide +kernel
theorem dX8_treesOfLength_8 : decode cX8_treesOfLength 8 = .ok (.invokevirtual 183, 3) := by decide +kernel
theorem dX8_treesOfLength_11 : decode cX8_treesOfLength 11 = .ok (.lreturn, 1) := by decide +kernel
theorem dX8_wordsOfLength_0 : decode cX8_wordsOfLength 0 = .ok (.iload_n 1, 1) := by decide +kernel
theorem dX8_wordsOfLength_1 : decode cX8_wordsOfLength 1 = .ok (.bipush 6, 2) := by decide +kernel
theorem dX8_wordsOfLength_3 : decode cX8_wordsOfLength 3 = .ok (.invokestatic 180, 3) := by decide +kernel
theorem dX8_wordsOfLength_6 : decode cX8_wordsOfLength 6 = .ok (.iload_n 2, 1) := by decide +kernel
theorem dX8_wordsOfLength_7 : decode cX8_wordsOfLength 7 = .ok (.ifCond .lt 8, 3) := by decide +kernel
theorem dX8_wordsOfLength_10 : decode cX8_wordsOfLength 10 = .ok (.iload_n 2, 1) := by decide +kernel
theorem dX8_wordsOfLength_11 : decode cX8_wordsOfLength 11 = .ok (.iconst 3, 1) := by decide +kernel
theorem dX8_wordsOfLength_12 : decode cX8_wordsOfLength 12 = .ok (.if_icmp .le 13, 3) := by decide +kernel
theorem dX8_wordsOfLength_15 : decode cX8_wordsOfLength 15 = .ok (.new 74, 3) := by decide +kernel
theorem dX8_wordsOfLength_18 : decode cX8_wordsOfLength 18 = .ok (.dup, 1) := by decide +kernel
theorem dX8_wordsOfLength_19 : decode cX8_wordsOfLength 19 = .ok (.ldc 187, 2) := by decide +kernel
theorem dX8_wordsOfLength_21 : decode cX8_wordsOfLength 21 = .ok (.invokespecial 78, 3) := by decide +kernel
theorem dX8_wordsOfLength_24 : decode cX8_wordsOfLength 24 = .ok (.athrow, 1) := by decide +kernel
theorem dX8_wordsOfLength_25 : decode cX8_wordsOfLength 25 = .ok (.aload_n 0, 1) := by decide +kernel
theorem dX8_wordsOfLength_26 : decode cX8_wordsOfLength 26 = .ok (.iload_n 1, 1) := by decide +kernel
theorem dX8_wordsOfLength_27 : decode cX8_wordsOfLength 27 = .ok (.invokevirtual 189, 3) := by decide +kernel
theorem dX8_wordsOfLength_30 : decode cX8_wordsOfLength 30 = .ok (.aload_n 0, 1) := by decide +kernel
theorem dX8_wordsOfLength_31 : decode cX8_wordsOfLength 31 = .ok (.getfield 52, 3) := by decide +kernel
theorem dX8_wordsOfLength_34 : decode cX8_wordsOfLength 34 = .ok (.iconst 1, 1) := by decide +kernel
theorem dX8_wordsOfLength_35 : decode cX8_wordsOfLength 35 = .ok (.iload_n 1, 1) := by decide +kernel
theorem dX8_wordsOfLength_36 : decode cX8_wordsOfLength 36 = .ok (.invokevirtual 192, 3) := by decide +kernel
theorem dX8_wordsOfLength_39 : decode cX8_wordsOfLength 39 = .ok (.istore_n 3, 1) := by decide +kernel
theorem dX8_wordsOfLength_40 : decode cX8_wordsOfLength 40 = .ok (.aload_n 0, 1) := by decide +kernel
theorem dX8_wordsOfLength_41 : decode cX8_wordsOfLength 41 = .ok (.getfield 52, 3) := by decide +kernel
theorem dX8_wordsOfLength_44 : decode cX8_wordsOfLength 44 = .ok (.iconst 2, 1) := by decide +kernel
theorem dX8_wordsOfLength_45 : decode cX8_wordsOfLength 45 = .ok (.iload_n 1, 1) := by decide +kernel
theorem dX8_wordsOfLength_46 : decode cX8_wordsOfLength 46 = .ok (.invokevirtual 192, 3) := by decide +kernel
theorem dX8_wordsOfLength_49 : decode cX8_wordsOfLength 49 = .ok (.istore 4, 2) := by decide +kernel
theorem dX8_wordsOfLength_51 : decode cX8_wordsOfLength 51 = .ok (.iload_n 2, 1) := by decide +kernel
theorem dX8_wordsOfLength_52 : decode cX8_wordsOfLength 52 = .ok (.tableswitch 47 0 2 #[28, 39, 44], 28) := by decide +kernel
theorem dX8_wordsOfLength_80 : decode cX8_wordsOfLength 80 = .ok (.aload_n 0, 1) := by decide +kernel
theorem dX8_wordsOfLength_81 : decode cX8_wordsOfLength 81 = .ok (.getfield 52, 3) := by decide +kernel
theorem dX8_wordsOfLength_84 : decode cX8_wordsOfLength 84 = .ok (.iload_n 1, 1) := by decide +kernel
theorem dX8_wordsOfLength_85 : decode cX8_wordsOfLength 85 = .ok (.invokevirtual 195, 3) := by decide +kernel
theorem dX8_wordsOfLength_88 : decode cX8_wordsOfLength 88 = .ok (.iload_n 3, 1) := by decide +kernel
theorem dX8_wordsOfLength_89 : decode cX8_wordsOfLength 89 = .ok (.isub, 1) := by decide +kernel
theorem dX8_wordsOfLength_90 : decode cX8_wordsOfLength 90 = .ok (.ireturn, 1) := by decide +kernel
theorem dX8_wordsOfLength_91 : decode cX8_wordsOfLength 91 = .ok (.iload_n 3, 1) := by decide +kernel
theorem dX8_wordsOfLength_92 : decode cX8_wordsOfLength 92 = .ok (.iload 4, 2) := by decide +kernel
theorem dX8_wordsOfLength_94 : decode cX8_wordsOfLength 94 = .ok (.isub, 1) := by decide +kernel
theorem dX8_wordsOfLength_95 : decode cX8_wordsOfLength 95 = .ok (.ireturn, 1) := by decide +kernel
theorem dX8_wordsOfLength_96 : decode cX8_wordsOfLength 96 = .ok (.iload 4, 2) := by decide +kernel
theorem dX8_wordsOfLength_98 : decode cX8_wordsOfLength 98 = .ok (.ireturn, 1) := by decide +kernel
theorem dX8_wordsOfLength_99 : decode cX8_wordsOfLength 99 = .ok (.iload_n 3, 1) := by decide +kernel
theorem dX8_wordsOfLength_100 : decode cX8_wordsOfLength 100 = .ok (.ireturn, 1) := by decide +kernel
theorem dX8_unambiguousShare_0 : decode cX8_unambiguousShare 0 = .ok (.iload_n 1, 1) := by decide +kernel
theorem dX8_unambiguousShare_1 : decode cX8_unambiguousShare 1 = .ok (.bipush 6, 2) := by decide +kernel
theorem dX8_unambiguousShare_3 : decode cX8_unambiguousShare 3 = .ok (.invokestatic 180, 3) := by decide +kernel
theorem dX8_unambiguousShare_6 : decode cX8_unambiguousShare 6 = .ok (.aload_n 0, 1) := by decide +kernel
theorem dX8_unambiguousShare_7 : decode cX8_unambiguousShare 7 = .ok (.iload_n 1, 1) := by decide +kernel
theorem dX8_unambiguousShare_8 : decode cX8_unambiguousShare 8 = .ok (.invokevirtual 189, 3) := by decide +kernel
theorem dX8_unambiguousShare_11 : decode cX8_unambiguousShare 11 = .ok (.aload_n 0, 1) := by decide +kernel
theorem dX8_unambiguousShare_12 : decode cX8_unambiguousShare 12 = .ok (.getfield 52, 3) := by decide +kernel
theorem dX8_unambiguousShare_15 : decode cX8_unambiguousShare 15 = .ok (.iconst 1, 1) := by decide +kernel
theorem dX8_unambiguousShare_16 : decode cX8_unambiguousShare 16 = .ok (.iload_n 1, 1) := by decide +kernel
theorem dX8_unambiguousShare_17 : decode cX8_unambiguousShare 17 = .ok (.invokevirtual 192, 3) := by decide +kernel
theorem dX8_unambiguousShare_20 : decode cX8_unambiguousShare 20 = .ok (.istore_n 2, 1) := by decide +kernel
theorem dX8_unambiguousShare_21 : decode cX8_unambiguousShare 21 = .ok (.iload_n 2, 1) := by decide +kernel
theorem dX8_unambiguousShare_22 : decode cX8_unambiguousShare 22 = .ok (.iconst 1, 1) := by decide +kernel
theorem dX8_unambiguousShare_23 : decode cX8_unambiguousShare 23 = .ok (.if_icmp .ge 5, 3) := by decide +kernel
theorem dX8_unambiguousShare_26 : decode cX8_unambiguousShare 26 = .ok (.dconst 1, 1) := by decide +kernel
theorem dX8_unambiguousShare_27 : decode cX8_unambiguousShare 27 = .ok (.dreturn, 1) := by decide +kernel
theorem dX8_unambiguousShare_28 : decode cX8_unambiguousShare 28 = .ok (.iload_n 2, 1) := by decide +kernel
theorem dX8_unambiguousShare_29 : decode cX8_unambiguousShare 29 = .ok (.aload_n 0, 1) := by decide +kernel
theorem dX8_unambiguousShare_30 : decode cX8_unambiguousShare 30 = .ok (.getfield 52, 3) := by decide +kernel
theorem dX8_unambiguousShare_33 : decode cX8_unambiguousShare 33 = .ok (.iconst 2, 1) := by decide +kernel
theorem dX8_unambiguousShare_34 : decode cX8_unambiguousShare 34 = .ok (.iload_n 1, 1) := by decide +kernel
theorem dX8_unambiguousShare_35 : decode cX8_unambiguousShare 35 = .ok (.invokevirtual 192, 3) := by decide +kernel
theorem dX8_unambiguousShare_38 : decode cX8_unambiguousShare 38 = .ok (.isub, 1) := by decide +kernel
theorem dX8_unambiguousShare_39 : decode cX8_unambiguousShare 39 = .ok (.istore_n 3, 1) := by decide +kernel
theorem dX8_unambiguousShare_40 : decode cX8_unambiguousShare 40 = .ok (.iload_n 3, 1) := by decide +kernel
theorem dX8_unambiguousShare_41 : decode cX8_unambiguousShare 41 = .ok (.i2d, 1) := by decide +kernel
theorem dX8_unambiguousShare_42 : decode cX8_unambiguousShare 42 = .ok (.iload_n 2, 1) := by decide +kernel
theorem dX8_unambiguousShare_43 : decode cX8_unambiguousShare 43 = .ok (.i2d, 1) := by decide +kernel
theorem dX8_unambiguousShare_44 : decode cX8_unambiguousShare 44 = .ok (.ddiv, 1) := by decide +kernel
theorem dX8_unambiguousShare_45 : decode cX8_unambiguousShare 45 = .ok (.dreturn, 1) := by decide +kernel
theorem dX8_averageTrees_0 : decode cX8_averageTrees 0 = .ok (.iload_n 1, 1) := by decide +kernel
theorem dX8_averageTrees_1 : decode cX8_averageTrees 1 = .ok (.bipush 6, 2) := by decide +kernel
theorem dX8_averageTrees_3 : decode cX8_averageTrees 3 = .ok (.invokestatic 180, 3) := by decide +kernel
theorem dX8_averageTrees_6 : decode cX8_averageTrees 6 = .ok (.aload_n 0, 1) := by decide +kernel
theorem dX8_averageTrees_7 : decode cX8_averageTrees 7 = .ok (.iload_n 1, 1) := by decide +kernel
theorem dX8_averageTrees_8 : decode cX8_averageTrees 8 = .ok (.invokevirtual 189, 3) := by decide +kernel
theorem dX8_averageTrees_11 : decode cX8_averageTrees 11 = .ok (.aload_n 0, 1) := by decide +kernel
theorem dX8_averageTrees_12 : decode cX8_averageTrees 12 = .ok (.getfield 52, 3) := by decide +kernel
theorem dX8_averageTrees_15 : decode cX8_averageTrees 15 = .ok (.iconst 1, 1) := by decide +kernel
theorem dX8_averageTrees_16 : decode cX8_averageTrees 16 = .ok (.iload_n 1, 1) := by decide +kernel
theorem dX8_averageTrees_17 : decode cX8_averageTrees 17 = .ok (.invokevirtual 192, 3) := by decide +kernel
theorem dX8_averageTrees_20 : decode cX8_averageTrees 20 = .ok (.istore_n 2, 1) := by decide +kernel
theorem dX8_averageTrees_21 : decode cX8_averageTrees 21 = .ok (.iload_n 2, 1) := by decide +kernel
theorem dX8_averageTrees_22 : decode cX8_averageTrees 22 = .ok (.iconst 1, 1) := by decide +kernel
theorem dX8_averageTrees_23 : decode cX8_averageTrees 23 = .ok (.if_icmp .ge 13, 3) := by decide +kernel
theorem dX8_averageTrees_26 : decode cX8_averageTrees 26 = .ok (.new 198, 3) := by decide +kernel
theorem dX8_averageTrees_29 : decode cX8_averageTrees 29 = .ok (.dup, 1) := by decide +kernel
theorem dX8_averageTrees_30 : decode cX8_averageTrees 30 = .ok (.ldc 200, 2) := by decide +kernel
theorem dX8_averageTrees_32 : decode cX8_averageTrees 32 = .ok (.invokespecial 202, 3) := by decide +kernel
theorem dX8_averageTrees_35 : decode cX8_averageTrees 35 = .ok (.athrow, 1) := by decide +kernel
theorem dX8_averageTrees_36 : decode cX8_averageTrees 36 = .ok (.aload_n 0, 1) := by decide +kernel
theorem dX8_averageTrees_37 : decode cX8_averageTrees 37 = .ok (.iload_n 1, 1) := by decide +kernel
theorem dX8_averageTrees_38 : decode cX8_averageTrees 38 = .ok (.invokevirtual 183, 3) := by decide +kernel
theorem dX8_averageTrees_41 : decode cX8_averageTrees 41 = .ok (.l2d, 1) := by decide +kernel
theorem dX8_averageTrees_42 : decode cX8_averageTrees 42 = .ok (.iload_n 2, 1) := by decide +kernel
theorem dX8_averageTrees_43 : decode cX8_averageTrees 43 = .ok (.i2d, 1) := by decide +kernel
theorem dX8_averageTrees_44 : decode cX8_averageTrees 44 = .ok (.ddiv, 1) := by decide +kernel
theorem dX8_averageTrees_45 : decode cX8_averageTrees 45 = .ok (.dreturn, 1) := by decide +kernel
theorem dX8_firstAmbiguous_0 : decode cX8_firstAmbiguous 0 = .ok (.iload_n 1, 1) := by decide +kernel
theorem dX8_firstAmbiguous_1 : decode cX8_firstAmbiguous 1 = .ok (.bipush 6, 2) := by decide +kernel
theorem dX8_firstAmbiguous_3 : decode cX8_firstAmbiguous 3 = .ok (.invokestatic 180, 3) := by decide +kernel
theorem dX8_firstAmbiguous_6 : decode cX8_firstAmbiguous 6 = .ok (.iconst 1, 1) := by decide +kernel
theorem dX8_firstAmbiguous_7 : decode cX8_firstAmbiguous 7 = .ok (.istore_n 2, 1) := by decide +kernel
theorem dX8_firstAmbiguous_8 : decode cX8_firstAmbiguous 8 = .ok (.iload_n 2, 1) := by decide +kernel
theorem dX8_firstAmbiguous_9 : decode cX8_firstAmbiguous 9 = .ok (.iload_n 1, 1) := by decide +kernel
theorem dX8_firstAmbiguous_10 : decode cX8_firstAmbiguous 10 = .ok (.if_icmp .gt 37, 3) := by decide +kernel
theorem dX8_firstAmbiguous_13 : decode cX8_firstAmbiguous 13 = .ok (.aload_n 0, 1) := by decide +kernel
theorem dX8_firstAmbiguous_14 : decode cX8_firstAmbiguous 14 = .ok (.iload_n 2, 1) := by decide +kernel
theorem dX8_firstAmbiguous_15 : decode cX8_firstAmbiguous 15 = .ok (.invokevirtual 189, 3) := by decide +kernel
theorem dX8_firstAmbiguous_18 : decode cX8_firstAmbiguous 18 = .ok (.aload_n 0, 1) := by decide +kernel
theorem dX8_firstAmbiguous_19 : decode cX8_firstAmbiguous 19 = .ok (.getfield 52, 3) := by decide +kernel
theorem dX8_firstAmbiguous_22 : decode cX8_firstAmbiguous 22 = .ok (.iconst 2, 1) := by decide +kernel
theorem dX8_firstAmbiguous_23 : decode cX8_firstAmbiguous 23 = .ok (.iload_n 2, 1) := by decide +kernel
theorem dX8_firstAmbiguous_24 : decode cX8_firstAmbiguous 24 = .ok (.iconst 0, 1) := by decide +kernel
