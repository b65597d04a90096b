theorem dX8_firstAmbiguous_25 : decode cX8_firstAmbiguous 25 = .ok (.invokevirtual 203, 3) := by decide +kernel
theorem dX8_firstAmbiguous_28 : decode cX8_firstAmbiguous 28 = .ok (.istore_n 3, 1) := by decide +kernel
theorem dX8_firstAmbiguous_29 : decode cX8_firstAmbiguous 29 = .ok (.iload_n 3, 1) := by decide +kernel
theorem dX8_firstAmbiguous_30 : decode cX8_firstAmbiguous 30 = .ok (.ifCond .lt 11, 3) := by decide +kernel
theorem dX8_firstAmbiguous_33 : decode cX8_firstAmbiguous 33 = .ok (.aload_n 0, 1) := by decide +kernel
theorem dX8_firstAmbiguous_34 : decode cX8_firstAmbiguous 34 = .ok (.iload_n 2, 1) := by decide +kernel
theorem dX8_firstAmbiguous_35 : decode cX8_firstAmbiguous 35 = .ok (.iload_n 3, 1) := by decide +kernel
theorem dX8_firstAmbiguous_36 : decode cX8_firstAmbiguous 36 = .ok (.invokevirtual 207, 3) := by decide +kernel
theorem dX8_firstAmbiguous_39 : decode cX8_firstAmbiguous 39 = .ok (.iload_n 2, 1) := by decide +kernel
theorem dX8_firstAmbiguous_40 : decode cX8_firstAmbiguous 40 = .ok (.ireturn, 1) := by decide +kernel
theorem dX8_firstAmbiguous_41 : decode cX8_firstAmbiguous 41 = .ok (.iinc 2 1, 3) := by decide +kernel
theorem dX8_firstAmbiguous_44 : decode cX8_firstAmbiguous 44 = .ok (.goto (-36), 3) := by decide +kernel
theorem dX8_firstAmbiguous_47 : decode cX8_firstAmbiguous 47 = .ok (.new 198, 3) := by decide +kernel
theorem dX8_firstAmbiguous_50 : decode cX8_firstAmbiguous 50 = .ok (.dup, 1) := by decide +kernel
theorem dX8_firstAmbiguous_51 : decode cX8_firstAmbiguous 51 = .ok (.ldc 210, 2) := by decide +kernel
theorem dX8_firstAmbiguous_53 : decode cX8_firstAmbiguous 53 = .ok (.invokespecial 202, 3) := by decide +kernel
theorem dX8_firstAmbiguous_56 : decode cX8_firstAmbiguous 56 = .ok (.athrow, 1) := by decide +kernel
theorem dX8_wordRank_0 : decode cX8_wordRank 0 = .ok (.aload_n 0, 1) := by decide +kernel
theorem dX8_wordRank_1 : decode cX8_wordRank 1 = .ok (.getfield 19, 3) := by decide +kernel
theorem dX8_wordRank_4 : decode cX8_wordRank 4 = .ok (.getfield 87, 3) := by decide +kernel
theorem dX8_wordRank_7 : decode cX8_wordRank 7 = .ok (.iconst 1, 1) := by decide +kernel
theorem dX8_wordRank_8 : decode cX8_wordRank 8 = .ok (.if_icmp .lt 15, 3) := by decide +kernel
theorem dX8_wordRank_11 : decode cX8_wordRank 11 = .ok (.aload_n 0, 1) := by decide +kernel
theorem dX8_wordRank_12 : decode cX8_wordRank 12 = .ok (.getfield 19, 3) := by decide +kernel
theorem dX8_wordRank_15 : decode cX8_wordRank 15 = .ok (.getfield 87, 3) := by decide +kernel
theorem dX8_wordRank_18 : decode cX8_wordRank 18 = .ok (.bipush 6, 2) := by decide +kernel
theorem dX8_wordRank_20 : decode cX8_wordRank 20 = .ok (.if_icmp .le 13, 3) := by decide +kernel
theorem dX8_wordRank_23 : decode cX8_wordRank 23 = .ok (.new 113, 3) := by decide +kernel
theorem dX8_wordRank_26 : decode cX8_wordRank 26 = .ok (.dup, 1) := by decide +kernel
theorem dX8_wordRank_27 : decode cX8_wordRank 27 = .ok (.ldc 212, 2) := by decide +kernel
theorem dX8_wordRank_29 : decode cX8_wordRank 29 = .ok (.invokespecial 117, 3) := by decide +kernel
theorem dX8_wordRank_32 : decode cX8_wordRank 32 = .ok (.athrow, 1) := by decide +kernel
theorem dX8_wordRank_33 : decode cX8_wordRank 33 = .ok (.aload_n 0, 1) := by decide +kernel
theorem dX8_wordRank_34 : decode cX8_wordRank 34 = .ok (.aload_n 0, 1) := by decide +kernel
theorem dX8_wordRank_35 : decode cX8_wordRank 35 = .ok (.getfield 19, 3) := by decide +kernel
theorem dX8_wordRank_38 : decode cX8_wordRank 38 = .ok (.getfield 87, 3) := by decide +kernel
theorem dX8_wordRank_41 : decode cX8_wordRank 41 = .ok (.invokevirtual 189, 3) := by decide +kernel
theorem dX8_wordRank_44 : decode cX8_wordRank 44 = .ok (.aload_n 0, 1) := by decide +kernel
theorem dX8_wordRank_45 : decode cX8_wordRank 45 = .ok (.getfield 19, 3) := by decide +kernel
theorem dX8_wordRank_48 : decode cX8_wordRank 48 = .ok (.aload_n 0, 1) := by decide +kernel
theorem dX8_wordRank_49 : decode cX8_wordRank 49 = .ok (.getfield 12, 3) := by decide +kernel
theorem dX8_wordRank_52 : decode cX8_wordRank 52 = .ok (.getfield 214, 3) := by decide +kernel
theorem dX8_wordRank_55 : decode cX8_wordRank 55 = .ok (.invokevirtual 217, 3) := by decide +kernel
theorem dX8_wordRank_58 : decode cX8_wordRank 58 = .ok (.istore_n 1, 1) := by decide +kernel
theorem dX8_wordRank_59 : decode cX8_wordRank 59 = .ok (.aload_n 0, 1) := by decide +kernel
theorem dX8_wordRank_60 : decode cX8_wordRank 60 = .ok (.getfield 52, 3) := by decide +kernel
theorem dX8_wordRank_63 : decode cX8_wordRank 63 = .ok (.aload_n 0, 1) := by decide +kernel
theorem dX8_wordRank_64 : decode cX8_wordRank 64 = .ok (.getfield 19, 3) := by decide +kernel
theorem dX8_wordRank_67 : decode cX8_wordRank 67 = .ok (.getfield 87, 3) := by decide +kernel
theorem dX8_wordRank_70 : decode cX8_wordRank 70 = .ok (.iload_n 1, 1) := by decide +kernel
theorem dX8_wordRank_71 : decode cX8_wordRank 71 = .ok (.invokevirtual 220, 3) := by decide +kernel
theorem dX8_wordRank_74 : decode cX8_wordRank 74 = .ok (.lconst 1, 1) := by decide +kernel
theorem dX8_wordRank_75 : decode cX8_wordRank 75 = .ok (.lcmp, 1) := by decide +kernel
theorem dX8_wordRank_76 : decode cX8_wordRank 76 = .ok (.ifCond .ge 13, 3) := by decide +kernel
theorem dX8_wordRank_79 : decode cX8_wordRank 79 = .ok (.new 198, 3) := by decide +kernel
theorem dX8_wordRank_82 : decode cX8_wordRank 82 = .ok (.dup, 1) := by decide +kernel
theorem dX8_wordRank_83 : decode cX8_wordRank 83 = .ok (.ldc 223, 2) := by decide +kernel
theorem dX8_wordRank_85 : decode cX8_wordRank 85 = .ok (.invokespecial 202, 3) := by decide +kernel
theorem dX8_wordRank_88 : decode cX8_wordRank 88 = .ok (.athrow, 1) := by decide +kernel
theorem dX8_wordRank_89 : decode cX8_wordRank 89 = .ok (.aload_n 0, 1) := by decide +kernel
theorem dX8_wordRank_90 : decode cX8_wordRank 90 = .ok (.getfield 52, 3) := by decide +kernel
theorem dX8_wordRank_93 : decode cX8_wordRank 93 = .ok (.iload_n 1, 1) := by decide +kernel
theorem dX8_wordRank_94 : decode cX8_wordRank 94 = .ok (.iconst 1, 1) := by decide +kernel
theorem dX8_wordRank_95 : decode cX8_wordRank 95 = .ok (.aload_n 0, 1) := by decide +kernel
theorem dX8_wordRank_96 : decode cX8_wordRank 96 = .ok (.getfield 19, 3) := by decide +kernel
theorem dX8_wordRank_99 : decode cX8_wordRank 99 = .ok (.getfield 87, 3) := by decide +kernel
theorem dX8_wordRank_102 : decode cX8_wordRank 102 = .ok (.invokevirtual 225, 3) := by decide +kernel
theorem dX8_wordRank_105 : decode cX8_wordRank 105 = .ok (.ireturn, 1) := by decide +kernel
theorem dX8_takeWord_0 : decode cX8_takeWord 0 = .ok (.iload_n 1, 1) := by decide +kernel
theorem dX8_takeWord_1 : decode cX8_takeWord 1 = .ok (.bipush 6, 2) := by decide +kernel
theorem dX8_takeWord_3 : decode cX8_takeWord 3 = .ok (.invokestatic 180, 3) := by decide +kernel
theorem dX8_takeWord_6 : decode cX8_takeWord 6 = .ok (.iload_n 2, 1) := by decide +kernel
theorem dX8_takeWord_7 : decode cX8_takeWord 7 = .ok (.ifCond .ge 13, 3) := by decide +kernel
theorem dX8_takeWord_10 : decode cX8_takeWord 10 = .ok (.new 74, 3) := by decide +kernel
theorem dX8_takeWord_13 : decode cX8_takeWord 13 = .ok (.dup, 1) := by decide +kernel
theorem dX8_takeWord_14 : decode cX8_takeWord 14 = .ok (.ldc 228, 2) := by decide +kernel
theorem dX8_takeWord_16 : decode cX8_takeWord 16 = .ok (.invokespecial 78, 3) := by decide +kernel
theorem dX8_takeWord_19 : decode cX8_takeWord 19 = .ok (.athrow, 1) := by decide +kernel
theorem dX8_takeWord_20 : decode cX8_takeWord 20 = .ok (.aload_n 0, 1) := by decide +kernel
theorem dX8_takeWord_21 : decode cX8_takeWord 21 = .ok (.iload_n 1, 1) := by decide +kernel
theorem dX8_takeWord_22 : decode cX8_takeWord 22 = .ok (.invokevirtual 189, 3) := by decide +kernel
theorem dX8_takeWord_25 : decode cX8_takeWord 25 = .ok (.aload_n 0, 1) := by decide +kernel
theorem dX8_takeWord_26 : decode cX8_takeWord 26 = .ok (.getfield 52, 3) := by decide +kernel
theorem dX8_takeWord_29 : decode cX8_takeWord 29 = .ok (.iconst 1, 1) := by decide +kernel
theorem dX8_takeWord_30 : decode cX8_takeWord 30 = .ok (.iload_n 1, 1) := by decide +kernel
theorem dX8_takeWord_31 : decode cX8_takeWord 31 = .ok (.iload_n 2, 1) := by decide +kernel
theorem dX8_takeWord_32 : decode cX8_takeWord 32 = .ok (.invokevirtual 203, 3) := by decide +kernel
theorem dX8_takeWord_35 : decode cX8_takeWord 35 = .ok (.istore_n 3, 1) := by decide +kernel
theorem dX8_takeWord_36 : decode cX8_takeWord 36 = .ok (.iload_n 3, 1) := by decide +kernel
theorem dX8_takeWord_37 : decode cX8_takeWord 37 = .ok (.ifCond .ge 13, 3) := by decide +kernel
theorem dX8_takeWord_40 : decode cX8_takeWord 40 = .ok (.new 198, 3) := by decide +kernel
theorem dX8_takeWord_43 : decode cX8_takeWord 43 = .ok (.dup, 1) := by decide +kernel
theorem dX8_takeWord_44 : decode cX8_takeWord 44 = .ok (.ldc 230, 2) := by decide +kernel
theorem dX8_takeWord_46 : decode cX8_takeWord 46 = .ok (.invokespecial 202, 3) := by decide +kernel
theorem dX8_takeWord_49 : decode cX8_takeWord 49 = .ok (.athrow, 1) := by decide +kernel
theorem dX8_takeWord_50 : decode cX8_takeWord 50 = .ok (.aload_n 0, 1) := by decide +kernel
theorem dX8_takeWord_51 : decode cX8_takeWord 51 = .ok (.iload_n 1, 1) := by decide +kernel
theorem dX8_takeWord_52 : decode cX8_takeWord 52 = .ok (.iload_n 3, 1) := by decide +kernel
theorem dX8_takeWord_53 : decode cX8_takeWord 53 = .ok (.invokevirtual 207, 3) := by decide +kernel
theorem dX8_takeWord_56 : decode cX8_takeWord 56 = .ok (.return_, 1) := by decide +kernel
theorem dX8_drawWord_0 : decode cX8_drawWord 0 = .ok (.iload_n 3, 1) := by decide +kernel
theorem dX8_drawWord_1 : decode cX8_drawWord 1 = .ok (.bipush 6, 2) := by decide +kernel
theorem dX8_drawWord_3 : decode cX8_drawWord 3 = .ok (.invokestatic 180, 3) := by decide +kernel
theorem dX8_drawWord_6 : decode cX8_drawWord 6 = .ok (.aload_n 0, 1) := by decide +kernel
theorem dX8_drawWord_7 : decode cX8_drawWord 7 = .ok (.iload_n 3, 1) := by decide +kernel
theorem dX8_drawWord_8 : decode cX8_drawWord 8 = .ok (.invokevirtual 189, 3) := by decide +kernel
theorem dX8_drawWord_11 : decode cX8_drawWord 11 = .ok (.aload_n 0, 1) := by decide +kernel
theorem dX8_drawWord_12 : decode cX8_drawWord 12 = .ok (.getfield 52, 3) := by decide +kernel
theorem dX8_drawWord_15 : decode cX8_drawWord 15 = .ok (.iconst 1, 1) := by decide +kernel
theorem dX8_drawWord_16 : decode cX8_drawWord 16 = .ok (.iload_n 3, 1) := by decide +kernel
theorem dX8_drawWord_17 : decode cX8_drawWord 17 = .ok (.invokevirtual 192, 3) := by decide +kernel
theorem dX8_drawWord_20 : decode cX8_drawWord 20 = .ok (.istore 4, 2) := by decide +kernel
theorem dX8_drawWord_22 : decode cX8_drawWord 22 = .ok (.iload 4, 2) := by decide +kernel
theorem dX8_drawWord_24 : decode cX8_drawWord 24 = .ok (.iconst 1, 1) := by decide +kernel
theorem dX8_drawWord_25 : decode cX8_drawWord 25 = .ok (.if_icmp .ge 13, 3) := by decide +kernel
theorem dX8_drawWord_28 : decode cX8_drawWord 28 = .ok (.new 198, 3) := by decide +kernel
theorem dX8_drawWord_31 : decode cX8_drawWord 31 = .ok (.dup, 1) := by decide +kernel
theorem dX8_drawWord_32 : decode cX8_drawWord 32 = .ok (.ldc 200, 2) := by decide +kernel
theorem dX8_drawWord_34 : decode cX8_drawWord 34 = .ok (.invokespecial 202, 3) := by decide +kernel
theorem dX8_drawWord_37 : decode cX8_drawWord 37 = .ok (.athrow, 1) := by decide +kernel
theorem dX8_drawWord_38 : decode cX8_drawWord 38 = .ok (.lload_n 1, 1) := by decide +kernel
theorem dX8_drawWord_39 : decode cX8_drawWord 39 = .ok (.iload 4, 2) := by decide +kernel
theorem dX8_drawWord_41 : decode cX8_drawWord 41 = .ok (.i2l, 1) := by decide +kernel
theorem dX8_drawWord_42 : decode cX8_drawWord 42 = .ok (.invokestatic 232, 3) := by decide +kernel
theorem dX8_drawWord_45 : decode cX8_drawWord 45 = .ok (.l2i, 1) := by decide +kernel
theorem dX8_drawWord_46 : decode cX8_drawWord 46 = .ok (.istore 5, 2) := by decide +kernel
theorem dX8_drawWord_48 : decode cX8_drawWord 48 = .ok (.aload_n 0, 1) := by decide +kernel
theorem dX8_drawWord_49 : decode cX8_drawWord 49 = .ok (.iload_n 3, 1) := by decide +kernel
theorem dX8_drawWord_50 : decode cX8_drawWord 50 = .ok (.aload_n 0, 1) := by decide +kernel
theorem dX8_drawWord_51 : decode cX8_drawWord 51 = .ok (.getfield 52, 3) := by decide +kernel
theorem dX8_drawWord_54 : decode cX8_drawWord 54 = .ok (.iconst 1, 1) := by decide +kernel
theorem dX8_drawWord_55 : decode cX8_drawWord 55 = .ok (.iload_n 3, 1) := by decide +kernel
theorem dX8_drawWord_56 : decode cX8_drawWord 56 = .ok (.iload 5, 2) := by decide +kernel
theorem dX8_drawWord_58 : decode cX8_drawWord 58 = .ok (.invokevirtual 203, 3) := by decide +kernel
theorem dX8_drawWord_61 : decode cX8_drawWord 61 = .ok (.invokevirtual 207, 3) := by decide +kernel
theorem dX8_drawWord_64 : decode cX8_drawWord 64 = .ok (.iload 5, 2) := by decide +kernel
theorem dX8_drawWord_66 : decode cX8_drawWord 66 = .ok (.ireturn, 1) := by decide +kernel
theorem dX8_drawTree_0 : decode cX8_drawTree 0 = .ok (.iload_n 3, 1) := by decide +kernel
theorem dX8_drawTree_1 : decode cX8_drawTree 1 = .ok (.bipush 8, 2) := by decide +kernel
theorem dX8_drawTree_3 : decode cX8_drawTree 3 = .ok (.invokestatic 180, 3) := by decide +kernel
theorem dX8_drawTree_6 : decode cX8_drawTree 6 = .ok (.aload_n 0, 1) := by decide +kernel
theorem dX8_drawTree_7 : decode cX8_drawTree 7 = .ok (.iload_n 3, 1) := by decide +kernel
theorem dX8_drawTree_8 : decode cX8_drawTree 8 = .ok (.invokevirtual 183, 3) := by decide +kernel
theorem dX8_drawTree_11 : decode cX8_drawTree 11 = .ok (.lstore 4, 2) := by decide +kernel
theorem dX8_drawTree_13 : decode cX8_drawTree 13 = .ok (.lload 4, 2) := by decide +kernel
theorem dX8_drawTree_15 : decode cX8_drawTree 15 = .ok (.lconst 1, 1) := by decide +kernel
theorem dX8_drawTree_16 : decode cX8_drawTree 16 = .ok (.lcmp, 1) := by decide +kernel
theorem dX8_drawTree_17 : decode cX8_drawTree 17 = .ok (.ifCond .ge 13, 3) := by decide +kernel
theorem dX8_drawTree_20 : decode cX8_drawTree 20 = .ok (.new 198, 3) := by decide +kernel
theorem dX8_drawTree_23 : decode cX8_drawTree 23 = .ok (.dup, 1) := by decide +kernel
theorem dX8_drawTree_24 : decode cX8_drawTree 24 = .ok (.ldc 236, 2) := by decide +kernel
theorem dX8_drawTree_26 : decode cX8_drawTree 26 = .ok (.invokespecial 202, 3) := by decide +kernel
theorem dX8_drawTree_29 : decode cX8_drawTree 29 = .ok (.athrow, 1) := by decide +kernel
theorem dX8_drawTree_30 : decode cX8_drawTree 30 = .ok (.lload_n 1, 1) := by decide +kernel
theorem dX8_drawTree_31 : decode cX8_drawTree 31 = .ok (.lload 4, 2) := by decide +kernel
theorem dX8_drawTree_33 : decode cX8_drawTree 33 = .ok (.invokestatic 232, 3) := by decide +kernel
theorem dX8_drawTree_36 : decode cX8_drawTree 36 = .ok (.lstore 6, 2) := by decide +kernel
theorem dX8_drawTree_38 : decode cX8_drawTree 38 = .ok (.aload_n 0, 1) := by decide +kernel
theorem dX8_drawTree_39 : decode cX8_drawTree 39 = .ok (.getfield 59, 3) := by decide +kernel
theorem dX8_drawTree_42 : decode cX8_drawTree 42 = .ok (.iconst 0, 1) := by decide +kernel
theorem dX8_drawTree_43 : decode cX8_drawTree 43 = .ok (.putfield 238, 3) := by decide +kernel
theorem dX8_drawTree_46 : decode cX8_drawTree 46 = .ok (.aload_n 0, 1) := by decide +kernel
theorem dX8_drawTree_47 : decode cX8_drawTree 47 = .ok (.getfield 59, 3) := by decide +kernel
theorem dX8_drawTree_50 : decode cX8_drawTree 50 = .ok (.aload_n 0, 1) := by decide +kernel
theorem dX8_drawTree_51 : decode cX8_drawTree 51 = .ok (.getfield 34, 3) := by decide +kernel
theorem dX8_drawTree_54 : decode cX8_drawTree 54 = .ok (.aload_n 0, 1) := by decide +kernel
theorem dX8_drawTree_55 : decode cX8_drawTree 55 = .ok (.getfield 12, 3) := by decide +kernel
theorem dX8_drawTree_58 : decode cX8_drawTree 58 = .ok (.getfield 145, 3) := by decide +kernel
theorem dX8_drawTree_61 : decode cX8_drawTree 61 = .ok (.iconst 0, 1) := by decide +kernel
theorem dX8_drawTree_62 : decode cX8_drawTree 62 = .ok (.iconst 0, 1) := by decide +kernel
theorem dX8_drawTree_63 : decode cX8_drawTree 63 = .ok (.iload_n 3, 1) := by decide +kernel
theorem dX8_drawTree_64 : decode cX8_drawTree 64 = .ok (.lload 6, 2) := by decide +kernel
theorem dX8_drawTree_66 : decode cX8_drawTree 66 = .ok (.invokevirtual 241, 3) := by decide +kernel
theorem dX8_drawTree_69 : decode cX8_drawTree 69 = .ok (.aload_n 0, 1) := by decide +kernel
theorem dX8_drawTree_70 : decode cX8_drawTree 70 = .ok (.getfield 19, 3) := by decide +kernel
theorem dX8_drawTree_73 : decode cX8_drawTree 73 = .ok (.iload_n 3, 1) := by decide +kernel
theorem dX8_drawTree_74 : decode cX8_drawTree 74 = .ok (.putfield 87, 3) := by decide +kernel
theorem dX8_drawTree_77 : decode cX8_drawTree 77 = .ok (.aload_n 0, 1) := by decide +kernel
theorem dX8_drawTree_78 : decode cX8_drawTree 78 = .ok (.getfield 59, 3) := by decide +kernel
theorem dX8_drawTree_81 : decode cX8_drawTree 81 = .ok (.aload_n 0, 1) := by decide +kernel
theorem dX8_drawTree_82 : decode cX8_drawTree 82 = .ok (.getfield 19, 3) := by decide +kernel
theorem dX8_drawTree_85 : decode cX8_drawTree 85 = .ok (.invokevirtual 245, 3) := by decide +kernel
theorem dX8_drawTree_88 : decode cX8_drawTree 88 = .ok (.aload_n 0, 1) := by decide +kernel
theorem dX8_drawTree_89 : decode cX8_drawTree 89 = .ok (.invokevirtual 173, 3) := by decide +kernel
theorem dX8_drawTree_92 : decode cX8_drawTree 92 = .ok (.aload_n 0, 1) := by decide +kernel
theorem dX8_drawTree_93 : decode cX8_drawTree 93 = .ok (.getfield 59, 3) := by decide +kernel
theorem dX8_drawTree_96 : decode cX8_drawTree 96 = .ok (.aload_n 0, 1) := by decide +kernel
theorem dX8_drawTree_97 : decode cX8_drawTree 97 = .ok (.getfield 59, 3) := by decide +kernel
theorem dX8_drawTree_100 : decode cX8_drawTree 100 = .ok (.aload_n 0, 1) := by decide +kernel
theorem dX8_drawTree_101 : decode cX8_drawTree 101 = .ok (.getfield 43, 3) := by decide +kernel
theorem dX8_drawTree_104 : decode cX8_drawTree 104 = .ok (.invokevirtual 249, 3) := by decide +kernel
theorem dX8_drawTree_107 : decode cX8_drawTree 107 = .ok (.putfield 253, 3) := by decide +kernel
theorem dX8_drawTree_110 : decode cX8_drawTree 110 = .ok (.aload_n 0, 1) := by decide +kernel
theorem dX8_drawTree_111 : decode cX8_drawTree 111 = .ok (.getfield 59, 3) := by decide +kernel
theorem dX8_drawTree_114 : decode cX8_drawTree 114 = .ok (.iconst 1, 1) := by decide +kernel
theorem dX8_drawTree_115 : decode cX8_drawTree 115 = .ok (.putfield 148, 3) := by decide +kernel
theorem dX8_drawTree_118 : decode cX8_drawTree 118 = .ok (.lload 6, 2) := by decide +kernel
theorem dX8_drawTree_120 : decode cX8_drawTree 120 = .ok (.lreturn, 1) := by decide +kernel
theorem dX8_takeTree_0 : decode cX8_takeTree 0 = .ok (.aload_n 0, 1) := by decide +kernel
theorem dX8_takeTree_1 : decode cX8_takeTree 1 = .ok (.invokevirtual 173, 3) := by decide +kernel
theorem dX8_takeTree_4 : decode cX8_takeTree 4 = .ok (.lload_n 1, 1) := by decide +kernel
theorem dX8_takeTree_5 : decode cX8_takeTree 5 = .ok (.lconst 0, 1) := by decide +kernel
theorem dX8_takeTree_6 : decode cX8_takeTree 6 = .ok (.lcmp, 1) := by decide +kernel
theorem dX8_takeTree_7 : decode cX8_takeTree 7 = .ok (.ifCond .lt 30, 3) := by decide +kernel
theorem dX8_takeTree_10 : decode cX8_takeTree 10 = .ok (.lload_n 1, 1) := by decide +kernel
theorem dX8_takeTree_11 : decode cX8_takeTree 11 = .ok (.aload_n 0, 1) := by decide +kernel
theorem dX8_takeTree_12 : decode cX8_takeTree 12 = .ok (.getfield 43, 3) := by decide +kernel
theorem dX8_takeTree_15 : decode cX8_takeTree 15 = .ok (.aload_n 0, 1) := by decide +kernel
theorem dX8_takeTree_16 : decode cX8_takeTree 16 = .ok (.getfield 12, 3) := by decide +kernel
theorem dX8_takeTree_19 : decode cX8_takeTree 19 = .ok (.getfield 145, 3) := by decide +kernel
theorem dX8_takeTree_22 : decode cX8_takeTree 22 = .ok (.aload_n 0, 1) := by decide +kernel
theorem dX8_takeTree_23 : decode cX8_takeTree 23 = .ok (.getfield 19, 3) := by decide +kernel
theorem dX8_takeTree_26 : decode cX8_takeTree 26 = .ok (.getfield 87, 3) := by decide +kernel
theorem dX8_takeTree_29 : decode cX8_takeTree 29 = .ok (.iconst 0, 1) := by decide +kernel
theorem dX8_takeTree_30 : decode cX8_takeTree 30 = .ok (.invokevirtual 176, 3) := by decide +kernel
theorem dX8_takeTree_33 : decode cX8_takeTree 33 = .ok (.lcmp, 1) := by decide +kernel
theorem dX8_takeTree_34 : decode cX8_takeTree 34 = .ok (.ifCond .lt 14, 3) := by decide +kernel
theorem dX8_takeTree_37 : decode cX8_takeTree 37 = .ok (.new 198, 3) := by decide +kernel
theorem dX8_takeTree_40 : decode cX8_takeTree 40 = .ok (.dup, 1) := by decide +kernel
theorem dX8_takeTree_41 : decode cX8_takeTree 41 = .ok (.ldc_w 257, 3) := by decide +kernel
theorem dX8_takeTree_44 : decode cX8_takeTree 44 = .ok (.invokespecial 202, 3) := by decide +kernel
theorem dX8_takeTree_47 : decode cX8_takeTree 47 = .ok (.athrow, 1) := by decide +kernel
theorem dX8_takeTree_48 : decode cX8_takeTree 48 = .ok (.aload_n 0, 1) := by decide +kernel
theorem dX8_takeTree_49 : decode cX8_takeTree 49 = .ok (.getfield 59, 3) := by decide +kernel
theorem dX8_takeTree_52 : decode cX8_takeTree 52 = .ok (.iconst 0, 1) := by decide +kernel
theorem dX8_takeTree_53 : decode cX8_takeTree 53 = .ok (.putfield 238, 3) := by decide +kernel
theorem dX8_takeTree_56 : decode cX8_takeTree 56 = .ok (.aload_n 0, 1) := by decide +kernel
theorem dX8_takeTree_57 : decode cX8_takeTree 57 = .ok (.getfield 59, 3) := by decide +kernel
theorem dX8_takeTree_60 : decode cX8_takeTree 60 = .ok (.aload_n 0, 1) := by decide +kernel
theorem dX8_takeTree_61 : decode cX8_takeTree 61 = .ok (.getfield 43, 3) := by decide +kernel
theorem dX8_takeTree_64 : decode cX8_takeTree 64 = .ok (.aload_n 0, 1) := by decide +kernel
theorem dX8_takeTree_65 : decode cX8_takeTree 65 = .ok (.getfield 12, 3) := by decide +kernel
theorem dX8_takeTree_68 : decode cX8_takeTree 68 = .ok (.getfield 145, 3) := by decide +kernel
theorem dX8_takeTree_71 : decode cX8_takeTree 71 = .ok (.iconst 0, 1) := by decide +kernel
theorem dX8_takeTree_72 : decode cX8_takeTree 72 = .ok (.iconst 0, 1) := by decide +kernel
theorem dX8_takeTree_73 : decode cX8_takeTree 73 = .ok (.aload_n 0, 1) := by decide +kernel
theorem dX8_takeTree_74 : decode cX8_takeTree 74 = .ok (.getfield 19, 3) := by decide +kernel
theorem dX8_takeTree_77 : decode cX8_takeTree 77 = .ok (.getfield 87, 3) := by decide +kernel
theorem dX8_takeTree_80 : decode cX8_takeTree 80 = .ok (.lload_n 1, 1) := by decide +kernel
theorem dX8_takeTree_81 : decode cX8_takeTree 81 = .ok (.invokevirtual 241, 3) := by decide +kernel
theorem dX8_takeTree_84 : decode cX8_takeTree 84 = .ok (.aload_n 0, 1) := by decide +kernel
theorem dX8_takeTree_85 : decode cX8_takeTree 85 = .ok (.getfield 59, 3) := by decide +kernel
theorem dX8_takeTree_88 : decode cX8_takeTree 88 = .ok (.lload_n 1, 1) := by decide +kernel
theorem dX8_takeTree_89 : decode cX8_takeTree 89 = .ok (.putfield 253, 3) := by decide +kernel
theorem dX8_takeTree_92 : decode cX8_takeTree 92 = .ok (.aload_n 0, 1) := by decide +kernel
theorem dX8_takeTree_93 : decode cX8_takeTree 93 = .ok (.getfield 59, 3) := by decide +kernel
theorem dX8_takeTree_96 : decode cX8_takeTree 96 = .ok (.iconst 1, 1) := by decide +kernel
theorem dX8_takeTree_97 : decode cX8_takeTree 97 = .ok (.putfield 148, 3) := by decide +kernel
theorem dX8_takeTree_100 : decode cX8_takeTree 100 = .ok (.aload_n 0, 1) := by decide +kernel
theorem dX8_takeTree_101 : decode cX8_takeTree 101 = .ok (.getfield 59, 3) := by decide +kernel
theorem dX8_takeTree_104 : decode cX8_takeTree 104 = .ok (.getfield 238, 3) := by decide +kernel
theorem dX8_takeTree_107 : decode cX8_takeTree 107 = .ok (.ireturn, 1) := by decide +kernel
theorem dX8_treeNumber_0 : decode cX8_treeNumber 0 = .ok (.aload_n 0, 1) := by decide +kernel
theorem dX8_treeNumber_1 : decode cX8_treeNumber 1 = .ok (.invokevirtual 259, 3) := by decide +kernel
theorem dX8_treeNumber_4 : decode cX8_treeNumber 4 = .ok (.aload_n 0, 1) := by decide +kernel
theorem dX8_treeNumber_5 : decode cX8_treeNumber 5 = .ok (.getfield 59, 3) := by decide +kernel
theorem dX8_treeNumber_8 : decode cX8_treeNumber 8 = .ok (.getfield 253, 3) := by decide +kernel
theorem dX8_treeNumber_11 : decode cX8_treeNumber 11 = .ok (.lreturn, 1) := by decide +kernel
theorem dX8_treeSize_0 : decode cX8_treeSize 0 = .ok (.aload_n 0, 1) := by decide +kernel
theorem dX8_treeSize_1 : decode cX8_treeSize 1 = .ok (.invokevirtual 259, 3) := by decide +kernel
theorem dX8_treeSize_4 : decode cX8_treeSize 4 = .ok (.aload_n 0, 1) := by decide +kernel
theorem dX8_treeSize_5 : decode cX8_treeSize 5 = .ok (.getfield 59, 3) := by decide +kernel
theorem dX8_treeSize_8 : decode cX8_treeSize 8 = .ok (.getfield 238, 3) := by decide +kernel
theorem dX8_treeSize_11 : decode cX8_treeSize 11 = .ok (.ireturn, 1) := by decide +kernel
theorem dX8_treeNode_0 : decode cX8_treeNode 0 = .ok (.aload_n 0, 1) := by decide +kernel
theorem dX8_treeNode_1 : decode cX8_treeNode 1 = .ok (.invokevirtual 259, 3) := by decide +kernel
theorem dX8_treeNode_4 : decode cX8_treeNode 4 = .ok (.iload_n 1, 1) := by decide +kernel
theorem dX8_treeNode_5 : decode cX8_treeNode 5 = .ok (.ifCond .lt 14, 3) := by decide +kernel
theorem dX8_treeNode_8 : decode cX8_treeNode 8 = .ok (.iload_n 1, 1) := by decide +kernel
theorem dX8_treeNode_9 : decode cX8_treeNode 9 = .ok (.aload_n 0, 1) := by decide +kernel
theorem dX8_treeNode_10 : decode cX8_treeNode 10 = .ok (.getfield 59, 3) := by decide +kernel
theorem dX8_treeNode_13 : decode cX8_treeNode 13 = .ok (.getfield 238, 3) := by decide +kernel
theorem dX8_treeNode_16 : decode cX8_treeNode 16 = .ok (.if_icmp .lt 14, 3) := by decide +kernel
theorem dX8_treeNode_19 : decode cX8_treeNode 19 = .ok (.new 133, 3) := by decide +kernel
theorem dX8_treeNode_22 : decode cX8_treeNode 22 = .ok (.dup, 1) := by decide +kernel
theorem dX8_treeNode_23 : decode cX8_treeNode 23 = .ok (.ldc_w 262, 3) := by decide +kernel
theorem dX8_treeNode_26 : decode cX8_treeNode 26 = .ok (.invokespecial 137, 3) := by decide +kernel
theorem dX8_treeNode_29 : decode cX8_treeNode 29 = .ok (.athrow, 1) := by decide +kernel
theorem dX8_treeNode_30 : decode cX8_treeNode 30 = .ok (.iload_n 2, 1) := by decide +kernel
theorem dX8_treeNode_31 : decode cX8_treeNode 31 = .ok (.tableswitch 55 0 2 #[25, 35, 45], 25) := by decide +kernel
theorem dX8_treeNode_56 : decode cX8_treeNode 56 = .ok (.aload_n 0, 1) := by decide +kernel
theorem dX8_treeNode_57 : decode cX8_treeNode 57 = .ok (.getfield 59, 3) := by decide +kernel
theorem dX8_treeNode_60 : decode cX8_treeNode 60 = .ok (.getfield 264, 3) := by decide +kernel
theorem dX8_treeNode_63 : decode cX8_treeNode 63 = .ok (.iload_n 1, 1) := by decide +kernel
theorem dX8_treeNode_64 : decode cX8_treeNode 64 = .ok (.iaload, 1) := by decide +kernel
theorem dX8_treeNode_65 : decode cX8_treeNode 65 = .ok (.ireturn, 1) := by decide +kernel
theorem dX8_treeNode_66 : decode cX8_treeNode 66 = .ok (.aload_n 0, 1) := by decide +kernel
theorem dX8_treeNode_67 : decode cX8_treeNode 67 = .ok (.getfield 59, 3) := by decide +kernel
theorem dX8_treeNode_70 : decode cX8_treeNode 70 = .ok (.getfield 267, 3) := by decide +kernel
theorem dX8_treeNode_73 : decode cX8_treeNode 73 = .ok (.iload_n 1, 1) := by decide +kernel
theorem dX8_treeNode_74 : decode cX8_treeNode 74 = .ok (.iaload, 1) := by decide +kernel
theorem dX8_treeNode_75 : decode cX8_treeNode 75 = .ok (.ireturn, 1) := by decide +kernel
theorem dX8_treeNode_76 : decode cX8_treeNode 76 = .ok (.aload_n 0, 1) := by decide +kernel
theorem dX8_treeNode_77 : decode cX8_treeNode 77 = .ok (.getfield 59, 3) := by decide +kernel
theorem dX8_treeNode_80 : decode cX8_treeNode 80 = .ok (.getfield 270, 3) := by decide +kernel
theorem dX8_treeNode_83 : decode cX8_treeNode 83 = .ok (.iload_n 1, 1) := by decide +kernel
theorem dX8_treeNode_84 : decode cX8_treeNode 84 = .ok (.iaload, 1) := by decide +kernel
theorem dX8_treeNode_85 : decode cX8_treeNode 85 = .ok (.ireturn, 1) := by decide +kernel
theorem dX8_treeNode_86 : decode cX8_treeNode 86 = .ok (.new 74, 3) := by decide +kernel
theorem dX8_treeNode_89 : decode cX8_treeNode 89 = .ok (.dup, 1) := by decide +kernel
theorem dX8_treeNode_90 : decode cX8_treeNode 90 = .ok (.ldc_w 272, 3) := by decide +kernel
theorem dX8_treeNode_93 : decode cX8_treeNode 93 = .ok (.invokespecial 78, 3) := by decide +kernel
theorem dX8_treeNode_96 : decode cX8_treeNode 96 = .ok (.athrow, 1) := by decide +kernel
theorem dX8_allocate_0 : decode cX8_allocate 0 = .ok (.iload_n 1, 1) := by decide +kernel
theorem dX8_allocate_1 : decode cX8_allocate 1 = .ok (.invokestatic 274, 3) := by decide +kernel
theorem dX8_allocate_4 : decode cX8_allocate 4 = .ok (.iload_n 3, 1) := by decide +kernel
theorem dX8_allocate_5 : decode cX8_allocate 5 = .ok (.ifCond .lt 9, 3) := by decide +kernel
theorem dX8_allocate_8 : decode cX8_allocate 8 = .ok (.iload_n 3, 1) := by decide +kernel
theorem dX8_allocate_9 : decode cX8_allocate 9 = .ok (.bipush 40, 2) := by decide +kernel
theorem dX8_allocate_11 : decode cX8_allocate 11 = .ok (.if_icmp .le 14, 3) := by decide +kernel
theorem dX8_allocate_14 : decode cX8_allocate 14 = .ok (.new 74, 3) := by decide +kernel
theorem dX8_allocate_17 : decode cX8_allocate 17 = .ok (.dup, 1) := by decide +kernel
theorem dX8_allocate_18 : decode cX8_allocate 18 = .ok (.ldc_w 277, 3) := by decide +kernel
theorem dX8_allocate_21 : decode cX8_allocate 21 = .ok (.invokespecial 78, 3) := by decide +kernel
theorem dX8_allocate_24 : decode cX8_allocate 24 = .ok (.athrow, 1) := by decide +kernel
theorem dX8_allocate_25 : decode cX8_allocate 25 = .ok (.aload_n 0, 1) := by decide +kernel
theorem dX8_allocate_26 : decode cX8_allocate 26 = .ok (.getfield 66, 3) := by decide +kernel
theorem dX8_allocate_29 : decode cX8_allocate 29 = .ok (.iload_n 1, 1) := by decide +kernel
theorem dX8_allocate_30 : decode cX8_allocate 30 = .ok (.iload_n 2, 1) := by decide +kernel
theorem dX8_allocate_31 : decode cX8_allocate 31 = .ok (.iload_n 3, 1) := by decide +kernel
theorem dX8_allocate_32 : decode cX8_allocate 32 = .ok (.invokevirtual 279, 3) := by decide +kernel
theorem dX8_allocate_35 : decode cX8_allocate 35 = .ok (.return_, 1) := by decide +kernel
theorem dX8_setElement_0 : decode cX8_setElement 0 = .ok (.iload_n 1, 1) := by decide +kernel
theorem dX8_setElement_1 : decode cX8_setElement 1 = .ok (.invokestatic 274, 3) := by decide +kernel
theorem dX8_setElement_4 : decode cX8_setElement 4 = .ok (.aload_n 0, 1) := by decide +kernel
theorem dX8_setElement_5 : decode cX8_setElement 5 = .ok (.iload_n 1, 1) := by decide +kernel
theorem dX8_setElement_6 : decode cX8_setElement 6 = .ok (.invokevirtual 282, 3) := by decide +kernel
theorem dX8_setElement_9 : decode cX8_setElement 9 = .ok (.aload_n 0, 1) := by decide +kernel
theorem dX8_setElement_10 : decode cX8_setElement 10 = .ok (.iload_n 1, 1) := by decide +kernel
theorem dX8_setElement_11 : decode cX8_setElement 11 = .ok (.iload_n 2, 1) := by decide +kernel
theorem dX8_setElement_12 : decode cX8_setElement 12 = .ok (.iconst 1, 1) := by decide +kernel
theorem dX8_setElement_13 : decode cX8_setElement 13 = .ok (.invokevirtual 285, 3) := by decide +kernel
theorem dX8_setElement_16 : decode cX8_setElement 16 = .ok (.aload_n 0, 1) := by decide +kernel
theorem dX8_setElement_17 : decode cX8_setElement 17 = .ok (.getfield 66, 3) := by decide +kernel
theorem dX8_setElement_20 : decode cX8_setElement 20 = .ok (.iload_n 1, 1) := by decide +kernel
theorem dX8_setElement_21 : decode cX8_setElement 21 = .ok (.iload_n 2, 1) := by decide +kernel
theorem dX8_setElement_22 : decode cX8_setElement 22 = .ok (.invokevirtual 289, 3) := by decide +kernel
theorem dX8_setElement_25 : decode cX8_setElement 25 = .ok (.istore 4, 2) := by decide +kernel
theorem dX8_setElement_27 : decode cX8_setElement 27 = .ok (.aload_n 0, 1) := by decide +kernel
theorem dX8_setElement_28 : decode cX8_setElement 28 = .ok (.getfield 66, 3) := by decide +kernel
theorem dX8_setElement_31 : decode cX8_setElement 31 = .ok (.iload_n 1, 1) := by decide +kernel
theorem dX8_setElement_32 : decode cX8_setElement 32 = .ok (.iload_n 2, 1) := by decide +kernel
theorem dX8_setElement_33 : decode cX8_setElement 33 = .ok (.iload_n 3, 1) := by decide +kernel
theorem dX8_setElement_34 : decode cX8_setElement 34 = .ok (.invokevirtual 292, 3) := by decide +kernel
theorem dX8_setElement_37 : decode cX8_setElement 37 = .ok (.iload 4, 2) := by decide +kernel
theorem dX8_setElement_39 : decode cX8_setElement 39 = .ok (.ireturn, 1) := by decide +kernel
theorem dX8_storeCounts_0 : decode cX8_storeCounts 0 = .ok (.iload_n 1, 1) := by decide +kernel
theorem dX8_storeCounts_1 : decode cX8_storeCounts 1 = .ok (.invokestatic 274, 3) := by decide +kernel
theorem dX8_storeCounts_4 : decode cX8_storeCounts 4 = .ok (.aload_n 0, 1) := by decide +kernel
theorem dX8_storeCounts_5 : decode cX8_storeCounts 5 = .ok (.iload_n 1, 1) := by decide +kernel
theorem dX8_storeCounts_6 : decode cX8_storeCounts 6 = .ok (.invokevirtual 282, 3) := by decide +kernel
theorem dX8_storeCounts_9 : decode cX8_storeCounts 9 = .ok (.aload_n 0, 1) := by decide +kernel
theorem dX8_storeCounts_10 : decode cX8_storeCounts 10 = .ok (.iload_n 1, 1) := by decide +kernel
theorem dX8_storeCounts_11 : decode cX8_storeCounts 11 = .ok (.iload_n 2, 1) := by decide +kernel
theorem dX8_storeCounts_12 : decode cX8_storeCounts 12 = .ok (.bipush 6, 2) := by decide +kernel
theorem dX8_storeCounts_14 : decode cX8_storeCounts 14 = .ok (.invokevirtual 285, 3) := by decide +kernel
theorem dX8_storeCounts_17 : decode cX8_storeCounts 17 = .ok (.aload_n 0, 1) := by decide +kernel
theorem dX8_storeCounts_18 : decode cX8_storeCounts 18 = .ok (.bipush 6, 2) := by decide +kernel
theorem dX8_storeCounts_20 : decode cX8_storeCounts 20 = .ok (.invokevirtual 189, 3) := by decide +kernel
theorem dX8_storeCounts_23 : decode cX8_storeCounts 23 = .ok (.iconst 1, 1) := by decide +kernel
theorem dX8_storeCounts_24 : decode cX8_storeCounts 24 = .ok (.istore_n 3, 1) := by decide +kernel
theorem dX8_storeCounts_25 : decode cX8_storeCounts 25 = .ok (.iload_n 3, 1) := by decide +kernel
theorem dX8_storeCounts_26 : decode cX8_storeCounts 26 = .ok (.bipush 6, 2) := by decide +kernel
theorem dX8_storeCounts_28 : decode cX8_storeCounts 28 = .ok (.if_icmp .gt 31, 3) := by decide +kernel
theorem dX8_storeCounts_31 : decode cX8_storeCounts 31 = .ok (.aload_n 0, 1) := by decide +kernel
theorem dX8_storeCounts_32 : decode cX8_storeCounts 32 = .ok (.getfield 66, 3) := by decide +kernel
theorem dX8_storeCounts_35 : decode cX8_storeCounts 35 = .ok (.iload_n 1, 1) := by decide +kernel
theorem dX8_storeCounts_36 : decode cX8_storeCounts 36 = .ok (.iload_n 2, 1) := by decide +kernel
theorem dX8_storeCounts_37 : decode cX8_storeCounts 37 = .ok (.iload_n 3, 1) := by decide +kernel
theorem dX8_storeCounts_38 : decode cX8_storeCounts 38 = .ok (.iadd, 1) := by decide +kernel
theorem dX8_storeCounts_39 : decode cX8_storeCounts 39 = .ok (.iconst 1, 1) := by decide +kernel
theorem dX8_storeCounts_40 : decode cX8_storeCounts 40 = .ok (.isub, 1) := by decide +kernel
theorem dX8_storeCounts_41 : decode cX8_storeCounts 41 = .ok (.aload_n 0, 1) := by decide +kernel
theorem dX8_storeCounts_42 : decode cX8_storeCounts 42 = .ok (.getfield 52, 3) := by decide +kernel
theorem dX8_storeCounts_45 : decode cX8_storeCounts 45 = .ok (.iconst 1, 1) := by decide +kernel
theorem dX8_storeCounts_46 : decode cX8_storeCounts 46 = .ok (.iload_n 3, 1) := by decide +kernel
theorem dX8_storeCounts_47 : decode cX8_storeCounts 47 = .ok (.invokevirtual 192, 3) := by decide +kernel
theorem dX8_storeCounts_50 : decode cX8_storeCounts 50 = .ok (.invokevirtual 292, 3) := by decide +kernel
theorem dX8_storeCounts_53 : decode cX8_storeCounts 53 = .ok (.iinc 3 1, 3) := by decide +kernel
theorem dX8_storeCounts_56 : decode cX8_storeCounts 56 = .ok (.goto (-31), 3) := by decide +kernel
theorem dX8_storeCounts_59 : decode cX8_storeCounts 59 = .ok (.return_, 1) := by decide +kernel
theorem dX8_loadWord_0 : decode cX8_loadWord 0 = .ok (.iload_n 1, 1) := by decide +kernel
theorem dX8_loadWord_1 : decode cX8_loadWord 1 = .ok (.invokestatic 274, 3) := by decide +kernel
theorem dX8_loadWord_4 : decode cX8_loadWord 4 = .ok (.iload_n 3, 1) := by decide +kernel
theorem dX8_loadWord_5 : decode cX8_loadWord 5 = .ok (.ifCond .lt 9, 3) := by decide +kernel
theorem dX8_loadWord_8 : decode cX8_loadWord 8 = .ok (.iload_n 3, 1) := by decide +kernel
theorem dX8_loadWord_9 : decode cX8_loadWord 9 = .ok (.bipush 8, 2) := by decide +kernel
theorem dX8_loadWord_11 : decode cX8_loadWord 11 = .ok (.if_icmp .le 14, 3) := by decide +kernel
theorem dX8_loadWord_14 : decode cX8_loadWord 14 = .ok (.new 74, 3) := by decide +kernel
theorem dX8_loadWord_17 : decode cX8_loadWord 17 = .ok (.dup, 1) := by decide +kernel
theorem dX8_loadWord_18 : decode cX8_loadWord 18 = .ok (.ldc_w 294, 3) := by decide +kernel
theorem dX8_loadWord_21 : decode cX8_loadWord 21 = .ok (.invokespecial 78, 3) := by decide +kernel
theorem dX8_loadWord_24 : decode cX8_loadWord 24 = .ok (.athrow, 1) := by decide +kernel
theorem dX8_loadWord_25 : decode cX8_loadWord 25 = .ok (.aload_n 0, 1) := by decide +kernel
theorem dX8_loadWord_26 : decode cX8_loadWord 26 = .ok (.iload_n 1, 1) := by decide +kernel
theorem dX8_loadWord_27 : decode cX8_loadWord 27 = .ok (.invokevirtual 282, 3) := by decide +kernel
theorem dX8_loadWord_30 : decode cX8_loadWord 30 = .ok (.iload_n 3, 1) := by decide +kernel
theorem dX8_loadWord_31 : decode cX8_loadWord 31 = .ok (.ifCond .le 10, 3) := by decide +kernel
theorem dX8_loadWord_34 : decode cX8_loadWord 34 = .ok (.aload_n 0, 1) := by decide +kernel
theorem dX8_loadWord_35 : decode cX8_loadWord 35 = .ok (.iload_n 1, 1) := by decide +kernel
theorem dX8_loadWord_36 : decode cX8_loadWord 36 = .ok (.iload_n 2, 1) := by decide +kernel
theorem dX8_loadWord_37 : decode cX8_loadWord 37 = .ok (.iload_n 3, 1) := by decide +kernel
theorem dX8_loadWord_38 : decode cX8_loadWord 38 = .ok (.invokevirtual 285, 3) := by decide +kernel
theorem dX8_loadWord_41 : decode cX8_loadWord 41 = .ok (.iconst 0, 1) := by decide +kernel
theorem dX8_loadWord_42 : decode cX8_loadWord 42 = .ok (.istore 4, 2) := by decide +kernel
theorem dX8_loadWord_44 : decode cX8_loadWord 44 = .ok (.iload 4, 2) := by decide +kernel
theorem dX8_loadWord_46 : decode cX8_loadWord 46 = .ok (.iload_n 3, 1) := by decide +kernel
theorem dX8_loadWord_47 : decode cX8_loadWord 47 = .ok (.if_icmp .ge 42, 3) := by decide +kernel
theorem dX8_loadWord_50 : decode cX8_loadWord 50 = .ok (.aload_n 0, 1) := by decide +kernel
theorem dX8_loadWord_51 : decode cX8_loadWord 51 = .ok (.getfield 12, 3) := by decide +kernel
theorem dX8_loadWord_54 : decode cX8_loadWord 54 = .ok (.aload_n 0, 1) := by decide +kernel
theorem dX8_loadWord_55 : decode cX8_loadWord 55 = .ok (.getfield 66, 3) := by decide +kernel
theorem dX8_loadWord_58 : decode cX8_loadWord 58 = .ok (.iload_n 1, 1) := by decide +kernel
theorem dX8_loadWord_59 : decode cX8_loadWord 59 = .ok (.iload_n 2, 1) := by decide +kernel
theorem dX8_loadWord_60 : decode cX8_loadWord 60 = .ok (.iload 4, 2) := by decide +kernel
theorem dX8_loadWord_62 : decode cX8_loadWord 62 = .ok (.iadd, 1) := by decide +kernel
theorem dX8_loadWord_63 : decode cX8_loadWord 63 = .ok (.invokevirtual 289, 3) := by decide +kernel
theorem dX8_loadWord_66 : decode cX8_loadWord 66 = .ok (.invokevirtual 158, 3) := by decide +kernel
theorem dX8_loadWord_69 : decode cX8_loadWord 69 = .ok (.ifCond .ne 14, 3) := by decide +kernel
theorem dX8_loadWord_72 : decode cX8_loadWord 72 = .ok (.new 198, 3) := by decide +kernel
theorem dX8_loadWord_75 : decode cX8_loadWord 75 = .ok (.dup, 1) := by decide +kernel
theorem dX8_loadWord_76 : decode cX8_loadWord 76 = .ok (.ldc_w 296, 3) := by decide +kernel
theorem dX8_loadWord_79 : decode cX8_loadWord 79 = .ok (.invokespecial 202, 3) := by decide +kernel
theorem dX8_loadWord_82 : decode cX8_loadWord 82 = .ok (.athrow, 1) := by decide +kernel
theorem dX8_loadWord_83 : decode cX8_loadWord 83 = .ok (.iinc 4 1, 3) := by decide +kernel
theorem dX8_loadWord_86 : decode cX8_loadWord 86 = .ok (.goto (-42), 3) := by decide +kernel
theorem dX8_loadWord_89 : decode cX8_loadWord 89 = .ok (.aload_n 0, 1) := by decide +kernel
theorem dX8_loadWord_90 : decode cX8_loadWord 90 = .ok (.getfield 19, 3) := by decide +kernel
theorem dX8_loadWord_93 : decode cX8_loadWord 93 = .ok (.iload_n 3, 1) := by decide +kernel
theorem dX8_loadWord_94 : decode cX8_loadWord 94 = .ok (.putfield 87, 3) := by decide +kernel
theorem dX8_loadWord_97 : decode cX8_loadWord 97 = .ok (.iconst 0, 1) := by decide +kernel
theorem dX8_loadWord_98 : decode cX8_loadWord 98 = .ok (.istore 4, 2) := by decide +kernel
theorem dX8_loadWord_100 : decode cX8_loadWord 100 = .ok (.iload 4, 2) := by decide +kernel
theorem dX8_loadWord_102 : decode cX8_loadWord 102 = .ok (.iload_n 3, 1) := by decide +kernel
theorem dX8_loadWord_103 : decode cX8_loadWord 103 = .ok (.if_icmp .ge 30, 3) := by decide +kernel
theorem dX8_loadWord_106 : decode cX8_loadWord 106 = .ok (.aload_n 0, 1) := by decide +kernel
theorem dX8_loadWord_107 : decode cX8_loadWord 107 = .ok (.getfield 19, 3) := by decide +kernel
theorem dX8_loadWord_110 : decode cX8_loadWord 110 = .ok (.iload 4, 2) := by decide +kernel
theorem dX8_loadWord_112 : decode cX8_loadWord 112 = .ok (.aload_n 0, 1) := by decide +kernel
theorem dX8_loadWord_113 : decode cX8_loadWord 113 = .ok (.getfield 66, 3) := by decide +kernel
theorem dX8_loadWord_116 : decode cX8_loadWord 116 = .ok (.iload_n 1, 1) := by decide +kernel
theorem dX8_loadWord_117 : decode cX8_loadWord 117 = .ok (.iload_n 2, 1) := by decide +kernel
theorem dX8_loadWord_118 : decode cX8_loadWord 118 = .ok (.iload 4, 2) := by decide +kernel
theorem dX8_loadWord_120 : decode cX8_loadWord 120 = .ok (.iadd, 1) := by decide +kernel
theorem dX8_loadWord_121 : decode cX8_loadWord 121 = .ok (.invokevirtual 289, 3) := by decide +kernel
theorem dX8_loadWord_124 : decode cX8_loadWord 124 = .ok (.invokevirtual 165, 3) := by decide +kernel
theorem dX8_loadWord_127 : decode cX8_loadWord 127 = .ok (.iinc 4 1, 3) := by decide +kernel
theorem dX8_loadWord_130 : decode cX8_loadWord 130 = .ok (.goto (-30), 3) := by decide +kernel
theorem dX8_loadWord_133 : decode cX8_loadWord 133 = .ok (.aload_n 0, 1) := by decide +kernel
theorem dX8_loadWord_134 : decode cX8_loadWord 134 = .ok (.getfield 59, 3) := by decide +kernel
theorem dX8_loadWord_137 : decode cX8_loadWord 137 = .ok (.iconst 0, 1) := by decide +kernel
theorem dX8_loadWord_138 : decode cX8_loadWord 138 = .ok (.putfield 148, 3) := by decide +kernel
theorem dX8_loadWord_141 : decode cX8_loadWord 141 = .ok (.return_, 1) := by decide +kernel
theorem dX8_snapshot_0 : decode cX8_snapshot 0 = .ok (.aload_n 0, 1) := by decide +kernel
theorem dX8_snapshot_1 : decode cX8_snapshot 1 = .ok (.getfield 23, 3) := by decide +kernel
theorem dX8_snapshot_4 : decode cX8_snapshot 4 = .ok (.aload_n 0, 1) := by decide +kernel
theorem dX8_snapshot_5 : decode cX8_snapshot 5 = .ok (.getfield 12, 3) := by decide +kernel
theorem dX8_snapshot_8 : decode cX8_snapshot 8 = .ok (.invokevirtual 298, 3) := by decide +kernel
theorem dX8_snapshot_11 : decode cX8_snapshot 11 = .ok (.aload_n 0, 1) := by decide +kernel
theorem dX8_snapshot_12 : decode cX8_snapshot 12 = .ok (.getfield 26, 3) := by decide +kernel
theorem dX8_snapshot_15 : decode cX8_snapshot 15 = .ok (.aload_n 0, 1) := by decide +kernel
theorem dX8_snapshot_16 : decode cX8_snapshot 16 = .ok (.getfield 19, 3) := by decide +kernel
theorem dX8_snapshot_19 : decode cX8_snapshot 19 = .ok (.invokevirtual 301, 3) := by decide +kernel
theorem dX8_snapshot_22 : decode cX8_snapshot 22 = .ok (.aload_n 0, 1) := by decide +kernel
theorem dX8_snapshot_23 : decode cX8_snapshot 23 = .ok (.iconst 1, 1) := by decide +kernel
theorem dX8_snapshot_24 : decode cX8_snapshot 24 = .ok (.putfield 70, 3) := by decide +kernel
theorem dX8_snapshot_27 : decode cX8_snapshot 27 = .ok (.return_, 1) := by decide +kernel
theorem dX8_restore_0 : decode cX8_restore 0 = .ok (.aload_n 0, 1) := by decide +kernel
theorem dX8_restore_1 : decode cX8_restore 1 = .ok (.getfield 70, 3) := by decide +kernel
theorem dX8_restore_4 : decode cX8_restore 4 = .ok (.ifCond .ne 14, 3) := by decide +kernel
theorem dX8_restore_7 : decode cX8_restore 7 = .ok (.new 113, 3) := by decide +kernel
theorem dX8_restore_10 : decode cX8_restore 10 = .ok (.dup, 1) := by decide +kernel
theorem dX8_restore_11 : decode cX8_restore 11 = .ok (.ldc_w 303, 3) := by decide +kernel
theorem dX8_restore_14 : decode cX8_restore 14 = .ok (.invokespecial 117, 3) := by decide +kernel
theorem dX8_restore_17 : decode cX8_restore 17 = .ok (.athrow, 1) := by decide +kernel
theorem dX8_restore_18 : decode cX8_restore 18 = .ok (.aload_n 0, 1) := by decide +kernel
theorem dX8_restore_19 : decode cX8_restore 19 = .ok (.getfield 12, 3) := by decide +kernel
theorem dX8_restore_22 : decode cX8_restore 22 = .ok (.aload_n 0, 1) := by decide +kernel
theorem dX8_restore_23 : decode cX8_restore 23 = .ok (.getfield 23, 3) := by decide +kernel
theorem dX8_restore_26 : decode cX8_restore 26 = .ok (.invokevirtual 298, 3) := by decide +kernel
theorem dX8_restore_29 : decode cX8_restore 29 = .ok (.aload_n 0, 1) := by decide +kernel
theorem dX8_restore_30 : decode cX8_restore 30 = .ok (.getfield 19, 3) := by decide +kernel
theorem dX8_restore_33 : decode cX8_restore 33 = .ok (.aload_n 0, 1) := by decide +kernel
theorem dX8_restore_34 : decode cX8_restore 34 = .ok (.getfield 26, 3) := by decide +kernel
theorem dX8_restore_37 : decode cX8_restore 37 = .ok (.invokevirtual 301, 3) := by decide +kernel
theorem dX8_restore_40 : decode cX8_restore 40 = .ok (.aload_n 0, 1) := by decide +kernel
theorem dX8_restore_41 : decode cX8_restore 41 = .ok (.invokevirtual 91, 3) := by decide +kernel
theorem dX8_restore_44 : decode cX8_restore 44 = .ok (.return_, 1) := by decide +kernel
theorem dX8_forgetGrammar_0 : decode cX8_forgetGrammar 0 = .ok (.aload_n 0, 1) := by decide +kernel
theorem dX8_forgetGrammar_1 : decode cX8_forgetGrammar 1 = .ok (.getfield 34, 3) := by decide +kernel
theorem dX8_forgetGrammar_4 : decode cX8_forgetGrammar 4 = .ok (.invokevirtual 305, 3) := by decide +kernel
theorem dX8_forgetGrammar_7 : decode cX8_forgetGrammar 7 = .ok (.aload_n 0, 1) := by decide +kernel
theorem dX8_forgetGrammar_8 : decode cX8_forgetGrammar 8 = .ok (.getfield 52, 3) := by decide +kernel
theorem dX8_forgetGrammar_11 : decode cX8_forgetGrammar 11 = .ok (.invokevirtual 308, 3) := by decide +kernel
theorem dX8_forgetGrammar_14 : decode cX8_forgetGrammar 14 = .ok (.aload_n 0, 1) := by decide +kernel
theorem dX8_forgetGrammar_15 : decode cX8_forgetGrammar 15 = .ok (.getfield 59, 3) := by decide +kernel
theorem dX8_forgetGrammar_18 : decode cX8_forgetGrammar 18 = .ok (.iconst 0, 1) := by decide +kernel
theorem dX8_forgetGrammar_19 : decode cX8_forgetGrammar 19 = .ok (.putfield 148, 3) := by decide +kernel
theorem dX8_forgetGrammar_22 : decode cX8_forgetGrammar 22 = .ok (.return_, 1) := by decide +kernel
theorem dX8_countSpans_0 : decode cX8_countSpans 0 = .ok (.aload_n 0, 1) := by decide +kernel
theorem dX8_countSpans_1 : decode cX8_countSpans 1 = .ok (.getfield 43, 3) := by decide +kernel
theorem dX8_countSpans_4 : decode cX8_countSpans 4 = .ok (.invokevirtual 309, 3) := by decide +kernel
theorem dX8_countSpans_7 : decode cX8_countSpans 7 = .ok (.aload_n 0, 1) := by decide +kernel
theorem dX8_countSpans_8 : decode cX8_countSpans 8 = .ok (.getfield 43, 3) := by decide +kernel
theorem dX8_countSpans_11 : decode cX8_countSpans 11 = .ok (.aload_n 0, 1) := by decide +kernel
theorem dX8_countSpans_12 : decode cX8_countSpans 12 = .ok (.getfield 19, 3) := by decide +kernel
theorem dX8_countSpans_15 : decode cX8_countSpans 15 = .ok (.getfield 87, 3) := by decide +kernel
theorem dX8_countSpans_18 : decode cX8_countSpans 18 = .ok (.invokevirtual 310, 3) := by decide +kernel
theorem dX8_countSpans_21 : decode cX8_countSpans 21 = .ok (.return_, 1) := by decide +kernel
theorem dX8_allTrees_0 : decode cX8_allTrees 0 = .ok (.aload_n 0, 1) := by decide +kernel
theorem dX8_allTrees_1 : decode cX8_allTrees 1 = .ok (.getfield 34, 3) := by decide +kernel
theorem dX8_allTrees_4 : decode cX8_allTrees 4 = .ok (.iload_n 1, 1) := by decide +kernel
theorem dX8_allTrees_5 : decode cX8_allTrees 5 = .ok (.invokevirtual 313, 3) := by decide +kernel
theorem dX8_allTrees_8 : decode cX8_allTrees 8 = .ok (.aload_n 0, 1) := by decide +kernel
theorem dX8_allTrees_9 : decode cX8_allTrees 9 = .ok (.getfield 34, 3) := by decide +kernel
theorem dX8_allTrees_12 : decode cX8_allTrees 12 = .ok (.aload_n 0, 1) := by decide +kernel
theorem dX8_allTrees_13 : decode cX8_allTrees 13 = .ok (.getfield 12, 3) := by decide +kernel
theorem dX8_allTrees_16 : decode cX8_allTrees 16 = .ok (.getfield 145, 3) := by decide +kernel
theorem dX8_allTrees_19 : decode cX8_allTrees 19 = .ok (.iload_n 1, 1) := by decide +kernel
theorem dX8_allTrees_20 : decode cX8_allTrees 20 = .ok (.iconst 0, 1) := by decide +kernel
theorem dX8_allTrees_21 : decode cX8_allTrees 21 = .ok (.invokevirtual 314, 3) := by decide +kernel
theorem dX8_allTrees_24 : decode cX8_allTrees 24 = .ok (.lreturn, 1) := by decide +kernel
theorem dX8_countWords_0 : decode cX8_countWords 0 = .ok (.aload_n 0, 1) := by decide +kernel
theorem dX8_countWords_1 : decode cX8_countWords 1 = .ok (.getfield 34, 3) := by decide +kernel
theorem dX8_countWords_4 : decode cX8_countWords 4 = .ok (.iload_n 1, 1) := by decide +kernel
theorem dX8_countWords_5 : decode cX8_countWords 5 = .ok (.invokevirtual 313, 3) := by decide +kernel
theorem dX8_countWords_8 : decode cX8_countWords 8 = .ok (.aload_n 0, 1) := by decide +kernel
theorem dX8_countWords_9 : decode cX8_countWords 9 = .ok (.getfield 52, 3) := by decide +kernel
theorem dX8_countWords_12 : decode cX8_countWords 12 = .ok (.iload_n 1, 1) := by decide +kernel
theorem dX8_countWords_13 : decode cX8_countWords 13 = .ok (.invokevirtual 315, 3) := by decide +kernel
theorem dX8_countWords_16 : decode cX8_countWords 16 = .ok (.return_, 1) := by decide +kernel
theorem dX8_setWord_0 : decode cX8_setWord 0 = .ok (.aload_n 0, 1) := by decide +kernel
theorem dX8_setWord_1 : decode cX8_setWord 1 = .ok (.getfield 19, 3) := by decide +kernel
theorem dX8_setWord_4 : decode cX8_setWord 4 = .ok (.iload_n 1, 1) := by decide +kernel
theorem dX8_setWord_5 : decode cX8_setWord 5 = .ok (.iload_n 2, 1) := by decide +kernel
theorem dX8_setWord_6 : decode cX8_setWord 6 = .ok (.aload_n 0, 1) := by decide +kernel
theorem dX8_setWord_7 : decode cX8_setWord 7 = .ok (.getfield 12, 3) := by decide +kernel
theorem dX8_setWord_10 : decode cX8_setWord 10 = .ok (.getfield 214, 3) := by decide +kernel
theorem dX8_setWord_13 : decode cX8_setWord 13 = .ok (.invokevirtual 316, 3) := by decide +kernel
theorem dX8_setWord_16 : decode cX8_setWord 16 = .ok (.aload_n 0, 1) := by decide +kernel
theorem dX8_setWord_17 : decode cX8_setWord 17 = .ok (.getfield 59, 3) := by decide +kernel
theorem dX8_setWord_20 : decode cX8_setWord 20 = .ok (.iconst 0, 1) := by decide +kernel
theorem dX8_setWord_21 : decode cX8_setWord 21 = .ok (.putfield 148, 3) := by decide +kernel
theorem dX8_setWord_24 : decode cX8_setWord 24 = .ok (.return_, 1) := by decide +kernel
theorem dX8_draw_0 : decode cX8_draw 0 = .ok (.lload_n 2, 1) := by decide +kernel
theorem dX8_draw_1 : decode cX8_draw 1 = .ok (.lconst 1, 1) := by decide +kernel
theorem dX8_draw_2 : decode cX8_draw 2 = .ok (.lcmp, 1) := by decide +kernel
theorem dX8_draw_3 : decode cX8_draw 3 = .ok (.ifCond .ge 5, 3) := by decide +kernel
theorem dX8_draw_6 : decode cX8_draw 6 = .ok (.lconst 0, 1) := by decide +kernel
theorem dX8_draw_7 : decode cX8_draw 7 = .ok (.lreturn, 1) := by decide +kernel
theorem dX8_draw_8 : decode cX8_draw 8 = .ok (.lload_n 0, 1) := by decide +kernel
theorem dX8_draw_9 : decode cX8_draw 9 = .ok (.ldc2_w 319, 3) := by decide +kernel
theorem dX8_draw_12 : decode cX8_draw 12 = .ok (.lmul, 1) := by decide +kernel
theorem dX8_draw_13 : decode cX8_draw 13 = .ok (.ldc2_w 321, 3) := by decide +kernel
theorem dX8_draw_16 : decode cX8_draw 16 = .ok (.ladd, 1) := by decide +kernel
theorem dX8_draw_17 : decode cX8_draw 17 = .ok (.iconst 1, 1) := by decide +kernel
theorem dX8_draw_18 : decode cX8_draw 18 = .ok (.lushr, 1) := by decide +kernel
theorem dX8_draw_19 : decode cX8_draw 19 = .ok (.lload_n 2, 1) := by decide +kernel
theorem dX8_draw_20 : decode cX8_draw 20 = .ok (.lrem, 1) := by decide +kernel
theorem dX8_draw_21 : decode cX8_draw 21 = .ok (.lreturn, 1) := by decide +kernel
theorem dX8_checkProduction_0 : decode cX8_checkProduction 0 = .ok (.iload_n 1, 1) := by decide +kernel
theorem dX8_checkProduction_1 : decode cX8_checkProduction 1 = .ok (.ifCond .lt 14, 3) := by decide +kernel
theorem dX8_checkProduction_4 : decode cX8_checkProduction 4 = .ok (.iload_n 1, 1) := by decide +kernel
theorem dX8_checkProduction_5 : decode cX8_checkProduction 5 = .ok (.aload_n 0, 1) := by decide +kernel
theorem dX8_checkProduction_6 : decode cX8_checkProduction 6 = .ok (.getfield 12, 3) := by decide +kernel
theorem dX8_checkProduction_9 : decode cX8_checkProduction 9 = .ok (.getfield 110, 3) := by decide +kernel
theorem dX8_checkProduction_12 : decode cX8_checkProduction 12 = .ok (.if_icmp .lt 14, 3) := by decide +kernel
theorem dX8_checkProduction_15 : decode cX8_checkProduction 15 = .ok (.new 74, 3) := by decide +kernel
theorem dX8_checkProduction_18 : decode cX8_checkProduction 18 = .ok (.dup, 1) := by decide +kernel
theorem dX8_checkProduction_19 : decode cX8_checkProduction 19 = .ok (.ldc_w 323, 3) := by decide +kernel
theorem dX8_checkProduction_22 : decode cX8_checkProduction 22 = .ok (.invokespecial 78, 3) := by decide +kernel
theorem dX8_checkProduction_25 : decode cX8_checkProduction 25 = .ok (.athrow, 1) := by decide +kernel
theorem dX8_checkProduction_26 : decode cX8_checkProduction 26 = .ok (.return_, 1) := by decide +kernel
theorem dX8_checkNonterminal_0 : decode cX8_checkNonterminal 0 = .ok (.aload_n 0, 1) := by decide +kernel
theorem dX8_checkNonterminal_1 : decode cX8_checkNonterminal 1 = .ok (.getfield 12, 3) := by decide +kernel
theorem dX8_checkNonterminal_4 : decode cX8_checkNonterminal 4 = .ok (.iload_n 1, 1) := by decide +kernel
theorem dX8_checkNonterminal_5 : decode cX8_checkNonterminal 5 = .ok (.invokevirtual 94, 3) := by decide +kernel
theorem dX8_checkNonterminal_8 : decode cX8_checkNonterminal 8 = .ok (.ifCond .ne 14, 3) := by decide +kernel
theorem dX8_checkNonterminal_11 : decode cX8_checkNonterminal 11 = .ok (.new 74, 3) := by decide +kernel
theorem dX8_checkNonterminal_14 : decode cX8_checkNonterminal 14 = .ok (.dup, 1) := by decide +kernel
theorem dX8_checkNonterminal_15 : decode cX8_checkNonterminal 15 = .ok (.ldc_w 325, 3) := by decide +kernel
theorem dX8_checkNonterminal_18 : decode cX8_checkNonterminal 18 = .ok (.invokespecial 78, 3) := by decide +kernel
theorem dX8_checkNonterminal_21 : decode cX8_checkNonterminal 21 = .ok (.athrow, 1) := by decide +kernel
theorem dX8_checkNonterminal_22 : decode cX8_checkNonterminal 22 = .ok (.return_, 1) := by decide +kernel
theorem dX8_checkLength_0 : decode cX8_checkLength 0 = .ok (.iload_n 0, 1) := by decide +kernel
theorem dX8_checkLength_1 : decode cX8_checkLength 1 = .ok (.iconst 1, 1) := by decide +kernel
theorem dX8_checkLength_2 : decode cX8_checkLength 2 = .ok (.if_icmp .lt 8, 3) := by decide +kernel
theorem dX8_checkLength_5 : decode cX8_checkLength 5 = .ok (.iload_n 0, 1) := by decide +kernel
theorem dX8_checkLength_6 : decode cX8_checkLength 6 = .ok (.iload_n 1, 1) := by decide +kernel
theorem dX8_checkLength_7 : decode cX8_checkLength 7 = .ok (.if_icmp .le 14, 3) := by decide +kernel
theorem dX8_checkLength_10 : decode cX8_checkLength 10 = .ok (.new 74, 3) := by decide +kernel
theorem dX8_checkLength_13 : decode cX8_checkLength 13 = .ok (.dup, 1) := by decide +kernel
theorem dX8_checkLength_14 : decode cX8_checkLength 14 = .ok (.ldc_w 277, 3) := by decide +kernel
theorem dX8_checkLength_17 : decode cX8_checkLength 17 = .ok (.invokespecial 78, 3) := by decide +kernel
theorem dX8_checkLength_20 : decode cX8_checkLength 20 = .ok (.athrow, 1) := by decide +kernel
theorem dX8_checkLength_21 : decode cX8_checkLength 21 = .ok (.return_, 1) := by decide +kernel
theorem dX8_checkTree_0 : decode cX8_checkTree 0 = .ok (.aload_n 0, 1) := by decide +kernel
theorem dX8_checkTree_1 : decode cX8_checkTree 1 = .ok (.getfield 59, 3) := by decide +kernel
theorem dX8_checkTree_4 : decode cX8_checkTree 4 = .ok (.getfield 148, 3) := by decide +kernel
theorem dX8_checkTree_7 : decode cX8_checkTree 7 = .ok (.ifCond .ne 14, 3) := by decide +kernel
theorem dX8_checkTree_10 : decode cX8_checkTree 10 = .ok (.new 113, 3) := by decide +kernel
theorem dX8_checkTree_13 : decode cX8_checkTree 13 = .ok (.dup, 1) := by decide +kernel
theorem dX8_checkTree_14 : decode cX8_checkTree 14 = .ok (.ldc_w 327, 3) := by decide +kernel
theorem dX8_checkTree_17 : decode cX8_checkTree 17 = .ok (.invokespecial 117, 3) := by decide +kernel
theorem dX8_checkTree_20 : decode cX8_checkTree 20 = .ok (.athrow, 1) := by decide +kernel
theorem dX8_checkTree_21 : decode cX8_checkTree 21 = .ok (.return_, 1) := by decide +kernel
theorem dX8_checkSlot_0 : decode cX8_checkSlot 0 = .ok (.iload_n 0, 1) := by decide +kernel
theorem dX8_checkSlot_1 : decode cX8_checkSlot 1 = .ok (.ifCond .lt 8, 3) := by decide +kernel
theorem dX8_checkSlot_4 : decode cX8_checkSlot 4 = .ok (.iload_n 0, 1) := by decide +kernel
theorem dX8_checkSlot_5 : decode cX8_checkSlot 5 = .ok (.iconst 3, 1) := by decide +kernel
theorem dX8_checkSlot_6 : decode cX8_checkSlot 6 = .ok (.if_icmp .lt 14, 3) := by decide +kernel
theorem dX8_checkSlot_9 : decode cX8_checkSlot 9 = .ok (.new 74, 3) := by decide +kernel
theorem dX8_checkSlot_12 : decode cX8_checkSlot 12 = .ok (.dup, 1) := by decide +kernel
theorem dX8_checkSlot_13 : decode cX8_checkSlot 13 = .ok (.ldc_w 329, 3) := by decide +kernel
theorem dX8_checkSlot_16 : decode cX8_checkSlot 16 = .ok (.invokespecial 78, 3) := by decide +kernel
theorem dX8_checkSlot_19 : decode cX8_checkSlot 19 = .ok (.athrow, 1) := by decide +kernel
theorem dX8_checkSlot_20 : decode cX8_checkSlot 20 = .ok (.return_, 1) := by decide +kernel
theorem dX8_checkArray_0 : decode cX8_checkArray 0 = .ok (.aload_n 0, 1) := by decide +kernel
theorem dX8_checkArray_1 : decode cX8_checkArray 1 = .ok (.getfield 66, 3) := by decide +kernel
theorem dX8_checkArray_4 : decode cX8_checkArray 4 = .ok (.iload_n 1, 1) := by decide +kernel
theorem dX8_checkArray_5 : decode cX8_checkArray 5 = .ok (.invokevirtual 331, 3) := by decide +kernel
theorem dX8_checkArray_8 : decode cX8_checkArray 8 = .ok (.ifCond .ne 14, 3) := by decide +kernel
theorem dX8_checkArray_11 : decode cX8_checkArray 11 = .ok (.new 113, 3) := by decide +kernel
theorem dX8_checkArray_14 : decode cX8_checkArray 14 = .ok (.dup, 1) := by decide +kernel
theorem dX8_checkArray_15 : decode cX8_checkArray 15 = .ok (.ldc_w 334, 3) := by decide +kernel
theorem dX8_checkArray_18 : decode cX8_checkArray 18 = .ok (.invokespecial 117, 3) := by decide +kernel
theorem dX8_checkArray_21 : decode cX8_checkArray 21 = .ok (.athrow, 1) := by decide +kernel
theorem dX8_checkArray_22 : decode cX8_checkArray 22 = .ok (.return_, 1) := by decide +kernel
theorem dX8_checkIndexes_0 : decode cX8_checkIndexes 0 = .ok (.iload_n 2, 1) := by decide +kernel
theorem dX8_checkIndexes_1 : decode cX8_checkIndexes 1 = .ok (.ifCond .lt 17, 3) := by decide +kernel
theorem dX8_checkIndexes_4 : decode cX8_checkIndexes 4 = .ok (.iload_n 2, 1) := by decide +kernel
theorem dX8_checkIndexes_5 : decode cX8_checkIndexes 5 = .ok (.aload_n 0, 1) := by decide +kernel
theorem dX8_checkIndexes_6 : decode cX8_checkIndexes 6 = .ok (.getfield 66, 3) := by decide +kernel
theorem dX8_checkIndexes_9 : decode cX8_checkIndexes 9 = .ok (.iload_n 1, 1) := by decide +kernel
theorem dX8_checkIndexes_10 : decode cX8_checkIndexes 10 = .ok (.invokevirtual 336, 3) := by decide +kernel
theorem dX8_checkIndexes_13 : decode cX8_checkIndexes 13 = .ok (.iload_n 3, 1) := by decide +kernel
theorem dX8_checkIndexes_14 : decode cX8_checkIndexes 14 = .ok (.isub, 1) := by decide +kernel
theorem dX8_checkIndexes_15 : decode cX8_checkIndexes 15 = .ok (.if_icmp .le 14, 3) := by decide +kernel
theorem dX8_checkIndexes_18 : decode cX8_checkIndexes 18 = .ok (.new 133, 3) := by decide +kernel
theorem dX8_checkIndexes_21 : decode cX8_checkIndexes 21 = .ok (.dup, 1) := by decide +kernel
theorem dX8_checkIndexes_22 : decode cX8_checkIndexes 22 = .ok (.ldc_w 338, 3) := by decide +kernel
theorem dX8_checkIndexes_25 : decode cX8_checkIndexes 25 = .ok (.invokespecial 137, 3) := by decide +kernel
theorem dX8_checkIndexes_28 : decode cX8_checkIndexes 28 = .ok (.athrow, 1) := by decide +kernel
theorem dX8_checkIndexes_29 : decode cX8_checkIndexes 29 = .ok (.return_, 1) := by decide +kernel
theorem dX9_init_0 : decode cX9_init 0 = .ok (.aload_n 0, 1) := by decide +kernel
theorem dX9_init_1 : decode cX9_init 1 = .ok (.invokespecial 1, 3) := by decide +kernel
theorem dX9_init_4 : decode cX9_init 4 = .ok (.aload_n 0, 1) := by decide +kernel
theorem dX9_init_5 : decode cX9_init 5 = .ok (.iconst 1, 1) := by decide +kernel
theorem dX9_init_6 : decode cX9_init 6 = .ok (.putfield 7, 3) := by decide +kernel
theorem dX9_init_9 : decode cX9_init 9 = .ok (.aload_n 0, 1) := by decide +kernel
theorem dX9_init_10 : decode cX9_init 10 = .ok (.iconst 2, 1) := by decide +kernel
theorem dX9_init_11 : decode cX9_init 11 = .ok (.putfield 13, 3) := by decide +kernel
theorem dX9_init_14 : decode cX9_init 14 = .ok (.aload_n 0, 1) := by decide +kernel
theorem dX9_init_15 : decode cX9_init 15 = .ok (.bipush 24, 2) := by decide +kernel
theorem dX9_init_17 : decode cX9_init 17 = .ok (.iconst 4, 1) := by decide +kernel
theorem dX9_init_18 : decode cX9_init 18 = .ok (.multianewarray 16 2, 4) := by decide +kernel
theorem dX9_init_22 : decode cX9_init 22 = .ok (.putfield 18, 3) := by decide +kernel
theorem dX9_init_25 : decode cX9_init 25 = .ok (.aload_n 0, 1) := by decide +kernel
theorem dX9_init_26 : decode cX9_init 26 = .ok (.bipush 8, 2) := by decide +kernel
theorem dX9_init_28 : decode cX9_init 28 = .ok (.newarray .int, 2) := by decide +kernel
theorem dX9_init_30 : decode cX9_init 30 = .ok (.putfield 21, 3) := by decide +kernel
theorem dX9_init_33 : decode cX9_init 33 = .ok (.aload_n 0, 1) := by decide +kernel
theorem dX9_init_34 : decode cX9_init 34 = .ok (.bipush 6, 2) := by decide +kernel
theorem dX9_init_36 : decode cX9_init 36 = .ok (.newarray .int, 2) := by decide +kernel
theorem dX9_init_38 : decode cX9_init 38 = .ok (.putfield 25, 3) := by decide +kernel
theorem dX9_init_41 : decode cX9_init 41 = .ok (.aload_n 0, 1) := by decide +kernel
theorem dX9_init_42 : decode cX9_init 42 = .ok (.bipush 6, 2) := by decide +kernel
theorem dX9_init_44 : decode cX9_init 44 = .ok (.newarray .boolean, 2) := by decide +kernel
theorem dX9_init_46 : decode cX9_init 46 = .ok (.putfield 28, 3) := by decide +kernel
theorem dX9_init_49 : decode cX9_init 49 = .ok (.aload_n 0, 1) := by decide +kernel
theorem dX9_init_50 : decode cX9_init 50 = .ok (.bipush 6, 2) := by decide +kernel
theorem dX9_init_52 : decode cX9_init 52 = .ok (.bipush 11, 2) := by decide +kernel
theorem dX9_init_54 : decode cX9_init 54 = .ok (.multianewarray 32 2, 4) := by decide +kernel
theorem dX9_init_58 : decode cX9_init 58 = .ok (.putfield 34, 3) := by decide +kernel
theorem dX9_init_61 : decode cX9_init 61 = .ok (.aload_n 0, 1) := by decide +kernel
theorem dX9_init_62 : decode cX9_init 62 = .ok (.bipush 8, 2) := by decide +kernel
theorem dX9_init_64 : decode cX9_init 64 = .ok (.newarray .int, 2) := by decide +kernel
theorem dX9_init_66 : decode cX9_init 66 = .ok (.putfield 37, 3) := by decide +kernel
theorem dX9_init_69 : decode cX9_init 69 = .ok (.aload_n 0, 1) := by decide +kernel
theorem dX9_init_70 : decode cX9_init 70 = .ok (.bipush 6, 2) := by decide +kernel
theorem dX9_init_72 : decode cX9_init 72 = .ok (.bipush 9, 2) := by decide +kernel
theorem dX9_init_74 : decode cX9_init 74 = .ok (.bipush 9, 2) := by decide +kernel
theorem dX9_init_76 : decode cX9_init 76 = .ok (.multianewarray 40 3, 4) := by decide +kernel
theorem dX9_init_80 : decode cX9_init 80 = .ok (.putfield 42, 3) := by decide +kernel
theorem dX9_init_83 : decode cX9_init 83 = .ok (.aload_n 0, 1) := by decide +kernel
theorem dX9_init_84 : decode cX9_init 84 = .ok (.bipush 16, 2) := by decide +kernel
theorem dX9_init_86 : decode cX9_init 86 = .ok (.newarray .int, 2) := by decide +kernel
theorem dX9_init_88 : decode cX9_init 88 = .ok (.putfield 45, 3) := by decide +kernel
theorem dX9_init_91 : decode cX9_init 91 = .ok (.aload_n 0, 1) := by decide +kernel
theorem dX9_init_92 : decode cX9_init 92 = .ok (.bipush 16, 2) := by decide +kernel
theorem dX9_init_94 : decode cX9_init 94 = .ok (.newarray .int, 2) := by decide +kernel
theorem dX9_init_96 : decode cX9_init 96 = .ok (.putfield 48, 3) := by decide +kernel
theorem dX9_init_99 : decode cX9_init 99 = .ok (.aload_n 0, 1) := by decide +kernel
theorem dX9_init_100 : decode cX9_init 100 = .ok (.bipush 16, 2) := by decide +kernel
theorem dX9_init_102 : decode cX9_init 102 = .ok (.newarray .int, 2) := by decide +kernel
theorem dX9_init_104 : decode cX9_init 104 = .ok (.putfield 51, 3) := by decide +kernel
theorem dX9_init_107 : decode cX9_init 107 = .ok (.aload_n 0, 1) := by decide +kernel
theorem dX9_init_108 : decode cX9_init 108 = .ok (.iconst 3, 1) := by decide +kernel
theorem dX9_init_109 : decode cX9_init 109 = .ok (.newarray .int, 2) := by decide +kernel
theorem dX9_init_111 : decode cX9_init 111 = .ok (.dup, 1) := by decide +kernel
theorem dX9_init_112 : decode cX9_init 112 = .ok (.iconst 0, 1) := by decide +kernel
theorem dX9_init_113 : decode cX9_init 113 = .ok (.iconst (-1), 1) := by decide +kernel
theorem dX9_init_114 : decode cX9_init 114 = .ok (.iastore, 1) := by decide +kernel
theorem dX9_init_115 : decode cX9_init 115 = .ok (.dup, 1) := by decide +kernel
theorem dX9_init_116 : decode cX9_init 116 = .ok (.iconst 1, 1) := by decide +kernel
theorem dX9_init_117 : decode cX9_init 117 = .ok (.iconst (-1), 1) := by decide +kernel
theorem dX9_init_118 : decode cX9_init 118 = .ok (.iastore, 1) := by decide +kernel
theorem dX9_init_119 : decode cX9_init 119 = .ok (.dup, 1) := by decide +kernel
theorem dX9_init_120 : decode cX9_init 120 = .ok (.iconst 2, 1) := by decide +kernel
theorem dX9_init_121 : decode cX9_init 121 = .ok (.iconst (-1), 1) := by decide +kernel
theorem dX9_init_122 : decode cX9_init 122 = .ok (.iastore, 1) := by decide +kernel
theorem dX9_init_123 : decode cX9_init 123 = .ok (.putfield 54, 3) := by decide +kernel
theorem dX9_init_126 : decode cX9_init 126 = .ok (.aload_n 0, 1) := by decide +kernel
theorem dX9_init_127 : decode cX9_init 127 = .ok (.iconst 3, 1) := by decide +kernel
theorem dX9_init_128 : decode cX9_init 128 = .ok (.newarray .boolean, 2) := by decide +kernel
theorem dX9_init_130 : decode cX9_init 130 = .ok (.putfield 57, 3) := by decide +kernel
theorem dX9_init_133 : decode cX9_init 133 = .ok (.aload_n 0, 1) := by decide +kernel
theorem dX9_init_134 : decode cX9_init 134 = .ok (.iconst 3, 1) := by decide +kernel
theorem dX9_init_135 : decode cX9_init 135 = .ok (.bipush 40, 2) := by decide +kernel
theorem dX9_init_137 : decode cX9_init 137 = .ok (.multianewarray 16 2, 4) := by decide +kernel
theorem dX9_init_141 : decode cX9_init 141 = .ok (.putfield 60, 3) := by decide +kernel
theorem dX9_init_144 : decode cX9_init 144 = .ok (.aload_n 0, 1) := by decide +kernel
theorem dX9_init_145 : decode cX9_init 145 = .ok (.bipush 24, 2) := by decide +kernel
theorem dX9_init_147 : decode cX9_init 147 = .ok (.iconst 4, 1) := by decide +kernel
theorem dX9_init_148 : decode cX9_init 148 = .ok (.multianewarray 16 2, 4) := by decide +kernel
theorem dX9_init_152 : decode cX9_init 152 = .ok (.putfield 63, 3) := by decide +kernel
theorem dX9_init_155 : decode cX9_init 155 = .ok (.aload_n 0, 1) := by decide +kernel
theorem dX9_init_156 : decode cX9_init 156 = .ok (.bipush 8, 2) := by decide +kernel
theorem dX9_init_158 : decode cX9_init 158 = .ok (.newarray .int, 2) := by decide +kernel
theorem dX9_init_160 : decode cX9_init 160 = .ok (.putfield 66, 3) := by decide +kernel
theorem dX9_init_163 : decode cX9_init 163 = .ok (.return_, 1) := by decide +kernel
theorem dX9_thrown_0 : decode cX9_thrown 0 = .ok (.aload_n 0, 1) := by decide +kernel
theorem dX9_thrown_1 : decode cX9_thrown 1 = .ok (.getfield 69, 3) := by decide +kernel
theorem dX9_thrown_4 : decode cX9_thrown 4 = .ok (.ireturn, 1) := by decide +kernel
theorem dX9_isBetween_0 : decode cX9_isBetween 0 = .ok (.iload_n 0, 1) := by decide +kernel
theorem dX9_isBetween_1 : decode cX9_isBetween 1 = .ok (.iload_n 1, 1) := by decide +kernel
theorem dX9_isBetween_2 : decode cX9_isBetween 2 = .ok (.if_icmp .lt 12, 3) := by decide +kernel
theorem dX9_isBetween_5 : decode cX9_isBetween 5 = .ok (.iload_n 0, 1) := by decide +kernel
theorem dX9_isBetween_6 : decode cX9_isBetween 6 = .ok (.iload_n 2, 1) := by decide +kernel
theorem dX9_isBetween_7 : decode cX9_isBetween 7 = .ok (.if_icmp .gt 7, 3) := by decide +kernel
theorem dX9_isBetween_10 : decode cX9_isBetween 10 = .ok (.iconst 1, 1) := by decide +kernel
theorem dX9_isBetween_11 : decode cX9_isBetween 11 = .ok (.goto 4, 3) := by decide +kernel
theorem dX9_isBetween_14 : decode cX9_isBetween 14 = .ok (.iconst 0, 1) := by decide +kernel
theorem dX9_isBetween_15 : decode cX9_isBetween 15 = .ok (.ireturn, 1) := by decide +kernel
theorem dX9_fails_0 : decode cX9_fails 0 = .ok (.aload_n 0, 1) := by decide +kernel
theorem dX9_fails_1 : decode cX9_fails 1 = .ok (.iload_n 2, 1) := by decide +kernel
theorem dX9_fails_2 : decode cX9_fails 2 = .ok (.ifCond .eq 7, 3) := by decide +kernel
theorem dX9_fails_5 : decode cX9_fails 5 = .ok (.iload_n 1, 1) := by decide +kernel
theorem dX9_fails_6 : decode cX9_fails 6 = .ok (.goto 4, 3) := by decide +kernel
theorem dX9_fails_9 : decode cX9_fails 9 = .ok (.iconst 0, 1) := by decide +kernel
theorem dX9_fails_10 : decode cX9_fails 10 = .ok (.putfield 69, 3) := by decide +kernel
theorem dX9_fails_13 : decode cX9_fails 13 = .ok (.iload_n 2, 1) := by decide +kernel
theorem dX9_fails_14 : decode cX9_fails 14 = .ok (.ireturn, 1) := by decide +kernel
theorem dX9_isNonterminal_0 : decode cX9_isNonterminal 0 = .ok (.iload_n 1, 1) := by decide +kernel
theorem dX9_isNonterminal_1 : decode cX9_isNonterminal 1 = .ok (.iconst 0, 1) := by decide +kernel
theorem dX9_isNonterminal_2 : decode cX9_isNonterminal 2 = .ok (.aload_n 0, 1) := by decide +kernel
theorem dX9_isNonterminal_3 : decode cX9_isNonterminal 3 = .ok (.getfield 7, 3) := by decide +kernel
theorem dX9_isNonterminal_6 : decode cX9_isNonterminal 6 = .ok (.iconst 1, 1) := by decide +kernel
theorem dX9_isNonterminal_7 : decode cX9_isNonterminal 7 = .ok (.isub, 1) := by decide +kernel
theorem dX9_isNonterminal_8 : decode cX9_isNonterminal 8 = .ok (.invokestatic 72, 3) := by decide +kernel
theorem dX9_isNonterminal_11 : decode cX9_isNonterminal 11 = .ok (.ireturn, 1) := by decide +kernel
theorem dX9_isTerminal_0 : decode cX9_isTerminal 0 = .ok (.iload_n 1, 1) := by decide +kernel
theorem dX9_isTerminal_1 : decode cX9_isTerminal 1 = .ok (.bipush 10, 2) := by decide +kernel
theorem dX9_isTerminal_3 : decode cX9_isTerminal 3 = .ok (.bipush 10, 2) := by decide +kernel
theorem dX9_isTerminal_5 : decode cX9_isTerminal 5 = .ok (.aload_n 0, 1) := by decide +kernel
theorem dX9_isTerminal_6 : decode cX9_isTerminal 6 = .ok (.getfield 13, 3) := by decide +kernel
theorem dX9_isTerminal_9 : decode cX9_isTerminal 9 = .ok (.iadd, 1) := by decide +kernel
theorem dX9_isTerminal_10 : decode cX9_isTerminal 10 = .ok (.iconst 1, 1) := by decide +kernel
theorem dX9_isTerminal_11 : decode cX9_isTerminal 11 = .ok (.isub, 1) := by decide +kernel
theorem dX9_isTerminal_12 : decode cX9_isTerminal 12 = .ok (.invokestatic 72, 3) := by decide +kernel
theorem dX9_isTerminal_15 : decode cX9_isTerminal 15 = .ok (.ireturn, 1) := by decide +kernel
theorem dX9_isProduction_0 : decode cX9_isProduction 0 = .ok (.iload_n 1, 1) := by decide +kernel
theorem dX9_isProduction_1 : decode cX9_isProduction 1 = .ok (.iconst 0, 1) := by decide +kernel
theorem dX9_isProduction_2 : decode cX9_isProduction 2 = .ok (.aload_n 0, 1) := by decide +kernel
theorem dX9_isProduction_3 : decode cX9_isProduction 3 = .ok (.getfield 76, 3) := by decide +kernel
theorem dX9_isProduction_6 : decode cX9_isProduction 6 = .ok (.iconst 1, 1) := by decide +kernel
theorem dX9_isProduction_7 : decode cX9_isProduction 7 = .ok (.isub, 1) := by decide +kernel
theorem dX9_isProduction_8 : decode cX9_isProduction 8 = .ok (.invokestatic 72, 3) := by decide +kernel
theorem dX9_isProduction_11 : decode cX9_isProduction 11 = .ok (.ireturn, 1) := by decide +kernel
theorem dX9_reset_0 : decode cX9_reset 0 = .ok (.aload_n 0, 1) := by decide +kernel
theorem dX9_reset_1 : decode cX9_reset 1 = .ok (.iconst 1, 1) := by decide +kernel
theorem dX9_reset_2 : decode cX9_reset 2 = .ok (.iload_n 1, 1) := by decide +kernel
theorem dX9_reset_3 : decode cX9_reset 3 = .ok (.iconst 1, 1) := by decide +kernel
theorem dX9_reset_4 : decode cX9_reset 4 = .ok (.bipush 6, 2) := by decide +kernel
theorem dX9_reset_6 : decode cX9_reset 6 = .ok (.invokestatic 72, 3) := by decide +kernel
theorem dX9_reset_9 : decode cX9_reset 9 = .ok (.ifCond .eq 12, 3) := by decide +kernel
theorem dX9_reset_12 : decode cX9_reset 12 = .ok (.iload_n 2, 1) := by decide +kernel
theorem dX9_reset_13 : decode cX9_reset 13 = .ok (.iconst 1, 1) := by decide +kernel
theorem dX9_reset_14 : decode cX9_reset 14 = .ok (.iconst 3, 1) := by decide +kernel
theorem dX9_reset_15 : decode cX9_reset 15 = .ok (.invokestatic 72, 3) := by decide +kernel
theorem dX9_reset_18 : decode cX9_reset 18 = .ok (.ifCond .ne 7, 3) := by decide +kernel
theorem dX9_reset_21 : decode cX9_reset 21 = .ok (.iconst 1, 1) := by decide +kernel
theorem dX9_reset_22 : decode cX9_reset 22 = .ok (.goto 4, 3) := by decide +kernel
theorem dX9_reset_25 : decode cX9_reset 25 = .ok (.iconst 0, 1) := by decide +kernel
theorem dX9_reset_26 : decode cX9_reset 26 = .ok (.invokevirtual 79, 3) := by decide +kernel
theorem dX9_reset_29 : decode cX9_reset 29 = .ok (.ifCond .eq 4, 3) := by decide +kernel
theorem dX9_reset_32 : decode cX9_reset 32 = .ok (.return_, 1) := by decide +kernel
theorem dX9_reset_33 : decode cX9_reset 33 = .ok (.aload_n 0, 1) := by decide +kernel
theorem dX9_reset_34 : decode cX9_reset 34 = .ok (.iload_n 1, 1) := by decide +kernel
theorem dX9_reset_35 : decode cX9_reset 35 = .ok (.putfield 7, 3) := by decide +kernel
theorem dX9_reset_38 : decode cX9_reset 38 = .ok (.aload_n 0, 1) := by decide +kernel
theorem dX9_reset_39 : decode cX9_reset 39 = .ok (.iload_n 2, 1) := by decide +kernel
theorem dX9_reset_40 : decode cX9_reset 40 = .ok (.putfield 13, 3) := by decide +kernel
theorem dX9_reset_43 : decode cX9_reset 43 = .ok (.aload_n 0, 1) := by decide +kernel
theorem dX9_reset_44 : decode cX9_reset 44 = .ok (.iconst 0, 1) := by decide +kernel
theorem dX9_reset_45 : decode cX9_reset 45 = .ok (.putfield 83, 3) := by decide +kernel
theorem dX9_reset_48 : decode cX9_reset 48 = .ok (.aload_n 0, 1) := by decide +kernel
theorem dX9_reset_49 : decode cX9_reset 49 = .ok (.iconst 0, 1) := by decide +kernel
theorem dX9_reset_50 : decode cX9_reset 50 = .ok (.putfield 76, 3) := by decide +kernel
theorem dX9_reset_53 : decode cX9_reset 53 = .ok (.aload_n 0, 1) := by decide +kernel
theorem dX9_reset_54 : decode cX9_reset 54 = .ok (.iconst 0, 1) := by decide +kernel
theorem dX9_reset_55 : decode cX9_reset 55 = .ok (.putfield 86, 3) := by decide +kernel
theorem dX9_reset_58 : decode cX9_reset 58 = .ok (.aload_n 0, 1) := by decide +kernel
theorem dX9_reset_59 : decode cX9_reset 59 = .ok (.iconst 0, 1) := by decide +kernel
theorem dX9_reset_60 : decode cX9_reset 60 = .ok (.putfield 89, 3) := by decide +kernel
theorem dX9_reset_63 : decode cX9_reset 63 = .ok (.return_, 1) := by decide +kernel
theorem dX9_isSymbol_0 : decode cX9_isSymbol 0 = .ok (.aload_n 0, 1) := by decide +kernel
theorem dX9_isSymbol_1 : decode cX9_isSymbol 1 = .ok (.iload_n 1, 1) := by decide +kernel
theorem dX9_isSymbol_2 : decode cX9_isSymbol 2 = .ok (.invokevirtual 92, 3) := by decide +kernel
theorem dX9_isSymbol_5 : decode cX9_isSymbol 5 = .ok (.ifCond .ne 11, 3) := by decide +kernel
theorem dX9_isSymbol_8 : decode cX9_isSymbol 8 = .ok (.aload_n 0, 1) := by decide +kernel
theorem dX9_isSymbol_9 : decode cX9_isSymbol 9 = .ok (.iload_n 1, 1) := by decide +kernel
theorem dX9_isSymbol_10 : decode cX9_isSymbol 10 = .ok (.invokevirtual 96, 3) := by decide +kernel
theorem dX9_isSymbol_13 : decode cX9_isSymbol 13 = .ok (.ifCond .eq 7, 3) := by decide +kernel
theorem dX9_isSymbol_16 : decode cX9_isSymbol 16 = .ok (.iconst 1, 1) := by decide +kernel
theorem dX9_isSymbol_17 : decode cX9_isSymbol 17 = .ok (.goto 4, 3) := by decide +kernel
theorem dX9_isSymbol_20 : decode cX9_isSymbol 20 = .ok (.iconst 0, 1) := by decide +kernel
theorem dX9_isSymbol_21 : decode cX9_isSymbol 21 = .ok (.ireturn, 1) := by decide +kernel
theorem dX9_isWrong_0 : decode cX9_isWrong 0 = .ok (.aload_n 0, 1) := by decide +kernel
theorem dX9_isWrong_1 : decode cX9_isWrong 1 = .ok (.iload_n 1, 1) := by decide +kernel
theorem dX9_isWrong_2 : decode cX9_isWrong 2 = .ok (.invokevirtual 92, 3) := by decide +kernel
theorem dX9_isWrong_5 : decode cX9_isWrong 5 = .ok (.ifCond .eq 39, 3) := by decide +kernel
theorem dX9_isWrong_8 : decode cX9_isWrong 8 = .ok (.aload_n 0, 1) := by decide +kernel
theorem dX9_isWrong_9 : decode cX9_isWrong 9 = .ok (.iload_n 2, 1) := by decide +kernel
theorem dX9_isWrong_10 : decode cX9_isWrong 10 = .ok (.invokevirtual 99, 3) := by decide +kernel
theorem dX9_isWrong_13 : decode cX9_isWrong 13 = .ok (.ifCond .eq 31, 3) := by decide +kernel
theorem dX9_isWrong_16 : decode cX9_isWrong 16 = .ok (.iload_n 3, 1) := by decide +kernel
theorem dX9_isWrong_17 : decode cX9_isWrong 17 = .ok (.iconst (-1), 1) := by decide +kernel
theorem dX9_isWrong_18 : decode cX9_isWrong 18 = .ok (.if_icmp .eq 11, 3) := by decide +kernel
theorem dX9_isWrong_21 : decode cX9_isWrong 21 = .ok (.aload_n 0, 1) := by decide +kernel
theorem dX9_isWrong_22 : decode cX9_isWrong 22 = .ok (.iload_n 3, 1) := by decide +kernel
theorem dX9_isWrong_23 : decode cX9_isWrong 23 = .ok (.invokevirtual 99, 3) := by decide +kernel
theorem dX9_isWrong_26 : decode cX9_isWrong 26 = .ok (.ifCond .eq 18, 3) := by decide +kernel
theorem dX9_isWrong_29 : decode cX9_isWrong 29 = .ok (.iload 4, 2) := by decide +kernel
theorem dX9_isWrong_31 : decode cX9_isWrong 31 = .ok (.iconst (-1), 1) := by decide +kernel
theorem dX9_isWrong_32 : decode cX9_isWrong 32 = .ok (.if_icmp .eq 16, 3) := by decide +kernel
theorem dX9_isWrong_35 : decode cX9_isWrong 35 = .ok (.aload_n 0, 1) := by decide +kernel
theorem dX9_isWrong_36 : decode cX9_isWrong 36 = .ok (.iload 4, 2) := by decide +kernel
theorem dX9_isWrong_38 : decode cX9_isWrong 38 = .ok (.invokevirtual 99, 3) := by decide +kernel
theorem dX9_isWrong_41 : decode cX9_isWrong 41 = .ok (.ifCond .ne 7, 3) := by decide +kernel
theorem dX9_isWrong_44 : decode cX9_isWrong 44 = .ok (.iconst 1, 1) := by decide +kernel
theorem dX9_isWrong_45 : decode cX9_isWrong 45 = .ok (.goto 4, 3) := by decide +kernel
theorem dX9_isWrong_48 : decode cX9_isWrong 48 = .ok (.iconst 0, 1) := by decide +kernel
theorem dX9_isWrong_49 : decode cX9_isWrong 49 = .ok (.istore 5, 2) := by decide +kernel
theorem dX9_isWrong_51 : decode cX9_isWrong 51 = .ok (.iload 5, 2) := by decide +kernel
theorem dX9_isWrong_53 : decode cX9_isWrong 53 = .ok (.iload_n 3, 1) := by decide +kernel
theorem dX9_isWrong_54 : decode cX9_isWrong 54 = .ok (.iconst (-1), 1) := by decide +kernel
theorem dX9_isWrong_55 : decode cX9_isWrong 55 = .ok (.if_icmp .ne 21, 3) := by decide +kernel
theorem dX9_isWrong_58 : decode cX9_isWrong 58 = .ok (.iload 4, 2) := by decide +kernel
theorem dX9_isWrong_60 : decode cX9_isWrong 60 = .ok (.iconst (-1), 1) := by decide +kernel
theorem dX9_isWrong_61 : decode cX9_isWrong 61 = .ok (.if_icmp .ne 11, 3) := by decide +kernel
theorem dX9_isWrong_64 : decode cX9_isWrong 64 = .ok (.aload_n 0, 1) := by decide +kernel
theorem dX9_isWrong_65 : decode cX9_isWrong 65 = .ok (.iload_n 2, 1) := by decide +kernel
theorem dX9_isWrong_66 : decode cX9_isWrong 66 = .ok (.invokevirtual 92, 3) := by decide +kernel
theorem dX9_isWrong_69 : decode cX9_isWrong 69 = .ok (.ifCond .eq 7, 3) := by decide +kernel
theorem dX9_isWrong_72 : decode cX9_isWrong 72 = .ok (.iconst 1, 1) := by decide +kernel
theorem dX9_isWrong_73 : decode cX9_isWrong 73 = .ok (.goto 4, 3) := by decide +kernel
theorem dX9_isWrong_76 : decode cX9_isWrong 76 = .ok (.iconst 0, 1) := by decide +kernel
theorem dX9_isWrong_77 : decode cX9_isWrong 77 = .ok (.ior, 1) := by decide +kernel
theorem dX9_isWrong_78 : decode cX9_isWrong 78 = .ok (.istore 5, 2) := by decide +kernel
theorem dX9_isWrong_80 : decode cX9_isWrong 80 = .ok (.iconst 0, 1) := by decide +kernel
theorem dX9_isWrong_81 : decode cX9_isWrong 81 = .ok (.istore 6, 2) := by decide +kernel
theorem dX9_isWrong_83 : decode cX9_isWrong 83 = .ok (.iload 6, 2) := by decide +kernel
theorem dX9_isWrong_85 : decode cX9_isWrong 85 = .ok (.aload_n 0, 1) := by decide +kernel
theorem dX9_isWrong_86 : decode cX9_isWrong 86 = .ok (.getfield 76, 3) := by decide +kernel
theorem dX9_isWrong_89 : decode cX9_isWrong 89 = .ok (.if_icmp .ge 72, 3) := by decide +kernel
theorem dX9_isWrong_92 : decode cX9_isWrong 92 = .ok (.iload 5, 2) := by decide +kernel
theorem dX9_isWrong_94 : decode cX9_isWrong 94 = .ok (.aload_n 0, 1) := by decide +kernel
theorem dX9_isWrong_95 : decode cX9_isWrong 95 = .ok (.getfield 18, 3) := by decide +kernel
theorem dX9_isWrong_98 : decode cX9_isWrong 98 = .ok (.iload 6, 2) := by decide +kernel
theorem dX9_isWrong_100 : decode cX9_isWrong 100 = .ok (.aaload, 1) := by decide +kernel
theorem dX9_isWrong_101 : decode cX9_isWrong 101 = .ok (.iconst 0, 1) := by decide +kernel
theorem dX9_isWrong_102 : decode cX9_isWrong 102 = .ok (.iaload, 1) := by decide +kernel
theorem dX9_isWrong_103 : decode cX9_isWrong 103 = .ok (.iload_n 1, 1) := by decide +kernel
theorem dX9_isWrong_104 : decode cX9_isWrong 104 = .ok (.if_icmp .ne 47, 3) := by decide +kernel
theorem dX9_isWrong_107 : decode cX9_isWrong 107 = .ok (.aload_n 0, 1) := by decide +kernel
theorem dX9_isWrong_108 : decode cX9_isWrong 108 = .ok (.getfield 18, 3) := by decide +kernel
theorem dX9_isWrong_111 : decode cX9_isWrong 111 = .ok (.iload 6, 2) := by decide +kernel
theorem dX9_isWrong_113 : decode cX9_isWrong 113 = .ok (.aaload, 1) := by decide +kernel
theorem dX9_isWrong_114 : decode cX9_isWrong 114 = .ok (.iconst 1, 1) := by decide +kernel
theorem dX9_isWrong_115 : decode cX9_isWrong 115 = .ok (.iaload, 1) := by decide +kernel
theorem dX9_isWrong_116 : decode cX9_isWrong 116 = .ok (.iload_n 2, 1) := by decide +kernel
theorem dX9_isWrong_117 : decode cX9_isWrong 117 = .ok (.if_icmp .ne 34, 3) := by decide +kernel
theorem dX9_isWrong_120 : decode cX9_isWrong 120 = .ok (.aload_n 0, 1) := by decide +kernel
theorem dX9_isWrong_121 : decode cX9_isWrong 121 = .ok (.getfield 18, 3) := by decide +kernel
theorem dX9_isWrong_124 : decode cX9_isWrong 124 = .ok (.iload 6, 2) := by decide +kernel
theorem dX9_isWrong_126 : decode cX9_isWrong 126 = .ok (.aaload, 1) := by decide +kernel
theorem dX9_isWrong_127 : decode cX9_isWrong 127 = .ok (.iconst 2, 1) := by decide +kernel
theorem dX9_isWrong_128 : decode cX9_isWrong 128 = .ok (.iaload, 1) := by decide +kernel
theorem dX9_isWrong_129 : decode cX9_isWrong 129 = .ok (.iload_n 3, 1) := by decide +kernel
theorem dX9_isWrong_130 : decode cX9_isWrong 130 = .ok (.if_icmp .ne 21, 3) := by decide +kernel
theorem dX9_isWrong_133 : decode cX9_isWrong 133 = .ok (.aload_n 0, 1) := by decide +kernel
theorem dX9_isWrong_134 : decode cX9_isWrong 134 = .ok (.getfield 18, 3) := by decide +kernel
theorem dX9_isWrong_137 : decode cX9_isWrong 137 = .ok (.iload 6, 2) := by decide +kernel
theorem dX9_isWrong_139 : decode cX9_isWrong 139 = .ok (.aaload, 1) := by decide +kernel
theorem dX9_isWrong_140 : decode cX9_isWrong 140 = .ok (.iconst 3, 1) := by decide +kernel
theorem dX9_isWrong_141 : decode cX9_isWrong 141 = .ok (.iaload, 1) := by decide +kernel
theorem dX9_isWrong_142 : decode cX9_isWrong 142 = .ok (.iload 4, 2) := by decide +kernel
theorem dX9_isWrong_144 : decode cX9_isWrong 144 = .ok (.if_icmp .ne 7, 3) := by decide +kernel
theorem dX9_isWrong_147 : decode cX9_isWrong 147 = .ok (.iconst 1, 1) := by decide +kernel
theorem dX9_isWrong_148 : decode cX9_isWrong 148 = .ok (.goto 4, 3) := by decide +kernel
theorem dX9_isWrong_151 : decode cX9_isWrong 151 = .ok (.iconst 0, 1) := by decide +kernel
theorem dX9_isWrong_152 : decode cX9_isWrong 152 = .ok (.ior, 1) := by decide +kernel
theorem dX9_isWrong_153 : decode cX9_isWrong 153 = .ok (.istore 5, 2) := by decide +kernel
theorem dX9_isWrong_155 : decode cX9_isWrong 155 = .ok (.iinc 6 1, 3) := by decide +kernel
theorem dX9_isWrong_158 : decode cX9_isWrong 158 = .ok (.goto (-75), 3) := by decide +kernel
theorem dX9_isWrong_161 : decode cX9_isWrong 161 = .ok (.iload 5, 2) := by decide +kernel
theorem dX9_isWrong_163 : decode cX9_isWrong 163 = .ok (.ireturn, 1) := by decide +kernel
theorem dX9_addProduction_0 : decode cX9_addProduction 0 = .ok (.aload_n 0, 1) := by decide +kernel
theorem dX9_addProduction_1 : decode cX9_addProduction 1 = .ok (.iconst 1, 1) := by decide +kernel
theorem dX9_addProduction_2 : decode cX9_addProduction 2 = .ok (.aload_n 0, 1) := by decide +kernel
theorem dX9_addProduction_3 : decode cX9_addProduction 3 = .ok (.iload_n 1, 1) := by decide +kernel
theorem dX9_addProduction_4 : decode cX9_addProduction 4 = .ok (.iload_n 2, 1) := by decide +kernel
theorem dX9_addProduction_5 : decode cX9_addProduction 5 = .ok (.iload_n 3, 1) := by decide +kernel
theorem dX9_addProduction_6 : decode cX9_addProduction 6 = .ok (.iload 4, 2) := by decide +kernel
theorem dX9_addProduction_8 : decode cX9_addProduction 8 = .ok (.invokevirtual 102, 3) := by decide +kernel
theorem dX9_addProduction_11 : decode cX9_addProduction 11 = .ok (.invokevirtual 79, 3) := by decide +kernel
theorem dX9_addProduction_14 : decode cX9_addProduction 14 = .ok (.ifCond .ne 25, 3) := by decide +kernel
theorem dX9_addProduction_17 : decode cX9_addProduction 17 = .ok (.aload_n 0, 1) := by decide +kernel
theorem dX9_addProduction_18 : decode cX9_addProduction 18 = .ok (.iconst 2, 1) := by decide +kernel
theorem dX9_addProduction_19 : decode cX9_addProduction 19 = .ok (.aload_n 0, 1) := by decide +kernel
theorem dX9_addProduction_20 : decode cX9_addProduction 20 = .ok (.getfield 76, 3) := by decide +kernel
theorem dX9_addProduction_23 : decode cX9_addProduction 23 = .ok (.bipush 24, 2) := by decide +kernel
theorem dX9_addProduction_25 : decode cX9_addProduction 25 = .ok (.if_icmp .ne 7, 3) := by decide +kernel
theorem dX9_addProduction_28 : decode cX9_addProduction 28 = .ok (.iconst 1, 1) := by decide +kernel
theorem dX9_addProduction_29 : decode cX9_addProduction 29 = .ok (.goto 4, 3) := by decide +kernel
theorem dX9_addProduction_32 : decode cX9_addProduction 32 = .ok (.iconst 0, 1) := by decide +kernel
theorem dX9_addProduction_33 : decode cX9_addProduction 33 = .ok (.invokevirtual 79, 3) := by decide +kernel
theorem dX9_addProduction_36 : decode cX9_addProduction 36 = .ok (.ifCond .eq 5, 3) := by decide +kernel
theorem dX9_addProduction_39 : decode cX9_addProduction 39 = .ok (.iconst 0, 1) := by decide +kernel
theorem dX9_addProduction_40 : decode cX9_addProduction 40 = .ok (.ireturn, 1) := by decide +kernel
theorem dX9_addProduction_41 : decode cX9_addProduction 41 = .ok (.aload_n 0, 1) := by decide +kernel
theorem dX9_addProduction_42 : decode cX9_addProduction 42 = .ok (.getfield 18, 3) := by decide +kernel
theorem dX9_addProduction_45 : decode cX9_addProduction 45 = .ok (.aload_n 0, 1) := by decide +kernel
theorem dX9_addProduction_46 : decode cX9_addProduction 46 = .ok (.getfield 76, 3) := by decide +kernel
theorem dX9_addProduction_49 : decode cX9_addProduction 49 = .ok (.aaload, 1) := by decide +kernel
theorem dX9_addProduction_50 : decode cX9_addProduction 50 = .ok (.iconst 0, 1) := by decide +kernel
theorem dX9_addProduction_51 : decode cX9_addProduction 51 = .ok (.iload_n 1, 1) := by decide +kernel
theorem dX9_addProduction_52 : decode cX9_addProduction 52 = .ok (.iastore, 1) := by decide +kernel
theorem dX9_addProduction_53 : decode cX9_addProduction 53 = .ok (.aload_n 0, 1) := by decide +kernel
theorem dX9_addProduction_54 : decode cX9_addProduction 54 = .ok (.getfield 18, 3) := by decide +kernel
theorem dX9_addProduction_57 : decode cX9_addProduction 57 = .ok (.aload_n 0, 1) := by decide +kernel
theorem dX9_addProduction_58 : decode cX9_addProduction 58 = .ok (.getfield 76, 3) := by decide +kernel
theorem dX9_addProduction_61 : decode cX9_addProduction 61 = .ok (.aaload, 1) := by decide +kernel
theorem dX9_addProduction_62 : decode cX9_addProduction 62 = .ok (.iconst 1, 1) := by decide +kernel
theorem dX9_addProduction_63 : decode cX9_addProduction 63 = .ok (.iload_n 2, 1) := by decide +kernel
theorem dX9_addProduction_64 : decode cX9_addProduction 64 = .ok (.iastore, 1) := by decide +kernel
theorem dX9_addProduction_65 : decode cX9_addProduction 65 = .ok (.aload_n 0, 1) := by decide +kernel
theorem dX9_addProduction_66 : decode cX9_addProduction 66 = .ok (.getfield 18, 3) := by decide +kernel
theorem dX9_addProduction_69 : decode cX9_addProduction 69 = .ok (.aload_n 0, 1) := by decide +kernel
theorem dX9_addProduction_70 : decode cX9_addProduction 70 = .ok (.getfield 76, 3) := by decide +kernel
theorem dX9_addProduction_73 : decode cX9_addProduction 73 = .ok (.aaload, 1) := by decide +kernel
theorem dX9_addProduction_74 : decode cX9_addProduction 74 = .ok (.iconst 2, 1) := by decide +kernel
theorem dX9_addProduction_75 : decode cX9_addProduction 75 = .ok (.iload_n 3, 1) := by decide +kernel
theorem dX9_addProduction_76 : decode cX9_addProduction 76 = .ok (.iastore, 1) := by decide +kernel
theorem dX9_addProduction_77 : decode cX9_addProduction 77 = .ok (.aload_n 0, 1) := by decide +kernel
theorem dX9_addProduction_78 : decode cX9_addProduction 78 = .ok (.getfield 18, 3) := by decide +kernel
theorem dX9_addProduction_81 : decode cX9_addProduction 81 = .ok (.aload_n 0, 1) := by decide +kernel
theorem dX9_addProduction_82 : decode cX9_addProduction 82 = .ok (.getfield 76, 3) := by decide +kernel
theorem dX9_addProduction_85 : decode cX9_addProduction 85 = .ok (.aaload, 1) := by decide +kernel
theorem dX9_addProduction_86 : decode cX9_addProduction 86 = .ok (.iconst 3, 1) := by decide +kernel
theorem dX9_addProduction_87 : decode cX9_addProduction 87 = .ok (.iload 4, 2) := by decide +kernel
theorem dX9_addProduction_89 : decode cX9_addProduction 89 = .ok (.iastore, 1) := by decide +kernel
theorem dX9_addProduction_90 : decode cX9_addProduction 90 = .ok (.aload_n 0, 1) := by decide +kernel
theorem dX9_addProduction_91 : decode cX9_addProduction 91 = .ok (.dup, 1) := by decide +kernel
theorem dX9_addProduction_92 : decode cX9_addProduction 92 = .ok (.getfield 76, 3) := by decide +kernel
theorem dX9_addProduction_95 : decode cX9_addProduction 95 = .ok (.iconst 1, 1) := by decide +kernel
theorem dX9_addProduction_96 : decode cX9_addProduction 96 = .ok (.iadd, 1) := by decide +kernel
theorem dX9_addProduction_97 : decode cX9_addProduction 97 = .ok (.putfield 76, 3) := by decide +kernel
theorem dX9_addProduction_100 : decode cX9_addProduction 100 = .ok (.aload_n 0, 1) := by decide +kernel
theorem dX9_addProduction_101 : decode cX9_addProduction 101 = .ok (.iconst 0, 1) := by decide +kernel
theorem dX9_addProduction_102 : decode cX9_addProduction 102 = .ok (.putfield 89, 3) := by decide +kernel
theorem dX9_addProduction_105 : decode cX9_addProduction 105 = .ok (.aload_n 0, 1) := by decide +kernel
theorem dX9_addProduction_106 : decode cX9_addProduction 106 = .ok (.getfield 76, 3) := by decide +kernel
theorem dX9_addProduction_109 : decode cX9_addProduction 109 = .ok (.iconst 1, 1) := by decide +kernel
theorem dX9_addProduction_110 : decode cX9_addProduction 110 = .ok (.isub, 1) := by decide +kernel
theorem dX9_addProduction_111 : decode cX9_addProduction 111 = .ok (.ireturn, 1) := by decide +kernel
theorem dX9_remove_0 : decode cX9_remove 0 = .ok (.aload_n 0, 1) := by decide +kernel
theorem dX9_remove_1 : decode cX9_remove 1 = .ok (.dup, 1) := by decide +kernel
theorem dX9_remove_2 : decode cX9_remove 2 = .ok (.getfield 76, 3) := by decide +kernel
theorem dX9_remove_5 : decode cX9_remove 5 = .ok (.iconst 1, 1) := by decide +kernel
theorem dX9_remove_6 : decode cX9_remove 6 = .ok (.isub, 1) := by decide +kernel
theorem dX9_remove_7 : decode cX9_remove 7 = .ok (.putfield 76, 3) := by decide +kernel
theorem dX9_remove_10 : decode cX9_remove 10 = .ok (.iload_n 1, 1) := by decide +kernel
theorem dX9_remove_11 : decode cX9_remove 11 = .ok (.istore_n 2, 1) := by decide +kernel
theorem dX9_remove_12 : decode cX9_remove 12 = .ok (.iload_n 2, 1) := by decide +kernel
theorem dX9_remove_13 : decode cX9_remove 13 = .ok (.aload_n 0, 1) := by decide +kernel
theorem dX9_remove_14 : decode cX9_remove 14 = .ok (.getfield 76, 3) := by decide +kernel
theorem dX9_remove_17 : decode cX9_remove 17 = .ok (.if_icmp .ge 40, 3) := by decide +kernel
theorem dX9_remove_20 : decode cX9_remove 20 = .ok (.iconst 0, 1) := by decide +kernel
theorem dX9_remove_21 : decode cX9_remove 21 = .ok (.istore_n 3, 1) := by decide +kernel
theorem dX9_remove_22 : decode cX9_remove 22 = .ok (.iload_n 3, 1) := by decide +kernel
theorem dX9_remove_23 : decode cX9_remove 23 = .ok (.iconst 4, 1) := by decide +kernel
theorem dX9_remove_24 : decode cX9_remove 24 = .ok (.if_icmp .ge 27, 3) := by decide +kernel
theorem dX9_remove_27 : decode cX9_remove 27 = .ok (.aload_n 0, 1) := by decide +kernel
theorem dX9_remove_28 : decode cX9_remove 28 = .ok (.getfield 18, 3) := by decide +kernel
theorem dX9_remove_31 : decode cX9_remove 31 = .ok (.iload_n 2, 1) := by decide +kernel
theorem dX9_remove_32 : decode cX9_remove 32 = .ok (.aaload, 1) := by decide +kernel
theorem dX9_remove_33 : decode cX9_remove 33 = .ok (.iload_n 3, 1) := by decide +kernel
theorem dX9_remove_34 : decode cX9_remove 34 = .ok (.aload_n 0, 1) := by decide +kernel
theorem dX9_remove_35 : decode cX9_remove 35 = .ok (.getfield 18, 3) := by decide +kernel
theorem dX9_remove_38 : decode cX9_remove 38 = .ok (.iload_n 2, 1) := by decide +kernel
theorem dX9_remove_39 : decode cX9_remove 39 = .ok (.iconst 1, 1) := by decide +kernel
theorem dX9_remove_40 : decode cX9_remove 40 = .ok (.iadd, 1) := by decide +kernel
theorem dX9_remove_41 : decode cX9_remove 41 = .ok (.aaload, 1) := by decide +kernel
theorem dX9_remove_42 : decode cX9_remove 42 = .ok (.iload_n 3, 1) := by decide +kernel
theorem dX9_remove_43 : decode cX9_remove 43 = .ok (.iaload, 1) := by decide +kernel
theorem dX9_remove_44 : decode cX9_remove 44 = .ok (.iastore, 1) := by decide +kernel
theorem dX9_remove_45 : decode cX9_remove 45 = .ok (.iinc 3 1, 3) := by decide +kernel
theorem dX9_remove_48 : decode cX9_remove 48 = .ok (.goto (-26), 3) := by decide +kernel
theorem dX9_remove_51 : decode cX9_remove 51 = .ok (.iinc 2 1, 3) := by decide +kernel
theorem dX9_remove_54 : decode cX9_remove 54 = .ok (.goto (-42), 3) := by decide +kernel
theorem dX9_remove_57 : decode cX9_remove 57 = .ok (.return_, 1) := by decide +kernel
theorem dX9_removeProduction_0 : decode cX9_removeProduction 0 = .ok (.aload_n 0, 1) := by decide +kernel
theorem dX9_removeProduction_1 : decode cX9_removeProduction 1 = .ok (.iconst 1, 1) := by decide +kernel
theorem dX9_removeProduction_2 : decode cX9_removeProduction 2 = .ok (.aload_n 0, 1) := by decide +kernel
theorem dX9_removeProduction_3 : decode cX9_removeProduction 3 = .ok (.iload_n 1, 1) := by decide +kernel
theorem dX9_removeProduction_4 : decode cX9_removeProduction 4 = .ok (.invokevirtual 106, 3) := by decide +kernel
theorem dX9_removeProduction_7 : decode cX9_removeProduction 7 = .ok (.ifCond .ne 7, 3) := by decide +kernel
theorem dX9_removeProduction_10 : decode cX9_removeProduction 10 = .ok (.iconst 1, 1) := by decide +kernel
theorem dX9_removeProduction_11 : decode cX9_removeProduction 11 = .ok (.goto 4, 3) := by decide +kernel
theorem dX9_removeProduction_14 : decode cX9_removeProduction 14 = .ok (.iconst 0, 1) := by decide +kernel
theorem dX9_removeProduction_15 : decode cX9_removeProduction 15 = .ok (.invokevirtual 79, 3) := by decide +kernel
theorem dX9_removeProduction_18 : decode cX9_removeProduction 18 = .ok (.ifCond .eq 5, 3) := by decide +kernel
theorem dX9_removeProduction_21 : decode cX9_removeProduction 21 = .ok (.iconst 0, 1) := by decide +kernel
theorem dX9_removeProduction_22 : decode cX9_removeProduction 22 = .ok (.ireturn, 1) := by decide +kernel
theorem dX9_removeProduction_23 : decode cX9_removeProduction 23 = .ok (.aload_n 0, 1) := by decide +kernel
theorem dX9_removeProduction_24 : decode cX9_removeProduction 24 = .ok (.iload_n 1, 1) := by decide +kernel
theorem dX9_removeProduction_25 : decode cX9_removeProduction 25 = .ok (.invokevirtual 109, 3) := by decide +kernel
theorem dX9_removeProduction_28 : decode cX9_removeProduction 28 = .ok (.aload_n 0, 1) := by decide +kernel
theorem dX9_removeProduction_29 : decode cX9_removeProduction 29 = .ok (.iconst 0, 1) := by decide +kernel
theorem dX9_removeProduction_30 : decode cX9_removeProduction 30 = .ok (.putfield 89, 3) := by decide +kernel
theorem dX9_removeProduction_33 : decode cX9_removeProduction 33 = .ok (.aload_n 0, 1) := by decide +kernel
theorem dX9_removeProduction_34 : decode cX9_removeProduction 34 = .ok (.getfield 76, 3) := by decide +kernel
theorem dX9_removeProduction_37 : decode cX9_removeProduction 37 = .ok (.ireturn, 1) := by decide +kernel
theorem dX9_shortestOf_0 : decode cX9_shortestOf 0 = .ok (.iconst 0, 1) := by decide +kernel
theorem dX9_shortestOf_1 : decode cX9_shortestOf 1 = .ok (.istore_n 2, 1) := by decide +kernel
theorem dX9_shortestOf_2 : decode cX9_shortestOf 2 = .ok (.iconst 1, 1) := by decide +kernel
theorem dX9_shortestOf_3 : decode cX9_shortestOf 3 = .ok (.istore_n 3, 1) := by decide +kernel
theorem dX9_shortestOf_4 : decode cX9_shortestOf 4 = .ok (.iload_n 3, 1) := by decide +kernel
theorem dX9_shortestOf_5 : decode cX9_shortestOf 5 = .ok (.iconst 4, 1) := by decide +kernel
theorem dX9_shortestOf_6 : decode cX9_shortestOf 6 = .ok (.if_icmp .ge 72, 3) := by decide +kernel
theorem dX9_shortestOf_9 : decode cX9_shortestOf 9 = .ok (.aload_n 0, 1) := by decide +kernel
theorem dX9_shortestOf_10 : decode cX9_shortestOf 10 = .ok (.getfield 18, 3) := by decide +kernel
theorem dX9_shortestOf_13 : decode cX9_shortestOf 13 = .ok (.iload_n 1, 1) := by decide +kernel
theorem dX9_shortestOf_14 : decode cX9_shortestOf 14 = .ok (.aaload, 1) := by decide +kernel
theorem dX9_shortestOf_15 : decode cX9_shortestOf 15 = .ok (.iload_n 3, 1) := by decide +kernel
theorem dX9_shortestOf_16 : decode cX9_shortestOf 16 = .ok (.iaload, 1) := by decide +kernel
theorem dX9_shortestOf_17 : decode cX9_shortestOf 17 = .ok (.istore 4, 2) := by decide +kernel
theorem dX9_shortestOf_19 : decode cX9_shortestOf 19 = .ok (.aload_n 0, 1) := by decide +kernel
theorem dX9_shortestOf_20 : decode cX9_shortestOf 20 = .ok (.iload 4, 2) := by decide +kernel
theorem dX9_shortestOf_22 : decode cX9_shortestOf 22 = .ok (.invokevirtual 92, 3) := by decide +kernel
theorem dX9_shortestOf_25 : decode cX9_shortestOf 25 = .ok (.ifCond .eq 15, 3) := by decide +kernel
theorem dX9_shortestOf_28 : decode cX9_shortestOf 28 = .ok (.aload_n 0, 1) := by decide +kernel
theorem dX9_shortestOf_29 : decode cX9_shortestOf 29 = .ok (.getfield 25, 3) := by decide +kernel
theorem dX9_shortestOf_32 : decode cX9_shortestOf 32 = .ok (.iload 4, 2) := by decide +kernel
theorem dX9_shortestOf_34 : decode cX9_shortestOf 34 = .ok (.iaload, 1) := by decide +kernel
theorem dX9_shortestOf_35 : decode cX9_shortestOf 35 = .ok (.ifCond .ne 5, 3) := by decide +kernel
theorem dX9_shortestOf_38 : decode cX9_shortestOf 38 = .ok (.iconst 0, 1) := by decide +kernel
theorem dX9_shortestOf_39 : decode cX9_shortestOf 39 = .ok (.ireturn, 1) := by decide +kernel
theorem dX9_shortestOf_40 : decode cX9_shortestOf 40 = .ok (.iload_n 2, 1) := by decide +kernel
theorem dX9_shortestOf_41 : decode cX9_shortestOf 41 = .ok (.iload 4, 2) := by decide +kernel
theorem dX9_shortestOf_43 : decode cX9_shortestOf 43 = .ok (.ifCond .ge 7, 3) := by decide +kernel
theorem dX9_shortestOf_46 : decode cX9_shortestOf 46 = .ok (.iconst 0, 1) := by decide +kernel
theorem dX9_shortestOf_47 : decode cX9_shortestOf 47 = .ok (.goto 23, 3) := by decide +kernel
theorem dX9_shortestOf_50 : decode cX9_shortestOf 50 = .ok (.aload_n 0, 1) := by decide +kernel
theorem dX9_shortestOf_51 : decode cX9_shortestOf 51 = .ok (.iload 4, 2) := by decide +kernel
theorem dX9_shortestOf_53 : decode cX9_shortestOf 53 = .ok (.invokevirtual 92, 3) := by decide +kernel
theorem dX9_shortestOf_56 : decode cX9_shortestOf 56 = .ok (.ifCond .eq 13, 3) := by decide +kernel
theorem dX9_shortestOf_59 : decode cX9_shortestOf 59 = .ok (.aload_n 0, 1) := by decide +kernel
theorem dX9_shortestOf_60 : decode cX9_shortestOf 60 = .ok (.getfield 25, 3) := by decide +kernel
theorem dX9_shortestOf_63 : decode cX9_shortestOf 63 = .ok (.iload 4, 2) := by decide +kernel
theorem dX9_shortestOf_65 : decode cX9_shortestOf 65 = .ok (.iaload, 1) := by decide +kernel
theorem dX9_shortestOf_66 : decode cX9_shortestOf 66 = .ok (.goto 4, 3) := by decide +kernel
theorem dX9_shortestOf_69 : decode cX9_shortestOf 69 = .ok (.iconst 1, 1) := by decide +kernel
theorem dX9_shortestOf_70 : decode cX9_shortestOf 70 = .ok (.iadd, 1) := by decide +kernel
theorem dX9_shortestOf_71 : decode cX9_shortestOf 71 = .ok (.istore_n 2, 1) := by decide +kernel
theorem dX9_shortestOf_72 : decode cX9_shortestOf 72 = .ok (.iinc 3 1, 3) := by decide +kernel
theorem dX9_shortestOf_75 : decode cX9_shortestOf 75 = .ok (.goto (-71), 3) := by decide +kernel
theorem dX9_shortestOf_78 : decode cX9_shortestOf 78 = .ok (.iload_n 2, 1) := by decide +kernel
theorem dX9_shortestOf_79 : decode cX9_shortestOf 79 = .ok (.ireturn, 1) := by decide +kernel
theorem dX9_findShortest_0 : decode cX9_findShortest 0 = .ok (.iconst 0, 1) := by decide +kernel
theorem dX9_findShortest_1 : decode cX9_findShortest 1 = .ok (.istore_n 1, 1) := by decide +kernel
theorem dX9_findShortest_2 : decode cX9_findShortest 2 = .ok (.iload_n 1, 1) := by decide +kernel
theorem dX9_findShortest_3 : decode cX9_findShortest 3 = .ok (.bipush 6, 2) := by decide +kernel
theorem dX9_findShortest_5 : decode cX9_findShortest 5 = .ok (.if_icmp .ge 16, 3) := by decide +kernel
theorem dX9_findShortest_8 : decode cX9_findShortest 8 = .ok (.aload_n 0, 1) := by decide +kernel
theorem dX9_findShortest_9 : decode cX9_findShortest 9 = .ok (.getfield 25, 3) := by decide +kernel
theorem dX9_findShortest_12 : decode cX9_findShortest 12 = .ok (.iload_n 1, 1) := by decide +kernel
theorem dX9_findShortest_13 : decode cX9_findShortest 13 = .ok (.iconst 0, 1) := by decide +kernel
theorem dX9_findShortest_14 : decode cX9_findShortest 14 = .ok (.iastore, 1) := by decide +kernel
theorem dX9_findShortest_15 : decode cX9_findShortest 15 = .ok (.iinc 1 1, 3) := by decide +kernel
theorem dX9_findShortest_18 : decode cX9_findShortest 18 = .ok (.goto (-16), 3) := by decide +kernel
theorem dX9_findShortest_21 : decode cX9_findShortest 21 = .ok (.iconst 1, 1) := by decide +kernel
theorem dX9_findShortest_22 : decode cX9_findShortest 22 = .ok (.istore_n 1, 1) := by decide +kernel
theorem dX9_findShortest_23 : decode cX9_findShortest 23 = .ok (.iload_n 1, 1) := by decide +kernel
theorem dX9_findShortest_24 : decode cX9_findShortest 24 = .ok (.ifCond .eq 75, 3) := by decide +kernel
theorem dX9_findShortest_27 : decode cX9_findShortest 27 = .ok (.iconst 0, 1) := by decide +kernel
theorem dX9_findShortest_28 : decode cX9_findShortest 28 = .ok (.istore_n 1, 1) := by decide +kernel
theorem dX9_findShortest_29 : decode cX9_findShortest 29 = .ok (.iconst 0, 1) := by decide +kernel
theorem dX9_findShortest_30 : decode cX9_findShortest 30 = .ok (.istore_n 2, 1) := by decide +kernel
theorem dX9_findShortest_31 : decode cX9_findShortest 31 = .ok (.iload_n 2, 1) := by decide +kernel
theorem dX9_findShortest_32 : decode cX9_findShortest 32 = .ok (.aload_n 0, 1) := by decide +kernel
theorem dX9_findShortest_33 : decode cX9_findShortest 33 = .ok (.getfield 76, 3) := by decide +kernel
theorem dX9_findShortest_36 : decode cX9_findShortest 36 = .ok (.if_icmp .ge 60, 3) := by decide +kernel
theorem dX9_findShortest_39 : decode cX9_findShortest 39 = .ok (.aload_n 0, 1) := by decide +kernel
theorem dX9_findShortest_40 : decode cX9_findShortest 40 = .ok (.iload_n 2, 1) := by decide +kernel
theorem dX9_findShortest_41 : decode cX9_findShortest 41 = .ok (.invokevirtual 113, 3) := by decide +kernel
theorem dX9_findShortest_44 : decode cX9_findShortest 44 = .ok (.istore_n 3, 1) := by decide +kernel
theorem dX9_findShortest_45 : decode cX9_findShortest 45 = .ok (.aload_n 0, 1) := by decide +kernel
theorem dX9_findShortest_46 : decode cX9_findShortest 46 = .ok (.getfield 18, 3) := by decide +kernel
theorem dX9_findShortest_49 : decode cX9_findShortest 49 = .ok (.iload_n 2, 1) := by decide +kernel
theorem dX9_findShortest_50 : decode cX9_findShortest 50 = .ok (.aaload, 1) := by decide +kernel
theorem dX9_findShortest_51 : decode cX9_findShortest 51 = .ok (.iconst 0, 1) := by decide +kernel
theorem dX9_findShortest_52 : decode cX9_findShortest 52 = .ok (.iaload, 1) := by decide +kernel
theorem dX9_findShortest_53 : decode cX9_findShortest 53 = .ok (.istore 4, 2) := by decide +kernel
theorem dX9_findShortest_55 : decode cX9_findShortest 55 = .ok (.iload_n 3, 1) := by decide +kernel
theorem dX9_findShortest_56 : decode cX9_findShortest 56 = .ok (.ifCond .le 34, 3) := by decide +kernel
theorem dX9_findShortest_59 : decode cX9_findShortest 59 = .ok (.aload_n 0, 1) := by decide +kernel
theorem dX9_findShortest_60 : decode cX9_findShortest 60 = .ok (.getfield 25, 3) := by decide +kernel
theorem dX9_findShortest_63 : decode cX9_findShortest 63 = .ok (.iload 4, 2) := by decide +kernel
theorem dX9_findShortest_65 : decode cX9_findShortest 65 = .ok (.iaload, 1) := by decide +kernel
theorem dX9_findShortest_66 : decode cX9_findShortest 66 = .ok (.ifCond .eq 14, 3) := by decide +kernel
theorem dX9_findShortest_69 : decode cX9_findShortest 69 = .ok (.iload_n 3, 1) := by decide +kernel
theorem dX9_findShortest_70 : decode cX9_findShortest 70 = .ok (.aload_n 0, 1) := by decide +kernel
theorem dX9_findShortest_71 : decode cX9_findShortest 71 = .ok (.getfield 25, 3) := by decide +kernel
theorem dX9_findShortest_74 : decode cX9_findShortest 74 = .ok (.iload 4, 2) := by decide +kernel
theorem dX9_findShortest_76 : decode cX9_findShortest 76 = .ok (.iaload, 1) := by decide +kernel
theorem dX9_findShortest_77 : decode cX9_findShortest 77 = .ok (.if_icmp .ge 13, 3) := by decide +kernel
theorem dX9_findShortest_80 : decode cX9_findShortest 80 = .ok (.aload_n 0, 1) := by decide +kernel
theorem dX9_findShortest_81 : decode cX9_findShortest 81 = .ok (.getfield 25, 3) := by decide +kernel
theorem dX9_findShortest_84 : decode cX9_findShortest 84 = .ok (.iload 4, 2) := by decide +kernel
theorem dX9_findShortest_86 : decode cX9_findShortest 86 = .ok (.iload_n 3, 1) := by decide +kernel
theorem dX9_findShortest_87 : decode cX9_findShortest 87 = .ok (.iastore, 1) := by decide +kernel
theorem dX9_findShortest_88 : decode cX9_findShortest 88 = .ok (.iconst 1, 1) := by decide +kernel
theorem dX9_findShortest_89 : decode cX9_findShortest 89 = .ok (.istore_n 1, 1) := by decide +kernel
theorem dX9_findShortest_90 : decode cX9_findShortest 90 = .ok (.iinc 2 1, 3) := by decide +kernel
theorem dX9_findShortest_93 : decode cX9_findShortest 93 = .ok (.goto (-62), 3) := by decide +kernel
theorem dX9_findShortest_96 : decode cX9_findShortest 96 = .ok (.goto (-73), 3) := by decide +kernel
theorem dX9_findShortest_99 : decode cX9_findShortest 99 = .ok (.return_, 1) := by decide +kernel
theorem dX9_removeUseless_0 : decode cX9_removeUseless 0 = .ok (.aload_n 0, 1) := by decide +kernel
theorem dX9_removeUseless_1 : decode cX9_removeUseless 1 = .ok (.iconst 0, 1) := by decide +kernel
theorem dX9_removeUseless_2 : decode cX9_removeUseless 2 = .ok (.putfield 69, 3) := by decide +kernel
theorem dX9_removeUseless_5 : decode cX9_removeUseless 5 = .ok (.aload_n 0, 1) := by decide +kernel
theorem dX9_removeUseless_6 : decode cX9_removeUseless 6 = .ok (.invokevirtual 117, 3) := by decide +kernel
theorem dX9_removeUseless_9 : decode cX9_removeUseless 9 = .ok (.iconst 0, 1) := by decide +kernel
theorem dX9_removeUseless_10 : decode cX9_removeUseless 10 = .ok (.istore_n 1, 1) := by decide +kernel
theorem dX9_removeUseless_11 : decode cX9_removeUseless 11 = .ok (.iload_n 1, 1) := by decide +kernel
theorem dX9_removeUseless_12 : decode cX9_removeUseless 12 = .ok (.bipush 6, 2) := by decide +kernel
theorem dX9_removeUseless_14 : decode cX9_removeUseless 14 = .ok (.if_icmp .ge 28, 3) := by decide +kernel
theorem dX9_removeUseless_17 : decode cX9_removeUseless 17 = .ok (.aload_n 0, 1) := by decide +kernel
theorem dX9_removeUseless_18 : decode cX9_removeUseless 18 = .ok (.getfield 28, 3) := by decide +kernel
theorem dX9_removeUseless_21 : decode cX9_removeUseless 21 = .ok (.iload_n 1, 1) := by decide +kernel
theorem dX9_removeUseless_22 : decode cX9_removeUseless 22 = .ok (.iload_n 1, 1) := by decide +kernel
theorem dX9_removeUseless_23 : decode cX9_removeUseless 23 = .ok (.aload_n 0, 1) := by decide +kernel
theorem dX9_removeUseless_24 : decode cX9_removeUseless 24 = .ok (.getfield 83, 3) := by decide +kernel
theorem dX9_removeUseless_27 : decode cX9_removeUseless 27 = .ok (.if_icmp .ne 7, 3) := by decide +kernel
theorem dX9_removeUseless_30 : decode cX9_removeUseless 30 = .ok (.iconst 1, 1) := by decide +kernel
theorem dX9_removeUseless_31 : decode cX9_removeUseless 31 = .ok (.goto 4, 3) := by decide +kernel
theorem dX9_removeUseless_34 : decode cX9_removeUseless 34 = .ok (.iconst 0, 1) := by decide +kernel
theorem dX9_removeUseless_35 : decode cX9_removeUseless 35 = .ok (.bastore, 1) := by decide +kernel
theorem dX9_removeUseless_36 : decode cX9_removeUseless 36 = .ok (.iinc 1 1, 3) := by decide +kernel
theorem dX9_removeUseless_39 : decode cX9_removeUseless 39 = .ok (.goto (-28), 3) := by decide +kernel
theorem dX9_removeUseless_42 : decode cX9_removeUseless 42 = .ok (.iconst 0, 1) := by decide +kernel
theorem dX9_removeUseless_43 : decode cX9_removeUseless 43 = .ok (.istore_n 1, 1) := by decide +kernel
theorem dX9_removeUseless_44 : decode cX9_removeUseless 44 = .ok (.iload_n 1, 1) := by decide +kernel
theorem dX9_removeUseless_45 : decode cX9_removeUseless 45 = .ok (.bipush 6, 2) := by decide +kernel
theorem dX9_removeUseless_47 : decode cX9_removeUseless 47 = .ok (.if_icmp .ge 89, 3) := by decide +kernel
theorem dX9_removeUseless_50 : decode cX9_removeUseless 50 = .ok (.iconst 0, 1) := by decide +kernel
theorem dX9_removeUseless_51 : decode cX9_removeUseless 51 = .ok (.istore_n 2, 1) := by decide +kernel
theorem dX9_removeUseless_52 : decode cX9_removeUseless 52 = .ok (.iload_n 2, 1) := by decide +kernel
theorem dX9_removeUseless_53 : decode cX9_removeUseless 53 = .ok (.aload_n 0, 1) := by decide +kernel
theorem dX9_removeUseless_54 : decode cX9_removeUseless 54 = .ok (.getfield 76, 3) := by decide +kernel
theorem dX9_removeUseless_57 : decode cX9_removeUseless 57 = .ok (.if_icmp .ge 73, 3) := by decide +kernel
theorem dX9_removeUseless_60 : decode cX9_removeUseless 60 = .ok (.iconst 1, 1) := by decide +kernel
theorem dX9_removeUseless_61 : decode cX9_removeUseless 61 = .ok (.istore_n 3, 1) := by decide +kernel
theorem dX9_removeUseless_62 : decode cX9_removeUseless 62 = .ok (.iload_n 3, 1) := by decide +kernel
theorem dX9_removeUseless_63 : decode cX9_removeUseless 63 = .ok (.iconst 4, 1) := by decide +kernel
theorem dX9_removeUseless_64 : decode cX9_removeUseless 64 = .ok (.if_icmp .ge 60, 3) := by decide +kernel
theorem dX9_removeUseless_67 : decode cX9_removeUseless 67 = .ok (.aload_n 0, 1) := by decide +kernel
theorem dX9_removeUseless_68 : decode cX9_removeUseless 68 = .ok (.getfield 18, 3) := by decide +kernel
theorem dX9_removeUseless_71 : decode cX9_removeUseless 71 = .ok (.iload_n 2, 1) := by decide +kernel
theorem dX9_removeUseless_72 : decode cX9_removeUseless 72 = .ok (.aaload, 1) := by decide +kernel
theorem dX9_removeUseless_73 : decode cX9_removeUseless 73 = .ok (.iload_n 3, 1) := by decide +kernel
theorem dX9_removeUseless_74 : decode cX9_removeUseless 74 = .ok (.iaload, 1) := by decide +kernel
theorem dX9_removeUseless_75 : decode cX9_removeUseless 75 = .ok (.istore 4, 2) := by decide +kernel
theorem dX9_removeUseless_77 : decode cX9_removeUseless 77 = .ok (.aload_n 0, 1) := by decide +kernel
theorem dX9_removeUseless_78 : decode cX9_removeUseless 78 = .ok (.getfield 28, 3) := by decide +kernel
theorem dX9_removeUseless_81 : decode cX9_removeUseless 81 = .ok (.aload_n 0, 1) := by decide +kernel
theorem dX9_removeUseless_82 : decode cX9_removeUseless 82 = .ok (.getfield 18, 3) := by decide +kernel
theorem dX9_removeUseless_85 : decode cX9_removeUseless 85 = .ok (.iload_n 2, 1) := by decide +kernel
theorem dX9_removeUseless_86 : decode cX9_removeUseless 86 = .ok (.aaload, 1) := by decide +kernel
theorem dX9_removeUseless_87 : decode cX9_removeUseless 87 = .ok (.iconst 0, 1) := by decide +kernel
theorem dX9_removeUseless_88 : decode cX9_removeUseless 88 = .ok (.iaload, 1) := by decide +kernel
theorem dX9_removeUseless_89 : decode cX9_removeUseless 89 = .ok (.baload, 1) := by decide +kernel
theorem dX9_removeUseless_90 : decode cX9_removeUseless 90 = .ok (.ifCond .eq 28, 3) := by decide +kernel
theorem dX9_removeUseless_93 : decode cX9_removeUseless 93 = .ok (.aload_n 0, 1) := by decide +kernel
theorem dX9_removeUseless_94 : decode cX9_removeUseless 94 = .ok (.iload_n 2, 1) := by decide +kernel
theorem dX9_removeUseless_95 : decode cX9_removeUseless 95 = .ok (.invokevirtual 113, 3) := by decide +kernel
theorem dX9_removeUseless_98 : decode cX9_removeUseless 98 = .ok (.ifCond .le 20, 3) := by decide +kernel
theorem dX9_removeUseless_101 : decode cX9_removeUseless 101 = .ok (.aload_n 0, 1) := by decide +kernel
theorem dX9_removeUseless_102 : decode cX9_removeUseless 102 = .ok (.iload 4, 2) := by decide +kernel
theorem dX9_removeUseless_104 : decode cX9_removeUseless 104 = .ok (.invokevirtual 92, 3) := by decide +kernel
theorem dX9_removeUseless_107 : decode cX9_removeUseless 107 = .ok (.ifCond .eq 11, 3) := by decide +kernel
theorem dX9_removeUseless_110 : decode cX9_removeUseless 110 = .ok (.aload_n 0, 1) := by decide +kernel
theorem dX9_removeUseless_111 : decode cX9_removeUseless 111 = .ok (.getfield 28, 3) := by decide +kernel
theorem dX9_removeUseless_114 : decode cX9_removeUseless 114 = .ok (.iload 4, 2) := by decide +kernel
theorem dX9_removeUseless_116 : decode cX9_removeUseless 116 = .ok (.iconst 1, 1) := by decide +kernel
theorem dX9_removeUseless_117 : decode cX9_removeUseless 117 = .ok (.bastore, 1) := by decide +kernel
theorem dX9_removeUseless_118 : decode cX9_removeUseless 118 = .ok (.iinc 3 1, 3) := by decide +kernel
theorem dX9_removeUseless_121 : decode cX9_removeUseless 121 = .ok (.goto (-59), 3) := by decide +kernel
theorem dX9_removeUseless_124 : decode cX9_removeUseless 124 = .ok (.iinc 2 1, 3) := by decide +kernel
theorem dX9_removeUseless_127 : decode cX9_removeUseless 127 = .ok (.goto (-75), 3) := by decide +kernel
theorem dX9_removeUseless_130 : decode cX9_removeUseless 130 = .ok (.iinc 1 1, 3) := by decide +kernel
theorem dX9_removeUseless_133 : decode cX9_removeUseless 133 = .ok (.goto (-89), 3) := by decide +kernel
theorem dX9_removeUseless_136 : decode cX9_removeUseless 136 = .ok (.iconst 0, 1) := by decide +kernel
theorem dX9_removeUseless_137 : decode cX9_removeUseless 137 = .ok (.istore_n 1, 1) := by decide +kernel
theorem dX9_removeUseless_138 : decode cX9_removeUseless 138 = .ok (.aload_n 0, 1) := by decide +kernel
theorem dX9_removeUseless_139 : decode cX9_removeUseless 139 = .ok (.getfield 76, 3) := by decide +kernel
theorem dX9_removeUseless_142 : decode cX9_removeUseless 142 = .ok (.iconst 1, 1) := by decide +kernel
theorem dX9_removeUseless_143 : decode cX9_removeUseless 143 = .ok (.isub, 1) := by decide +kernel
theorem dX9_removeUseless_144 : decode cX9_removeUseless 144 = .ok (.istore_n 2, 1) := by decide +kernel
theorem dX9_removeUseless_145 : decode cX9_removeUseless 145 = .ok (.iload_n 2, 1) := by decide +kernel
theorem dX9_removeUseless_146 : decode cX9_removeUseless 146 = .ok (.ifCond .lt 41, 3) := by decide +kernel
theorem dX9_removeUseless_149 : decode cX9_removeUseless 149 = .ok (.aload_n 0, 1) := by decide +kernel
theorem dX9_removeUseless_150 : decode cX9_removeUseless 150 = .ok (.getfield 28, 3) := by decide +kernel
theorem dX9_removeUseless_153 : decode cX9_removeUseless 153 = .ok (.aload_n 0, 1) := by decide +kernel
theorem dX9_removeUseless_154 : decode cX9_removeUseless 154 = .ok (.getfield 18, 3) := by decide +kernel
theorem dX9_removeUseless_157 : decode cX9_removeUseless 157 = .ok (.iload_n 2, 1) := by decide +kernel
theorem dX9_removeUseless_158 : decode cX9_removeUseless 158 = .ok (.aaload, 1) := by decide +kernel
theorem dX9_removeUseless_159 : decode cX9_removeUseless 159 = .ok (.iconst 0, 1) := by decide +kernel
theorem dX9_removeUseless_160 : decode cX9_removeUseless 160 = .ok (.iaload, 1) := by decide +kernel
theorem dX9_removeUseless_161 : decode cX9_removeUseless 161 = .ok (.baload, 1) := by decide +kernel
theorem dX9_removeUseless_162 : decode cX9_removeUseless 162 = .ok (.ifCond .eq 11, 3) := by decide +kernel
theorem dX9_removeUseless_165 : decode cX9_removeUseless 165 = .ok (.aload_n 0, 1) := by decide +kernel
theorem dX9_removeUseless_166 : decode cX9_removeUseless 166 = .ok (.iload_n 2, 1) := by decide +kernel
theorem dX9_removeUseless_167 : decode cX9_removeUseless 167 = .ok (.invokevirtual 113, 3) := by decide +kernel
theorem dX9_removeUseless_170 : decode cX9_removeUseless 170 = .ok (.ifCond .ne 11, 3) := by decide +kernel
theorem dX9_removeUseless_173 : decode cX9_removeUseless 173 = .ok (.aload_n 0, 1) := by decide +kernel
theorem dX9_removeUseless_174 : decode cX9_removeUseless 174 = .ok (.iload_n 2, 1) := by decide +kernel
theorem dX9_removeUseless_175 : decode cX9_removeUseless 175 = .ok (.invokevirtual 109, 3) := by decide +kernel
theorem dX9_removeUseless_178 : decode cX9_removeUseless 178 = .ok (.iinc 1 1, 3) := by decide +kernel
theorem dX9_removeUseless_181 : decode cX9_removeUseless 181 = .ok (.iinc 2 (-1), 3) := by decide +kernel
theorem dX9_removeUseless_184 : decode cX9_removeUseless 184 = .ok (.goto (-39), 3) := by decide +kernel
theorem dX9_removeUseless_187 : decode cX9_removeUseless 187 = .ok (.aload_n 0, 1) := by decide +kernel
theorem dX9_removeUseless_188 : decode cX9_removeUseless 188 = .ok (.iconst 0, 1) := by decide +kernel
theorem dX9_removeUseless_189 : decode cX9_removeUseless 189 = .ok (.putfield 89, 3) := by decide +kernel
theorem dX9_removeUseless_192 : decode cX9_removeUseless 192 = .ok (.iload_n 1, 1) := by decide +kernel
theorem dX9_removeUseless_193 : decode cX9_removeUseless 193 = .ok (.ireturn, 1) := by decide +kernel
theorem dX9_productionCount_0 : decode cX9_productionCount 0 = .ok (.aload_n 0, 1) := by decide +kernel
theorem dX9_productionCount_1 : decode cX9_productionCount 1 = .ok (.iconst 0, 1) := by decide +kernel
theorem dX9_productionCount_2 : decode cX9_productionCount 2 = .ok (.putfield 69, 3) := by decide +kernel
theorem dX9_productionCount_5 : decode cX9_productionCount 5 = .ok (.aload_n 0, 1) := by decide +kernel
theorem dX9_productionCount_6 : decode cX9_productionCount 6 = .ok (.getfield 76, 3) := by decide +kernel
theorem dX9_productionCount_9 : decode cX9_productionCount 9 = .ok (.ireturn, 1) := by decide +kernel
theorem dX9_productionSymbol_0 : decode cX9_productionSymbol 0 = .ok (.aload_n 0, 1) := by decide +kernel
theorem dX9_productionSymbol_1 : decode cX9_productionSymbol 1 = .ok (.iconst 1, 1) := by decide +kernel
theorem dX9_productionSymbol_2 : decode cX9_productionSymbol 2 = .ok (.aload_n 0, 1) := by decide +kernel
theorem dX9_productionSymbol_3 : decode cX9_productionSymbol 3 = .ok (.iload_n 1, 1) := by decide +kernel
theorem dX9_productionSymbol_4 : decode cX9_productionSymbol 4 = .ok (.invokevirtual 106, 3) := by decide +kernel
theorem dX9_productionSymbol_7 : decode cX9_productionSymbol 7 = .ok (.ifCond .ne 7, 3) := by decide +kernel
theorem dX9_productionSymbol_10 : decode cX9_productionSymbol 10 = .ok (.iconst 1, 1) := by decide +kernel
theorem dX9_productionSymbol_11 : decode cX9_productionSymbol 11 = .ok (.goto 4, 3) := by decide +kernel
theorem dX9_productionSymbol_14 : decode cX9_productionSymbol 14 = .ok (.iconst 0, 1) := by decide +kernel
theorem dX9_productionSymbol_15 : decode cX9_productionSymbol 15 = .ok (.invokevirtual 79, 3) := by decide +kernel
theorem dX9_productionSymbol_18 : decode cX9_productionSymbol 18 = .ok (.ifCond .ne 25, 3) := by decide +kernel
theorem dX9_productionSymbol_21 : decode cX9_productionSymbol 21 = .ok (.aload_n 0, 1) := by decide +kernel
theorem dX9_productionSymbol_22 : decode cX9_productionSymbol 22 = .ok (.iconst 2, 1) := by decide +kernel
theorem dX9_productionSymbol_23 : decode cX9_productionSymbol 23 = .ok (.iload_n 2, 1) := by decide +kernel
theorem dX9_productionSymbol_24 : decode cX9_productionSymbol 24 = .ok (.iconst 0, 1) := by decide +kernel
theorem dX9_productionSymbol_25 : decode cX9_productionSymbol 25 = .ok (.iconst 3, 1) := by decide +kernel
theorem dX9_productionSymbol_26 : decode cX9_productionSymbol 26 = .ok (.invokestatic 72, 3) := by decide +kernel
theorem dX9_productionSymbol_29 : decode cX9_productionSymbol 29 = .ok (.ifCond .ne 7, 3) := by decide +kernel
theorem dX9_productionSymbol_32 : decode cX9_productionSymbol 32 = .ok (.iconst 1, 1) := by decide +kernel
theorem dX9_productionSymbol_33 : decode cX9_productionSymbol 33 = .ok (.goto 4, 3) := by decide +kernel
theorem dX9_productionSymbol_36 : decode cX9_productionSymbol 36 = .ok (.iconst 0, 1) := by decide +kernel
theorem dX9_productionSymbol_37 : decode cX9_productionSymbol 37 = .ok (.invokevirtual 79, 3) := by decide +kernel
theorem dX9_productionSymbol_40 : decode cX9_productionSymbol 40 = .ok (.ifCond .eq 5, 3) := by decide +kernel
theorem dX9_productionSymbol_43 : decode cX9_productionSymbol 43 = .ok (.iconst 0, 1) := by decide +kernel
theorem dX9_productionSymbol_44 : decode cX9_productionSymbol 44 = .ok (.ireturn, 1) := by decide +kernel
theorem dX9_productionSymbol_45 : decode cX9_productionSymbol 45 = .ok (.aload_n 0, 1) := by decide +kernel
theorem dX9_productionSymbol_46 : decode cX9_productionSymbol 46 = .ok (.getfield 18, 3) := by decide +kernel
theorem dX9_productionSymbol_49 : decode cX9_productionSymbol 49 = .ok (.iload_n 1, 1) := by decide +kernel
theorem dX9_productionSymbol_50 : decode cX9_productionSymbol 50 = .ok (.aaload, 1) := by decide +kernel
theorem dX9_productionSymbol_51 : decode cX9_productionSymbol 51 = .ok (.iload_n 2, 1) := by decide +kernel
theorem dX9_productionSymbol_52 : decode cX9_productionSymbol 52 = .ok (.iaload, 1) := by decide +kernel
theorem dX9_productionSymbol_53 : decode cX9_productionSymbol 53 = .ok (.ireturn, 1) := by decide +kernel
theorem dX9_setStart_0 : decode cX9_setStart 0 = .ok (.aload_n 0, 1) := by decide +kernel
theorem dX9_setStart_1 : decode cX9_setStart 1 = .ok (.iconst 1, 1) := by decide +kernel
theorem dX9_setStart_2 : decode cX9_setStart 2 = .ok (.aload_n 0, 1) := by decide +kernel
theorem dX9_setStart_3 : decode cX9_setStart 3 = .ok (.iload_n 1, 1) := by decide +kernel
theorem dX9_setStart_4 : decode cX9_setStart 4 = .ok (.invokevirtual 92, 3) := by decide +kernel
theorem dX9_setStart_7 : decode cX9_setStart 7 = .ok (.ifCond .ne 7, 3) := by decide +kernel
theorem dX9_setStart_10 : decode cX9_setStart 10 = .ok (.iconst 1, 1) := by decide +kernel
theorem dX9_setStart_11 : decode cX9_setStart 11 = .ok (.goto 4, 3) := by decide +kernel
theorem dX9_setStart_14 : decode cX9_setStart 14 = .ok (.iconst 0, 1) := by decide +kernel
theorem dX9_setStart_15 : decode cX9_setStart 15 = .ok (.invokevirtual 79, 3) := by decide +kernel
theorem dX9_setStart_18 : decode cX9_setStart 18 = .ok (.ifCond .eq 5, 3) := by decide +kernel
theorem dX9_setStart_21 : decode cX9_setStart 21 = .ok (.iconst 0, 1) := by decide +kernel
theorem dX9_setStart_22 : decode cX9_setStart 22 = .ok (.ireturn, 1) := by decide +kernel
theorem dX9_setStart_23 : decode cX9_setStart 23 = .ok (.aload_n 0, 1) := by decide +kernel
theorem dX9_setStart_24 : decode cX9_setStart 24 = .ok (.getfield 83, 3) := by decide +kernel
theorem dX9_setStart_27 : decode cX9_setStart 27 = .ok (.istore_n 2, 1) := by decide +kernel
theorem dX9_setStart_28 : decode cX9_setStart 28 = .ok (.aload_n 0, 1) := by decide +kernel
theorem dX9_setStart_29 : decode cX9_setStart 29 = .ok (.iload_n 1, 1) := by decide +kernel
theorem dX9_setStart_30 : decode cX9_setStart 30 = .ok (.putfield 83, 3) := by decide +kernel
theorem dX9_setStart_33 : decode cX9_setStart 33 = .ok (.aload_n 0, 1) := by decide +kernel
theorem dX9_setStart_34 : decode cX9_setStart 34 = .ok (.iconst 0, 1) := by decide +kernel
theorem dX9_setStart_35 : decode cX9_setStart 35 = .ok (.putfield 89, 3) := by decide +kernel
theorem dX9_setStart_38 : decode cX9_setStart 38 = .ok (.iload_n 2, 1) := by decide +kernel
theorem dX9_setStart_39 : decode cX9_setStart 39 = .ok (.ireturn, 1) := by decide +kernel
theorem dX9_shortestLength_0 : decode cX9_shortestLength 0 = .ok (.aload_n 0, 1) := by decide +kernel
theorem dX9_shortestLength_1 : decode cX9_shortestLength 1 = .ok (.iconst 1, 1) := by decide +kernel
theorem dX9_shortestLength_2 : decode cX9_shortestLength 2 = .ok (.aload_n 0, 1) := by decide +kernel
theorem dX9_shortestLength_3 : decode cX9_shortestLength 3 = .ok (.iload_n 1, 1) := by decide +kernel
theorem dX9_shortestLength_4 : decode cX9_shortestLength 4 = .ok (.invokevirtual 92, 3) := by decide +kernel
theorem dX9_shortestLength_7 : decode cX9_shortestLength 7 = .ok (.ifCond .ne 7, 3) := by decide +kernel
theorem dX9_shortestLength_10 : decode cX9_shortestLength 10 = .ok (.iconst 1, 1) := by decide +kernel
theorem dX9_shortestLength_11 : decode cX9_shortestLength 11 = .ok (.goto 4, 3) := by decide +kernel
theorem dX9_shortestLength_14 : decode cX9_shortestLength 14 = .ok (.iconst 0, 1) := by decide +kernel
theorem dX9_shortestLength_15 : decode cX9_shortestLength 15 = .ok (.invokevirtual 79, 3) := by decide +kernel
theorem dX9_shortestLength_18 : decode cX9_shortestLength 18 = .ok (.ifCond .eq 5, 3) := by decide +kernel
theorem dX9_shortestLength_21 : decode cX9_shortestLength 21 = .ok (.iconst 0, 1) := by decide +kernel
theorem dX9_shortestLength_22 : decode cX9_shortestLength 22 = .ok (.ireturn, 1) := by decide +kernel
theorem dX9_shortestLength_23 : decode cX9_shortestLength 23 = .ok (.aload_n 0, 1) := by decide +kernel
theorem dX9_shortestLength_24 : decode cX9_shortestLength 24 = .ok (.invokevirtual 117, 3) := by decide +kernel
theorem dX9_shortestLength_27 : decode cX9_shortestLength 27 = .ok (.aload_n 0, 1) := by decide +kernel
theorem dX9_shortestLength_28 : decode cX9_shortestLength 28 = .ok (.getfield 25, 3) := by decide +kernel
theorem dX9_shortestLength_31 : decode cX9_shortestLength 31 = .ok (.iload_n 1, 1) := by decide +kernel
theorem dX9_shortestLength_32 : decode cX9_shortestLength 32 = .ok (.iaload, 1) := by decide +kernel
theorem dX9_shortestLength_33 : decode cX9_shortestLength 33 = .ok (.ireturn, 1) := by decide +kernel
theorem dX9_append_0 : decode cX9_append 0 = .ok (.aload_n 0, 1) := by decide +kernel
theorem dX9_append_1 : decode cX9_append 1 = .ok (.iconst 1, 1) := by decide +kernel
theorem dX9_append_2 : decode cX9_append 2 = .ok (.iload_n 1, 1) := by decide +kernel
theorem dX9_append_3 : decode cX9_append 3 = .ok (.iconst 0, 1) := by decide +kernel
theorem dX9_append_4 : decode cX9_append 4 = .ok (.aload_n 0, 1) := by decide +kernel
theorem dX9_append_5 : decode cX9_append 5 = .ok (.getfield 13, 3) := by decide +kernel
theorem dX9_append_8 : decode cX9_append 8 = .ok (.iconst 1, 1) := by decide +kernel
theorem dX9_append_9 : decode cX9_append 9 = .ok (.isub, 1) := by decide +kernel
theorem dX9_append_10 : decode cX9_append 10 = .ok (.invokestatic 72, 3) := by decide +kernel
theorem dX9_append_13 : decode cX9_append 13 = .ok (.ifCond .ne 7, 3) := by decide +kernel
theorem dX9_append_16 : decode cX9_append 16 = .ok (.iconst 1, 1) := by decide +kernel
theorem dX9_append_17 : decode cX9_append 17 = .ok (.goto 4, 3) := by decide +kernel
theorem dX9_append_20 : decode cX9_append 20 = .ok (.iconst 0, 1) := by decide +kernel
theorem dX9_append_21 : decode cX9_append 21 = .ok (.invokevirtual 79, 3) := by decide +kernel
theorem dX9_append_24 : decode cX9_append 24 = .ok (.ifCond .ne 25, 3) := by decide +kernel
theorem dX9_append_27 : decode cX9_append 27 = .ok (.aload_n 0, 1) := by decide +kernel
theorem dX9_append_28 : decode cX9_append 28 = .ok (.iconst 2, 1) := by decide +kernel
theorem dX9_append_29 : decode cX9_append 29 = .ok (.aload_n 0, 1) := by decide +kernel
theorem dX9_append_30 : decode cX9_append 30 = .ok (.getfield 86, 3) := by decide +kernel
theorem dX9_append_33 : decode cX9_append 33 = .ok (.bipush 8, 2) := by decide +kernel
theorem dX9_append_35 : decode cX9_append 35 = .ok (.if_icmp .ne 7, 3) := by decide +kernel
theorem dX9_append_38 : decode cX9_append 38 = .ok (.iconst 1, 1) := by decide +kernel
theorem dX9_append_39 : decode cX9_append 39 = .ok (.goto 4, 3) := by decide +kernel
theorem dX9_append_42 : decode cX9_append 42 = .ok (.iconst 0, 1) := by decide +kernel
theorem dX9_append_43 : decode cX9_append 43 = .ok (.invokevirtual 79, 3) := by decide +kernel
theorem dX9_append_46 : decode cX9_append 46 = .ok (.ifCond .eq 5, 3) := by decide +kernel
theorem dX9_append_49 : decode cX9_append 49 = .ok (.iconst 0, 1) := by decide +kernel
theorem dX9_append_50 : decode cX9_append 50 = .ok (.ireturn, 1) := by decide +kernel
theorem dX9_append_51 : decode cX9_append 51 = .ok (.aload_n 0, 1) := by decide +kernel
theorem dX9_append_52 : decode cX9_append 52 = .ok (.getfield 21, 3) := by decide +kernel
theorem dX9_append_55 : decode cX9_append 55 = .ok (.aload_n 0, 1) := by decide +kernel
theorem dX9_append_56 : decode cX9_append 56 = .ok (.getfield 86, 3) := by decide +kernel
theorem dX9_append_59 : decode cX9_append 59 = .ok (.iload_n 1, 1) := by decide +kernel
theorem dX9_append_60 : decode cX9_append 60 = .ok (.iastore, 1) := by decide +kernel
theorem dX9_append_61 : decode cX9_append 61 = .ok (.aload_n 0, 1) := by decide +kernel
theorem dX9_append_62 : decode cX9_append 62 = .ok (.dup, 1) := by decide +kernel
theorem dX9_append_63 : decode cX9_append 63 = .ok (.getfield 86, 3) := by decide +kernel
theorem dX9_append_66 : decode cX9_append 66 = .ok (.iconst 1, 1) := by decide +kernel
theorem dX9_append_67 : decode cX9_append 67 = .ok (.iadd, 1) := by decide +kernel
theorem dX9_append_68 : decode cX9_append 68 = .ok (.putfield 86, 3) := by decide +kernel
theorem dX9_append_71 : decode cX9_append 71 = .ok (.aload_n 0, 1) := by decide +kernel
theorem dX9_append_72 : decode cX9_append 72 = .ok (.iconst 0, 1) := by decide +kernel
theorem dX9_append_73 : decode cX9_append 73 = .ok (.putfield 89, 3) := by decide +kernel
theorem dX9_append_76 : decode cX9_append 76 = .ok (.aload_n 0, 1) := by decide +kernel
theorem dX9_append_77 : decode cX9_append 77 = .ok (.getfield 86, 3) := by decide +kernel
theorem dX9_append_80 : decode cX9_append 80 = .ok (.ireturn, 1) := by decide +kernel
theorem dX9_clearWord_0 : decode cX9_clearWord 0 = .ok (.aload_n 0, 1) := by decide +kernel
theorem dX9_clearWord_1 : decode cX9_clearWord 1 = .ok (.iconst 0, 1) := by decide +kernel
theorem dX9_clearWord_2 : decode cX9_clearWord 2 = .ok (.putfield 69, 3) := by decide +kernel
theorem dX9_clearWord_5 : decode cX9_clearWord 5 = .ok (.aload_n 0, 1) := by decide +kernel
theorem dX9_clearWord_6 : decode cX9_clearWord 6 = .ok (.getfield 86, 3) := by decide +kernel
theorem dX9_clearWord_9 : decode cX9_clearWord 9 = .ok (.istore_n 1, 1) := by decide +kernel
theorem dX9_clearWord_10 : decode cX9_clearWord 10 = .ok (.aload_n 0, 1) := by decide +kernel
theorem dX9_clearWord_11 : decode cX9_clearWord 11 = .ok (.iconst 0, 1) := by decide +kernel
theorem dX9_clearWord_12 : decode cX9_clearWord 12 = .ok (.putfield 86, 3) := by decide +kernel
theorem dX9_clearWord_15 : decode cX9_clearWord 15 = .ok (.aload_n 0, 1) := by decide +kernel
theorem dX9_clearWord_16 : decode cX9_clearWord 16 = .ok (.iconst 0, 1) := by decide +kernel
theorem dX9_clearWord_17 : decode cX9_clearWord 17 = .ok (.putfield 89, 3) := by decide +kernel
theorem dX9_clearWord_20 : decode cX9_clearWord 20 = .ok (.iload_n 1, 1) := by decide +kernel
theorem dX9_clearWord_21 : decode cX9_clearWord 21 = .ok (.ireturn, 1) := by decide +kernel
theorem dX9_wordLength_0 : decode cX9_wordLength 0 = .ok (.aload_n 0, 1) := by decide +kernel
theorem dX9_wordLength_1 : decode cX9_wordLength 1 = .ok (.iconst 0, 1) := by decide +kernel
theorem dX9_wordLength_2 : decode cX9_wordLength 2 = .ok (.putfield 69, 3) := by decide +kernel
theorem dX9_wordLength_5 : decode cX9_wordLength 5 = .ok (.aload_n 0, 1) := by decide +kernel
theorem dX9_wordLength_6 : decode cX9_wordLength 6 = .ok (.getfield 86, 3) := by decide +kernel
theorem dX9_wordLength_9 : decode cX9_wordLength 9 = .ok (.ireturn, 1) := by decide +kernel
theorem dX9_terminalAt_0 : decode cX9_terminalAt 0 = .ok (.aload_n 0, 1) := by decide +kernel
theorem dX9_terminalAt_1 : decode cX9_terminalAt 1 = .ok (.iconst 1, 1) := by decide +kernel
theorem dX9_terminalAt_2 : decode cX9_terminalAt 2 = .ok (.iload_n 1, 1) := by decide +kernel
theorem dX9_terminalAt_3 : decode cX9_terminalAt 3 = .ok (.iconst 0, 1) := by decide +kernel
theorem dX9_terminalAt_4 : decode cX9_terminalAt 4 = .ok (.aload_n 0, 1) := by decide +kernel
theorem dX9_terminalAt_5 : decode cX9_terminalAt 5 = .ok (.getfield 86, 3) := by decide +kernel
theorem dX9_terminalAt_8 : decode cX9_terminalAt 8 = .ok (.iconst 1, 1) := by decide +kernel
theorem dX9_terminalAt_9 : decode cX9_terminalAt 9 = .ok (.isub, 1) := by decide +kernel
theorem dX9_terminalAt_10 : decode cX9_terminalAt 10 = .ok (.invokestatic 72, 3) := by decide +kernel
theorem dX9_terminalAt_13 : decode cX9_terminalAt 13 = .ok (.ifCond .ne 7, 3) := by decide +kernel
theorem dX9_terminalAt_16 : decode cX9_terminalAt 16 = .ok (.iconst 1, 1) := by decide +kernel
theorem dX9_terminalAt_17 : decode cX9_terminalAt 17 = .ok (.goto 4, 3) := by decide +kernel
theorem dX9_terminalAt_20 : decode cX9_terminalAt 20 = .ok (.iconst 0, 1) := by decide +kernel
theorem dX9_terminalAt_21 : decode cX9_terminalAt 21 = .ok (.invokevirtual 79, 3) := by decide +kernel
theorem dX9_terminalAt_24 : decode cX9_terminalAt 24 = .ok (.ifCond .eq 7, 3) := by decide +kernel
theorem dX9_terminalAt_27 : decode cX9_terminalAt 27 = .ok (.iconst 0, 1) := by decide +kernel
theorem dX9_terminalAt_28 : decode cX9_terminalAt 28 = .ok (.goto 9, 3) := by decide +kernel
theorem dX9_terminalAt_31 : decode cX9_terminalAt 31 = .ok (.aload_n 0, 1) := by decide +kernel
theorem dX9_terminalAt_32 : decode cX9_terminalAt 32 = .ok (.getfield 21, 3) := by decide +kernel
theorem dX9_terminalAt_35 : decode cX9_terminalAt 35 = .ok (.iload_n 1, 1) := by decide +kernel
theorem dX9_terminalAt_36 : decode cX9_terminalAt 36 = .ok (.iaload, 1) := by decide +kernel
theorem dX9_terminalAt_37 : decode cX9_terminalAt 37 = .ok (.ireturn, 1) := by decide +kernel
theorem dX9_partsOfLength_0 : decode cX9_partsOfLength 0 = .ok (.iload_n 1, 1) := by decide +kernel
theorem dX9_partsOfLength_1 : decode cX9_partsOfLength 1 = .ok (.ifCond .ge 15, 3) := by decide +kernel
theorem dX9_partsOfLength_4 : decode cX9_partsOfLength 4 = .ok (.iload_n 2, 1) := by decide +kernel
theorem dX9_partsOfLength_5 : decode cX9_partsOfLength 5 = .ok (.ifCond .ne 7, 3) := by decide +kernel
theorem dX9_partsOfLength_8 : decode cX9_partsOfLength 8 = .ok (.lconst 1, 1) := by decide +kernel
theorem dX9_partsOfLength_9 : decode cX9_partsOfLength 9 = .ok (.goto 34, 3) := by decide +kernel
theorem dX9_partsOfLength_12 : decode cX9_partsOfLength 12 = .ok (.lconst 0, 1) := by decide +kernel
theorem dX9_partsOfLength_13 : decode cX9_partsOfLength 13 = .ok (.goto 30, 3) := by decide +kernel
theorem dX9_partsOfLength_16 : decode cX9_partsOfLength 16 = .ok (.iload_n 1, 1) := by decide +kernel
theorem dX9_partsOfLength_17 : decode cX9_partsOfLength 17 = .ok (.bipush 10, 2) := by decide +kernel
theorem dX9_partsOfLength_19 : decode cX9_partsOfLength 19 = .ok (.if_icmp .lt 16, 3) := by decide +kernel
theorem dX9_partsOfLength_22 : decode cX9_partsOfLength 22 = .ok (.iload_n 2, 1) := by decide +kernel
theorem dX9_partsOfLength_23 : decode cX9_partsOfLength 23 = .ok (.iconst 1, 1) := by decide +kernel
theorem dX9_partsOfLength_24 : decode cX9_partsOfLength 24 = .ok (.if_icmp .ne 7, 3) := by decide +kernel
theorem dX9_partsOfLength_27 : decode cX9_partsOfLength 27 = .ok (.lconst 1, 1) := by decide +kernel
theorem dX9_partsOfLength_28 : decode cX9_partsOfLength 28 = .ok (.goto 15, 3) := by decide +kernel
theorem dX9_partsOfLength_31 : decode cX9_partsOfLength 31 = .ok (.lconst 0, 1) := by decide +kernel
theorem dX9_partsOfLength_32 : decode cX9_partsOfLength 32 = .ok (.goto 11, 3) := by decide +kernel
theorem dX9_partsOfLength_35 : decode cX9_partsOfLength 35 = .ok (.aload_n 0, 1) := by decide +kernel
theorem dX9_partsOfLength_36 : decode cX9_partsOfLength 36 = .ok (.getfield 34, 3) := by decide +kernel
theorem dX9_partsOfLength_39 : decode cX9_partsOfLength 39 = .ok (.iload_n 1, 1) := by decide +kernel
theorem dX9_partsOfLength_40 : decode cX9_partsOfLength 40 = .ok (.aaload, 1) := by decide +kernel
theorem dX9_partsOfLength_41 : decode cX9_partsOfLength 41 = .ok (.iload_n 2, 1) := by decide +kernel
theorem dX9_partsOfLength_42 : decode cX9_partsOfLength 42 = .ok (.laload, 1) := by decide +kernel
theorem dX9_partsOfLength_43 : decode cX9_partsOfLength 43 = .ok (.lreturn, 1) := by decide +kernel
theorem dX9_countByLength_0 : decode cX9_countByLength 0 = .ok (.iconst 0, 1) := by decide +kernel
theorem dX9_countByLength_1 : decode cX9_countByLength 1 = .ok (.istore_n 1, 1) := by decide +kernel
theorem dX9_countByLength_2 : decode cX9_countByLength 2 = .ok (.iload_n 1, 1) := by decide +kernel
theorem dX9_countByLength_3 : decode cX9_countByLength 3 = .ok (.bipush 6, 2) := by decide +kernel
theorem dX9_countByLength_5 : decode cX9_countByLength 5 = .ok (.if_icmp .ge 32, 3) := by decide +kernel
theorem dX9_countByLength_8 : decode cX9_countByLength 8 = .ok (.iconst 0, 1) := by decide +kernel
theorem dX9_countByLength_9 : decode cX9_countByLength 9 = .ok (.istore_n 2, 1) := by decide +kernel
theorem dX9_countByLength_10 : decode cX9_countByLength 10 = .ok (.iload_n 2, 1) := by decide +kernel
theorem dX9_countByLength_11 : decode cX9_countByLength 11 = .ok (.bipush 11, 2) := by decide +kernel
theorem dX9_countByLength_13 : decode cX9_countByLength 13 = .ok (.if_icmp .ge 18, 3) := by decide +kernel
theorem dX9_countByLength_16 : decode cX9_countByLength 16 = .ok (.aload_n 0, 1) := by decide +kernel
theorem dX9_countByLength_17 : decode cX9_countByLength 17 = .ok (.getfield 34, 3) := by decide +kernel
theorem dX9_countByLength_20 : decode cX9_countByLength 20 = .ok (.iload_n 1, 1) := by decide +kernel
theorem dX9_countByLength_21 : decode cX9_countByLength 21 = .ok (.aaload, 1) := by decide +kernel
theorem dX9_countByLength_22 : decode cX9_countByLength 22 = .ok (.iload_n 2, 1) := by decide +kernel
theorem dX9_countByLength_23 : decode cX9_countByLength 23 = .ok (.lconst 0, 1) := by decide +kernel
theorem dX9_countByLength_24 : decode cX9_countByLength 24 = .ok (.lastore, 1) := by decide +kernel
theorem dX9_countByLength_25 : decode cX9_countByLength 25 = .ok (.iinc 2 1, 3) := by decide +kernel
theorem dX9_countByLength_28 : decode cX9_countByLength 28 = .ok (.goto (-18), 3) := by decide +kernel
theorem dX9_countByLength_31 : decode cX9_countByLength 31 = .ok (.iinc 1 1, 3) := by decide +kernel
theorem dX9_countByLength_34 : decode cX9_countByLength 34 = .ok (.goto (-32), 3) := by decide +kernel
theorem dX9_countByLength_37 : decode cX9_countByLength 37 = .ok (.iconst 1, 1) := by decide +kernel
theorem dX9_countByLength_38 : decode cX9_countByLength 38 = .ok (.istore_n 1, 1) := by decide +kernel
theorem dX9_countByLength_39 : decode cX9_countByLength 39 = .ok (.iload_n 1, 1) := by decide +kernel
theorem dX9_countByLength_40 : decode cX9_countByLength 40 = .ok (.bipush 11, 2) := by decide +kernel
theorem dX9_countByLength_42 : decode cX9_countByLength 42 = .ok (.if_icmp .ge 115, 3) := by decide +kernel
theorem dX9_countByLength_45 : decode cX9_countByLength 45 = .ok (.iconst 0, 1) := by decide +kernel
theorem dX9_countByLength_46 : decode cX9_countByLength 46 = .ok (.istore_n 2, 1) := by decide +kernel
theorem dX9_countByLength_47 : decode cX9_countByLength 47 = .ok (.iload_n 2, 1) := by decide +kernel
theorem dX9_countByLength_48 : decode cX9_countByLength 48 = .ok (.aload_n 0, 1) := by decide +kernel
theorem dX9_countByLength_49 : decode cX9_countByLength 49 = .ok (.getfield 76, 3) := by decide +kernel
theorem dX9_countByLength_52 : decode cX9_countByLength 52 = .ok (.if_icmp .ge 99, 3) := by decide +kernel
theorem dX9_countByLength_55 : decode cX9_countByLength 55 = .ok (.lconst 0, 1) := by decide +kernel
theorem dX9_countByLength_56 : decode cX9_countByLength 56 = .ok (.lstore_n 3, 1) := by decide +kernel
theorem dX9_countByLength_57 : decode cX9_countByLength 57 = .ok (.iconst 0, 1) := by decide +kernel
theorem dX9_countByLength_58 : decode cX9_countByLength 58 = .ok (.istore 5, 2) := by decide +kernel
theorem dX9_countByLength_60 : decode cX9_countByLength 60 = .ok (.iload 5, 2) := by decide +kernel
theorem dX9_countByLength_62 : decode cX9_countByLength 62 = .ok (.iload_n 1, 1) := by decide +kernel
theorem dX9_countByLength_63 : decode cX9_countByLength 63 = .ok (.iconst 1, 1) := by decide +kernel
theorem dX9_countByLength_64 : decode cX9_countByLength 64 = .ok (.iadd, 1) := by decide +kernel
theorem dX9_countByLength_65 : decode cX9_countByLength 65 = .ok (.iload_n 1, 1) := by decide +kernel
theorem dX9_countByLength_66 : decode cX9_countByLength 66 = .ok (.iconst 1, 1) := by decide +kernel
theorem dX9_countByLength_67 : decode cX9_countByLength 67 = .ok (.iadd, 1) := by decide +kernel
theorem dX9_countByLength_68 : decode cX9_countByLength 68 = .ok (.imul, 1) := by decide +kernel
theorem dX9_countByLength_69 : decode cX9_countByLength 69 = .ok (.if_icmp .ge 57, 3) := by decide +kernel
theorem dX9_countByLength_72 : decode cX9_countByLength 72 = .ok (.iload 5, 2) := by decide +kernel
theorem dX9_countByLength_74 : decode cX9_countByLength 74 = .ok (.iload_n 1, 1) := by decide +kernel
theorem dX9_countByLength_75 : decode cX9_countByLength 75 = .ok (.iconst 1, 1) := by decide +kernel
theorem dX9_countByLength_76 : decode cX9_countByLength 76 = .ok (.iadd, 1) := by decide +kernel
theorem dX9_countByLength_77 : decode cX9_countByLength 77 = .ok (.idiv, 1) := by decide +kernel
theorem dX9_countByLength_78 : decode cX9_countByLength 78 = .ok (.istore 6, 2) := by decide +kernel
theorem dX9_countByLength_80 : decode cX9_countByLength 80 = .ok (.iload 5, 2) := by decide +kernel
theorem dX9_countByLength_82 : decode cX9_countByLength 82 = .ok (.iload_n 1, 1) := by decide +kernel
theorem dX9_countByLength_83 : decode cX9_countByLength 83 = .ok (.iconst 1, 1) := by decide +kernel
theorem dX9_countByLength_84 : decode cX9_countByLength 84 = .ok (.iadd, 1) := by decide +kernel
theorem dX9_countByLength_85 : decode cX9_countByLength 85 = .ok (.irem, 1) := by decide +kernel
theorem dX9_countByLength_86 : decode cX9_countByLength 86 = .ok (.istore 7, 2) := by decide +kernel
theorem dX9_countByLength_88 : decode cX9_countByLength 88 = .ok (.lload_n 3, 1) := by decide +kernel
theorem dX9_countByLength_89 : decode cX9_countByLength 89 = .ok (.iload 6, 2) := by decide +kernel
theorem dX9_countByLength_91 : decode cX9_countByLength 91 = .ok (.iload 7, 2) := by decide +kernel
theorem dX9_countByLength_93 : decode cX9_countByLength 93 = .ok (.iadd, 1) := by decide +kernel
theorem dX9_countByLength_94 : decode cX9_countByLength 94 = .ok (.iload_n 1, 1) := by decide +kernel
theorem dX9_countByLength_95 : decode cX9_countByLength 95 = .ok (.if_icmp .gt 22, 3) := by decide +kernel
theorem dX9_countByLength_98 : decode cX9_countByLength 98 = .ok (.aload_n 0, 1) := by decide +kernel
theorem dX9_countByLength_99 : decode cX9_countByLength 99 = .ok (.iload_n 2, 1) := by decide +kernel
theorem dX9_countByLength_100 : decode cX9_countByLength 100 = .ok (.iload 6, 2) := by decide +kernel
theorem dX9_countByLength_102 : decode cX9_countByLength 102 = .ok (.iload 7, 2) := by decide +kernel
theorem dX9_countByLength_104 : decode cX9_countByLength 104 = .ok (.iload_n 1, 1) := by decide +kernel
theorem dX9_countByLength_105 : decode cX9_countByLength 105 = .ok (.iload 6, 2) := by decide +kernel
theorem dX9_countByLength_107 : decode cX9_countByLength 107 = .ok (.isub, 1) := by decide +kernel
theorem dX9_countByLength_108 : decode cX9_countByLength 108 = .ok (.iload 7, 2) := by decide +kernel
theorem dX9_countByLength_110 : decode cX9_countByLength 110 = .ok (.isub, 1) := by decide +kernel
theorem dX9_countByLength_111 : decode cX9_countByLength 111 = .ok (.invokevirtual 120, 3) := by decide +kernel
theorem dX9_countByLength_114 : decode cX9_countByLength 114 = .ok (.goto 4, 3) := by decide +kernel
theorem dX9_countByLength_117 : decode cX9_countByLength 117 = .ok (.lconst 0, 1) := by decide +kernel
theorem dX9_countByLength_118 : decode cX9_countByLength 118 = .ok (.ladd, 1) := by decide +kernel
theorem dX9_countByLength_119 : decode cX9_countByLength 119 = .ok (.lstore_n 3, 1) := by decide +kernel
theorem dX9_countByLength_120 : decode cX9_countByLength 120 = .ok (.iinc 5 1, 3) := by decide +kernel
theorem dX9_countByLength_123 : decode cX9_countByLength 123 = .ok (.goto (-63), 3) := by decide +kernel
theorem dX9_countByLength_126 : decode cX9_countByLength 126 = .ok (.aload_n 0, 1) := by decide +kernel
theorem dX9_countByLength_127 : decode cX9_countByLength 127 = .ok (.getfield 34, 3) := by decide +kernel
theorem dX9_countByLength_130 : decode cX9_countByLength 130 = .ok (.aload_n 0, 1) := by decide +kernel
theorem dX9_countByLength_131 : decode cX9_countByLength 131 = .ok (.getfield 18, 3) := by decide +kernel
theorem dX9_countByLength_134 : decode cX9_countByLength 134 = .ok (.iload_n 2, 1) := by decide +kernel
theorem dX9_countByLength_135 : decode cX9_countByLength 135 = .ok (.aaload, 1) := by decide +kernel
theorem dX9_countByLength_136 : decode cX9_countByLength 136 = .ok (.iconst 0, 1) := by decide +kernel
theorem dX9_countByLength_137 : decode cX9_countByLength 137 = .ok (.iaload, 1) := by decide +kernel
theorem dX9_countByLength_138 : decode cX9_countByLength 138 = .ok (.aaload, 1) := by decide +kernel
theorem dX9_countByLength_139 : decode cX9_countByLength 139 = .ok (.iload_n 1, 1) := by decide +kernel
theorem dX9_countByLength_140 : decode cX9_countByLength 140 = .ok (.dup2, 1) := by decide +kernel
theorem dX9_countByLength_141 : decode cX9_countByLength 141 = .ok (.laload, 1) := by decide +kernel
theorem dX9_countByLength_142 : decode cX9_countByLength 142 = .ok (.lload_n 3, 1) := by decide +kernel
theorem dX9_countByLength_143 : decode cX9_countByLength 143 = .ok (.ladd, 1) := by decide +kernel
theorem dX9_countByLength_144 : decode cX9_countByLength 144 = .ok (.lastore, 1) := by decide +kernel
theorem dX9_countByLength_145 : decode cX9_countByLength 145 = .ok (.iinc 2 1, 3) := by decide +kernel
theorem dX9_countByLength_148 : decode cX9_countByLength 148 = .ok (.goto (-101), 3) := by decide +kernel
theorem dX9_countByLength_151 : decode cX9_countByLength 151 = .ok (.iinc 1 1, 3) := by decide +kernel
theorem dX9_countByLength_154 : decode cX9_countByLength 154 = .ok (.goto (-115), 3) := by decide +kernel
theorem dX9_countByLength_157 : decode cX9_countByLength 157 = .ok (.return_, 1) := by decide +kernel
theorem dX9_treesWith_0 : decode cX9_treesWith 0 = .ok (.aload_n 0, 1) := by decide +kernel
theorem dX9_treesWith_1 : decode cX9_treesWith 1 = .ok (.aload_n 0, 1) := by decide +kernel
theorem dX9_treesWith_2 : decode cX9_treesWith 2 = .ok (.getfield 18, 3) := by decide +kernel
theorem dX9_treesWith_5 : decode cX9_treesWith 5 = .ok (.iload_n 1, 1) := by decide +kernel
theorem dX9_treesWith_6 : decode cX9_treesWith 6 = .ok (.aaload, 1) := by decide +kernel
theorem dX9_treesWith_7 : decode cX9_treesWith 7 = .ok (.iconst 1, 1) := by decide +kernel
theorem dX9_treesWith_8 : decode cX9_treesWith 8 = .ok (.iaload, 1) := by decide +kernel
theorem dX9_treesWith_9 : decode cX9_treesWith 9 = .ok (.iload_n 2, 1) := by decide +kernel
theorem dX9_treesWith_10 : decode cX9_treesWith 10 = .ok (.invokevirtual 124, 3) := by decide +kernel
theorem dX9_treesWith_13 : decode cX9_treesWith 13 = .ok (.lstore 5, 2) := by decide +kernel
theorem dX9_treesWith_15 : decode cX9_treesWith 15 = .ok (.lload 5, 2) := by decide +kernel
theorem dX9_treesWith_17 : decode cX9_treesWith 17 = .ok (.lconst 0, 1) := by decide +kernel
theorem dX9_treesWith_18 : decode cX9_treesWith 18 = .ok (.lcmp, 1) := by decide +kernel
theorem dX9_treesWith_19 : decode cX9_treesWith 19 = .ok (.ifCond .ne 7, 3) := by decide +kernel
theorem dX9_treesWith_22 : decode cX9_treesWith 22 = .ok (.lconst 0, 1) := by decide +kernel
theorem dX9_treesWith_23 : decode cX9_treesWith 23 = .ok (.goto 19, 3) := by decide +kernel
theorem dX9_treesWith_26 : decode cX9_treesWith 26 = .ok (.lload 5, 2) := by decide +kernel
theorem dX9_treesWith_28 : decode cX9_treesWith 28 = .ok (.aload_n 0, 1) := by decide +kernel
theorem dX9_treesWith_29 : decode cX9_treesWith 29 = .ok (.aload_n 0, 1) := by decide +kernel
theorem dX9_treesWith_30 : decode cX9_treesWith 30 = .ok (.getfield 18, 3) := by decide +kernel
theorem dX9_treesWith_33 : decode cX9_treesWith 33 = .ok (.iload_n 1, 1) := by decide +kernel
theorem dX9_treesWith_34 : decode cX9_treesWith 34 = .ok (.aaload, 1) := by decide +kernel
theorem dX9_treesWith_35 : decode cX9_treesWith 35 = .ok (.iconst 2, 1) := by decide +kernel
theorem dX9_treesWith_36 : decode cX9_treesWith 36 = .ok (.iaload, 1) := by decide +kernel
theorem dX9_treesWith_37 : decode cX9_treesWith 37 = .ok (.iload_n 3, 1) := by decide +kernel
theorem dX9_treesWith_38 : decode cX9_treesWith 38 = .ok (.invokevirtual 124, 3) := by decide +kernel
theorem dX9_treesWith_41 : decode cX9_treesWith 41 = .ok (.lmul, 1) := by decide +kernel
theorem dX9_treesWith_42 : decode cX9_treesWith 42 = .ok (.lstore 5, 2) := by decide +kernel
theorem dX9_treesWith_44 : decode cX9_treesWith 44 = .ok (.lload 5, 2) := by decide +kernel
theorem dX9_treesWith_46 : decode cX9_treesWith 46 = .ok (.lconst 0, 1) := by decide +kernel
theorem dX9_treesWith_47 : decode cX9_treesWith 47 = .ok (.lcmp, 1) := by decide +kernel
theorem dX9_treesWith_48 : decode cX9_treesWith 48 = .ok (.ifCond .ne 7, 3) := by decide +kernel
theorem dX9_treesWith_51 : decode cX9_treesWith 51 = .ok (.lconst 0, 1) := by decide +kernel
theorem dX9_treesWith_52 : decode cX9_treesWith 52 = .ok (.goto 20, 3) := by decide +kernel
theorem dX9_treesWith_55 : decode cX9_treesWith 55 = .ok (.lload 5, 2) := by decide +kernel
theorem dX9_treesWith_57 : decode cX9_treesWith 57 = .ok (.aload_n 0, 1) := by decide +kernel
theorem dX9_treesWith_58 : decode cX9_treesWith 58 = .ok (.aload_n 0, 1) := by decide +kernel
theorem dX9_treesWith_59 : decode cX9_treesWith 59 = .ok (.getfield 18, 3) := by decide +kernel
theorem dX9_treesWith_62 : decode cX9_treesWith 62 = .ok (.iload_n 1, 1) := by decide +kernel
theorem dX9_treesWith_63 : decode cX9_treesWith 63 = .ok (.aaload, 1) := by decide +kernel
theorem dX9_treesWith_64 : decode cX9_treesWith 64 = .ok (.iconst 3, 1) := by decide +kernel
theorem dX9_treesWith_65 : decode cX9_treesWith 65 = .ok (.iaload, 1) := by decide +kernel
theorem dX9_treesWith_66 : decode cX9_treesWith 66 = .ok (.iload 4, 2) := by decide +kernel
theorem dX9_treesWith_68 : decode cX9_treesWith 68 = .ok (.invokevirtual 124, 3) := by decide +kernel
theorem dX9_treesWith_71 : decode cX9_treesWith 71 = .ok (.lmul, 1) := by decide +kernel
theorem dX9_treesWith_72 : decode cX9_treesWith 72 = .ok (.lreturn, 1) := by decide +kernel
theorem dX9_treesOfLength_0 : decode cX9_treesOfLength 0 = .ok (.aload_n 0, 1) := by decide +kernel
theorem dX9_treesOfLength_1 : decode cX9_treesOfLength 1 = .ok (.iconst 1, 1) := by decide +kernel
theorem dX9_treesOfLength_2 : decode cX9_treesOfLength 2 = .ok (.iload_n 1, 1) := by decide +kernel
theorem dX9_treesOfLength_3 : decode cX9_treesOfLength 3 = .ok (.iconst 1, 1) := by decide +kernel
theorem dX9_treesOfLength_4 : decode cX9_treesOfLength 4 = .ok (.bipush 10, 2) := by decide +kernel
theorem dX9_treesOfLength_6 : decode cX9_treesOfLength 6 = .ok (.invokestatic 72, 3) := by decide +kernel
theorem dX9_treesOfLength_9 : decode cX9_treesOfLength 9 = .ok (.ifCond .ne 7, 3) := by decide +kernel
theorem dX9_treesOfLength_12 : decode cX9_treesOfLength 12 = .ok (.iconst 1, 1) := by decide +kernel
theorem dX9_treesOfLength_13 : decode cX9_treesOfLength 13 = .ok (.goto 4, 3) := by decide +kernel
theorem dX9_treesOfLength_16 : decode cX9_treesOfLength 16 = .ok (.iconst 0, 1) := by decide +kernel
theorem dX9_treesOfLength_17 : decode cX9_treesOfLength 17 = .ok (.invokevirtual 79, 3) := by decide +kernel
theorem dX9_treesOfLength_20 : decode cX9_treesOfLength 20 = .ok (.ifCond .eq 5, 3) := by decide +kernel
theorem dX9_treesOfLength_23 : decode cX9_treesOfLength 23 = .ok (.lconst 0, 1) := by decide +kernel
theorem dX9_treesOfLength_24 : decode cX9_treesOfLength 24 = .ok (.lreturn, 1) := by decide +kernel
theorem dX9_treesOfLength_25 : decode cX9_treesOfLength 25 = .ok (.aload_n 0, 1) := by decide +kernel
theorem dX9_treesOfLength_26 : decode cX9_treesOfLength 26 = .ok (.invokevirtual 128, 3) := by decide +kernel
theorem dX9_treesOfLength_29 : decode cX9_treesOfLength 29 = .ok (.aload_n 0, 1) := by decide +kernel
theorem dX9_treesOfLength_30 : decode cX9_treesOfLength 30 = .ok (.getfield 34, 3) := by decide +kernel
theorem dX9_treesOfLength_33 : decode cX9_treesOfLength 33 = .ok (.aload_n 0, 1) := by decide +kernel
theorem dX9_treesOfLength_34 : decode cX9_treesOfLength 34 = .ok (.getfield 83, 3) := by decide +kernel
theorem dX9_treesOfLength_37 : decode cX9_treesOfLength 37 = .ok (.aaload, 1) := by decide +kernel
theorem dX9_treesOfLength_38 : decode cX9_treesOfLength 38 = .ok (.iload_n 1, 1) := by decide +kernel
theorem dX9_treesOfLength_39 : decode cX9_treesOfLength 39 = .ok (.laload, 1) := by decide +kernel
theorem dX9_treesOfLength_40 : decode cX9_treesOfLength 40 = .ok (.lreturn, 1) := by decide +kernel
theorem dX9_treesOfPart_0 : decode cX9_treesOfPart 0 = .ok (.iload_n 1, 1) := by decide +kernel
theorem dX9_treesOfPart_1 : decode cX9_treesOfPart 1 = .ok (.ifCond .ge 13, 3) := by decide +kernel
theorem dX9_treesOfPart_4 : decode cX9_treesOfPart 4 = .ok (.iload_n 3, 1) := by decide +kernel
theorem dX9_treesOfPart_5 : decode cX9_treesOfPart 5 = .ok (.ifCond .ne 7, 3) := by decide +kernel
theorem dX9_treesOfPart_8 : decode cX9_treesOfPart 8 = .ok (.lconst 1, 1) := by decide +kernel
theorem dX9_treesOfPart_9 : decode cX9_treesOfPart 9 = .ok (.goto 4, 3) := by decide +kernel
theorem dX9_treesOfPart_12 : decode cX9_treesOfPart 12 = .ok (.lconst 0, 1) := by decide +kernel
theorem dX9_treesOfPart_13 : decode cX9_treesOfPart 13 = .ok (.lreturn, 1) := by decide +kernel
theorem dX9_treesOfPart_14 : decode cX9_treesOfPart 14 = .ok (.iload_n 1, 1) := by decide +kernel
theorem dX9_treesOfPart_15 : decode cX9_treesOfPart 15 = .ok (.bipush 10, 2) := by decide +kernel
theorem dX9_treesOfPart_17 : decode cX9_treesOfPart 17 = .ok (.if_icmp .lt 27, 3) := by decide +kernel
theorem dX9_treesOfPart_20 : decode cX9_treesOfPart 20 = .ok (.iload_n 3, 1) := by decide +kernel
theorem dX9_treesOfPart_21 : decode cX9_treesOfPart 21 = .ok (.iconst 1, 1) := by decide +kernel
theorem dX9_treesOfPart_22 : decode cX9_treesOfPart 22 = .ok (.if_icmp .ne 20, 3) := by decide +kernel
theorem dX9_treesOfPart_25 : decode cX9_treesOfPart 25 = .ok (.aload_n 0, 1) := by decide +kernel
theorem dX9_treesOfPart_26 : decode cX9_treesOfPart 26 = .ok (.getfield 37, 3) := by decide +kernel
theorem dX9_treesOfPart_29 : decode cX9_treesOfPart 29 = .ok (.iload_n 2, 1) := by decide +kernel
theorem dX9_treesOfPart_30 : decode cX9_treesOfPart 30 = .ok (.iaload, 1) := by decide +kernel
theorem dX9_treesOfPart_31 : decode cX9_treesOfPart 31 = .ok (.iload_n 1, 1) := by decide +kernel
theorem dX9_treesOfPart_32 : decode cX9_treesOfPart 32 = .ok (.bipush 10, 2) := by decide +kernel
theorem dX9_treesOfPart_34 : decode cX9_treesOfPart 34 = .ok (.isub, 1) := by decide +kernel
theorem dX9_treesOfPart_35 : decode cX9_treesOfPart 35 = .ok (.if_icmp .ne 7, 3) := by decide +kernel
theorem dX9_treesOfPart_38 : decode cX9_treesOfPart 38 = .ok (.lconst 1, 1) := by decide +kernel
theorem dX9_treesOfPart_39 : decode cX9_treesOfPart 39 = .ok (.goto 4, 3) := by decide +kernel
theorem dX9_treesOfPart_42 : decode cX9_treesOfPart 42 = .ok (.lconst 0, 1) := by decide +kernel
theorem dX9_treesOfPart_43 : decode cX9_treesOfPart 43 = .ok (.lreturn, 1) := by decide +kernel
theorem dX9_treesOfPart_44 : decode cX9_treesOfPart 44 = .ok (.iload_n 3, 1) := by decide +kernel
theorem dX9_treesOfPart_45 : decode cX9_treesOfPart 45 = .ok (.ifCond .le 16, 3) := by decide +kernel
theorem dX9_treesOfPart_48 : decode cX9_treesOfPart 48 = .ok (.aload_n 0, 1) := by decide +kernel
theorem dX9_treesOfPart_49 : decode cX9_treesOfPart 49 = .ok (.getfield 42, 3) := by decide +kernel
theorem dX9_treesOfPart_52 : decode cX9_treesOfPart 52 = .ok (.iload_n 1, 1) := by decide +kernel
theorem dX9_treesOfPart_53 : decode cX9_treesOfPart 53 = .ok (.aaload, 1) := by decide +kernel
theorem dX9_treesOfPart_54 : decode cX9_treesOfPart 54 = .ok (.iload_n 2, 1) := by decide +kernel
theorem dX9_treesOfPart_55 : decode cX9_treesOfPart 55 = .ok (.aaload, 1) := by decide +kernel
theorem dX9_treesOfPart_56 : decode cX9_treesOfPart 56 = .ok (.iload_n 3, 1) := by decide +kernel
theorem dX9_treesOfPart_57 : decode cX9_treesOfPart 57 = .ok (.laload, 1) := by decide +kernel
theorem dX9_treesOfPart_58 : decode cX9_treesOfPart 58 = .ok (.goto 4, 3) := by decide +kernel
theorem dX9_treesOfPart_61 : decode cX9_treesOfPart 61 = .ok (.lconst 0, 1) := by decide +kernel
theorem dX9_treesOfPart_62 : decode cX9_treesOfPart 62 = .ok (.lreturn, 1) := by decide +kernel
theorem dX9_treesFrom_0 : decode cX9_treesFrom 0 = .ok (.aload_n 0, 1) := by decide +kernel
theorem dX9_treesFrom_1 : decode cX9_treesFrom 1 = .ok (.aload_n 0, 1) := by decide +kernel
theorem dX9_treesFrom_2 : decode cX9_treesFrom 2 = .ok (.getfield 18, 3) := by decide +kernel
theorem dX9_treesFrom_5 : decode cX9_treesFrom 5 = .ok (.iload_n 1, 1) := by decide +kernel
theorem dX9_treesFrom_6 : decode cX9_treesFrom 6 = .ok (.aaload, 1) := by decide +kernel
theorem dX9_treesFrom_7 : decode cX9_treesFrom 7 = .ok (.iconst 1, 1) := by decide +kernel
theorem dX9_treesFrom_8 : decode cX9_treesFrom 8 = .ok (.iaload, 1) := by decide +kernel
theorem dX9_treesFrom_9 : decode cX9_treesFrom 9 = .ok (.iload_n 2, 1) := by decide +kernel
theorem dX9_treesFrom_10 : decode cX9_treesFrom 10 = .ok (.iload_n 3, 1) := by decide +kernel
theorem dX9_treesFrom_11 : decode cX9_treesFrom 11 = .ok (.invokevirtual 131, 3) := by decide +kernel
theorem dX9_treesFrom_14 : decode cX9_treesFrom 14 = .ok (.lstore 6, 2) := by decide +kernel
theorem dX9_treesFrom_16 : decode cX9_treesFrom 16 = .ok (.lload 6, 2) := by decide +kernel
theorem dX9_treesFrom_18 : decode cX9_treesFrom 18 = .ok (.lconst 0, 1) := by decide +kernel
theorem dX9_treesFrom_19 : decode cX9_treesFrom 19 = .ok (.lcmp, 1) := by decide +kernel
theorem dX9_treesFrom_20 : decode cX9_treesFrom 20 = .ok (.ifCond .ne 7, 3) := by decide +kernel
theorem dX9_treesFrom_23 : decode cX9_treesFrom 23 = .ok (.lconst 0, 1) := by decide +kernel
theorem dX9_treesFrom_24 : decode cX9_treesFrom 24 = .ok (.goto 23, 3) := by decide +kernel
theorem dX9_treesFrom_27 : decode cX9_treesFrom 27 = .ok (.lload 6, 2) := by decide +kernel
theorem dX9_treesFrom_29 : decode cX9_treesFrom 29 = .ok (.aload_n 0, 1) := by decide +kernel
theorem dX9_treesFrom_30 : decode cX9_treesFrom 30 = .ok (.aload_n 0, 1) := by decide +kernel
theorem dX9_treesFrom_31 : decode cX9_treesFrom 31 = .ok (.getfield 18, 3) := by decide +kernel
theorem dX9_treesFrom_34 : decode cX9_treesFrom 34 = .ok (.iload_n 1, 1) := by decide +kernel
theorem dX9_treesFrom_35 : decode cX9_treesFrom 35 = .ok (.aaload, 1) := by decide +kernel
theorem dX9_treesFrom_36 : decode cX9_treesFrom 36 = .ok (.iconst 2, 1) := by decide +kernel
theorem dX9_treesFrom_37 : decode cX9_treesFrom 37 = .ok (.iaload, 1) := by decide +kernel
theorem dX9_treesFrom_38 : decode cX9_treesFrom 38 = .ok (.iload_n 2, 1) := by decide +kernel
theorem dX9_treesFrom_39 : decode cX9_treesFrom 39 = .ok (.iload_n 3, 1) := by decide +kernel
theorem dX9_treesFrom_40 : decode cX9_treesFrom 40 = .ok (.iadd, 1) := by decide +kernel
theorem dX9_treesFrom_41 : decode cX9_treesFrom 41 = .ok (.iload 4, 2) := by decide +kernel
theorem dX9_treesFrom_43 : decode cX9_treesFrom 43 = .ok (.invokevirtual 131, 3) := by decide +kernel
theorem dX9_treesFrom_46 : decode cX9_treesFrom 46 = .ok (.lmul, 1) := by decide +kernel
theorem dX9_treesFrom_47 : decode cX9_treesFrom 47 = .ok (.lstore 6, 2) := by decide +kernel
theorem dX9_treesFrom_49 : decode cX9_treesFrom 49 = .ok (.lload 6, 2) := by decide +kernel
theorem dX9_treesFrom_51 : decode cX9_treesFrom 51 = .ok (.lconst 0, 1) := by decide +kernel
theorem dX9_treesFrom_52 : decode cX9_treesFrom 52 = .ok (.lcmp, 1) := by decide +kernel
theorem dX9_treesFrom_53 : decode cX9_treesFrom 53 = .ok (.ifCond .ne 7, 3) := by decide +kernel
theorem dX9_treesFrom_56 : decode cX9_treesFrom 56 = .ok (.lconst 0, 1) := by decide +kernel
theorem dX9_treesFrom_57 : decode cX9_treesFrom 57 = .ok (.goto 26, 3) := by decide +kernel
theorem dX9_treesFrom_60 : decode cX9_treesFrom 60 = .ok (.lload 6, 2) := by decide +kernel
theorem dX9_treesFrom_62 : decode cX9_treesFrom 62 = .ok (.aload_n 0, 1) := by decide +kernel
theorem dX9_treesFrom_63 : decode cX9_treesFrom 63 = .ok (.aload_n 0, 1) := by decide +kernel
theorem dX9_treesFrom_64 : decode cX9_treesFrom 64 = .ok (.getfield 18, 3) := by decide +kernel
theorem dX9_treesFrom_67 : decode cX9_treesFrom 67 = .ok (.iload_n 1, 1) := by decide +kernel
theorem dX9_treesFrom_68 : decode cX9_treesFrom 68 = .ok (.aaload, 1) := by decide +kernel
theorem dX9_treesFrom_69 : decode cX9_treesFrom 69 = .ok (.iconst 3, 1) := by decide +kernel
theorem dX9_treesFrom_70 : decode cX9_treesFrom 70 = .ok (.iaload, 1) := by decide +kernel
theorem dX9_treesFrom_71 : decode cX9_treesFrom 71 = .ok (.iload_n 2, 1) := by decide +kernel
theorem dX9_treesFrom_72 : decode cX9_treesFrom 72 = .ok (.iload_n 3, 1) := by decide +kernel
theorem dX9_treesFrom_73 : decode cX9_treesFrom 73 = .ok (.iadd, 1) := by decide +kernel
theorem dX9_treesFrom_74 : decode cX9_treesFrom 74 = .ok (.iload 4, 2) := by decide +kernel
theorem dX9_treesFrom_76 : decode cX9_treesFrom 76 = .ok (.iadd, 1) := by decide +kernel
theorem dX9_treesFrom_77 : decode cX9_treesFrom 77 = .ok (.iload 5, 2) := by decide +kernel
theorem dX9_treesFrom_79 : decode cX9_treesFrom 79 = .ok (.invokevirtual 131, 3) := by decide +kernel
theorem dX9_treesFrom_82 : decode cX9_treesFrom 82 = .ok (.lmul, 1) := by decide +kernel
theorem dX9_treesFrom_83 : decode cX9_treesFrom 83 = .ok (.lreturn, 1) := by decide +kernel
theorem dX9_treesOfProduction_0 : decode cX9_treesOfProduction 0 = .ok (.lconst 0, 1) := by decide +kernel
theorem dX9_treesOfProduction_1 : decode cX9_treesOfProduction 1 = .ok (.lstore 4, 2) := by decide +kernel
theorem dX9_treesOfProduction_3 : decode cX9_treesOfProduction 3 = .ok (.iconst 0, 1) := by decide +kernel
theorem dX9_treesOfProduction_4 : decode cX9_treesOfProduction 4 = .ok (.istore 6, 2) := by decide +kernel
theorem dX9_treesOfProduction_6 : decode cX9_treesOfProduction 6 = .ok (.iload 6, 2) := by decide +kernel
theorem dX9_treesOfProduction_8 : decode cX9_treesOfProduction 8 = .ok (.iload_n 3, 1) := by decide +kernel
theorem dX9_treesOfProduction_9 : decode cX9_treesOfProduction 9 = .ok (.iconst 1, 1) := by decide +kernel
theorem dX9_treesOfProduction_10 : decode cX9_treesOfProduction 10 = .ok (.iadd, 1) := by decide +kernel
theorem dX9_treesOfProduction_11 : decode cX9_treesOfProduction 11 = .ok (.iload_n 3, 1) := by decide +kernel
theorem dX9_treesOfProduction_12 : decode cX9_treesOfProduction 12 = .ok (.iconst 1, 1) := by decide +kernel
theorem dX9_treesOfProduction_13 : decode cX9_treesOfProduction 13 = .ok (.iadd, 1) := by decide +kernel
theorem dX9_treesOfProduction_14 : decode cX9_treesOfProduction 14 = .ok (.imul, 1) := by decide +kernel
theorem dX9_treesOfProduction_15 : decode cX9_treesOfProduction 15 = .ok (.if_icmp .ge 60, 3) := by decide +kernel
theorem dX9_treesOfProduction_18 : decode cX9_treesOfProduction 18 = .ok (.iload 6, 2) := by decide +kernel
theorem dX9_treesOfProduction_20 : decode cX9_treesOfProduction 20 = .ok (.iload_n 3, 1) := by decide +kernel
theorem dX9_treesOfProduction_21 : decode cX9_treesOfProduction 21 = .ok (.iconst 1, 1) := by decide +kernel
theorem dX9_treesOfProduction_22 : decode cX9_treesOfProduction 22 = .ok (.iadd, 1) := by decide +kernel
theorem dX9_treesOfProduction_23 : decode cX9_treesOfProduction 23 = .ok (.idiv, 1) := by decide +kernel
theorem dX9_treesOfProduction_24 : decode cX9_treesOfProduction 24 = .ok (.istore 7, 2) := by decide +kernel
theorem dX9_treesOfProduction_26 : decode cX9_treesOfProduction 26 = .ok (.iload 6, 2) := by decide +kernel
theorem dX9_treesOfProduction_28 : decode cX9_treesOfProduction 28 = .ok (.iload_n 3, 1) := by decide +kernel
theorem dX9_treesOfProduction_29 : decode cX9_treesOfProduction 29 = .ok (.iconst 1, 1) := by decide +kernel
theorem dX9_treesOfProduction_30 : decode cX9_treesOfProduction 30 = .ok (.iadd, 1) := by decide +kernel
theorem dX9_treesOfProduction_31 : decode cX9_treesOfProduction 31 = .ok (.irem, 1) := by decide +kernel
theorem dX9_treesOfProduction_32 : decode cX9_treesOfProduction 32 = .ok (.istore 8, 2) := by decide +kernel
theorem dX9_treesOfProduction_34 : decode cX9_treesOfProduction 34 = .ok (.lload 4, 2) := by decide +kernel
theorem dX9_treesOfProduction_36 : decode cX9_treesOfProduction 36 = .ok (.iload 7, 2) := by decide +kernel
theorem dX9_treesOfProduction_38 : decode cX9_treesOfProduction 38 = .ok (.iload 8, 2) := by decide +kernel
theorem dX9_treesOfProduction_40 : decode cX9_treesOfProduction 40 = .ok (.iadd, 1) := by decide +kernel
theorem dX9_treesOfProduction_41 : decode cX9_treesOfProduction 41 = .ok (.iload_n 3, 1) := by decide +kernel
theorem dX9_treesOfProduction_42 : decode cX9_treesOfProduction 42 = .ok (.if_icmp .gt 23, 3) := by decide +kernel
theorem dX9_treesOfProduction_45 : decode cX9_treesOfProduction 45 = .ok (.aload_n 0, 1) := by decide +kernel
theorem dX9_treesOfProduction_46 : decode cX9_treesOfProduction 46 = .ok (.iload_n 1, 1) := by decide +kernel
theorem dX9_treesOfProduction_47 : decode cX9_treesOfProduction 47 = .ok (.iload_n 2, 1) := by decide +kernel
theorem dX9_treesOfProduction_48 : decode cX9_treesOfProduction 48 = .ok (.iload 7, 2) := by decide +kernel
theorem dX9_treesOfProduction_50 : decode cX9_treesOfProduction 50 = .ok (.iload 8, 2) := by decide +kernel
theorem dX9_treesOfProduction_52 : decode cX9_treesOfProduction 52 = .ok (.iload_n 3, 1) := by decide +kernel
theorem dX9_treesOfProduction_53 : decode cX9_treesOfProduction 53 = .ok (.iload 7, 2) := by decide +kernel
theorem dX9_treesOfProduction_55 : decode cX9_treesOfProduction 55 = .ok (.isub, 1) := by decide +kernel
theorem dX9_treesOfProduction_56 : decode cX9_treesOfProduction 56 = .ok (.iload 8, 2) := by decide +kernel
theorem dX9_treesOfProduction_58 : decode cX9_treesOfProduction 58 = .ok (.isub, 1) := by decide +kernel
theorem dX9_treesOfProduction_59 : decode cX9_treesOfProduction 59 = .ok (.invokevirtual 135, 3) := by decide +kernel
theorem dX9_treesOfProduction_62 : decode cX9_treesOfProduction 62 = .ok (.goto 4, 3) := by decide +kernel
theorem dX9_treesOfProduction_65 : decode cX9_treesOfProduction 65 = .ok (.lconst 0, 1) := by decide +kernel
theorem dX9_treesOfProduction_66 : decode cX9_treesOfProduction 66 = .ok (.ladd, 1) := by decide +kernel
theorem dX9_treesOfProduction_67 : decode cX9_treesOfProduction 67 = .ok (.lstore 4, 2) := by decide +kernel
theorem dX9_treesOfProduction_69 : decode cX9_treesOfProduction 69 = .ok (.iinc 6 1, 3) := by decide +kernel
theorem dX9_treesOfProduction_72 : decode cX9_treesOfProduction 72 = .ok (.goto (-66), 3) := by decide +kernel
theorem dX9_treesOfProduction_75 : decode cX9_treesOfProduction 75 = .ok (.lload 4, 2) := by decide +kernel
theorem dX9_treesOfProduction_77 : decode cX9_treesOfProduction 77 = .ok (.lreturn, 1) := by decide +kernel
theorem dX9_countByPart_0 : decode cX9_countByPart 0 = .ok (.iconst 1, 1) := by decide +kernel
theorem dX9_countByPart_1 : decode cX9_countByPart 1 = .ok (.istore_n 2, 1) := by decide +kernel
theorem dX9_countByPart_2 : decode cX9_countByPart 2 = .ok (.iload_n 2, 1) := by decide +kernel
theorem dX9_countByPart_3 : decode cX9_countByPart 3 = .ok (.iload_n 1, 1) := by decide +kernel
theorem dX9_countByPart_4 : decode cX9_countByPart 4 = .ok (.if_icmp .gt 99, 3) := by decide +kernel
theorem dX9_countByPart_7 : decode cX9_countByPart 7 = .ok (.iconst 0, 1) := by decide +kernel
theorem dX9_countByPart_8 : decode cX9_countByPart 8 = .ok (.istore_n 3, 1) := by decide +kernel
theorem dX9_countByPart_9 : decode cX9_countByPart 9 = .ok (.iload_n 3, 1) := by decide +kernel
theorem dX9_countByPart_10 : decode cX9_countByPart 10 = .ok (.iload_n 2, 1) := by decide +kernel
theorem dX9_countByPart_11 : decode cX9_countByPart 11 = .ok (.iadd, 1) := by decide +kernel
theorem dX9_countByPart_12 : decode cX9_countByPart 12 = .ok (.iload_n 1, 1) := by decide +kernel
theorem dX9_countByPart_13 : decode cX9_countByPart 13 = .ok (.if_icmp .gt 84, 3) := by decide +kernel
theorem dX9_countByPart_16 : decode cX9_countByPart 16 = .ok (.iconst 0, 1) := by decide +kernel
theorem dX9_countByPart_17 : decode cX9_countByPart 17 = .ok (.istore 4, 2) := by decide +kernel
theorem dX9_countByPart_19 : decode cX9_countByPart 19 = .ok (.iload 4, 2) := by decide +kernel
theorem dX9_countByPart_21 : decode cX9_countByPart 21 = .ok (.bipush 6, 2) := by decide +kernel
theorem dX9_countByPart_23 : decode cX9_countByPart 23 = .ok (.if_icmp .ge 21, 3) := by decide +kernel
theorem dX9_countByPart_26 : decode cX9_countByPart 26 = .ok (.aload_n 0, 1) := by decide +kernel
theorem dX9_countByPart_27 : decode cX9_countByPart 27 = .ok (.getfield 42, 3) := by decide +kernel
theorem dX9_countByPart_30 : decode cX9_countByPart 30 = .ok (.iload 4, 2) := by decide +kernel
theorem dX9_countByPart_32 : decode cX9_countByPart 32 = .ok (.aaload, 1) := by decide +kernel
theorem dX9_countByPart_33 : decode cX9_countByPart 33 = .ok (.iload_n 3, 1) := by decide +kernel
theorem dX9_countByPart_34 : decode cX9_countByPart 34 = .ok (.aaload, 1) := by decide +kernel
theorem dX9_countByPart_35 : decode cX9_countByPart 35 = .ok (.iload_n 2, 1) := by decide +kernel
theorem dX9_countByPart_36 : decode cX9_countByPart 36 = .ok (.lconst 0, 1) := by decide +kernel
theorem dX9_countByPart_37 : decode cX9_countByPart 37 = .ok (.lastore, 1) := by decide +kernel
theorem dX9_countByPart_38 : decode cX9_countByPart 38 = .ok (.iinc 4 1, 3) := by decide +kernel
theorem dX9_countByPart_41 : decode cX9_countByPart 41 = .ok (.goto (-22), 3) := by decide +kernel
theorem dX9_countByPart_44 : decode cX9_countByPart 44 = .ok (.iconst 0, 1) := by decide +kernel
theorem dX9_countByPart_45 : decode cX9_countByPart 45 = .ok (.istore 4, 2) := by decide +kernel
theorem dX9_countByPart_47 : decode cX9_countByPart 47 = .ok (.iload 4, 2) := by decide +kernel
theorem dX9_countByPart_49 : decode cX9_countByPart 49 = .ok (.aload_n 0, 1) := by decide +kernel
theorem dX9_countByPart_50 : decode cX9_countByPart 50 = .ok (.getfield 76, 3) := by decide +kernel
theorem dX9_countByPart_53 : decode cX9_countByPart 53 = .ok (.if_icmp .ge 38, 3) := by decide +kernel
theorem dX9_countByPart_56 : decode cX9_countByPart 56 = .ok (.aload_n 0, 1) := by decide +kernel
theorem dX9_countByPart_57 : decode cX9_countByPart 57 = .ok (.getfield 42, 3) := by decide +kernel
theorem dX9_countByPart_60 : decode cX9_countByPart 60 = .ok (.aload_n 0, 1) := by decide +kernel
theorem dX9_countByPart_61 : decode cX9_countByPart 61 = .ok (.getfield 18, 3) := by decide +kernel
theorem dX9_countByPart_64 : decode cX9_countByPart 64 = .ok (.iload 4, 2) := by decide +kernel
theorem dX9_countByPart_66 : decode cX9_countByPart 66 = .ok (.aaload, 1) := by decide +kernel
theorem dX9_countByPart_67 : decode cX9_countByPart 67 = .ok (.iconst 0, 1) := by decide +kernel
theorem dX9_countByPart_68 : decode cX9_countByPart 68 = .ok (.iaload, 1) := by decide +kernel
theorem dX9_countByPart_69 : decode cX9_countByPart 69 = .ok (.aaload, 1) := by decide +kernel
theorem dX9_countByPart_70 : decode cX9_countByPart 70 = .ok (.iload_n 3, 1) := by decide +kernel
theorem dX9_countByPart_71 : decode cX9_countByPart 71 = .ok (.aaload, 1) := by decide +kernel
theorem dX9_countByPart_72 : decode cX9_countByPart 72 = .ok (.iload_n 2, 1) := by decide +kernel
theorem dX9_countByPart_73 : decode cX9_countByPart 73 = .ok (.dup2, 1) := by decide +kernel
theorem dX9_countByPart_74 : decode cX9_countByPart 74 = .ok (.laload, 1) := by decide +kernel
theorem dX9_countByPart_75 : decode cX9_countByPart 75 = .ok (.aload_n 0, 1) := by decide +kernel
theorem dX9_countByPart_76 : decode cX9_countByPart 76 = .ok (.iload 4, 2) := by decide +kernel
theorem dX9_countByPart_78 : decode cX9_countByPart 78 = .ok (.iload_n 3, 1) := by decide +kernel
theorem dX9_countByPart_79 : decode cX9_countByPart 79 = .ok (.iload_n 2, 1) := by decide +kernel
theorem dX9_countByPart_80 : decode cX9_countByPart 80 = .ok (.invokevirtual 139, 3) := by decide +kernel
theorem dX9_countByPart_83 : decode cX9_countByPart 83 = .ok (.ladd, 1) := by decide +kernel
theorem dX9_countByPart_84 : decode cX9_countByPart 84 = .ok (.lastore, 1) := by decide +kernel
theorem dX9_countByPart_85 : decode cX9_countByPart 85 = .ok (.iinc 4 1, 3) := by decide +kernel
theorem dX9_countByPart_88 : decode cX9_countByPart 88 = .ok (.goto (-41), 3) := by decide +kernel
theorem dX9_countByPart_91 : decode cX9_countByPart 91 = .ok (.iinc 3 1, 3) := by decide +kernel
theorem dX9_countByPart_94 : decode cX9_countByPart 94 = .ok (.goto (-85), 3) := by decide +kernel
theorem dX9_countByPart_97 : decode cX9_countByPart 97 = .ok (.iinc 2 1, 3) := by decide +kernel
theorem dX9_countByPart_100 : decode cX9_countByPart 100 = .ok (.goto (-98), 3) := by decide +kernel
theorem dX9_countByPart_103 : decode cX9_countByPart 103 = .ok (.iload_n 1, 1) := by decide +kernel
theorem dX9_countByPart_104 : decode cX9_countByPart 104 = .ok (.ifCond .ne 7, 3) := by decide +kernel
theorem dX9_countByPart_107 : decode cX9_countByPart 107 = .ok (.lconst 0, 1) := by decide +kernel
theorem dX9_countByPart_108 : decode cX9_countByPart 108 = .ok (.goto 16, 3) := by decide +kernel
theorem dX9_countByPart_111 : decode cX9_countByPart 111 = .ok (.aload_n 0, 1) := by decide +kernel
theorem dX9_countByPart_112 : decode cX9_countByPart 112 = .ok (.getfield 42, 3) := by decide +kernel
theorem dX9_countByPart_115 : decode cX9_countByPart 115 = .ok (.aload_n 0, 1) := by decide +kernel
theorem dX9_countByPart_116 : decode cX9_countByPart 116 = .ok (.getfield 83, 3) := by decide +kernel
theorem dX9_countByPart_119 : decode cX9_countByPart 119 = .ok (.aaload, 1) := by decide +kernel
theorem dX9_countByPart_120 : decode cX9_countByPart 120 = .ok (.iconst 0, 1) := by decide +kernel
theorem dX9_countByPart_121 : decode cX9_countByPart 121 = .ok (.aaload, 1) := by decide +kernel
theorem dX9_countByPart_122 : decode cX9_countByPart 122 = .ok (.iload_n 1, 1) := by decide +kernel
theorem dX9_countByPart_123 : decode cX9_countByPart 123 = .ok (.laload, 1) := by decide +kernel
theorem dX9_countByPart_124 : decode cX9_countByPart 124 = .ok (.lreturn, 1) := by decide +kernel
theorem dX9_countCurrent_0 : decode cX9_countCurrent 0 = .ok (.iconst 0, 1) := by decide +kernel
theorem dX9_countCurrent_1 : decode cX9_countCurrent 1 = .ok (.istore_n 1, 1) := by decide +kernel
theorem dX9_countCurrent_2 : decode cX9_countCurrent 2 = .ok (.iload_n 1, 1) := by decide +kernel
theorem dX9_countCurrent_3 : decode cX9_countCurrent 3 = .ok (.aload_n 0, 1) := by decide +kernel
theorem dX9_countCurrent_4 : decode cX9_countCurrent 4 = .ok (.getfield 86, 3) := by decide +kernel
theorem dX9_countCurrent_7 : decode cX9_countCurrent 7 = .ok (.if_icmp .ge 21, 3) := by decide +kernel
theorem dX9_countCurrent_10 : decode cX9_countCurrent 10 = .ok (.aload_n 0, 1) := by decide +kernel
theorem dX9_countCurrent_11 : decode cX9_countCurrent 11 = .ok (.getfield 37, 3) := by decide +kernel
theorem dX9_countCurrent_14 : decode cX9_countCurrent 14 = .ok (.iload_n 1, 1) := by decide +kernel
theorem dX9_countCurrent_15 : decode cX9_countCurrent 15 = .ok (.aload_n 0, 1) := by decide +kernel
theorem dX9_countCurrent_16 : decode cX9_countCurrent 16 = .ok (.getfield 21, 3) := by decide +kernel
theorem dX9_countCurrent_19 : decode cX9_countCurrent 19 = .ok (.iload_n 1, 1) := by decide +kernel
theorem dX9_countCurrent_20 : decode cX9_countCurrent 20 = .ok (.iaload, 1) := by decide +kernel
theorem dX9_countCurrent_21 : decode cX9_countCurrent 21 = .ok (.iastore, 1) := by decide +kernel
theorem dX9_countCurrent_22 : decode cX9_countCurrent 22 = .ok (.iinc 1 1, 3) := by decide +kernel
theorem dX9_countCurrent_25 : decode cX9_countCurrent 25 = .ok (.goto (-23), 3) := by decide +kernel
theorem dX9_countCurrent_28 : decode cX9_countCurrent 28 = .ok (.aload_n 0, 1) := by decide +kernel
theorem dX9_countCurrent_29 : decode cX9_countCurrent 29 = .ok (.aload_n 0, 1) := by decide +kernel
theorem dX9_countCurrent_30 : decode cX9_countCurrent 30 = .ok (.getfield 86, 3) := by decide +kernel
theorem dX9_countCurrent_33 : decode cX9_countCurrent 33 = .ok (.invokevirtual 142, 3) := by decide +kernel
theorem dX9_countCurrent_36 : decode cX9_countCurrent 36 = .ok (.lreturn, 1) := by decide +kernel
theorem dX9_treeCount_0 : decode cX9_treeCount 0 = .ok (.aload_n 0, 1) := by decide +kernel
theorem dX9_treeCount_1 : decode cX9_treeCount 1 = .ok (.iconst 0, 1) := by decide +kernel
theorem dX9_treeCount_2 : decode cX9_treeCount 2 = .ok (.putfield 69, 3) := by decide +kernel
theorem dX9_treeCount_5 : decode cX9_treeCount 5 = .ok (.aload_n 0, 1) := by decide +kernel
theorem dX9_treeCount_6 : decode cX9_treeCount 6 = .ok (.invokevirtual 146, 3) := by decide +kernel
theorem dX9_treeCount_9 : decode cX9_treeCount 9 = .ok (.lreturn, 1) := by decide +kernel
theorem dX9_wordsOf_0 : decode cX9_wordsOf 0 = .ok (.iconst 1, 1) := by decide +kernel
theorem dX9_wordsOf_1 : decode cX9_wordsOf 1 = .ok (.istore_n 2, 1) := by decide +kernel
theorem dX9_wordsOf_2 : decode cX9_wordsOf 2 = .ok (.iconst 0, 1) := by decide +kernel
theorem dX9_wordsOf_3 : decode cX9_wordsOf 3 = .ok (.istore_n 3, 1) := by decide +kernel
theorem dX9_wordsOf_4 : decode cX9_wordsOf 4 = .ok (.iload_n 3, 1) := by decide +kernel
theorem dX9_wordsOf_5 : decode cX9_wordsOf 5 = .ok (.iload_n 1, 1) := by decide +kernel
theorem dX9_wordsOf_6 : decode cX9_wordsOf 6 = .ok (.if_icmp .ge 16, 3) := by decide +kernel
theorem dX9_wordsOf_9 : decode cX9_wordsOf 9 = .ok (.iload_n 2, 1) := by decide +kernel
theorem dX9_wordsOf_10 : decode cX9_wordsOf 10 = .ok (.aload_n 0, 1) := by decide +kernel
theorem dX9_wordsOf_11 : decode cX9_wordsOf 11 = .ok (.getfield 13, 3) := by decide +kernel
theorem dX9_wordsOf_14 : decode cX9_wordsOf 14 = .ok (.imul, 1) := by decide +kernel
theorem dX9_wordsOf_15 : decode cX9_wordsOf 15 = .ok (.istore_n 2, 1) := by decide +kernel
theorem dX9_wordsOf_16 : decode cX9_wordsOf 16 = .ok (.iinc 3 1, 3) := by decide +kernel
theorem dX9_wordsOf_19 : decode cX9_wordsOf 19 = .ok (.goto (-15), 3) := by decide +kernel
theorem dX9_wordsOf_22 : decode cX9_wordsOf 22 = .ok (.iload_n 2, 1) := by decide +kernel
theorem dX9_wordsOf_23 : decode cX9_wordsOf 23 = .ok (.ireturn, 1) := by decide +kernel
theorem dX9_countNumbered_0 : decode cX9_countNumbered 0 = .ok (.iload_n 1, 1) := by decide +kernel
theorem dX9_countNumbered_1 : decode cX9_countNumbered 1 = .ok (.istore_n 3, 1) := by decide +kernel
theorem dX9_countNumbered_2 : decode cX9_countNumbered 2 = .ok (.iload_n 2, 1) := by decide +kernel
theorem dX9_countNumbered_3 : decode cX9_countNumbered 3 = .ok (.iconst 1, 1) := by decide +kernel
theorem dX9_countNumbered_4 : decode cX9_countNumbered 4 = .ok (.isub, 1) := by decide +kernel
theorem dX9_countNumbered_5 : decode cX9_countNumbered 5 = .ok (.istore 4, 2) := by decide +kernel
theorem dX9_countNumbered_7 : decode cX9_countNumbered 7 = .ok (.iload 4, 2) := by decide +kernel
theorem dX9_countNumbered_9 : decode cX9_countNumbered 9 = .ok (.ifCond .lt 29, 3) := by decide +kernel
theorem dX9_countNumbered_12 : decode cX9_countNumbered 12 = .ok (.aload_n 0, 1) := by decide +kernel
theorem dX9_countNumbered_13 : decode cX9_countNumbered 13 = .ok (.getfield 37, 3) := by decide +kernel
theorem dX9_countNumbered_16 : decode cX9_countNumbered 16 = .ok (.iload 4, 2) := by decide +kernel
theorem dX9_countNumbered_18 : decode cX9_countNumbered 18 = .ok (.iload_n 3, 1) := by decide +kernel
theorem dX9_countNumbered_19 : decode cX9_countNumbered 19 = .ok (.aload_n 0, 1) := by decide +kernel
theorem dX9_countNumbered_20 : decode cX9_countNumbered 20 = .ok (.getfield 13, 3) := by decide +kernel
theorem dX9_countNumbered_23 : decode cX9_countNumbered 23 = .ok (.irem, 1) := by decide +kernel
theorem dX9_countNumbered_24 : decode cX9_countNumbered 24 = .ok (.iastore, 1) := by decide +kernel
theorem dX9_countNumbered_25 : decode cX9_countNumbered 25 = .ok (.iload_n 3, 1) := by decide +kernel
theorem dX9_countNumbered_26 : decode cX9_countNumbered 26 = .ok (.aload_n 0, 1) := by decide +kernel
theorem dX9_countNumbered_27 : decode cX9_countNumbered 27 = .ok (.getfield 13, 3) := by decide +kernel
theorem dX9_countNumbered_30 : decode cX9_countNumbered 30 = .ok (.idiv, 1) := by decide +kernel
theorem dX9_countNumbered_31 : decode cX9_countNumbered 31 = .ok (.istore_n 3, 1) := by decide +kernel
theorem dX9_countNumbered_32 : decode cX9_countNumbered 32 = .ok (.iinc 4 (-1), 3) := by decide +kernel
theorem dX9_countNumbered_35 : decode cX9_countNumbered 35 = .ok (.goto (-28), 3) := by decide +kernel
theorem dX9_countNumbered_38 : decode cX9_countNumbered 38 = .ok (.aload_n 0, 1) := by decide +kernel
theorem dX9_countNumbered_39 : decode cX9_countNumbered 39 = .ok (.iload_n 2, 1) := by decide +kernel
theorem dX9_countNumbered_40 : decode cX9_countNumbered 40 = .ok (.invokevirtual 142, 3) := by decide +kernel
theorem dX9_countNumbered_43 : decode cX9_countNumbered 43 = .ok (.lreturn, 1) := by decide +kernel
theorem dX9_countWords_0 : decode cX9_countWords 0 = .ok (.iconst 0, 1) := by decide +kernel
theorem dX9_countWords_1 : decode cX9_countWords 1 = .ok (.istore_n 3, 1) := by decide +kernel
theorem dX9_countWords_2 : decode cX9_countWords 2 = .ok (.iconst 0, 1) := by decide +kernel
theorem dX9_countWords_3 : decode cX9_countWords 3 = .ok (.istore 4, 2) := by decide +kernel
theorem dX9_countWords_5 : decode cX9_countWords 5 = .ok (.iload 4, 2) := by decide +kernel
theorem dX9_countWords_7 : decode cX9_countWords 7 = .ok (.aload_n 0, 1) := by decide +kernel
theorem dX9_countWords_8 : decode cX9_countWords 8 = .ok (.iload_n 1, 1) := by decide +kernel
theorem dX9_countWords_9 : decode cX9_countWords 9 = .ok (.invokevirtual 150, 3) := by decide +kernel
theorem dX9_countWords_12 : decode cX9_countWords 12 = .ok (.if_icmp .ge 104, 3) := by decide +kernel
theorem dX9_countWords_15 : decode cX9_countWords 15 = .ok (.aload_n 0, 1) := by decide +kernel
theorem dX9_countWords_16 : decode cX9_countWords 16 = .ok (.iload 4, 2) := by decide +kernel
theorem dX9_countWords_18 : decode cX9_countWords 18 = .ok (.iload_n 1, 1) := by decide +kernel
theorem dX9_countWords_19 : decode cX9_countWords 19 = .ok (.invokevirtual 153, 3) := by decide +kernel
theorem dX9_countWords_22 : decode cX9_countWords 22 = .ok (.lstore 5, 2) := by decide +kernel
theorem dX9_countWords_24 : decode cX9_countWords 24 = .ok (.iload_n 2, 1) := by decide +kernel
theorem dX9_countWords_25 : decode cX9_countWords 25 = .ok (.ifCond .ne 18, 3) := by decide +kernel
theorem dX9_countWords_28 : decode cX9_countWords 28 = .ok (.lload 5, 2) := by decide +kernel
theorem dX9_countWords_30 : decode cX9_countWords 30 = .ok (.lconst 0, 1) := by decide +kernel
theorem dX9_countWords_31 : decode cX9_countWords 31 = .ok (.lcmp, 1) := by decide +kernel
theorem dX9_countWords_32 : decode cX9_countWords 32 = .ok (.ifCond .ne 7, 3) := by decide +kernel
theorem dX9_countWords_35 : decode cX9_countWords 35 = .ok (.iconst 1, 1) := by decide +kernel
theorem dX9_countWords_36 : decode cX9_countWords 36 = .ok (.goto 59, 3) := by decide +kernel
theorem dX9_countWords_39 : decode cX9_countWords 39 = .ok (.iconst 0, 1) := by decide +kernel
theorem dX9_countWords_40 : decode cX9_countWords 40 = .ok (.goto 55, 3) := by decide +kernel
theorem dX9_countWords_43 : decode cX9_countWords 43 = .ok (.iload_n 2, 1) := by decide +kernel
theorem dX9_countWords_44 : decode cX9_countWords 44 = .ok (.iconst 1, 1) := by decide +kernel
theorem dX9_countWords_45 : decode cX9_countWords 45 = .ok (.if_icmp .ne 18, 3) := by decide +kernel
theorem dX9_countWords_48 : decode cX9_countWords 48 = .ok (.lload 5, 2) := by decide +kernel
theorem dX9_countWords_50 : decode cX9_countWords 50 = .ok (.lconst 1, 1) := by decide +kernel
theorem dX9_countWords_51 : decode cX9_countWords 51 = .ok (.lcmp, 1) := by decide +kernel
theorem dX9_countWords_52 : decode cX9_countWords 52 = .ok (.ifCond .ne 7, 3) := by decide +kernel
theorem dX9_countWords_55 : decode cX9_countWords 55 = .ok (.iconst 1, 1) := by decide +kernel
theorem dX9_countWords_56 : decode cX9_countWords 56 = .ok (.goto 39, 3) := by decide +kernel
theorem dX9_countWords_59 : decode cX9_countWords 59 = .ok (.iconst 0, 1) := by decide +kernel
theorem dX9_countWords_60 : decode cX9_countWords 60 = .ok (.goto 35, 3) := by decide +kernel
theorem dX9_countWords_63 : decode cX9_countWords 63 = .ok (.iload_n 2, 1) := by decide +kernel
theorem dX9_countWords_64 : decode cX9_countWords 64 = .ok (.iconst 2, 1) := by decide +kernel
theorem dX9_countWords_65 : decode cX9_countWords 65 = .ok (.if_icmp .ne 18, 3) := by decide +kernel
theorem dX9_countWords_68 : decode cX9_countWords 68 = .ok (.lload 5, 2) := by decide +kernel
theorem dX9_countWords_70 : decode cX9_countWords 70 = .ok (.lconst 1, 1) := by decide +kernel
theorem dX9_countWords_71 : decode cX9_countWords 71 = .ok (.lcmp, 1) := by decide +kernel
theorem dX9_countWords_72 : decode cX9_countWords 72 = .ok (.ifCond .le 7, 3) := by decide +kernel
theorem dX9_countWords_75 : decode cX9_countWords 75 = .ok (.iconst 1, 1) := by decide +kernel
theorem dX9_countWords_76 : decode cX9_countWords 76 = .ok (.goto 19, 3) := by decide +kernel
theorem dX9_countWords_79 : decode cX9_countWords 79 = .ok (.iconst 0, 1) := by decide +kernel
theorem dX9_countWords_80 : decode cX9_countWords 80 = .ok (.goto 15, 3) := by decide +kernel
theorem dX9_countWords_83 : decode cX9_countWords 83 = .ok (.lload 5, 2) := by decide +kernel
theorem dX9_countWords_85 : decode cX9_countWords 85 = .ok (.lconst 0, 1) := by decide +kernel
theorem dX9_countWords_86 : decode cX9_countWords 86 = .ok (.lcmp, 1) := by decide +kernel
theorem dX9_countWords_87 : decode cX9_countWords 87 = .ok (.ifCond .le 7, 3) := by decide +kernel
theorem dX9_countWords_90 : decode cX9_countWords 90 = .ok (.iconst 1, 1) := by decide +kernel
theorem dX9_countWords_91 : decode cX9_countWords 91 = .ok (.goto 4, 3) := by decide +kernel
theorem dX9_countWords_94 : decode cX9_countWords 94 = .ok (.iconst 0, 1) := by decide +kernel
theorem dX9_countWords_95 : decode cX9_countWords 95 = .ok (.istore 7, 2) := by decide +kernel
theorem dX9_countWords_97 : decode cX9_countWords 97 = .ok (.iload_n 3, 1) := by decide +kernel
theorem dX9_countWords_98 : decode cX9_countWords 98 = .ok (.iload 7, 2) := by decide +kernel
theorem dX9_countWords_100 : decode cX9_countWords 100 = .ok (.ifCond .eq 7, 3) := by decide +kernel
theorem dX9_countWords_103 : decode cX9_countWords 103 = .ok (.iconst 1, 1) := by decide +kernel
theorem dX9_countWords_104 : decode cX9_countWords 104 = .ok (.goto 4, 3) := by decide +kernel
theorem dX9_countWords_107 : decode cX9_countWords 107 = .ok (.iconst 0, 1) := by decide +kernel
theorem dX9_countWords_108 : decode cX9_countWords 108 = .ok (.iadd, 1) := by decide +kernel
theorem dX9_countWords_109 : decode cX9_countWords 109 = .ok (.istore_n 3, 1) := by decide +kernel
theorem dX9_countWords_110 : decode cX9_countWords 110 = .ok (.iinc 4 1, 3) := by decide +kernel
theorem dX9_countWords_113 : decode cX9_countWords 113 = .ok (.goto (-108), 3) := by decide +kernel
theorem dX9_countWords_116 : decode cX9_countWords 116 = .ok (.iload_n 3, 1) := by decide +kernel
theorem dX9_countWords_117 : decode cX9_countWords 117 = .ok (.ireturn, 1) := by decide +kernel
theorem dX9_isListed_0 : decode cX9_isListed 0 = .ok (.iload_n 0, 1) := by decide +kernel
theorem dX9_isListed_1 : decode cX9_isListed 1 = .ok (.iconst 1, 1) := by decide +kernel
theorem dX9_isListed_2 : decode cX9_isListed 2 = .ok (.bipush 6, 2) := by decide +kernel
theorem dX9_isListed_4 : decode cX9_isListed 4 = .ok (.invokestatic 72, 3) := by decide +kernel
theorem dX9_isListed_7 : decode cX9_isListed 7 = .ok (.ireturn, 1) := by decide +kernel
theorem dX9_wordsOfLength_0 : decode cX9_wordsOfLength 0 = .ok (.aload_n 0, 1) := by decide +kernel
theorem dX9_wordsOfLength_1 : decode cX9_wordsOfLength 1 = .ok (.iconst 1, 1) := by decide +kernel
theorem dX9_wordsOfLength_2 : decode cX9_wordsOfLength 2 = .ok (.iload_n 1, 1) := by decide +kernel
theorem dX9_wordsOfLength_3 : decode cX9_wordsOfLength 3 = .ok (.invokestatic 156, 3) := by decide +kernel
theorem dX9_wordsOfLength_6 : decode cX9_wordsOfLength 6 = .ok (.ifCond .eq 12, 3) := by decide +kernel
theorem dX9_wordsOfLength_9 : decode cX9_wordsOfLength 9 = .ok (.iload_n 2, 1) := by decide +kernel
theorem dX9_wordsOfLength_10 : decode cX9_wordsOfLength 10 = .ok (.iconst 0, 1) := by decide +kernel
theorem dX9_wordsOfLength_11 : decode cX9_wordsOfLength 11 = .ok (.iconst 3, 1) := by decide +kernel
theorem dX9_wordsOfLength_12 : decode cX9_wordsOfLength 12 = .ok (.invokestatic 72, 3) := by decide +kernel
theorem dX9_wordsOfLength_15 : decode cX9_wordsOfLength 15 = .ok (.ifCond .ne 7, 3) := by decide +kernel
theorem dX9_wordsOfLength_18 : decode cX9_wordsOfLength 18 = .ok (.iconst 1, 1) := by decide +kernel
theorem dX9_wordsOfLength_19 : decode cX9_wordsOfLength 19 = .ok (.goto 4, 3) := by decide +kernel
theorem dX9_wordsOfLength_22 : decode cX9_wordsOfLength 22 = .ok (.iconst 0, 1) := by decide +kernel
theorem dX9_wordsOfLength_23 : decode cX9_wordsOfLength 23 = .ok (.invokevirtual 79, 3) := by decide +kernel
theorem dX9_wordsOfLength_26 : decode cX9_wordsOfLength 26 = .ok (.ifCond .eq 7, 3) := by decide +kernel
theorem dX9_wordsOfLength_29 : decode cX9_wordsOfLength 29 = .ok (.iconst 0, 1) := by decide +kernel
theorem dX9_wordsOfLength_30 : decode cX9_wordsOfLength 30 = .ok (.goto 9, 3) := by decide +kernel
theorem dX9_wordsOfLength_33 : decode cX9_wordsOfLength 33 = .ok (.aload_n 0, 1) := by decide +kernel
theorem dX9_wordsOfLength_34 : decode cX9_wordsOfLength 34 = .ok (.iload_n 1, 1) := by decide +kernel
theorem dX9_wordsOfLength_35 : decode cX9_wordsOfLength 35 = .ok (.iload_n 2, 1) := by decide +kernel
theorem dX9_wordsOfLength_36 : decode cX9_wordsOfLength 36 = .ok (.invokevirtual 159, 3) := by decide +kernel
theorem dX9_wordsOfLength_39 : decode cX9_wordsOfLength 39 = .ok (.ireturn, 1) := by decide +kernel
theorem dX9_unambiguousShare_0 : decode cX9_unambiguousShare 0 = .ok (.aload_n 0, 1) := by decide +kernel
theorem dX9_unambiguousShare_1 : decode cX9_unambiguousShare 1 = .ok (.iconst 1, 1) := by decide +kernel
theorem dX9_unambiguousShare_2 : decode cX9_unambiguousShare 2 = .ok (.iload_n 1, 1) := by decide +kernel
theorem dX9_unambiguousShare_3 : decode cX9_unambiguousShare 3 = .ok (.invokestatic 156, 3) := by decide +kernel
theorem dX9_unambiguousShare_6 : decode cX9_unambiguousShare 6 = .ok (.ifCond .ne 7, 3) := by decide +kernel
theorem dX9_unambiguousShare_9 : decode cX9_unambiguousShare 9 = .ok (.iconst 1, 1) := by decide +kernel
theorem dX9_unambiguousShare_10 : decode cX9_unambiguousShare 10 = .ok (.goto 4, 3) := by decide +kernel
theorem dX9_unambiguousShare_13 : decode cX9_unambiguousShare 13 = .ok (.iconst 0, 1) := by decide +kernel
theorem dX9_unambiguousShare_14 : decode cX9_unambiguousShare 14 = .ok (.invokevirtual 79, 3) := by decide +kernel
theorem dX9_unambiguousShare_17 : decode cX9_unambiguousShare 17 = .ok (.ifCond .eq 5, 3) := by decide +kernel
theorem dX9_unambiguousShare_20 : decode cX9_unambiguousShare 20 = .ok (.dconst 0, 1) := by decide +kernel
theorem dX9_unambiguousShare_21 : decode cX9_unambiguousShare 21 = .ok (.dreturn, 1) := by decide +kernel
theorem dX9_unambiguousShare_22 : decode cX9_unambiguousShare 22 = .ok (.aload_n 0, 1) := by decide +kernel
theorem dX9_unambiguousShare_23 : decode cX9_unambiguousShare 23 = .ok (.iload_n 1, 1) := by decide +kernel
theorem dX9_unambiguousShare_24 : decode cX9_unambiguousShare 24 = .ok (.iconst 3, 1) := by decide +kernel
theorem dX9_unambiguousShare_25 : decode cX9_unambiguousShare 25 = .ok (.invokevirtual 159, 3) := by decide +kernel
theorem dX9_unambiguousShare_28 : decode cX9_unambiguousShare 28 = .ok (.istore_n 2, 1) := by decide +kernel
theorem dX9_unambiguousShare_29 : decode cX9_unambiguousShare 29 = .ok (.iload_n 2, 1) := by decide +kernel
theorem dX9_unambiguousShare_30 : decode cX9_unambiguousShare 30 = .ok (.ifCond .ne 7, 3) := by decide +kernel
theorem dX9_unambiguousShare_33 : decode cX9_unambiguousShare 33 = .ok (.dconst 1, 1) := by decide +kernel
theorem dX9_unambiguousShare_34 : decode cX9_unambiguousShare 34 = .ok (.goto 13, 3) := by decide +kernel
theorem dX9_unambiguousShare_37 : decode cX9_unambiguousShare 37 = .ok (.aload_n 0, 1) := by decide +kernel
theorem dX9_unambiguousShare_38 : decode cX9_unambiguousShare 38 = .ok (.iload_n 1, 1) := by decide +kernel
theorem dX9_unambiguousShare_39 : decode cX9_unambiguousShare 39 = .ok (.iconst 1, 1) := by decide +kernel
theorem dX9_unambiguousShare_40 : decode cX9_unambiguousShare 40 = .ok (.invokevirtual 159, 3) := by decide +kernel
theorem dX9_unambiguousShare_43 : decode cX9_unambiguousShare 43 = .ok (.i2d, 1) := by decide +kernel
theorem dX9_unambiguousShare_44 : decode cX9_unambiguousShare 44 = .ok (.iload_n 2, 1) := by decide +kernel
theorem dX9_unambiguousShare_45 : decode cX9_unambiguousShare 45 = .ok (.i2d, 1) := by decide +kernel
theorem dX9_unambiguousShare_46 : decode cX9_unambiguousShare 46 = .ok (.ddiv, 1) := by decide +kernel
theorem dX9_unambiguousShare_47 : decode cX9_unambiguousShare 47 = .ok (.dreturn, 1) := by decide +kernel
theorem dX9_averageTrees_0 : decode cX9_averageTrees 0 = .ok (.aload_n 0, 1) := by decide +kernel
theorem dX9_averageTrees_1 : decode cX9_averageTrees 1 = .ok (.iconst 1, 1) := by decide +kernel
theorem dX9_averageTrees_2 : decode cX9_averageTrees 2 = .ok (.iload_n 1, 1) := by decide +kernel
theorem dX9_averageTrees_3 : decode cX9_averageTrees 3 = .ok (.invokestatic 156, 3) := by decide +kernel
theorem dX9_averageTrees_6 : decode cX9_averageTrees 6 = .ok (.ifCond .ne 7, 3) := by decide +kernel
theorem dX9_averageTrees_9 : decode cX9_averageTrees 9 = .ok (.iconst 1, 1) := by decide +kernel
theorem dX9_averageTrees_10 : decode cX9_averageTrees 10 = .ok (.goto 4, 3) := by decide +kernel
theorem dX9_averageTrees_13 : decode cX9_averageTrees 13 = .ok (.iconst 0, 1) := by decide +kernel
theorem dX9_averageTrees_14 : decode cX9_averageTrees 14 = .ok (.invokevirtual 79, 3) := by decide +kernel
theorem dX9_averageTrees_17 : decode cX9_averageTrees 17 = .ok (.ifCond .eq 5, 3) := by decide +kernel
theorem dX9_averageTrees_20 : decode cX9_averageTrees 20 = .ok (.dconst 0, 1) := by decide +kernel
theorem dX9_averageTrees_21 : decode cX9_averageTrees 21 = .ok (.dreturn, 1) := by decide +kernel
theorem dX9_averageTrees_22 : decode cX9_averageTrees 22 = .ok (.aload_n 0, 1) := by decide +kernel
theorem dX9_averageTrees_23 : decode cX9_averageTrees 23 = .ok (.iload_n 1, 1) := by decide +kernel
theorem dX9_averageTrees_24 : decode cX9_averageTrees 24 = .ok (.iconst 3, 1) := by decide +kernel
theorem dX9_averageTrees_25 : decode cX9_averageTrees 25 = .ok (.invokevirtual 159, 3) := by decide +kernel
theorem dX9_averageTrees_28 : decode cX9_averageTrees 28 = .ok (.istore_n 2, 1) := by decide +kernel
theorem dX9_averageTrees_29 : decode cX9_averageTrees 29 = .ok (.aload_n 0, 1) := by decide +kernel
theorem dX9_averageTrees_30 : decode cX9_averageTrees 30 = .ok (.iconst 2, 1) := by decide +kernel
theorem dX9_averageTrees_31 : decode cX9_averageTrees 31 = .ok (.iload_n 2, 1) := by decide +kernel
theorem dX9_averageTrees_32 : decode cX9_averageTrees 32 = .ok (.ifCond .ne 7, 3) := by decide +kernel
theorem dX9_averageTrees_35 : decode cX9_averageTrees 35 = .ok (.iconst 1, 1) := by decide +kernel
theorem dX9_averageTrees_36 : decode cX9_averageTrees 36 = .ok (.goto 4, 3) := by decide +kernel
theorem dX9_averageTrees_39 : decode cX9_averageTrees 39 = .ok (.iconst 0, 1) := by decide +kernel
theorem dX9_averageTrees_40 : decode cX9_averageTrees 40 = .ok (.invokevirtual 79, 3) := by decide +kernel
theorem dX9_averageTrees_43 : decode cX9_averageTrees 43 = .ok (.ifCond .eq 5, 3) := by decide +kernel
theorem dX9_averageTrees_46 : decode cX9_averageTrees 46 = .ok (.dconst 0, 1) := by decide +kernel
theorem dX9_averageTrees_47 : decode cX9_averageTrees 47 = .ok (.dreturn, 1) := by decide +kernel
theorem dX9_averageTrees_48 : decode cX9_averageTrees 48 = .ok (.aload_n 0, 1) := by decide +kernel
theorem dX9_averageTrees_49 : decode cX9_averageTrees 49 = .ok (.invokevirtual 128, 3) := by decide +kernel
theorem dX9_averageTrees_52 : decode cX9_averageTrees 52 = .ok (.aload_n 0, 1) := by decide +kernel
theorem dX9_averageTrees_53 : decode cX9_averageTrees 53 = .ok (.getfield 34, 3) := by decide +kernel
theorem dX9_averageTrees_56 : decode cX9_averageTrees 56 = .ok (.aload_n 0, 1) := by decide +kernel
theorem dX9_averageTrees_57 : decode cX9_averageTrees 57 = .ok (.getfield 83, 3) := by decide +kernel
theorem dX9_averageTrees_60 : decode cX9_averageTrees 60 = .ok (.aaload, 1) := by decide +kernel
theorem dX9_averageTrees_61 : decode cX9_averageTrees 61 = .ok (.iload_n 1, 1) := by decide +kernel
theorem dX9_averageTrees_62 : decode cX9_averageTrees 62 = .ok (.laload, 1) := by decide +kernel
theorem dX9_averageTrees_63 : decode cX9_averageTrees 63 = .ok (.l2d, 1) := by decide +kernel
theorem dX9_averageTrees_64 : decode cX9_averageTrees 64 = .ok (.iload_n 2, 1) := by decide +kernel
theorem dX9_averageTrees_65 : decode cX9_averageTrees 65 = .ok (.i2d, 1) := by decide +kernel
theorem dX9_averageTrees_66 : decode cX9_averageTrees 66 = .ok (.ddiv, 1) := by decide +kernel
theorem dX9_averageTrees_67 : decode cX9_averageTrees 67 = .ok (.dreturn, 1) := by decide +kernel
theorem dX9_take_0 : decode cX9_take 0 = .ok (.iconst 0, 1) := by decide +kernel
theorem dX9_take_1 : decode cX9_take 1 = .ok (.istore_n 2, 1) := by decide +kernel
theorem dX9_take_2 : decode cX9_take 2 = .ok (.iload_n 2, 1) := by decide +kernel
theorem dX9_take_3 : decode cX9_take 3 = .ok (.iload_n 1, 1) := by decide +kernel
theorem dX9_take_4 : decode cX9_take 4 = .ok (.if_icmp .ge 21, 3) := by decide +kernel
theorem dX9_take_7 : decode cX9_take 7 = .ok (.aload_n 0, 1) := by decide +kernel
theorem dX9_take_8 : decode cX9_take 8 = .ok (.getfield 21, 3) := by decide +kernel
theorem dX9_take_11 : decode cX9_take 11 = .ok (.iload_n 2, 1) := by decide +kernel
theorem dX9_take_12 : decode cX9_take 12 = .ok (.aload_n 0, 1) := by decide +kernel
theorem dX9_take_13 : decode cX9_take 13 = .ok (.getfield 37, 3) := by decide +kernel
theorem dX9_take_16 : decode cX9_take 16 = .ok (.iload_n 2, 1) := by decide +kernel
theorem dX9_take_17 : decode cX9_take 17 = .ok (.iaload, 1) := by decide +kernel
theorem dX9_take_18 : decode cX9_take 18 = .ok (.iastore, 1) := by decide +kernel
theorem dX9_take_19 : decode cX9_take 19 = .ok (.iinc 2 1, 3) := by decide +kernel
theorem dX9_take_22 : decode cX9_take 22 = .ok (.goto (-20), 3) := by decide +kernel
theorem dX9_take_25 : decode cX9_take 25 = .ok (.aload_n 0, 1) := by decide +kernel
theorem dX9_take_26 : decode cX9_take 26 = .ok (.iload_n 1, 1) := by decide +kernel
theorem dX9_take_27 : decode cX9_take 27 = .ok (.putfield 86, 3) := by decide +kernel
theorem dX9_take_30 : decode cX9_take 30 = .ok (.aload_n 0, 1) := by decide +kernel
theorem dX9_take_31 : decode cX9_take 31 = .ok (.iconst 0, 1) := by decide +kernel
theorem dX9_take_32 : decode cX9_take 32 = .ok (.putfield 89, 3) := by decide +kernel
theorem dX9_take_35 : decode cX9_take 35 = .ok (.return_, 1) := by decide +kernel
theorem dX9_firstAmbiguous_0 : decode cX9_firstAmbiguous 0 = .ok (.aload_n 0, 1) := by decide +kernel
theorem dX9_firstAmbiguous_1 : decode cX9_firstAmbiguous 1 = .ok (.iconst 1, 1) := by decide +kernel
theorem dX9_firstAmbiguous_2 : decode cX9_firstAmbiguous 2 = .ok (.iload_n 1, 1) := by decide +kernel
theorem dX9_firstAmbiguous_3 : decode cX9_firstAmbiguous 3 = .ok (.invokestatic 156, 3) := by decide +kernel
theorem dX9_firstAmbiguous_6 : decode cX9_firstAmbiguous 6 = .ok (.ifCond .ne 7, 3) := by decide +kernel
theorem dX9_firstAmbiguous_9 : decode cX9_firstAmbiguous 9 = .ok (.iconst 1, 1) := by decide +kernel
theorem dX9_firstAmbiguous_10 : decode cX9_firstAmbiguous 10 = .ok (.goto 4, 3) := by decide +kernel
theorem dX9_firstAmbiguous_13 : decode cX9_firstAmbiguous 13 = .ok (.iconst 0, 1) := by decide +kernel
theorem dX9_firstAmbiguous_14 : decode cX9_firstAmbiguous 14 = .ok (.invokevirtual 79, 3) := by decide +kernel
theorem dX9_firstAmbiguous_17 : decode cX9_firstAmbiguous 17 = .ok (.ifCond .eq 5, 3) := by decide +kernel
theorem dX9_firstAmbiguous_20 : decode cX9_firstAmbiguous 20 = .ok (.iconst 0, 1) := by decide +kernel
theorem dX9_firstAmbiguous_21 : decode cX9_firstAmbiguous 21 = .ok (.ireturn, 1) := by decide +kernel
theorem dX9_firstAmbiguous_22 : decode cX9_firstAmbiguous 22 = .ok (.iconst 1, 1) := by decide +kernel
theorem dX9_firstAmbiguous_23 : decode cX9_firstAmbiguous 23 = .ok (.istore_n 2, 1) := by decide +kernel
theorem dX9_firstAmbiguous_24 : decode cX9_firstAmbiguous 24 = .ok (.iload_n 2, 1) := by decide +kernel
theorem dX9_firstAmbiguous_25 : decode cX9_firstAmbiguous 25 = .ok (.iload_n 1, 1) := by decide +kernel
theorem dX9_firstAmbiguous_26 : decode cX9_firstAmbiguous 26 = .ok (.if_icmp .gt 44, 3) := by decide +kernel
theorem dX9_firstAmbiguous_29 : decode cX9_firstAmbiguous 29 = .ok (.iconst 0, 1) := by decide +kernel
theorem dX9_firstAmbiguous_30 : decode cX9_firstAmbiguous 30 = .ok (.istore_n 3, 1) := by decide +kernel
theorem dX9_firstAmbiguous_31 : decode cX9_firstAmbiguous 31 = .ok (.iload_n 3, 1) := by decide +kernel
theorem dX9_firstAmbiguous_32 : decode cX9_firstAmbiguous 32 = .ok (.aload_n 0, 1) := by decide +kernel
theorem dX9_firstAmbiguous_33 : decode cX9_firstAmbiguous 33 = .ok (.iload_n 2, 1) := by decide +kernel
theorem dX9_firstAmbiguous_34 : decode cX9_firstAmbiguous 34 = .ok (.invokevirtual 150, 3) := by decide +kernel
theorem dX9_firstAmbiguous_37 : decode cX9_firstAmbiguous 37 = .ok (.if_icmp .ge 27, 3) := by decide +kernel
theorem dX9_firstAmbiguous_40 : decode cX9_firstAmbiguous 40 = .ok (.aload_n 0, 1) := by decide +kernel
theorem dX9_firstAmbiguous_41 : decode cX9_firstAmbiguous 41 = .ok (.iload_n 3, 1) := by decide +kernel
theorem dX9_firstAmbiguous_42 : decode cX9_firstAmbiguous 42 = .ok (.iload_n 2, 1) := by decide +kernel
theorem dX9_firstAmbiguous_43 : decode cX9_firstAmbiguous 43 = .ok (.invokevirtual 153, 3) := by decide +kernel
theorem dX9_firstAmbiguous_46 : decode cX9_firstAmbiguous 46 = .ok (.lconst 1, 1) := by decide +kernel
theorem dX9_firstAmbiguous_47 : decode cX9_firstAmbiguous 47 = .ok (.lcmp, 1) := by decide +kernel
theorem dX9_firstAmbiguous_48 : decode cX9_firstAmbiguous 48 = .ok (.ifCond .le 10, 3) := by decide +kernel
theorem dX9_firstAmbiguous_51 : decode cX9_firstAmbiguous 51 = .ok (.aload_n 0, 1) := by decide +kernel
theorem dX9_firstAmbiguous_52 : decode cX9_firstAmbiguous 52 = .ok (.iload_n 2, 1) := by decide +kernel
theorem dX9_firstAmbiguous_53 : decode cX9_firstAmbiguous 53 = .ok (.invokevirtual 163, 3) := by decide +kernel
theorem dX9_firstAmbiguous_56 : decode cX9_firstAmbiguous 56 = .ok (.iload_n 2, 1) := by decide +kernel
theorem dX9_firstAmbiguous_57 : decode cX9_firstAmbiguous 57 = .ok (.ireturn, 1) := by decide +kernel
theorem dX9_firstAmbiguous_58 : decode cX9_firstAmbiguous 58 = .ok (.iinc 3 1, 3) := by decide +kernel
theorem dX9_firstAmbiguous_61 : decode cX9_firstAmbiguous 61 = .ok (.goto (-30), 3) := by decide +kernel
theorem dX9_firstAmbiguous_64 : decode cX9_firstAmbiguous 64 = .ok (.iinc 2 1, 3) := by decide +kernel
theorem dX9_firstAmbiguous_67 : decode cX9_firstAmbiguous 67 = .ok (.goto (-43), 3) := by decide +kernel
theorem dX9_firstAmbiguous_70 : decode cX9_firstAmbiguous 70 = .ok (.aload_n 0, 1) := by decide +kernel
theorem dX9_firstAmbiguous_71 : decode cX9_firstAmbiguous 71 = .ok (.iconst 2, 1) := by decide +kernel
theorem dX9_firstAmbiguous_72 : decode cX9_firstAmbiguous 72 = .ok (.putfield 69, 3) := by decide +kernel
theorem dX9_firstAmbiguous_75 : decode cX9_firstAmbiguous 75 = .ok (.iconst 0, 1) := by decide +kernel
theorem dX9_firstAmbiguous_76 : decode cX9_firstAmbiguous 76 = .ok (.ireturn, 1) := by decide +kernel
theorem dX9_wordRank_0 : decode cX9_wordRank 0 = .ok (.aload_n 0, 1) := by decide +kernel
theorem dX9_wordRank_1 : decode cX9_wordRank 1 = .ok (.iconst 1, 1) := by decide +kernel
theorem dX9_wordRank_2 : decode cX9_wordRank 2 = .ok (.aload_n 0, 1) := by decide +kernel
theorem dX9_wordRank_3 : decode cX9_wordRank 3 = .ok (.getfield 86, 3) := by decide +kernel
theorem dX9_wordRank_6 : decode cX9_wordRank 6 = .ok (.invokestatic 156, 3) := by decide +kernel
theorem dX9_wordRank_9 : decode cX9_wordRank 9 = .ok (.ifCond .ne 7, 3) := by decide +kernel
theorem dX9_wordRank_12 : decode cX9_wordRank 12 = .ok (.iconst 1, 1) := by decide +kernel
theorem dX9_wordRank_13 : decode cX9_wordRank 13 = .ok (.goto 4, 3) := by decide +kernel
theorem dX9_wordRank_16 : decode cX9_wordRank 16 = .ok (.iconst 0, 1) := by decide +kernel
theorem dX9_wordRank_17 : decode cX9_wordRank 17 = .ok (.invokevirtual 79, 3) := by decide +kernel
theorem dX9_wordRank_20 : decode cX9_wordRank 20 = .ok (.ifCond .ne 25, 3) := by decide +kernel
theorem dX9_wordRank_23 : decode cX9_wordRank 23 = .ok (.aload_n 0, 1) := by decide +kernel
theorem dX9_wordRank_24 : decode cX9_wordRank 24 = .ok (.iconst 2, 1) := by decide +kernel
theorem dX9_wordRank_25 : decode cX9_wordRank 25 = .ok (.aload_n 0, 1) := by decide +kernel
theorem dX9_wordRank_26 : decode cX9_wordRank 26 = .ok (.invokevirtual 146, 3) := by decide +kernel
theorem dX9_wordRank_29 : decode cX9_wordRank 29 = .ok (.lconst 0, 1) := by decide +kernel
theorem dX9_wordRank_30 : decode cX9_wordRank 30 = .ok (.lcmp, 1) := by decide +kernel
theorem dX9_wordRank_31 : decode cX9_wordRank 31 = .ok (.ifCond .ne 7, 3) := by decide +kernel
theorem dX9_wordRank_34 : decode cX9_wordRank 34 = .ok (.iconst 1, 1) := by decide +kernel
theorem dX9_wordRank_35 : decode cX9_wordRank 35 = .ok (.goto 4, 3) := by decide +kernel
theorem dX9_wordRank_38 : decode cX9_wordRank 38 = .ok (.iconst 0, 1) := by decide +kernel
theorem dX9_wordRank_39 : decode cX9_wordRank 39 = .ok (.invokevirtual 79, 3) := by decide +kernel
theorem dX9_wordRank_42 : decode cX9_wordRank 42 = .ok (.ifCond .eq 5, 3) := by decide +kernel
theorem dX9_wordRank_45 : decode cX9_wordRank 45 = .ok (.iconst 0, 1) := by decide +kernel
theorem dX9_wordRank_46 : decode cX9_wordRank 46 = .ok (.ireturn, 1) := by decide +kernel
theorem dX9_wordRank_47 : decode cX9_wordRank 47 = .ok (.iconst 0, 1) := by decide +kernel
theorem dX9_wordRank_48 : decode cX9_wordRank 48 = .ok (.istore_n 1, 1) := by decide +kernel
theorem dX9_wordRank_49 : decode cX9_wordRank 49 = .ok (.iconst 0, 1) := by decide +kernel
theorem dX9_wordRank_50 : decode cX9_wordRank 50 = .ok (.istore_n 2, 1) := by decide +kernel
theorem dX9_wordRank_51 : decode cX9_wordRank 51 = .ok (.iload_n 2, 1) := by decide +kernel
theorem dX9_wordRank_52 : decode cX9_wordRank 52 = .ok (.aload_n 0, 1) := by decide +kernel
theorem dX9_wordRank_53 : decode cX9_wordRank 53 = .ok (.getfield 86, 3) := by decide +kernel
theorem dX9_wordRank_56 : decode cX9_wordRank 56 = .ok (.if_icmp .ge 23, 3) := by decide +kernel
theorem dX9_wordRank_59 : decode cX9_wordRank 59 = .ok (.aload_n 0, 1) := by decide +kernel
theorem dX9_wordRank_60 : decode cX9_wordRank 60 = .ok (.getfield 13, 3) := by decide +kernel
theorem dX9_wordRank_63 : decode cX9_wordRank 63 = .ok (.iload_n 1, 1) := by decide +kernel
theorem dX9_wordRank_64 : decode cX9_wordRank 64 = .ok (.imul, 1) := by decide +kernel
theorem dX9_wordRank_65 : decode cX9_wordRank 65 = .ok (.aload_n 0, 1) := by decide +kernel
theorem dX9_wordRank_66 : decode cX9_wordRank 66 = .ok (.getfield 21, 3) := by decide +kernel
theorem dX9_wordRank_69 : decode cX9_wordRank 69 = .ok (.iload_n 2, 1) := by decide +kernel
theorem dX9_wordRank_70 : decode cX9_wordRank 70 = .ok (.iaload, 1) := by decide +kernel
theorem dX9_wordRank_71 : decode cX9_wordRank 71 = .ok (.iadd, 1) := by decide +kernel
theorem dX9_wordRank_72 : decode cX9_wordRank 72 = .ok (.istore_n 1, 1) := by decide +kernel
theorem dX9_wordRank_73 : decode cX9_wordRank 73 = .ok (.iinc 2 1, 3) := by decide +kernel
theorem dX9_wordRank_76 : decode cX9_wordRank 76 = .ok (.goto (-25), 3) := by decide +kernel
theorem dX9_wordRank_79 : decode cX9_wordRank 79 = .ok (.iconst 0, 1) := by decide +kernel
theorem dX9_wordRank_80 : decode cX9_wordRank 80 = .ok (.istore_n 2, 1) := by decide +kernel
theorem dX9_wordRank_81 : decode cX9_wordRank 81 = .ok (.iconst 0, 1) := by decide +kernel
theorem dX9_wordRank_82 : decode cX9_wordRank 82 = .ok (.istore_n 3, 1) := by decide +kernel
theorem dX9_wordRank_83 : decode cX9_wordRank 83 = .ok (.iload_n 3, 1) := by decide +kernel
theorem dX9_wordRank_84 : decode cX9_wordRank 84 = .ok (.iload_n 1, 1) := by decide +kernel
theorem dX9_wordRank_85 : decode cX9_wordRank 85 = .ok (.if_icmp .ge 31, 3) := by decide +kernel
theorem dX9_wordRank_88 : decode cX9_wordRank 88 = .ok (.iload_n 2, 1) := by decide +kernel
theorem dX9_wordRank_89 : decode cX9_wordRank 89 = .ok (.aload_n 0, 1) := by decide +kernel
theorem dX9_wordRank_90 : decode cX9_wordRank 90 = .ok (.iload_n 3, 1) := by decide +kernel
theorem dX9_wordRank_91 : decode cX9_wordRank 91 = .ok (.aload_n 0, 1) := by decide +kernel
theorem dX9_wordRank_92 : decode cX9_wordRank 92 = .ok (.getfield 86, 3) := by decide +kernel
theorem dX9_wordRank_95 : decode cX9_wordRank 95 = .ok (.invokevirtual 153, 3) := by decide +kernel
theorem dX9_wordRank_98 : decode cX9_wordRank 98 = .ok (.lconst 0, 1) := by decide +kernel
theorem dX9_wordRank_99 : decode cX9_wordRank 99 = .ok (.lcmp, 1) := by decide +kernel
theorem dX9_wordRank_100 : decode cX9_wordRank 100 = .ok (.ifCond .le 7, 3) := by decide +kernel
theorem dX9_wordRank_103 : decode cX9_wordRank 103 = .ok (.iconst 1, 1) := by decide +kernel
theorem dX9_wordRank_104 : decode cX9_wordRank 104 = .ok (.goto 4, 3) := by decide +kernel
theorem dX9_wordRank_107 : decode cX9_wordRank 107 = .ok (.iconst 0, 1) := by decide +kernel
theorem dX9_wordRank_108 : decode cX9_wordRank 108 = .ok (.iadd, 1) := by decide +kernel
theorem dX9_wordRank_109 : decode cX9_wordRank 109 = .ok (.istore_n 2, 1) := by decide +kernel
theorem dX9_wordRank_110 : decode cX9_wordRank 110 = .ok (.iinc 3 1, 3) := by decide +kernel
theorem dX9_wordRank_113 : decode cX9_wordRank 113 = .ok (.goto (-30), 3) := by decide +kernel
theorem dX9_wordRank_116 : decode cX9_wordRank 116 = .ok (.iload_n 2, 1) := by decide +kernel
theorem dX9_wordRank_117 : decode cX9_wordRank 117 = .ok (.ireturn, 1) := by decide +kernel
theorem dX9_takeRanked_0 : decode cX9_takeRanked 0 = .ok (.iload_n 2, 1) := by decide +kernel
theorem dX9_takeRanked_1 : decode cX9_takeRanked 1 = .ok (.istore_n 3, 1) := by decide +kernel
theorem dX9_takeRanked_2 : decode cX9_takeRanked 2 = .ok (.iconst 0, 1) := by decide +kernel
theorem dX9_takeRanked_3 : decode cX9_takeRanked 3 = .ok (.istore 4, 2) := by decide +kernel
theorem dX9_takeRanked_5 : decode cX9_takeRanked 5 = .ok (.iload 4, 2) := by decide +kernel
theorem dX9_takeRanked_7 : decode cX9_takeRanked 7 = .ok (.aload_n 0, 1) := by decide +kernel
theorem dX9_takeRanked_8 : decode cX9_takeRanked 8 = .ok (.iload_n 1, 1) := by decide +kernel
theorem dX9_takeRanked_9 : decode cX9_takeRanked 9 = .ok (.invokevirtual 150, 3) := by decide +kernel
theorem dX9_takeRanked_12 : decode cX9_takeRanked 12 = .ok (.if_icmp .ge 35, 3) := by decide +kernel
theorem dX9_takeRanked_15 : decode cX9_takeRanked 15 = .ok (.aload_n 0, 1) := by decide +kernel
theorem dX9_takeRanked_16 : decode cX9_takeRanked 16 = .ok (.iload 4, 2) := by decide +kernel
theorem dX9_takeRanked_18 : decode cX9_takeRanked 18 = .ok (.iload_n 1, 1) := by decide +kernel
theorem dX9_takeRanked_19 : decode cX9_takeRanked 19 = .ok (.invokevirtual 153, 3) := by decide +kernel
theorem dX9_takeRanked_22 : decode cX9_takeRanked 22 = .ok (.lconst 0, 1) := by decide +kernel
theorem dX9_takeRanked_23 : decode cX9_takeRanked 23 = .ok (.lcmp, 1) := by decide +kernel
theorem dX9_takeRanked_24 : decode cX9_takeRanked 24 = .ok (.ifCond .le 17, 3) := by decide +kernel
theorem dX9_takeRanked_27 : decode cX9_takeRanked 27 = .ok (.iload_n 3, 1) := by decide +kernel
theorem dX9_takeRanked_28 : decode cX9_takeRanked 28 = .ok (.ifCond .ne 10, 3) := by decide +kernel
theorem dX9_takeRanked_31 : decode cX9_takeRanked 31 = .ok (.aload_n 0, 1) := by decide +kernel
theorem dX9_takeRanked_32 : decode cX9_takeRanked 32 = .ok (.iload_n 1, 1) := by decide +kernel
theorem dX9_takeRanked_33 : decode cX9_takeRanked 33 = .ok (.invokevirtual 163, 3) := by decide +kernel
theorem dX9_takeRanked_36 : decode cX9_takeRanked 36 = .ok (.iconst 1, 1) := by decide +kernel
theorem dX9_takeRanked_37 : decode cX9_takeRanked 37 = .ok (.ireturn, 1) := by decide +kernel
theorem dX9_takeRanked_38 : decode cX9_takeRanked 38 = .ok (.iinc 3 (-1), 3) := by decide +kernel
theorem dX9_takeRanked_41 : decode cX9_takeRanked 41 = .ok (.iinc 4 1, 3) := by decide +kernel
theorem dX9_takeRanked_44 : decode cX9_takeRanked 44 = .ok (.goto (-39), 3) := by decide +kernel
theorem dX9_takeRanked_47 : decode cX9_takeRanked 47 = .ok (.iconst 0, 1) := by decide +kernel
theorem dX9_takeRanked_48 : decode cX9_takeRanked 48 = .ok (.ireturn, 1) := by decide +kernel
theorem dX9_takeWord_0 : decode cX9_takeWord 0 = .ok (.aload_n 0, 1) := by decide +kernel
theorem dX9_takeWord_1 : decode cX9_takeWord 1 = .ok (.iconst 1, 1) := by decide +kernel
theorem dX9_takeWord_2 : decode cX9_takeWord 2 = .ok (.iload_n 1, 1) := by decide +kernel
theorem dX9_takeWord_3 : decode cX9_takeWord 3 = .ok (.invokestatic 156, 3) := by decide +kernel
theorem dX9_takeWord_6 : decode cX9_takeWord 6 = .ok (.ifCond .eq 7, 3) := by decide +kernel
theorem dX9_takeWord_9 : decode cX9_takeWord 9 = .ok (.iload_n 2, 1) := by decide +kernel
theorem dX9_takeWord_10 : decode cX9_takeWord 10 = .ok (.ifCond .ge 7, 3) := by decide +kernel
theorem dX9_takeWord_13 : decode cX9_takeWord 13 = .ok (.iconst 1, 1) := by decide +kernel
theorem dX9_takeWord_14 : decode cX9_takeWord 14 = .ok (.goto 4, 3) := by decide +kernel
theorem dX9_takeWord_17 : decode cX9_takeWord 17 = .ok (.iconst 0, 1) := by decide +kernel
theorem dX9_takeWord_18 : decode cX9_takeWord 18 = .ok (.invokevirtual 79, 3) := by decide +kernel
theorem dX9_takeWord_21 : decode cX9_takeWord 21 = .ok (.ifCond .eq 4, 3) := by decide +kernel
theorem dX9_takeWord_24 : decode cX9_takeWord 24 = .ok (.return_, 1) := by decide +kernel
theorem dX9_takeWord_25 : decode cX9_takeWord 25 = .ok (.aload_n 0, 1) := by decide +kernel
theorem dX9_takeWord_26 : decode cX9_takeWord 26 = .ok (.iconst 2, 1) := by decide +kernel
theorem dX9_takeWord_27 : decode cX9_takeWord 27 = .ok (.aload_n 0, 1) := by decide +kernel
theorem dX9_takeWord_28 : decode cX9_takeWord 28 = .ok (.iload_n 1, 1) := by decide +kernel
theorem dX9_takeWord_29 : decode cX9_takeWord 29 = .ok (.iload_n 2, 1) := by decide +kernel
theorem dX9_takeWord_30 : decode cX9_takeWord 30 = .ok (.invokevirtual 166, 3) := by decide +kernel
theorem dX9_takeWord_33 : decode cX9_takeWord 33 = .ok (.ifCond .ne 7, 3) := by decide +kernel
theorem dX9_takeWord_36 : decode cX9_takeWord 36 = .ok (.iconst 1, 1) := by decide +kernel
theorem dX9_takeWord_37 : decode cX9_takeWord 37 = .ok (.goto 4, 3) := by decide +kernel
theorem dX9_takeWord_40 : decode cX9_takeWord 40 = .ok (.iconst 0, 1) := by decide +kernel
theorem dX9_takeWord_41 : decode cX9_takeWord 41 = .ok (.invokevirtual 79, 3) := by decide +kernel
theorem dX9_takeWord_44 : decode cX9_takeWord 44 = .ok (.pop, 1) := by decide +kernel
theorem dX9_takeWord_45 : decode cX9_takeWord 45 = .ok (.return_, 1) := by decide +kernel
theorem dX9_drawn_0 : decode cX9_drawn 0 = .ok (.lload_n 0, 1) := by decide +kernel
theorem dX9_drawn_1 : decode cX9_drawn 1 = .ok (.ldc2_w 170, 3) := by decide +kernel
theorem dX9_drawn_4 : decode cX9_drawn 4 = .ok (.lmul, 1) := by decide +kernel
theorem dX9_drawn_5 : decode cX9_drawn 5 = .ok (.ldc2_w 172, 3) := by decide +kernel
theorem dX9_drawn_8 : decode cX9_drawn 8 = .ok (.ladd, 1) := by decide +kernel
theorem dX9_drawn_9 : decode cX9_drawn 9 = .ok (.lstore 4, 2) := by decide +kernel
theorem dX9_drawn_11 : decode cX9_drawn 11 = .ok (.lload 4, 2) := by decide +kernel
theorem dX9_drawn_13 : decode cX9_drawn 13 = .ok (.iconst 1, 1) := by decide +kernel
theorem dX9_drawn_14 : decode cX9_drawn 14 = .ok (.lushr, 1) := by decide +kernel
theorem dX9_drawn_15 : decode cX9_drawn 15 = .ok (.lload_n 2, 1) := by decide +kernel
theorem dX9_drawn_16 : decode cX9_drawn 16 = .ok (.lrem, 1) := by decide +kernel
theorem dX9_drawn_17 : decode cX9_drawn 17 = .ok (.lreturn, 1) := by decide +kernel
theorem dX9_drawWord_0 : decode cX9_drawWord 0 = .ok (.aload_n 0, 1) := by decide +kernel
theorem dX9_drawWord_1 : decode cX9_drawWord 1 = .ok (.iconst 1, 1) := by decide +kernel
theorem dX9_drawWord_2 : decode cX9_drawWord 2 = .ok (.iload_n 3, 1) := by decide +kernel
theorem dX9_drawWord_3 : decode cX9_drawWord 3 = .ok (.invokestatic 156, 3) := by decide +kernel
theorem dX9_drawWord_6 : decode cX9_drawWord 6 = .ok (.ifCond .ne 7, 3) := by decide +kernel
theorem dX9_drawWord_9 : decode cX9_drawWord 9 = .ok (.iconst 1, 1) := by decide +kernel
theorem dX9_drawWord_10 : decode cX9_drawWord 10 = .ok (.goto 4, 3) := by decide +kernel
theorem dX9_drawWord_13 : decode cX9_drawWord 13 = .ok (.iconst 0, 1) := by decide +kernel
theorem dX9_drawWord_14 : decode cX9_drawWord 14 = .ok (.invokevirtual 79, 3) := by decide +kernel
theorem dX9_drawWord_17 : decode cX9_drawWord 17 = .ok (.ifCond .eq 5, 3) := by decide +kernel
theorem dX9_drawWord_20 : decode cX9_drawWord 20 = .ok (.iconst 0, 1) := by decide +kernel
theorem dX9_drawWord_21 : decode cX9_drawWord 21 = .ok (.ireturn, 1) := by decide +kernel
theorem dX9_drawWord_22 : decode cX9_drawWord 22 = .ok (.aload_n 0, 1) := by decide +kernel
theorem dX9_drawWord_23 : decode cX9_drawWord 23 = .ok (.iload_n 3, 1) := by decide +kernel
theorem dX9_drawWord_24 : decode cX9_drawWord 24 = .ok (.iconst 3, 1) := by decide +kernel
theorem dX9_drawWord_25 : decode cX9_drawWord 25 = .ok (.invokevirtual 159, 3) := by decide +kernel
theorem dX9_drawWord_28 : decode cX9_drawWord 28 = .ok (.istore 4, 2) := by decide +kernel
theorem dX9_drawWord_30 : decode cX9_drawWord 30 = .ok (.aload_n 0, 1) := by decide +kernel
theorem dX9_drawWord_31 : decode cX9_drawWord 31 = .ok (.iconst 2, 1) := by decide +kernel
theorem dX9_drawWord_32 : decode cX9_drawWord 32 = .ok (.iload 4, 2) := by decide +kernel
theorem dX9_drawWord_34 : decode cX9_drawWord 34 = .ok (.ifCond .ne 7, 3) := by decide +kernel
theorem dX9_drawWord_37 : decode cX9_drawWord 37 = .ok (.iconst 1, 1) := by decide +kernel
theorem dX9_drawWord_38 : decode cX9_drawWord 38 = .ok (.goto 4, 3) := by decide +kernel
theorem dX9_drawWord_41 : decode cX9_drawWord 41 = .ok (.iconst 0, 1) := by decide +kernel
theorem dX9_drawWord_42 : decode cX9_drawWord 42 = .ok (.invokevirtual 79, 3) := by decide +kernel
theorem dX9_drawWord_45 : decode cX9_drawWord 45 = .ok (.ifCond .eq 5, 3) := by decide +kernel
theorem dX9_drawWord_48 : decode cX9_drawWord 48 = .ok (.iconst 0, 1) := by decide +kernel
theorem dX9_drawWord_49 : decode cX9_drawWord 49 = .ok (.ireturn, 1) := by decide +kernel
theorem dX9_drawWord_50 : decode cX9_drawWord 50 = .ok (.lload_n 1, 1) := by decide +kernel
theorem dX9_drawWord_51 : decode cX9_drawWord 51 = .ok (.iload 4, 2) := by decide +kernel
theorem dX9_drawWord_53 : decode cX9_drawWord 53 = .ok (.i2l, 1) := by decide +kernel
theorem dX9_drawWord_54 : decode cX9_drawWord 54 = .ok (.invokestatic 174, 3) := by decide +kernel
theorem dX9_drawWord_57 : decode cX9_drawWord 57 = .ok (.l2i, 1) := by decide +kernel
theorem dX9_drawWord_58 : decode cX9_drawWord 58 = .ok (.istore 5, 2) := by decide +kernel
theorem dX9_drawWord_60 : decode cX9_drawWord 60 = .ok (.aload_n 0, 1) := by decide +kernel
theorem dX9_drawWord_61 : decode cX9_drawWord 61 = .ok (.iload_n 3, 1) := by decide +kernel
theorem dX9_drawWord_62 : decode cX9_drawWord 62 = .ok (.iload 5, 2) := by decide +kernel
theorem dX9_drawWord_64 : decode cX9_drawWord 64 = .ok (.invokevirtual 166, 3) := by decide +kernel
theorem dX9_drawWord_67 : decode cX9_drawWord 67 = .ok (.pop, 1) := by decide +kernel
theorem dX9_drawWord_68 : decode cX9_drawWord 68 = .ok (.iload 5, 2) := by decide +kernel
theorem dX9_drawWord_70 : decode cX9_drawWord 70 = .ok (.ireturn, 1) := by decide +kernel
theorem dX9_treesOf_0 : decode cX9_treesOf 0 = .ok (.aload_n 0, 1) := by decide +kernel
theorem dX9_treesOf_1 : decode cX9_treesOf 1 = .ok (.getfield 178, 3) := by decide +kernel
theorem dX9_treesOf_4 : decode cX9_treesOf 4 = .ok (.ifCond .eq 13, 3) := by decide +kernel
theorem dX9_treesOf_7 : decode cX9_treesOf 7 = .ok (.aload_n 0, 1) := by decide +kernel
theorem dX9_treesOf_8 : decode cX9_treesOf 8 = .ok (.iload_n 1, 1) := by decide +kernel
theorem dX9_treesOf_9 : decode cX9_treesOf 9 = .ok (.iload_n 2, 1) := by decide +kernel
theorem dX9_treesOf_10 : decode cX9_treesOf 10 = .ok (.iload_n 3, 1) := by decide +kernel
theorem dX9_treesOf_11 : decode cX9_treesOf 11 = .ok (.invokevirtual 131, 3) := by decide +kernel
theorem dX9_treesOf_14 : decode cX9_treesOf 14 = .ok (.goto 9, 3) := by decide +kernel
theorem dX9_treesOf_17 : decode cX9_treesOf 17 = .ok (.aload_n 0, 1) := by decide +kernel
theorem dX9_treesOf_18 : decode cX9_treesOf 18 = .ok (.iload_n 1, 1) := by decide +kernel
theorem dX9_treesOf_19 : decode cX9_treesOf 19 = .ok (.iload_n 3, 1) := by decide +kernel
theorem dX9_treesOf_20 : decode cX9_treesOf 20 = .ok (.invokevirtual 124, 3) := by decide +kernel
theorem dX9_treesOf_23 : decode cX9_treesOf 23 = .ok (.lreturn, 1) := by decide +kernel
theorem dX9_productOf_0 : decode cX9_productOf 0 = .ok (.aload_n 0, 1) := by decide +kernel
theorem dX9_productOf_1 : decode cX9_productOf 1 = .ok (.aload_n 0, 1) := by decide +kernel
theorem dX9_productOf_2 : decode cX9_productOf 2 = .ok (.getfield 18, 3) := by decide +kernel
theorem dX9_productOf_5 : decode cX9_productOf 5 = .ok (.iload_n 1, 1) := by decide +kernel
theorem dX9_productOf_6 : decode cX9_productOf 6 = .ok (.aaload, 1) := by decide +kernel
theorem dX9_productOf_7 : decode cX9_productOf 7 = .ok (.iconst 1, 1) := by decide +kernel
theorem dX9_productOf_8 : decode cX9_productOf 8 = .ok (.iaload, 1) := by decide +kernel
theorem dX9_productOf_9 : decode cX9_productOf 9 = .ok (.iload_n 2, 1) := by decide +kernel
theorem dX9_productOf_10 : decode cX9_productOf 10 = .ok (.iload_n 3, 1) := by decide +kernel
theorem dX9_productOf_11 : decode cX9_productOf 11 = .ok (.invokevirtual 182, 3) := by decide +kernel
theorem dX9_productOf_14 : decode cX9_productOf 14 = .ok (.lstore 6, 2) := by decide +kernel
theorem dX9_productOf_16 : decode cX9_productOf 16 = .ok (.lload 6, 2) := by decide +kernel
theorem dX9_productOf_18 : decode cX9_productOf 18 = .ok (.lconst 0, 1) := by decide +kernel
theorem dX9_productOf_19 : decode cX9_productOf 19 = .ok (.lcmp, 1) := by decide +kernel
theorem dX9_productOf_20 : decode cX9_productOf 20 = .ok (.ifCond .ne 7, 3) := by decide +kernel
theorem dX9_productOf_23 : decode cX9_productOf 23 = .ok (.lconst 0, 1) := by decide +kernel
theorem dX9_productOf_24 : decode cX9_productOf 24 = .ok (.goto 23, 3) := by decide +kernel
theorem dX9_productOf_27 : decode cX9_productOf 27 = .ok (.lload 6, 2) := by decide +kernel
theorem dX9_productOf_29 : decode cX9_productOf 29 = .ok (.aload_n 0, 1) := by decide +kernel
theorem dX9_productOf_30 : decode cX9_productOf 30 = .ok (.aload_n 0, 1) := by decide +kernel
theorem dX9_productOf_31 : decode cX9_productOf 31 = .ok (.getfield 18, 3) := by decide +kernel
theorem dX9_productOf_34 : decode cX9_productOf 34 = .ok (.iload_n 1, 1) := by decide +kernel
theorem dX9_productOf_35 : decode cX9_productOf 35 = .ok (.aaload, 1) := by decide +kernel
theorem dX9_productOf_36 : decode cX9_productOf 36 = .ok (.iconst 2, 1) := by decide +kernel
theorem dX9_productOf_37 : decode cX9_productOf 37 = .ok (.iaload, 1) := by decide +kernel
theorem dX9_productOf_38 : decode cX9_productOf 38 = .ok (.iload_n 2, 1) := by decide +kernel
theorem dX9_productOf_39 : decode cX9_productOf 39 = .ok (.iload_n 3, 1) := by decide +kernel
theorem dX9_productOf_40 : decode cX9_productOf 40 = .ok (.iadd, 1) := by decide +kernel
theorem dX9_productOf_41 : decode cX9_productOf 41 = .ok (.iload 4, 2) := by decide +kernel
theorem dX9_productOf_43 : decode cX9_productOf 43 = .ok (.invokevirtual 182, 3) := by decide +kernel
theorem dX9_productOf_46 : decode cX9_productOf 46 = .ok (.lmul, 1) := by decide +kernel
theorem dX9_productOf_47 : decode cX9_productOf 47 = .ok (.lstore 6, 2) := by decide +kernel
theorem dX9_productOf_49 : decode cX9_productOf 49 = .ok (.lload 6, 2) := by decide +kernel
theorem dX9_productOf_51 : decode cX9_productOf 51 = .ok (.lconst 0, 1) := by decide +kernel
theorem dX9_productOf_52 : decode cX9_productOf 52 = .ok (.lcmp, 1) := by decide +kernel
theorem dX9_productOf_53 : decode cX9_productOf 53 = .ok (.ifCond .ne 7, 3) := by decide +kernel
theorem dX9_productOf_56 : decode cX9_productOf 56 = .ok (.lconst 0, 1) := by decide +kernel
theorem dX9_productOf_57 : decode cX9_productOf 57 = .ok (.goto 26, 3) := by decide +kernel
theorem dX9_productOf_60 : decode cX9_productOf 60 = .ok (.lload 6, 2) := by decide +kernel
theorem dX9_productOf_62 : decode cX9_productOf 62 = .ok (.aload_n 0, 1) := by decide +kernel
theorem dX9_productOf_63 : decode cX9_productOf 63 = .ok (.aload_n 0, 1) := by decide +kernel
theorem dX9_productOf_64 : decode cX9_productOf 64 = .ok (.getfield 18, 3) := by decide +kernel
theorem dX9_productOf_67 : decode cX9_productOf 67 = .ok (.iload_n 1, 1) := by decide +kernel
theorem dX9_productOf_68 : decode cX9_productOf 68 = .ok (.aaload, 1) := by decide +kernel
theorem dX9_productOf_69 : decode cX9_productOf 69 = .ok (.iconst 3, 1) := by decide +kernel
theorem dX9_productOf_70 : decode cX9_productOf 70 = .ok (.iaload, 1) := by decide +kernel
theorem dX9_productOf_71 : decode cX9_productOf 71 = .ok (.iload_n 2, 1) := by decide +kernel
theorem dX9_productOf_72 : decode cX9_productOf 72 = .ok (.iload_n 3, 1) := by decide +kernel
theorem dX9_productOf_73 : decode cX9_productOf 73 = .ok (.iadd, 1) := by decide +kernel
theorem dX9_productOf_74 : decode cX9_productOf 74 = .ok (.iload 4, 2) := by decide +kernel
theorem dX9_productOf_76 : decode cX9_productOf 76 = .ok (.iadd, 1) := by decide +kernel
theorem dX9_productOf_77 : decode cX9_productOf 77 = .ok (.iload 5, 2) := by decide +kernel
theorem dX9_productOf_79 : decode cX9_productOf 79 = .ok (.invokevirtual 182, 3) := by decide +kernel
theorem dX9_productOf_82 : decode cX9_productOf 82 = .ok (.lmul, 1) := by decide +kernel
theorem dX9_productOf_83 : decode cX9_productOf 83 = .ok (.lreturn, 1) := by decide +kernel
theorem dX9_build_0 : decode cX9_build 0 = .ok (.iload_n 1, 1) := by decide +kernel
theorem dX9_build_1 : decode cX9_build 1 = .ok (.bipush 10, 2) := by decide +kernel
theorem dX9_build_3 : decode cX9_build 3 = .ok (.if_icmp .lt 14, 3) := by decide +kernel
theorem dX9_build_6 : decode cX9_build 6 = .ok (.aload_n 0, 1) := by decide +kernel
theorem dX9_build_7 : decode cX9_build 7 = .ok (.getfield 37, 3) := by decide +kernel
theorem dX9_build_10 : decode cX9_build 10 = .ok (.iload_n 2, 1) := by decide +kernel
theorem dX9_build_11 : decode cX9_build 11 = .ok (.iload_n 1, 1) := by decide +kernel
theorem dX9_build_12 : decode cX9_build 12 = .ok (.bipush 10, 2) := by decide +kernel
theorem dX9_build_14 : decode cX9_build 14 = .ok (.isub, 1) := by decide +kernel
theorem dX9_build_15 : decode cX9_build 15 = .ok (.iastore, 1) := by decide +kernel
theorem dX9_build_16 : decode cX9_build 16 = .ok (.return_, 1) := by decide +kernel
theorem dX9_build_17 : decode cX9_build 17 = .ok (.iload_n 1, 1) := by decide +kernel
theorem dX9_build_18 : decode cX9_build 18 = .ok (.ifCond .ge 4, 3) := by decide +kernel
theorem dX9_build_21 : decode cX9_build 21 = .ok (.return_, 1) := by decide +kernel
theorem dX9_build_22 : decode cX9_build 22 = .ok (.lload 4, 2) := by decide +kernel
theorem dX9_build_24 : decode cX9_build 24 = .ok (.lstore 6, 2) := by decide +kernel
theorem dX9_build_26 : decode cX9_build 26 = .ok (.iconst 0, 1) := by decide +kernel
theorem dX9_build_27 : decode cX9_build 27 = .ok (.istore 8, 2) := by decide +kernel
theorem dX9_build_29 : decode cX9_build 29 = .ok (.iload 8, 2) := by decide +kernel
theorem dX9_build_31 : decode cX9_build 31 = .ok (.aload_n 0, 1) := by decide +kernel
theorem dX9_build_32 : decode cX9_build 32 = .ok (.getfield 76, 3) := by decide +kernel
theorem dX9_build_35 : decode cX9_build 35 = .ok (.if_icmp .ge 123, 3) := by decide +kernel
theorem dX9_build_38 : decode cX9_build 38 = .ok (.iconst 0, 1) := by decide +kernel
theorem dX9_build_39 : decode cX9_build 39 = .ok (.istore 9, 2) := by decide +kernel
theorem dX9_build_41 : decode cX9_build 41 = .ok (.iload 9, 2) := by decide +kernel
theorem dX9_build_43 : decode cX9_build 43 = .ok (.iload_n 3, 1) := by decide +kernel
theorem dX9_build_44 : decode cX9_build 44 = .ok (.iconst 1, 1) := by decide +kernel
theorem dX9_build_45 : decode cX9_build 45 = .ok (.iadd, 1) := by decide +kernel
theorem dX9_build_46 : decode cX9_build 46 = .ok (.iload_n 3, 1) := by decide +kernel
theorem dX9_build_47 : decode cX9_build 47 = .ok (.iconst 1, 1) := by decide +kernel
theorem dX9_build_48 : decode cX9_build 48 = .ok (.iadd, 1) := by decide +kernel
theorem dX9_build_49 : decode cX9_build 49 = .ok (.imul, 1) := by decide +kernel
theorem dX9_build_50 : decode cX9_build 50 = .ok (.if_icmp .ge 102, 3) := by decide +kernel
theorem dX9_build_53 : decode cX9_build 53 = .ok (.aload_n 0, 1) := by decide +kernel
theorem dX9_build_54 : decode cX9_build 54 = .ok (.getfield 18, 3) := by decide +kernel
theorem dX9_build_57 : decode cX9_build 57 = .ok (.iload 8, 2) := by decide +kernel
theorem dX9_build_59 : decode cX9_build 59 = .ok (.aaload, 1) := by decide +kernel
theorem dX9_build_60 : decode cX9_build 60 = .ok (.iconst 0, 1) := by decide +kernel
theorem dX9_build_61 : decode cX9_build 61 = .ok (.iaload, 1) := by decide +kernel
theorem dX9_build_62 : decode cX9_build 62 = .ok (.iload_n 1, 1) := by decide +kernel
theorem dX9_build_63 : decode cX9_build 63 = .ok (.if_icmp .ne 89, 3) := by decide +kernel
theorem dX9_build_66 : decode cX9_build 66 = .ok (.iload 9, 2) := by decide +kernel
theorem dX9_build_68 : decode cX9_build 68 = .ok (.iload_n 3, 1) := by decide +kernel
theorem dX9_build_69 : decode cX9_build 69 = .ok (.iconst 1, 1) := by decide +kernel
theorem dX9_build_70 : decode cX9_build 70 = .ok (.iadd, 1) := by decide +kernel
theorem dX9_build_71 : decode cX9_build 71 = .ok (.idiv, 1) := by decide +kernel
theorem dX9_build_72 : decode cX9_build 72 = .ok (.istore 10, 2) := by decide +kernel
theorem dX9_build_74 : decode cX9_build 74 = .ok (.iload 9, 2) := by decide +kernel
theorem dX9_build_76 : decode cX9_build 76 = .ok (.iload_n 3, 1) := by decide +kernel
theorem dX9_build_77 : decode cX9_build 77 = .ok (.iconst 1, 1) := by decide +kernel
theorem dX9_build_78 : decode cX9_build 78 = .ok (.iadd, 1) := by decide +kernel
theorem dX9_build_79 : decode cX9_build 79 = .ok (.irem, 1) := by decide +kernel
theorem dX9_build_80 : decode cX9_build 80 = .ok (.istore 11, 2) := by decide +kernel
theorem dX9_build_82 : decode cX9_build 82 = .ok (.iload_n 3, 1) := by decide +kernel
theorem dX9_build_83 : decode cX9_build 83 = .ok (.iload 10, 2) := by decide +kernel
theorem dX9_build_85 : decode cX9_build 85 = .ok (.isub, 1) := by decide +kernel
theorem dX9_build_86 : decode cX9_build 86 = .ok (.iload 11, 2) := by decide +kernel
theorem dX9_build_88 : decode cX9_build 88 = .ok (.isub, 1) := by decide +kernel
theorem dX9_build_89 : decode cX9_build 89 = .ok (.istore 12, 2) := by decide +kernel
theorem dX9_build_91 : decode cX9_build 91 = .ok (.iload 12, 2) := by decide +kernel
theorem dX9_build_93 : decode cX9_build 93 = .ok (.ifCond .lt 19, 3) := by decide +kernel
theorem dX9_build_96 : decode cX9_build 96 = .ok (.aload_n 0, 1) := by decide +kernel
theorem dX9_build_97 : decode cX9_build 97 = .ok (.iload 8, 2) := by decide +kernel
theorem dX9_build_99 : decode cX9_build 99 = .ok (.iload_n 2, 1) := by decide +kernel
theorem dX9_build_100 : decode cX9_build 100 = .ok (.iload 10, 2) := by decide +kernel
theorem dX9_build_102 : decode cX9_build 102 = .ok (.iload 11, 2) := by decide +kernel
theorem dX9_build_104 : decode cX9_build 104 = .ok (.iload 12, 2) := by decide +kernel
theorem dX9_build_106 : decode cX9_build 106 = .ok (.invokevirtual 185, 3) := by decide +kernel
theorem dX9_build_109 : decode cX9_build 109 = .ok (.goto 4, 3) := by decide +kernel
theorem dX9_build_112 : decode cX9_build 112 = .ok (.lconst 0, 1) := by decide +kernel
theorem dX9_build_113 : decode cX9_build 113 = .ok (.lstore 13, 2) := by decide +kernel
theorem dX9_build_115 : decode cX9_build 115 = .ok (.lload 6, 2) := by decide +kernel
theorem dX9_build_117 : decode cX9_build 117 = .ok (.lload 13, 2) := by decide +kernel
theorem dX9_build_119 : decode cX9_build 119 = .ok (.lcmp, 1) := by decide +kernel
theorem dX9_build_120 : decode cX9_build 120 = .ok (.ifCond .ge 19, 3) := by decide +kernel
theorem dX9_build_123 : decode cX9_build 123 = .ok (.aload_n 0, 1) := by decide +kernel
theorem dX9_build_124 : decode cX9_build 124 = .ok (.iload 8, 2) := by decide +kernel
theorem dX9_build_126 : decode cX9_build 126 = .ok (.iload_n 2, 1) := by decide +kernel
theorem dX9_build_127 : decode cX9_build 127 = .ok (.iload 10, 2) := by decide +kernel
theorem dX9_build_129 : decode cX9_build 129 = .ok (.iload 11, 2) := by decide +kernel
theorem dX9_build_131 : decode cX9_build 131 = .ok (.iload 12, 2) := by decide +kernel
theorem dX9_build_133 : decode cX9_build 133 = .ok (.lload 6, 2) := by decide +kernel
theorem dX9_build_135 : decode cX9_build 135 = .ok (.invokevirtual 188, 3) := by decide +kernel
theorem dX9_build_138 : decode cX9_build 138 = .ok (.return_, 1) := by decide +kernel
theorem dX9_build_139 : decode cX9_build 139 = .ok (.lload 6, 2) := by decide +kernel
theorem dX9_build_141 : decode cX9_build 141 = .ok (.lload 13, 2) := by decide +kernel
theorem dX9_build_143 : decode cX9_build 143 = .ok (.lsub, 1) := by decide +kernel
theorem dX9_build_144 : decode cX9_build 144 = .ok (.lstore 6, 2) := by decide +kernel
theorem dX9_build_146 : decode cX9_build 146 = .ok (.iinc 9 1, 3) := by decide +kernel
theorem dX9_build_149 : decode cX9_build 149 = .ok (.goto (-108), 3) := by decide +kernel
theorem dX9_build_152 : decode cX9_build 152 = .ok (.iinc 8 1, 3) := by decide +kernel
theorem dX9_build_155 : decode cX9_build 155 = .ok (.goto (-126), 3) := by decide +kernel
theorem dX9_build_158 : decode cX9_build 158 = .ok (.return_, 1) := by decide +kernel
theorem dX9_buildNode_0 : decode cX9_buildNode 0 = .ok (.aload_n 0, 1) := by decide +kernel
theorem dX9_buildNode_1 : decode cX9_buildNode 1 = .ok (.getfield 45, 3) := by decide +kernel
theorem dX9_buildNode_4 : decode cX9_buildNode 4 = .ok (.aload_n 0, 1) := by decide +kernel
theorem dX9_buildNode_5 : decode cX9_buildNode 5 = .ok (.getfield 89, 3) := by decide +kernel
theorem dX9_buildNode_8 : decode cX9_buildNode 8 = .ok (.iload_n 1, 1) := by decide +kernel
theorem dX9_buildNode_9 : decode cX9_buildNode 9 = .ok (.iastore, 1) := by decide +kernel
theorem dX9_buildNode_10 : decode cX9_buildNode 10 = .ok (.aload_n 0, 1) := by decide +kernel
theorem dX9_buildNode_11 : decode cX9_buildNode 11 = .ok (.getfield 48, 3) := by decide +kernel
theorem dX9_buildNode_14 : decode cX9_buildNode 14 = .ok (.aload_n 0, 1) := by decide +kernel
theorem dX9_buildNode_15 : decode cX9_buildNode 15 = .ok (.getfield 89, 3) := by decide +kernel
theorem dX9_buildNode_18 : decode cX9_buildNode 18 = .ok (.iload_n 2, 1) := by decide +kernel
theorem dX9_buildNode_19 : decode cX9_buildNode 19 = .ok (.iastore, 1) := by decide +kernel
theorem dX9_buildNode_20 : decode cX9_buildNode 20 = .ok (.aload_n 0, 1) := by decide +kernel
theorem dX9_buildNode_21 : decode cX9_buildNode 21 = .ok (.getfield 51, 3) := by decide +kernel
theorem dX9_buildNode_24 : decode cX9_buildNode 24 = .ok (.aload_n 0, 1) := by decide +kernel
theorem dX9_buildNode_25 : decode cX9_buildNode 25 = .ok (.getfield 89, 3) := by decide +kernel
theorem dX9_buildNode_28 : decode cX9_buildNode 28 = .ok (.iload_n 3, 1) := by decide +kernel
theorem dX9_buildNode_29 : decode cX9_buildNode 29 = .ok (.iload 4, 2) := by decide +kernel
theorem dX9_buildNode_31 : decode cX9_buildNode 31 = .ok (.iadd, 1) := by decide +kernel
theorem dX9_buildNode_32 : decode cX9_buildNode 32 = .ok (.iload 5, 2) := by decide +kernel
theorem dX9_buildNode_34 : decode cX9_buildNode 34 = .ok (.iadd, 1) := by decide +kernel
theorem dX9_buildNode_35 : decode cX9_buildNode 35 = .ok (.iastore, 1) := by decide +kernel
theorem dX9_buildNode_36 : decode cX9_buildNode 36 = .ok (.aload_n 0, 1) := by decide +kernel
theorem dX9_buildNode_37 : decode cX9_buildNode 37 = .ok (.dup, 1) := by decide +kernel
theorem dX9_buildNode_38 : decode cX9_buildNode 38 = .ok (.getfield 89, 3) := by decide +kernel
theorem dX9_buildNode_41 : decode cX9_buildNode 41 = .ok (.iconst 1, 1) := by decide +kernel
theorem dX9_buildNode_42 : decode cX9_buildNode 42 = .ok (.iadd, 1) := by decide +kernel
theorem dX9_buildNode_43 : decode cX9_buildNode 43 = .ok (.putfield 89, 3) := by decide +kernel
theorem dX9_buildNode_46 : decode cX9_buildNode 46 = .ok (.aload_n 0, 1) := by decide +kernel
theorem dX9_buildNode_47 : decode cX9_buildNode 47 = .ok (.aload_n 0, 1) := by decide +kernel
theorem dX9_buildNode_48 : decode cX9_buildNode 48 = .ok (.getfield 18, 3) := by decide +kernel
theorem dX9_buildNode_51 : decode cX9_buildNode 51 = .ok (.iload_n 1, 1) := by decide +kernel
theorem dX9_buildNode_52 : decode cX9_buildNode 52 = .ok (.aaload, 1) := by decide +kernel
theorem dX9_buildNode_53 : decode cX9_buildNode 53 = .ok (.iconst 3, 1) := by decide +kernel
theorem dX9_buildNode_54 : decode cX9_buildNode 54 = .ok (.iaload, 1) := by decide +kernel
theorem dX9_buildNode_55 : decode cX9_buildNode 55 = .ok (.iload_n 2, 1) := by decide +kernel
theorem dX9_buildNode_56 : decode cX9_buildNode 56 = .ok (.iload_n 3, 1) := by decide +kernel
theorem dX9_buildNode_57 : decode cX9_buildNode 57 = .ok (.iadd, 1) := by decide +kernel
theorem dX9_buildNode_58 : decode cX9_buildNode 58 = .ok (.iload 4, 2) := by decide +kernel
theorem dX9_buildNode_60 : decode cX9_buildNode 60 = .ok (.iadd, 1) := by decide +kernel
theorem dX9_buildNode_61 : decode cX9_buildNode 61 = .ok (.iload 5, 2) := by decide +kernel
theorem dX9_buildNode_63 : decode cX9_buildNode 63 = .ok (.invokevirtual 182, 3) := by decide +kernel
theorem dX9_buildNode_66 : decode cX9_buildNode 66 = .ok (.lstore 8, 2) := by decide +kernel
theorem dX9_buildNode_68 : decode cX9_buildNode 68 = .ok (.lload 8, 2) := by decide +kernel
theorem dX9_buildNode_70 : decode cX9_buildNode 70 = .ok (.aload_n 0, 1) := by decide +kernel
theorem dX9_buildNode_71 : decode cX9_buildNode 71 = .ok (.aload_n 0, 1) := by decide +kernel
theorem dX9_buildNode_72 : decode cX9_buildNode 72 = .ok (.getfield 18, 3) := by decide +kernel
theorem dX9_buildNode_75 : decode cX9_buildNode 75 = .ok (.iload_n 1, 1) := by decide +kernel
theorem dX9_buildNode_76 : decode cX9_buildNode 76 = .ok (.aaload, 1) := by decide +kernel
theorem dX9_buildNode_77 : decode cX9_buildNode 77 = .ok (.iconst 2, 1) := by decide +kernel
theorem dX9_buildNode_78 : decode cX9_buildNode 78 = .ok (.iaload, 1) := by decide +kernel
theorem dX9_buildNode_79 : decode cX9_buildNode 79 = .ok (.iload_n 2, 1) := by decide +kernel
theorem dX9_buildNode_80 : decode cX9_buildNode 80 = .ok (.iload_n 3, 1) := by decide +kernel
theorem dX9_buildNode_81 : decode cX9_buildNode 81 = .ok (.iadd, 1) := by decide +kernel
theorem dX9_buildNode_82 : decode cX9_buildNode 82 = .ok (.iload 4, 2) := by decide +kernel
theorem dX9_buildNode_84 : decode cX9_buildNode 84 = .ok (.invokevirtual 182, 3) := by decide +kernel
theorem dX9_buildNode_87 : decode cX9_buildNode 87 = .ok (.lmul, 1) := by decide +kernel
theorem dX9_buildNode_88 : decode cX9_buildNode 88 = .ok (.lstore 10, 2) := by decide +kernel
theorem dX9_buildNode_90 : decode cX9_buildNode 90 = .ok (.aload_n 0, 1) := by decide +kernel
theorem dX9_buildNode_91 : decode cX9_buildNode 91 = .ok (.aload_n 0, 1) := by decide +kernel
theorem dX9_buildNode_92 : decode cX9_buildNode 92 = .ok (.getfield 18, 3) := by decide +kernel
theorem dX9_buildNode_95 : decode cX9_buildNode 95 = .ok (.iload_n 1, 1) := by decide +kernel
theorem dX9_buildNode_96 : decode cX9_buildNode 96 = .ok (.aaload, 1) := by decide +kernel
theorem dX9_buildNode_97 : decode cX9_buildNode 97 = .ok (.iconst 1, 1) := by decide +kernel
theorem dX9_buildNode_98 : decode cX9_buildNode 98 = .ok (.iaload, 1) := by decide +kernel
theorem dX9_buildNode_99 : decode cX9_buildNode 99 = .ok (.iload_n 2, 1) := by decide +kernel
theorem dX9_buildNode_100 : decode cX9_buildNode 100 = .ok (.iload_n 3, 1) := by decide +kernel
theorem dX9_buildNode_101 : decode cX9_buildNode 101 = .ok (.lload 6, 2) := by decide +kernel
theorem dX9_buildNode_103 : decode cX9_buildNode 103 = .ok (.lload 10, 2) := by decide +kernel
theorem dX9_buildNode_105 : decode cX9_buildNode 105 = .ok (.ldiv, 1) := by decide +kernel
theorem dX9_buildNode_106 : decode cX9_buildNode 106 = .ok (.invokevirtual 192, 3) := by decide +kernel
theorem dX9_buildNode_109 : decode cX9_buildNode 109 = .ok (.aload_n 0, 1) := by decide +kernel
theorem dX9_buildNode_110 : decode cX9_buildNode 110 = .ok (.aload_n 0, 1) := by decide +kernel
theorem dX9_buildNode_111 : decode cX9_buildNode 111 = .ok (.getfield 18, 3) := by decide +kernel
theorem dX9_buildNode_114 : decode cX9_buildNode 114 = .ok (.iload_n 1, 1) := by decide +kernel
theorem dX9_buildNode_115 : decode cX9_buildNode 115 = .ok (.aaload, 1) := by decide +kernel
theorem dX9_buildNode_116 : decode cX9_buildNode 116 = .ok (.iconst 2, 1) := by decide +kernel
theorem dX9_buildNode_117 : decode cX9_buildNode 117 = .ok (.iaload, 1) := by decide +kernel
theorem dX9_buildNode_118 : decode cX9_buildNode 118 = .ok (.iload_n 2, 1) := by decide +kernel
theorem dX9_buildNode_119 : decode cX9_buildNode 119 = .ok (.iload_n 3, 1) := by decide +kernel
theorem dX9_buildNode_120 : decode cX9_buildNode 120 = .ok (.iadd, 1) := by decide +kernel
theorem dX9_buildNode_121 : decode cX9_buildNode 121 = .ok (.iload 4, 2) := by decide +kernel
theorem dX9_buildNode_123 : decode cX9_buildNode 123 = .ok (.lload 6, 2) := by decide +kernel
theorem dX9_buildNode_125 : decode cX9_buildNode 125 = .ok (.lload 10, 2) := by decide +kernel
theorem dX9_buildNode_127 : decode cX9_buildNode 127 = .ok (.lrem, 1) := by decide +kernel
theorem dX9_buildNode_128 : decode cX9_buildNode 128 = .ok (.lload 8, 2) := by decide +kernel
theorem dX9_buildNode_130 : decode cX9_buildNode 130 = .ok (.ldiv, 1) := by decide +kernel
theorem dX9_buildNode_131 : decode cX9_buildNode 131 = .ok (.invokevirtual 192, 3) := by decide +kernel
theorem dX9_buildNode_134 : decode cX9_buildNode 134 = .ok (.aload_n 0, 1) := by decide +kernel
theorem dX9_buildNode_135 : decode cX9_buildNode 135 = .ok (.aload_n 0, 1) := by decide +kernel
theorem dX9_buildNode_136 : decode cX9_buildNode 136 = .ok (.getfield 18, 3) := by decide +kernel
theorem dX9_buildNode_139 : decode cX9_buildNode 139 = .ok (.iload_n 1, 1) := by decide +kernel
theorem dX9_buildNode_140 : decode cX9_buildNode 140 = .ok (.aaload, 1) := by decide +kernel
theorem dX9_buildNode_141 : decode cX9_buildNode 141 = .ok (.iconst 3, 1) := by decide +kernel
theorem dX9_buildNode_142 : decode cX9_buildNode 142 = .ok (.iaload, 1) := by decide +kernel
theorem dX9_buildNode_143 : decode cX9_buildNode 143 = .ok (.iload_n 2, 1) := by decide +kernel
theorem dX9_buildNode_144 : decode cX9_buildNode 144 = .ok (.iload_n 3, 1) := by decide +kernel
theorem dX9_buildNode_145 : decode cX9_buildNode 145 = .ok (.iadd, 1) := by decide +kernel
theorem dX9_buildNode_146 : decode cX9_buildNode 146 = .ok (.iload 4, 2) := by decide +kernel
theorem dX9_buildNode_148 : decode cX9_buildNode 148 = .ok (.iadd, 1) := by decide +kernel
theorem dX9_buildNode_149 : decode cX9_buildNode 149 = .ok (.iload 5, 2) := by decide +kernel
theorem dX9_buildNode_151 : decode cX9_buildNode 151 = .ok (.lload 6, 2) := by decide +kernel
theorem dX9_buildNode_153 : decode cX9_buildNode 153 = .ok (.lload 8, 2) := by decide +kernel
theorem dX9_buildNode_155 : decode cX9_buildNode 155 = .ok (.lrem, 1) := by decide +kernel
theorem dX9_buildNode_156 : decode cX9_buildNode 156 = .ok (.invokevirtual 192, 3) := by decide +kernel
theorem dX9_buildNode_159 : decode cX9_buildNode 159 = .ok (.return_, 1) := by decide +kernel
theorem dX9_drawTree_0 : decode cX9_drawTree 0 = .ok (.aload_n 0, 1) := by decide +kernel
theorem dX9_drawTree_1 : decode cX9_drawTree 1 = .ok (.iconst 1, 1) := by decide +kernel
theorem dX9_drawTree_2 : decode cX9_drawTree 2 = .ok (.iload_n 3, 1) := by decide +kernel
theorem dX9_drawTree_3 : decode cX9_drawTree 3 = .ok (.iconst 1, 1) := by decide +kernel
theorem dX9_drawTree_4 : decode cX9_drawTree 4 = .ok (.bipush 8, 2) := by decide +kernel
theorem dX9_drawTree_6 : decode cX9_drawTree 6 = .ok (.invokestatic 72, 3) := by decide +kernel
theorem dX9_drawTree_9 : decode cX9_drawTree 9 = .ok (.ifCond .ne 7, 3) := by decide +kernel
theorem dX9_drawTree_12 : decode cX9_drawTree 12 = .ok (.iconst 1, 1) := by decide +kernel
theorem dX9_drawTree_13 : decode cX9_drawTree 13 = .ok (.goto 4, 3) := by decide +kernel
theorem dX9_drawTree_16 : decode cX9_drawTree 16 = .ok (.iconst 0, 1) := by decide +kernel
theorem dX9_drawTree_17 : decode cX9_drawTree 17 = .ok (.invokevirtual 79, 3) := by decide +kernel
