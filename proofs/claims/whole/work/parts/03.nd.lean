theorem dX9_drawTree_20 : decode cX9_drawTree 20 = .ok (.ifCond .eq 5, 3) := by decide +kernel
theorem dX9_drawTree_23 : decode cX9_drawTree 23 = .ok (.lconst 0, 1) := by decide +kernel
theorem dX9_drawTree_24 : decode cX9_drawTree 24 = .ok (.lreturn, 1) := by decide +kernel
theorem dX9_drawTree_25 : decode cX9_drawTree 25 = .ok (.aload_n 0, 1) := by decide +kernel
theorem dX9_drawTree_26 : decode cX9_drawTree 26 = .ok (.invokevirtual 128, 3) := by decide +kernel
theorem dX9_drawTree_29 : decode cX9_drawTree 29 = .ok (.aload_n 0, 1) := by decide +kernel
theorem dX9_drawTree_30 : decode cX9_drawTree 30 = .ok (.iconst 2, 1) := by decide +kernel
theorem dX9_drawTree_31 : decode cX9_drawTree 31 = .ok (.aload_n 0, 1) := by decide +kernel
theorem dX9_drawTree_32 : decode cX9_drawTree 32 = .ok (.getfield 34, 3) := by decide +kernel
theorem dX9_drawTree_35 : decode cX9_drawTree 35 = .ok (.aload_n 0, 1) := by decide +kernel
theorem dX9_drawTree_36 : decode cX9_drawTree 36 = .ok (.getfield 83, 3) := by decide +kernel
theorem dX9_drawTree_39 : decode cX9_drawTree 39 = .ok (.aaload, 1) := by decide +kernel
theorem dX9_drawTree_40 : decode cX9_drawTree 40 = .ok (.iload_n 3, 1) := by decide +kernel
theorem dX9_drawTree_41 : decode cX9_drawTree 41 = .ok (.laload, 1) := by decide +kernel
theorem dX9_drawTree_42 : decode cX9_drawTree 42 = .ok (.lconst 0, 1) := by decide +kernel
theorem dX9_drawTree_43 : decode cX9_drawTree 43 = .ok (.lcmp, 1) := by decide +kernel
theorem dX9_drawTree_44 : decode cX9_drawTree 44 = .ok (.ifCond .ne 7, 3) := by decide +kernel
theorem dX9_drawTree_47 : decode cX9_drawTree 47 = .ok (.iconst 1, 1) := by decide +kernel
theorem dX9_drawTree_48 : decode cX9_drawTree 48 = .ok (.goto 4, 3) := by decide +kernel
theorem dX9_drawTree_51 : decode cX9_drawTree 51 = .ok (.iconst 0, 1) := by decide +kernel
theorem dX9_drawTree_52 : decode cX9_drawTree 52 = .ok (.invokevirtual 79, 3) := by decide +kernel
theorem dX9_drawTree_55 : decode cX9_drawTree 55 = .ok (.ifCond .eq 5, 3) := by decide +kernel
theorem dX9_drawTree_58 : decode cX9_drawTree 58 = .ok (.lconst 0, 1) := by decide +kernel
theorem dX9_drawTree_59 : decode cX9_drawTree 59 = .ok (.lreturn, 1) := by decide +kernel
theorem dX9_drawTree_60 : decode cX9_drawTree 60 = .ok (.lload_n 1, 1) := by decide +kernel
theorem dX9_drawTree_61 : decode cX9_drawTree 61 = .ok (.aload_n 0, 1) := by decide +kernel
theorem dX9_drawTree_62 : decode cX9_drawTree 62 = .ok (.getfield 34, 3) := by decide +kernel
theorem dX9_drawTree_65 : decode cX9_drawTree 65 = .ok (.aload_n 0, 1) := by decide +kernel
theorem dX9_drawTree_66 : decode cX9_drawTree 66 = .ok (.getfield 83, 3) := by decide +kernel
theorem dX9_drawTree_69 : decode cX9_drawTree 69 = .ok (.aaload, 1) := by decide +kernel
theorem dX9_drawTree_70 : decode cX9_drawTree 70 = .ok (.iload_n 3, 1) := by decide +kernel
theorem dX9_drawTree_71 : decode cX9_drawTree 71 = .ok (.laload, 1) := by decide +kernel
theorem dX9_drawTree_72 : decode cX9_drawTree 72 = .ok (.invokestatic 174, 3) := by decide +kernel
theorem dX9_drawTree_75 : decode cX9_drawTree 75 = .ok (.lstore 4, 2) := by decide +kernel
theorem dX9_drawTree_77 : decode cX9_drawTree 77 = .ok (.aload_n 0, 1) := by decide +kernel
theorem dX9_drawTree_78 : decode cX9_drawTree 78 = .ok (.iconst 0, 1) := by decide +kernel
theorem dX9_drawTree_79 : decode cX9_drawTree 79 = .ok (.putfield 178, 3) := by decide +kernel
theorem dX9_drawTree_82 : decode cX9_drawTree 82 = .ok (.aload_n 0, 1) := by decide +kernel
theorem dX9_drawTree_83 : decode cX9_drawTree 83 = .ok (.iconst 0, 1) := by decide +kernel
theorem dX9_drawTree_84 : decode cX9_drawTree 84 = .ok (.putfield 89, 3) := by decide +kernel
theorem dX9_drawTree_87 : decode cX9_drawTree 87 = .ok (.aload_n 0, 1) := by decide +kernel
theorem dX9_drawTree_88 : decode cX9_drawTree 88 = .ok (.aload_n 0, 1) := by decide +kernel
theorem dX9_drawTree_89 : decode cX9_drawTree 89 = .ok (.getfield 83, 3) := by decide +kernel
theorem dX9_drawTree_92 : decode cX9_drawTree 92 = .ok (.iconst 0, 1) := by decide +kernel
theorem dX9_drawTree_93 : decode cX9_drawTree 93 = .ok (.iload_n 3, 1) := by decide +kernel
theorem dX9_drawTree_94 : decode cX9_drawTree 94 = .ok (.lload 4, 2) := by decide +kernel
theorem dX9_drawTree_96 : decode cX9_drawTree 96 = .ok (.invokevirtual 192, 3) := by decide +kernel
theorem dX9_drawTree_99 : decode cX9_drawTree 99 = .ok (.aload_n 0, 1) := by decide +kernel
theorem dX9_drawTree_100 : decode cX9_drawTree 100 = .ok (.getfield 89, 3) := by decide +kernel
theorem dX9_drawTree_103 : decode cX9_drawTree 103 = .ok (.istore 6, 2) := by decide +kernel
theorem dX9_drawTree_105 : decode cX9_drawTree 105 = .ok (.aload_n 0, 1) := by decide +kernel
theorem dX9_drawTree_106 : decode cX9_drawTree 106 = .ok (.iload_n 3, 1) := by decide +kernel
theorem dX9_drawTree_107 : decode cX9_drawTree 107 = .ok (.invokevirtual 163, 3) := by decide +kernel
theorem dX9_drawTree_110 : decode cX9_drawTree 110 = .ok (.aload_n 0, 1) := by decide +kernel
theorem dX9_drawTree_111 : decode cX9_drawTree 111 = .ok (.iload 6, 2) := by decide +kernel
theorem dX9_drawTree_113 : decode cX9_drawTree 113 = .ok (.putfield 89, 3) := by decide +kernel
theorem dX9_drawTree_116 : decode cX9_drawTree 116 = .ok (.lload 4, 2) := by decide +kernel
theorem dX9_drawTree_118 : decode cX9_drawTree 118 = .ok (.lreturn, 1) := by decide +kernel
theorem dX9_takeTree_0 : decode cX9_takeTree 0 = .ok (.aload_n 0, 1) := by decide +kernel
theorem dX9_takeTree_1 : decode cX9_takeTree 1 = .ok (.invokevirtual 146, 3) := by decide +kernel
theorem dX9_takeTree_4 : decode cX9_takeTree 4 = .ok (.lstore_n 3, 1) := by decide +kernel
theorem dX9_takeTree_5 : decode cX9_takeTree 5 = .ok (.aload_n 0, 1) := by decide +kernel
theorem dX9_takeTree_6 : decode cX9_takeTree 6 = .ok (.iconst 1, 1) := by decide +kernel
theorem dX9_takeTree_7 : decode cX9_takeTree 7 = .ok (.lload_n 1, 1) := by decide +kernel
theorem dX9_takeTree_8 : decode cX9_takeTree 8 = .ok (.lconst 0, 1) := by decide +kernel
theorem dX9_takeTree_9 : decode cX9_takeTree 9 = .ok (.lcmp, 1) := by decide +kernel
theorem dX9_takeTree_10 : decode cX9_takeTree 10 = .ok (.ifCond .lt 9, 3) := by decide +kernel
theorem dX9_takeTree_13 : decode cX9_takeTree 13 = .ok (.lload_n 1, 1) := by decide +kernel
theorem dX9_takeTree_14 : decode cX9_takeTree 14 = .ok (.lload_n 3, 1) := by decide +kernel
theorem dX9_takeTree_15 : decode cX9_takeTree 15 = .ok (.lcmp, 1) := by decide +kernel
theorem dX9_takeTree_16 : decode cX9_takeTree 16 = .ok (.ifCond .lt 7, 3) := by decide +kernel
theorem dX9_takeTree_19 : decode cX9_takeTree 19 = .ok (.iconst 1, 1) := by decide +kernel
theorem dX9_takeTree_20 : decode cX9_takeTree 20 = .ok (.goto 4, 3) := by decide +kernel
theorem dX9_takeTree_23 : decode cX9_takeTree 23 = .ok (.iconst 0, 1) := by decide +kernel
theorem dX9_takeTree_24 : decode cX9_takeTree 24 = .ok (.invokevirtual 79, 3) := by decide +kernel
theorem dX9_takeTree_27 : decode cX9_takeTree 27 = .ok (.ifCond .eq 5, 3) := by decide +kernel
theorem dX9_takeTree_30 : decode cX9_takeTree 30 = .ok (.iconst 0, 1) := by decide +kernel
theorem dX9_takeTree_31 : decode cX9_takeTree 31 = .ok (.ireturn, 1) := by decide +kernel
theorem dX9_takeTree_32 : decode cX9_takeTree 32 = .ok (.aload_n 0, 1) := by decide +kernel
theorem dX9_takeTree_33 : decode cX9_takeTree 33 = .ok (.iconst 1, 1) := by decide +kernel
theorem dX9_takeTree_34 : decode cX9_takeTree 34 = .ok (.putfield 178, 3) := by decide +kernel
theorem dX9_takeTree_37 : decode cX9_takeTree 37 = .ok (.aload_n 0, 1) := by decide +kernel
theorem dX9_takeTree_38 : decode cX9_takeTree 38 = .ok (.iconst 0, 1) := by decide +kernel
theorem dX9_takeTree_39 : decode cX9_takeTree 39 = .ok (.putfield 89, 3) := by decide +kernel
theorem dX9_takeTree_42 : decode cX9_takeTree 42 = .ok (.aload_n 0, 1) := by decide +kernel
theorem dX9_takeTree_43 : decode cX9_takeTree 43 = .ok (.aload_n 0, 1) := by decide +kernel
theorem dX9_takeTree_44 : decode cX9_takeTree 44 = .ok (.getfield 83, 3) := by decide +kernel
theorem dX9_takeTree_47 : decode cX9_takeTree 47 = .ok (.iconst 0, 1) := by decide +kernel
theorem dX9_takeTree_48 : decode cX9_takeTree 48 = .ok (.aload_n 0, 1) := by decide +kernel
theorem dX9_takeTree_49 : decode cX9_takeTree 49 = .ok (.getfield 86, 3) := by decide +kernel
theorem dX9_takeTree_52 : decode cX9_takeTree 52 = .ok (.lload_n 1, 1) := by decide +kernel
theorem dX9_takeTree_53 : decode cX9_takeTree 53 = .ok (.invokevirtual 192, 3) := by decide +kernel
theorem dX9_takeTree_56 : decode cX9_takeTree 56 = .ok (.aload_n 0, 1) := by decide +kernel
theorem dX9_takeTree_57 : decode cX9_takeTree 57 = .ok (.getfield 89, 3) := by decide +kernel
theorem dX9_takeTree_60 : decode cX9_takeTree 60 = .ok (.ireturn, 1) := by decide +kernel
theorem dX9_numberOf_0 : decode cX9_numberOf 0 = .ok (.iload_n 1, 1) := by decide +kernel
theorem dX9_numberOf_1 : decode cX9_numberOf 1 = .ok (.ifCond .lt 9, 3) := by decide +kernel
theorem dX9_numberOf_4 : decode cX9_numberOf 4 = .ok (.iload_n 1, 1) := by decide +kernel
theorem dX9_numberOf_5 : decode cX9_numberOf 5 = .ok (.bipush 10, 2) := by decide +kernel
theorem dX9_numberOf_7 : decode cX9_numberOf 7 = .ok (.if_icmp .lt 5, 3) := by decide +kernel
theorem dX9_numberOf_10 : decode cX9_numberOf 10 = .ok (.lconst 0, 1) := by decide +kernel
theorem dX9_numberOf_11 : decode cX9_numberOf 11 = .ok (.lreturn, 1) := by decide +kernel
theorem dX9_numberOf_12 : decode cX9_numberOf 12 = .ok (.aload_n 0, 1) := by decide +kernel
theorem dX9_numberOf_13 : decode cX9_numberOf 13 = .ok (.getfield 45, 3) := by decide +kernel
theorem dX9_numberOf_16 : decode cX9_numberOf 16 = .ok (.aload_n 0, 1) := by decide +kernel
theorem dX9_numberOf_17 : decode cX9_numberOf 17 = .ok (.getfield 196, 3) := by decide +kernel
theorem dX9_numberOf_20 : decode cX9_numberOf 20 = .ok (.iaload, 1) := by decide +kernel
theorem dX9_numberOf_21 : decode cX9_numberOf 21 = .ok (.istore 4, 2) := by decide +kernel
theorem dX9_numberOf_23 : decode cX9_numberOf 23 = .ok (.aload_n 0, 1) := by decide +kernel
theorem dX9_numberOf_24 : decode cX9_numberOf 24 = .ok (.dup, 1) := by decide +kernel
theorem dX9_numberOf_25 : decode cX9_numberOf 25 = .ok (.getfield 196, 3) := by decide +kernel
theorem dX9_numberOf_28 : decode cX9_numberOf 28 = .ok (.iconst 1, 1) := by decide +kernel
theorem dX9_numberOf_29 : decode cX9_numberOf 29 = .ok (.iadd, 1) := by decide +kernel
theorem dX9_numberOf_30 : decode cX9_numberOf 30 = .ok (.putfield 196, 3) := by decide +kernel
theorem dX9_numberOf_33 : decode cX9_numberOf 33 = .ok (.lconst 0, 1) := by decide +kernel
theorem dX9_numberOf_34 : decode cX9_numberOf 34 = .ok (.lstore 5, 2) := by decide +kernel
theorem dX9_numberOf_36 : decode cX9_numberOf 36 = .ok (.iconst 0, 1) := by decide +kernel
theorem dX9_numberOf_37 : decode cX9_numberOf 37 = .ok (.istore 7, 2) := by decide +kernel
theorem dX9_numberOf_39 : decode cX9_numberOf 39 = .ok (.iload 7, 2) := by decide +kernel
theorem dX9_numberOf_41 : decode cX9_numberOf 41 = .ok (.iload 4, 2) := by decide +kernel
theorem dX9_numberOf_43 : decode cX9_numberOf 43 = .ok (.if_icmp .ge 39, 3) := by decide +kernel
theorem dX9_numberOf_46 : decode cX9_numberOf 46 = .ok (.lload 5, 2) := by decide +kernel
theorem dX9_numberOf_48 : decode cX9_numberOf 48 = .ok (.aload_n 0, 1) := by decide +kernel
theorem dX9_numberOf_49 : decode cX9_numberOf 49 = .ok (.getfield 18, 3) := by decide +kernel
theorem dX9_numberOf_52 : decode cX9_numberOf 52 = .ok (.iload 7, 2) := by decide +kernel
theorem dX9_numberOf_54 : decode cX9_numberOf 54 = .ok (.aaload, 1) := by decide +kernel
theorem dX9_numberOf_55 : decode cX9_numberOf 55 = .ok (.iconst 0, 1) := by decide +kernel
theorem dX9_numberOf_56 : decode cX9_numberOf 56 = .ok (.iaload, 1) := by decide +kernel
theorem dX9_numberOf_57 : decode cX9_numberOf 57 = .ok (.iload_n 1, 1) := by decide +kernel
theorem dX9_numberOf_58 : decode cX9_numberOf 58 = .ok (.if_icmp .ne 14, 3) := by decide +kernel
theorem dX9_numberOf_61 : decode cX9_numberOf 61 = .ok (.aload_n 0, 1) := by decide +kernel
theorem dX9_numberOf_62 : decode cX9_numberOf 62 = .ok (.iload 7, 2) := by decide +kernel
theorem dX9_numberOf_64 : decode cX9_numberOf 64 = .ok (.iload_n 2, 1) := by decide +kernel
theorem dX9_numberOf_65 : decode cX9_numberOf 65 = .ok (.iload_n 3, 1) := by decide +kernel
theorem dX9_numberOf_66 : decode cX9_numberOf 66 = .ok (.invokevirtual 139, 3) := by decide +kernel
theorem dX9_numberOf_69 : decode cX9_numberOf 69 = .ok (.goto 4, 3) := by decide +kernel
theorem dX9_numberOf_72 : decode cX9_numberOf 72 = .ok (.lconst 0, 1) := by decide +kernel
theorem dX9_numberOf_73 : decode cX9_numberOf 73 = .ok (.ladd, 1) := by decide +kernel
theorem dX9_numberOf_74 : decode cX9_numberOf 74 = .ok (.lstore 5, 2) := by decide +kernel
theorem dX9_numberOf_76 : decode cX9_numberOf 76 = .ok (.iinc 7 1, 3) := by decide +kernel
theorem dX9_numberOf_79 : decode cX9_numberOf 79 = .ok (.goto (-40), 3) := by decide +kernel
theorem dX9_numberOf_82 : decode cX9_numberOf 82 = .ok (.aload_n 0, 1) := by decide +kernel
theorem dX9_numberOf_83 : decode cX9_numberOf 83 = .ok (.aload_n 0, 1) := by decide +kernel
theorem dX9_numberOf_84 : decode cX9_numberOf 84 = .ok (.getfield 18, 3) := by decide +kernel
theorem dX9_numberOf_87 : decode cX9_numberOf 87 = .ok (.iload 4, 2) := by decide +kernel
theorem dX9_numberOf_89 : decode cX9_numberOf 89 = .ok (.aaload, 1) := by decide +kernel
theorem dX9_numberOf_90 : decode cX9_numberOf 90 = .ok (.iconst 1, 1) := by decide +kernel
theorem dX9_numberOf_91 : decode cX9_numberOf 91 = .ok (.iaload, 1) := by decide +kernel
theorem dX9_numberOf_92 : decode cX9_numberOf 92 = .ok (.iload_n 2, 1) := by decide +kernel
theorem dX9_numberOf_93 : decode cX9_numberOf 93 = .ok (.aload_n 0, 1) := by decide +kernel
theorem dX9_numberOf_94 : decode cX9_numberOf 94 = .ok (.getfield 196, 3) := by decide +kernel
theorem dX9_numberOf_97 : decode cX9_numberOf 97 = .ok (.invokevirtual 199, 3) := by decide +kernel
theorem dX9_numberOf_100 : decode cX9_numberOf 100 = .ok (.istore 7, 2) := by decide +kernel
theorem dX9_numberOf_102 : decode cX9_numberOf 102 = .ok (.aload_n 0, 1) := by decide +kernel
theorem dX9_numberOf_103 : decode cX9_numberOf 103 = .ok (.getfield 18, 3) := by decide +kernel
theorem dX9_numberOf_106 : decode cX9_numberOf 106 = .ok (.iload 4, 2) := by decide +kernel
theorem dX9_numberOf_108 : decode cX9_numberOf 108 = .ok (.aaload, 1) := by decide +kernel
theorem dX9_numberOf_109 : decode cX9_numberOf 109 = .ok (.iconst 1, 1) := by decide +kernel
theorem dX9_numberOf_110 : decode cX9_numberOf 110 = .ok (.iaload, 1) := by decide +kernel
theorem dX9_numberOf_111 : decode cX9_numberOf 111 = .ok (.bipush 10, 2) := by decide +kernel
theorem dX9_numberOf_113 : decode cX9_numberOf 113 = .ok (.if_icmp .ge 14, 3) := by decide +kernel
theorem dX9_numberOf_116 : decode cX9_numberOf 116 = .ok (.aload_n 0, 1) := by decide +kernel
theorem dX9_numberOf_117 : decode cX9_numberOf 117 = .ok (.aload_n 0, 1) := by decide +kernel
theorem dX9_numberOf_118 : decode cX9_numberOf 118 = .ok (.getfield 196, 3) := by decide +kernel
theorem dX9_numberOf_121 : decode cX9_numberOf 121 = .ok (.invokevirtual 203, 3) := by decide +kernel
theorem dX9_numberOf_124 : decode cX9_numberOf 124 = .ok (.goto 7, 3) := by decide +kernel
theorem dX9_numberOf_127 : decode cX9_numberOf 127 = .ok (.aload_n 0, 1) := by decide +kernel
theorem dX9_numberOf_128 : decode cX9_numberOf 128 = .ok (.getfield 196, 3) := by decide +kernel
theorem dX9_numberOf_131 : decode cX9_numberOf 131 = .ok (.istore 8, 2) := by decide +kernel
theorem dX9_numberOf_133 : decode cX9_numberOf 133 = .ok (.aload_n 0, 1) := by decide +kernel
theorem dX9_numberOf_134 : decode cX9_numberOf 134 = .ok (.getfield 18, 3) := by decide +kernel
theorem dX9_numberOf_137 : decode cX9_numberOf 137 = .ok (.iload 4, 2) := by decide +kernel
theorem dX9_numberOf_139 : decode cX9_numberOf 139 = .ok (.aaload, 1) := by decide +kernel
theorem dX9_numberOf_140 : decode cX9_numberOf 140 = .ok (.iconst 2, 1) := by decide +kernel
theorem dX9_numberOf_141 : decode cX9_numberOf 141 = .ok (.iaload, 1) := by decide +kernel
theorem dX9_numberOf_142 : decode cX9_numberOf 142 = .ok (.ifCond .ge 7, 3) := by decide +kernel
theorem dX9_numberOf_145 : decode cX9_numberOf 145 = .ok (.iconst 0, 1) := by decide +kernel
theorem dX9_numberOf_146 : decode cX9_numberOf 146 = .ok (.goto 22, 3) := by decide +kernel
theorem dX9_numberOf_149 : decode cX9_numberOf 149 = .ok (.aload_n 0, 1) := by decide +kernel
theorem dX9_numberOf_150 : decode cX9_numberOf 150 = .ok (.aload_n 0, 1) := by decide +kernel
theorem dX9_numberOf_151 : decode cX9_numberOf 151 = .ok (.getfield 18, 3) := by decide +kernel
theorem dX9_numberOf_154 : decode cX9_numberOf 154 = .ok (.iload 4, 2) := by decide +kernel
theorem dX9_numberOf_156 : decode cX9_numberOf 156 = .ok (.aaload, 1) := by decide +kernel
theorem dX9_numberOf_157 : decode cX9_numberOf 157 = .ok (.iconst 2, 1) := by decide +kernel
theorem dX9_numberOf_158 : decode cX9_numberOf 158 = .ok (.iaload, 1) := by decide +kernel
theorem dX9_numberOf_159 : decode cX9_numberOf 159 = .ok (.iload_n 2, 1) := by decide +kernel
theorem dX9_numberOf_160 : decode cX9_numberOf 160 = .ok (.iload 7, 2) := by decide +kernel
theorem dX9_numberOf_162 : decode cX9_numberOf 162 = .ok (.iadd, 1) := by decide +kernel
theorem dX9_numberOf_163 : decode cX9_numberOf 163 = .ok (.iload 8, 2) := by decide +kernel
theorem dX9_numberOf_165 : decode cX9_numberOf 165 = .ok (.invokevirtual 199, 3) := by decide +kernel
theorem dX9_numberOf_168 : decode cX9_numberOf 168 = .ok (.istore 9, 2) := by decide +kernel
theorem dX9_numberOf_170 : decode cX9_numberOf 170 = .ok (.iload_n 3, 1) := by decide +kernel
theorem dX9_numberOf_171 : decode cX9_numberOf 171 = .ok (.iload 7, 2) := by decide +kernel
theorem dX9_numberOf_173 : decode cX9_numberOf 173 = .ok (.isub, 1) := by decide +kernel
theorem dX9_numberOf_174 : decode cX9_numberOf 174 = .ok (.iload 9, 2) := by decide +kernel
theorem dX9_numberOf_176 : decode cX9_numberOf 176 = .ok (.isub, 1) := by decide +kernel
theorem dX9_numberOf_177 : decode cX9_numberOf 177 = .ok (.istore 10, 2) := by decide +kernel
theorem dX9_numberOf_179 : decode cX9_numberOf 179 = .ok (.iconst 0, 1) := by decide +kernel
theorem dX9_numberOf_180 : decode cX9_numberOf 180 = .ok (.istore 11, 2) := by decide +kernel
theorem dX9_numberOf_182 : decode cX9_numberOf 182 = .ok (.iload 11, 2) := by decide +kernel
theorem dX9_numberOf_184 : decode cX9_numberOf 184 = .ok (.iload 7, 2) := by decide +kernel
theorem dX9_numberOf_186 : decode cX9_numberOf 186 = .ok (.iload_n 3, 1) := by decide +kernel
theorem dX9_numberOf_187 : decode cX9_numberOf 187 = .ok (.iconst 1, 1) := by decide +kernel
theorem dX9_numberOf_188 : decode cX9_numberOf 188 = .ok (.iadd, 1) := by decide +kernel
theorem dX9_numberOf_189 : decode cX9_numberOf 189 = .ok (.imul, 1) := by decide +kernel
theorem dX9_numberOf_190 : decode cX9_numberOf 190 = .ok (.iload 9, 2) := by decide +kernel
theorem dX9_numberOf_192 : decode cX9_numberOf 192 = .ok (.iadd, 1) := by decide +kernel
theorem dX9_numberOf_193 : decode cX9_numberOf 193 = .ok (.if_icmp .ge 61, 3) := by decide +kernel
theorem dX9_numberOf_196 : decode cX9_numberOf 196 = .ok (.iload 11, 2) := by decide +kernel
theorem dX9_numberOf_198 : decode cX9_numberOf 198 = .ok (.iload_n 3, 1) := by decide +kernel
theorem dX9_numberOf_199 : decode cX9_numberOf 199 = .ok (.iconst 1, 1) := by decide +kernel
theorem dX9_numberOf_200 : decode cX9_numberOf 200 = .ok (.iadd, 1) := by decide +kernel
theorem dX9_numberOf_201 : decode cX9_numberOf 201 = .ok (.idiv, 1) := by decide +kernel
theorem dX9_numberOf_202 : decode cX9_numberOf 202 = .ok (.istore 12, 2) := by decide +kernel
theorem dX9_numberOf_204 : decode cX9_numberOf 204 = .ok (.iload 11, 2) := by decide +kernel
theorem dX9_numberOf_206 : decode cX9_numberOf 206 = .ok (.iload_n 3, 1) := by decide +kernel
theorem dX9_numberOf_207 : decode cX9_numberOf 207 = .ok (.iconst 1, 1) := by decide +kernel
theorem dX9_numberOf_208 : decode cX9_numberOf 208 = .ok (.iadd, 1) := by decide +kernel
theorem dX9_numberOf_209 : decode cX9_numberOf 209 = .ok (.irem, 1) := by decide +kernel
theorem dX9_numberOf_210 : decode cX9_numberOf 210 = .ok (.istore 13, 2) := by decide +kernel
theorem dX9_numberOf_212 : decode cX9_numberOf 212 = .ok (.lload 5, 2) := by decide +kernel
theorem dX9_numberOf_214 : decode cX9_numberOf 214 = .ok (.iload 12, 2) := by decide +kernel
theorem dX9_numberOf_216 : decode cX9_numberOf 216 = .ok (.iload 13, 2) := by decide +kernel
theorem dX9_numberOf_218 : decode cX9_numberOf 218 = .ok (.iadd, 1) := by decide +kernel
theorem dX9_numberOf_219 : decode cX9_numberOf 219 = .ok (.iload_n 3, 1) := by decide +kernel
theorem dX9_numberOf_220 : decode cX9_numberOf 220 = .ok (.if_icmp .gt 24, 3) := by decide +kernel
theorem dX9_numberOf_223 : decode cX9_numberOf 223 = .ok (.aload_n 0, 1) := by decide +kernel
theorem dX9_numberOf_224 : decode cX9_numberOf 224 = .ok (.iload 4, 2) := by decide +kernel
theorem dX9_numberOf_226 : decode cX9_numberOf 226 = .ok (.iload_n 2, 1) := by decide +kernel
theorem dX9_numberOf_227 : decode cX9_numberOf 227 = .ok (.iload 12, 2) := by decide +kernel
theorem dX9_numberOf_229 : decode cX9_numberOf 229 = .ok (.iload 13, 2) := by decide +kernel
theorem dX9_numberOf_231 : decode cX9_numberOf 231 = .ok (.iload_n 3, 1) := by decide +kernel
theorem dX9_numberOf_232 : decode cX9_numberOf 232 = .ok (.iload 12, 2) := by decide +kernel
theorem dX9_numberOf_234 : decode cX9_numberOf 234 = .ok (.isub, 1) := by decide +kernel
theorem dX9_numberOf_235 : decode cX9_numberOf 235 = .ok (.iload 13, 2) := by decide +kernel
theorem dX9_numberOf_237 : decode cX9_numberOf 237 = .ok (.isub, 1) := by decide +kernel
theorem dX9_numberOf_238 : decode cX9_numberOf 238 = .ok (.invokevirtual 135, 3) := by decide +kernel
theorem dX9_numberOf_241 : decode cX9_numberOf 241 = .ok (.goto 4, 3) := by decide +kernel
theorem dX9_numberOf_244 : decode cX9_numberOf 244 = .ok (.lconst 0, 1) := by decide +kernel
theorem dX9_numberOf_245 : decode cX9_numberOf 245 = .ok (.ladd, 1) := by decide +kernel
theorem dX9_numberOf_246 : decode cX9_numberOf 246 = .ok (.lstore 5, 2) := by decide +kernel
theorem dX9_numberOf_248 : decode cX9_numberOf 248 = .ok (.iinc 11 1, 3) := by decide +kernel
theorem dX9_numberOf_251 : decode cX9_numberOf 251 = .ok (.goto (-69), 3) := by decide +kernel
theorem dX9_numberOf_254 : decode cX9_numberOf 254 = .ok (.aload_n 0, 1) := by decide +kernel
theorem dX9_numberOf_255 : decode cX9_numberOf 255 = .ok (.aload_n 0, 1) := by decide +kernel
theorem dX9_numberOf_256 : decode cX9_numberOf 256 = .ok (.getfield 18, 3) := by decide +kernel
theorem dX9_numberOf_259 : decode cX9_numberOf 259 = .ok (.iload 4, 2) := by decide +kernel
theorem dX9_numberOf_261 : decode cX9_numberOf 261 = .ok (.aaload, 1) := by decide +kernel
theorem dX9_numberOf_262 : decode cX9_numberOf 262 = .ok (.iconst 3, 1) := by decide +kernel
theorem dX9_numberOf_263 : decode cX9_numberOf 263 = .ok (.iaload, 1) := by decide +kernel
theorem dX9_numberOf_264 : decode cX9_numberOf 264 = .ok (.iload_n 2, 1) := by decide +kernel
theorem dX9_numberOf_265 : decode cX9_numberOf 265 = .ok (.iload 7, 2) := by decide +kernel
theorem dX9_numberOf_267 : decode cX9_numberOf 267 = .ok (.iadd, 1) := by decide +kernel
theorem dX9_numberOf_268 : decode cX9_numberOf 268 = .ok (.iload 9, 2) := by decide +kernel
theorem dX9_numberOf_270 : decode cX9_numberOf 270 = .ok (.iadd, 1) := by decide +kernel
theorem dX9_numberOf_271 : decode cX9_numberOf 271 = .ok (.iload 10, 2) := by decide +kernel
theorem dX9_numberOf_273 : decode cX9_numberOf 273 = .ok (.invokevirtual 131, 3) := by decide +kernel
theorem dX9_numberOf_276 : decode cX9_numberOf 276 = .ok (.lstore 11, 2) := by decide +kernel
theorem dX9_numberOf_278 : decode cX9_numberOf 278 = .ok (.lload 11, 2) := by decide +kernel
theorem dX9_numberOf_280 : decode cX9_numberOf 280 = .ok (.aload_n 0, 1) := by decide +kernel
theorem dX9_numberOf_281 : decode cX9_numberOf 281 = .ok (.aload_n 0, 1) := by decide +kernel
theorem dX9_numberOf_282 : decode cX9_numberOf 282 = .ok (.getfield 18, 3) := by decide +kernel
theorem dX9_numberOf_285 : decode cX9_numberOf 285 = .ok (.iload 4, 2) := by decide +kernel
theorem dX9_numberOf_287 : decode cX9_numberOf 287 = .ok (.aaload, 1) := by decide +kernel
theorem dX9_numberOf_288 : decode cX9_numberOf 288 = .ok (.iconst 2, 1) := by decide +kernel
theorem dX9_numberOf_289 : decode cX9_numberOf 289 = .ok (.iaload, 1) := by decide +kernel
theorem dX9_numberOf_290 : decode cX9_numberOf 290 = .ok (.iload_n 2, 1) := by decide +kernel
theorem dX9_numberOf_291 : decode cX9_numberOf 291 = .ok (.iload 7, 2) := by decide +kernel
theorem dX9_numberOf_293 : decode cX9_numberOf 293 = .ok (.iadd, 1) := by decide +kernel
theorem dX9_numberOf_294 : decode cX9_numberOf 294 = .ok (.iload 9, 2) := by decide +kernel
theorem dX9_numberOf_296 : decode cX9_numberOf 296 = .ok (.invokevirtual 131, 3) := by decide +kernel
theorem dX9_numberOf_299 : decode cX9_numberOf 299 = .ok (.lmul, 1) := by decide +kernel
theorem dX9_numberOf_300 : decode cX9_numberOf 300 = .ok (.lstore 13, 2) := by decide +kernel
theorem dX9_numberOf_302 : decode cX9_numberOf 302 = .ok (.lload 5, 2) := by decide +kernel
theorem dX9_numberOf_304 : decode cX9_numberOf 304 = .ok (.aload_n 0, 1) := by decide +kernel
theorem dX9_numberOf_305 : decode cX9_numberOf 305 = .ok (.aload_n 0, 1) := by decide +kernel
theorem dX9_numberOf_306 : decode cX9_numberOf 306 = .ok (.getfield 18, 3) := by decide +kernel
theorem dX9_numberOf_309 : decode cX9_numberOf 309 = .ok (.iload 4, 2) := by decide +kernel
theorem dX9_numberOf_311 : decode cX9_numberOf 311 = .ok (.aaload, 1) := by decide +kernel
theorem dX9_numberOf_312 : decode cX9_numberOf 312 = .ok (.iconst 1, 1) := by decide +kernel
theorem dX9_numberOf_313 : decode cX9_numberOf 313 = .ok (.iaload, 1) := by decide +kernel
theorem dX9_numberOf_314 : decode cX9_numberOf 314 = .ok (.iload_n 2, 1) := by decide +kernel
theorem dX9_numberOf_315 : decode cX9_numberOf 315 = .ok (.iload 7, 2) := by decide +kernel
theorem dX9_numberOf_317 : decode cX9_numberOf 317 = .ok (.invokevirtual 206, 3) := by decide +kernel
theorem dX9_numberOf_320 : decode cX9_numberOf 320 = .ok (.lload 13, 2) := by decide +kernel
theorem dX9_numberOf_322 : decode cX9_numberOf 322 = .ok (.lmul, 1) := by decide +kernel
theorem dX9_numberOf_323 : decode cX9_numberOf 323 = .ok (.ladd, 1) := by decide +kernel
theorem dX9_numberOf_324 : decode cX9_numberOf 324 = .ok (.lstore 5, 2) := by decide +kernel
theorem dX9_numberOf_326 : decode cX9_numberOf 326 = .ok (.lload 5, 2) := by decide +kernel
theorem dX9_numberOf_328 : decode cX9_numberOf 328 = .ok (.aload_n 0, 1) := by decide +kernel
theorem dX9_numberOf_329 : decode cX9_numberOf 329 = .ok (.aload_n 0, 1) := by decide +kernel
theorem dX9_numberOf_330 : decode cX9_numberOf 330 = .ok (.getfield 18, 3) := by decide +kernel
theorem dX9_numberOf_333 : decode cX9_numberOf 333 = .ok (.iload 4, 2) := by decide +kernel
theorem dX9_numberOf_335 : decode cX9_numberOf 335 = .ok (.aaload, 1) := by decide +kernel
theorem dX9_numberOf_336 : decode cX9_numberOf 336 = .ok (.iconst 2, 1) := by decide +kernel
theorem dX9_numberOf_337 : decode cX9_numberOf 337 = .ok (.iaload, 1) := by decide +kernel
theorem dX9_numberOf_338 : decode cX9_numberOf 338 = .ok (.iload_n 2, 1) := by decide +kernel
theorem dX9_numberOf_339 : decode cX9_numberOf 339 = .ok (.iload 7, 2) := by decide +kernel
theorem dX9_numberOf_341 : decode cX9_numberOf 341 = .ok (.iadd, 1) := by decide +kernel
theorem dX9_numberOf_342 : decode cX9_numberOf 342 = .ok (.iload 9, 2) := by decide +kernel
theorem dX9_numberOf_344 : decode cX9_numberOf 344 = .ok (.invokevirtual 206, 3) := by decide +kernel
theorem dX9_numberOf_347 : decode cX9_numberOf 347 = .ok (.lload 11, 2) := by decide +kernel
theorem dX9_numberOf_349 : decode cX9_numberOf 349 = .ok (.lmul, 1) := by decide +kernel
theorem dX9_numberOf_350 : decode cX9_numberOf 350 = .ok (.ladd, 1) := by decide +kernel
theorem dX9_numberOf_351 : decode cX9_numberOf 351 = .ok (.lstore 5, 2) := by decide +kernel
theorem dX9_numberOf_353 : decode cX9_numberOf 353 = .ok (.lload 5, 2) := by decide +kernel
theorem dX9_numberOf_355 : decode cX9_numberOf 355 = .ok (.aload_n 0, 1) := by decide +kernel
theorem dX9_numberOf_356 : decode cX9_numberOf 356 = .ok (.aload_n 0, 1) := by decide +kernel
theorem dX9_numberOf_357 : decode cX9_numberOf 357 = .ok (.getfield 18, 3) := by decide +kernel
theorem dX9_numberOf_360 : decode cX9_numberOf 360 = .ok (.iload 4, 2) := by decide +kernel
theorem dX9_numberOf_362 : decode cX9_numberOf 362 = .ok (.aaload, 1) := by decide +kernel
theorem dX9_numberOf_363 : decode cX9_numberOf 363 = .ok (.iconst 3, 1) := by decide +kernel
theorem dX9_numberOf_364 : decode cX9_numberOf 364 = .ok (.iaload, 1) := by decide +kernel
theorem dX9_numberOf_365 : decode cX9_numberOf 365 = .ok (.iload_n 2, 1) := by decide +kernel
theorem dX9_numberOf_366 : decode cX9_numberOf 366 = .ok (.iload 7, 2) := by decide +kernel
theorem dX9_numberOf_368 : decode cX9_numberOf 368 = .ok (.iadd, 1) := by decide +kernel
theorem dX9_numberOf_369 : decode cX9_numberOf 369 = .ok (.iload 9, 2) := by decide +kernel
theorem dX9_numberOf_371 : decode cX9_numberOf 371 = .ok (.iadd, 1) := by decide +kernel
theorem dX9_numberOf_372 : decode cX9_numberOf 372 = .ok (.iload 10, 2) := by decide +kernel
theorem dX9_numberOf_374 : decode cX9_numberOf 374 = .ok (.invokevirtual 206, 3) := by decide +kernel
theorem dX9_numberOf_377 : decode cX9_numberOf 377 = .ok (.ladd, 1) := by decide +kernel
theorem dX9_numberOf_378 : decode cX9_numberOf 378 = .ok (.lreturn, 1) := by decide +kernel
theorem dX9_sizeOfPart_0 : decode cX9_sizeOfPart 0 = .ok (.iload_n 1, 1) := by decide +kernel
theorem dX9_sizeOfPart_1 : decode cX9_sizeOfPart 1 = .ok (.bipush 10, 2) := by decide +kernel
theorem dX9_sizeOfPart_3 : decode cX9_sizeOfPart 3 = .ok (.if_icmp .lt 7, 3) := by decide +kernel
theorem dX9_sizeOfPart_6 : decode cX9_sizeOfPart 6 = .ok (.iconst 1, 1) := by decide +kernel
theorem dX9_sizeOfPart_7 : decode cX9_sizeOfPart 7 = .ok (.goto 9, 3) := by decide +kernel
theorem dX9_sizeOfPart_10 : decode cX9_sizeOfPart 10 = .ok (.aload_n 0, 1) := by decide +kernel
theorem dX9_sizeOfPart_11 : decode cX9_sizeOfPart 11 = .ok (.getfield 51, 3) := by decide +kernel
theorem dX9_sizeOfPart_14 : decode cX9_sizeOfPart 14 = .ok (.iload_n 3, 1) := by decide +kernel
theorem dX9_sizeOfPart_15 : decode cX9_sizeOfPart 15 = .ok (.iaload, 1) := by decide +kernel
theorem dX9_sizeOfPart_16 : decode cX9_sizeOfPart 16 = .ok (.ireturn, 1) := by decide +kernel
theorem dX9_skip_0 : decode cX9_skip 0 = .ok (.iload_n 1, 1) := by decide +kernel
theorem dX9_skip_1 : decode cX9_skip 1 = .ok (.iconst 1, 1) := by decide +kernel
theorem dX9_skip_2 : decode cX9_skip 2 = .ok (.iadd, 1) := by decide +kernel
theorem dX9_skip_3 : decode cX9_skip 3 = .ok (.istore_n 2, 1) := by decide +kernel
theorem dX9_skip_4 : decode cX9_skip 4 = .ok (.iconst 1, 1) := by decide +kernel
theorem dX9_skip_5 : decode cX9_skip 5 = .ok (.istore_n 3, 1) := by decide +kernel
theorem dX9_skip_6 : decode cX9_skip 6 = .ok (.iload_n 3, 1) := by decide +kernel
theorem dX9_skip_7 : decode cX9_skip 7 = .ok (.iconst 4, 1) := by decide +kernel
theorem dX9_skip_8 : decode cX9_skip 8 = .ok (.if_icmp .ge 46, 3) := by decide +kernel
theorem dX9_skip_11 : decode cX9_skip 11 = .ok (.aload_n 0, 1) := by decide +kernel
theorem dX9_skip_12 : decode cX9_skip 12 = .ok (.getfield 18, 3) := by decide +kernel
theorem dX9_skip_15 : decode cX9_skip 15 = .ok (.aload_n 0, 1) := by decide +kernel
theorem dX9_skip_16 : decode cX9_skip 16 = .ok (.getfield 45, 3) := by decide +kernel
theorem dX9_skip_19 : decode cX9_skip 19 = .ok (.iload_n 1, 1) := by decide +kernel
theorem dX9_skip_20 : decode cX9_skip 20 = .ok (.iaload, 1) := by decide +kernel
theorem dX9_skip_21 : decode cX9_skip 21 = .ok (.aaload, 1) := by decide +kernel
theorem dX9_skip_22 : decode cX9_skip 22 = .ok (.iload_n 3, 1) := by decide +kernel
theorem dX9_skip_23 : decode cX9_skip 23 = .ok (.iaload, 1) := by decide +kernel
theorem dX9_skip_24 : decode cX9_skip 24 = .ok (.istore 4, 2) := by decide +kernel
theorem dX9_skip_26 : decode cX9_skip 26 = .ok (.iload 4, 2) := by decide +kernel
theorem dX9_skip_28 : decode cX9_skip 28 = .ok (.ifCond .lt 18, 3) := by decide +kernel
theorem dX9_skip_31 : decode cX9_skip 31 = .ok (.iload 4, 2) := by decide +kernel
theorem dX9_skip_33 : decode cX9_skip 33 = .ok (.bipush 10, 2) := by decide +kernel
theorem dX9_skip_35 : decode cX9_skip 35 = .ok (.if_icmp .ge 11, 3) := by decide +kernel
theorem dX9_skip_38 : decode cX9_skip 38 = .ok (.aload_n 0, 1) := by decide +kernel
theorem dX9_skip_39 : decode cX9_skip 39 = .ok (.iload_n 2, 1) := by decide +kernel
theorem dX9_skip_40 : decode cX9_skip 40 = .ok (.invokevirtual 203, 3) := by decide +kernel
theorem dX9_skip_43 : decode cX9_skip 43 = .ok (.goto 4, 3) := by decide +kernel
theorem dX9_skip_46 : decode cX9_skip 46 = .ok (.iload_n 2, 1) := by decide +kernel
theorem dX9_skip_47 : decode cX9_skip 47 = .ok (.istore_n 2, 1) := by decide +kernel
theorem dX9_skip_48 : decode cX9_skip 48 = .ok (.iinc 3 1, 3) := by decide +kernel
theorem dX9_skip_51 : decode cX9_skip 51 = .ok (.goto (-45), 3) := by decide +kernel
theorem dX9_skip_54 : decode cX9_skip 54 = .ok (.iload_n 2, 1) := by decide +kernel
theorem dX9_skip_55 : decode cX9_skip 55 = .ok (.ireturn, 1) := by decide +kernel
theorem dX9_treeNumber_0 : decode cX9_treeNumber 0 = .ok (.aload_n 0, 1) := by decide +kernel
theorem dX9_treeNumber_1 : decode cX9_treeNumber 1 = .ok (.iconst 1, 1) := by decide +kernel
theorem dX9_treeNumber_2 : decode cX9_treeNumber 2 = .ok (.aload_n 0, 1) := by decide +kernel
theorem dX9_treeNumber_3 : decode cX9_treeNumber 3 = .ok (.getfield 89, 3) := by decide +kernel
theorem dX9_treeNumber_6 : decode cX9_treeNumber 6 = .ok (.ifCond .ne 7, 3) := by decide +kernel
theorem dX9_treeNumber_9 : decode cX9_treeNumber 9 = .ok (.iconst 1, 1) := by decide +kernel
theorem dX9_treeNumber_10 : decode cX9_treeNumber 10 = .ok (.goto 4, 3) := by decide +kernel
theorem dX9_treeNumber_13 : decode cX9_treeNumber 13 = .ok (.iconst 0, 1) := by decide +kernel
theorem dX9_treeNumber_14 : decode cX9_treeNumber 14 = .ok (.invokevirtual 79, 3) := by decide +kernel
theorem dX9_treeNumber_17 : decode cX9_treeNumber 17 = .ok (.ifCond .eq 5, 3) := by decide +kernel
theorem dX9_treeNumber_20 : decode cX9_treeNumber 20 = .ok (.lconst 0, 1) := by decide +kernel
theorem dX9_treeNumber_21 : decode cX9_treeNumber 21 = .ok (.lreturn, 1) := by decide +kernel
theorem dX9_treeNumber_22 : decode cX9_treeNumber 22 = .ok (.aload_n 0, 1) := by decide +kernel
theorem dX9_treeNumber_23 : decode cX9_treeNumber 23 = .ok (.invokevirtual 146, 3) := by decide +kernel
theorem dX9_treeNumber_26 : decode cX9_treeNumber 26 = .ok (.pop2, 1) := by decide +kernel
theorem dX9_treeNumber_27 : decode cX9_treeNumber 27 = .ok (.aload_n 0, 1) := by decide +kernel
theorem dX9_treeNumber_28 : decode cX9_treeNumber 28 = .ok (.iconst 0, 1) := by decide +kernel
theorem dX9_treeNumber_29 : decode cX9_treeNumber 29 = .ok (.putfield 196, 3) := by decide +kernel
theorem dX9_treeNumber_32 : decode cX9_treeNumber 32 = .ok (.aload_n 0, 1) := by decide +kernel
theorem dX9_treeNumber_33 : decode cX9_treeNumber 33 = .ok (.aload_n 0, 1) := by decide +kernel
theorem dX9_treeNumber_34 : decode cX9_treeNumber 34 = .ok (.getfield 83, 3) := by decide +kernel
theorem dX9_treeNumber_37 : decode cX9_treeNumber 37 = .ok (.iconst 0, 1) := by decide +kernel
theorem dX9_treeNumber_38 : decode cX9_treeNumber 38 = .ok (.aload_n 0, 1) := by decide +kernel
theorem dX9_treeNumber_39 : decode cX9_treeNumber 39 = .ok (.getfield 86, 3) := by decide +kernel
theorem dX9_treeNumber_42 : decode cX9_treeNumber 42 = .ok (.invokevirtual 206, 3) := by decide +kernel
theorem dX9_treeNumber_45 : decode cX9_treeNumber 45 = .ok (.lreturn, 1) := by decide +kernel
theorem dX9_treeSize_0 : decode cX9_treeSize 0 = .ok (.aload_n 0, 1) := by decide +kernel
theorem dX9_treeSize_1 : decode cX9_treeSize 1 = .ok (.iconst 1, 1) := by decide +kernel
theorem dX9_treeSize_2 : decode cX9_treeSize 2 = .ok (.aload_n 0, 1) := by decide +kernel
theorem dX9_treeSize_3 : decode cX9_treeSize 3 = .ok (.getfield 89, 3) := by decide +kernel
theorem dX9_treeSize_6 : decode cX9_treeSize 6 = .ok (.ifCond .ne 7, 3) := by decide +kernel
theorem dX9_treeSize_9 : decode cX9_treeSize 9 = .ok (.iconst 1, 1) := by decide +kernel
theorem dX9_treeSize_10 : decode cX9_treeSize 10 = .ok (.goto 4, 3) := by decide +kernel
theorem dX9_treeSize_13 : decode cX9_treeSize 13 = .ok (.iconst 0, 1) := by decide +kernel
theorem dX9_treeSize_14 : decode cX9_treeSize 14 = .ok (.invokevirtual 79, 3) := by decide +kernel
theorem dX9_treeSize_17 : decode cX9_treeSize 17 = .ok (.ifCond .eq 7, 3) := by decide +kernel
theorem dX9_treeSize_20 : decode cX9_treeSize 20 = .ok (.iconst 0, 1) := by decide +kernel
theorem dX9_treeSize_21 : decode cX9_treeSize 21 = .ok (.goto 7, 3) := by decide +kernel
theorem dX9_treeSize_24 : decode cX9_treeSize 24 = .ok (.aload_n 0, 1) := by decide +kernel
theorem dX9_treeSize_25 : decode cX9_treeSize 25 = .ok (.getfield 89, 3) := by decide +kernel
theorem dX9_treeSize_28 : decode cX9_treeSize 28 = .ok (.ireturn, 1) := by decide +kernel
theorem dX9_treeNode_0 : decode cX9_treeNode 0 = .ok (.aload_n 0, 1) := by decide +kernel
theorem dX9_treeNode_1 : decode cX9_treeNode 1 = .ok (.iconst 1, 1) := by decide +kernel
theorem dX9_treeNode_2 : decode cX9_treeNode 2 = .ok (.aload_n 0, 1) := by decide +kernel
theorem dX9_treeNode_3 : decode cX9_treeNode 3 = .ok (.getfield 89, 3) := by decide +kernel
theorem dX9_treeNode_6 : decode cX9_treeNode 6 = .ok (.ifCond .ne 7, 3) := by decide +kernel
theorem dX9_treeNode_9 : decode cX9_treeNode 9 = .ok (.iconst 1, 1) := by decide +kernel
theorem dX9_treeNode_10 : decode cX9_treeNode 10 = .ok (.goto 4, 3) := by decide +kernel
theorem dX9_treeNode_13 : decode cX9_treeNode 13 = .ok (.iconst 0, 1) := by decide +kernel
theorem dX9_treeNode_14 : decode cX9_treeNode 14 = .ok (.invokevirtual 79, 3) := by decide +kernel
theorem dX9_treeNode_17 : decode cX9_treeNode 17 = .ok (.ifCond .ne 52, 3) := by decide +kernel
theorem dX9_treeNode_20 : decode cX9_treeNode 20 = .ok (.aload_n 0, 1) := by decide +kernel
theorem dX9_treeNode_21 : decode cX9_treeNode 21 = .ok (.iconst 2, 1) := by decide +kernel
theorem dX9_treeNode_22 : decode cX9_treeNode 22 = .ok (.iload_n 1, 1) := by decide +kernel
theorem dX9_treeNode_23 : decode cX9_treeNode 23 = .ok (.iconst 0, 1) := by decide +kernel
theorem dX9_treeNode_24 : decode cX9_treeNode 24 = .ok (.aload_n 0, 1) := by decide +kernel
theorem dX9_treeNode_25 : decode cX9_treeNode 25 = .ok (.getfield 89, 3) := by decide +kernel
theorem dX9_treeNode_28 : decode cX9_treeNode 28 = .ok (.iconst 1, 1) := by decide +kernel
theorem dX9_treeNode_29 : decode cX9_treeNode 29 = .ok (.isub, 1) := by decide +kernel
theorem dX9_treeNode_30 : decode cX9_treeNode 30 = .ok (.invokestatic 72, 3) := by decide +kernel
theorem dX9_treeNode_33 : decode cX9_treeNode 33 = .ok (.ifCond .ne 7, 3) := by decide +kernel
theorem dX9_treeNode_36 : decode cX9_treeNode 36 = .ok (.iconst 1, 1) := by decide +kernel
theorem dX9_treeNode_37 : decode cX9_treeNode 37 = .ok (.goto 4, 3) := by decide +kernel
theorem dX9_treeNode_40 : decode cX9_treeNode 40 = .ok (.iconst 0, 1) := by decide +kernel
theorem dX9_treeNode_41 : decode cX9_treeNode 41 = .ok (.invokevirtual 79, 3) := by decide +kernel
theorem dX9_treeNode_44 : decode cX9_treeNode 44 = .ok (.ifCond .ne 25, 3) := by decide +kernel
theorem dX9_treeNode_47 : decode cX9_treeNode 47 = .ok (.aload_n 0, 1) := by decide +kernel
theorem dX9_treeNode_48 : decode cX9_treeNode 48 = .ok (.iconst 3, 1) := by decide +kernel
theorem dX9_treeNode_49 : decode cX9_treeNode 49 = .ok (.iload_n 2, 1) := by decide +kernel
theorem dX9_treeNode_50 : decode cX9_treeNode 50 = .ok (.iconst 0, 1) := by decide +kernel
theorem dX9_treeNode_51 : decode cX9_treeNode 51 = .ok (.iconst 2, 1) := by decide +kernel
theorem dX9_treeNode_52 : decode cX9_treeNode 52 = .ok (.invokestatic 72, 3) := by decide +kernel
theorem dX9_treeNode_55 : decode cX9_treeNode 55 = .ok (.ifCond .ne 7, 3) := by decide +kernel
theorem dX9_treeNode_58 : decode cX9_treeNode 58 = .ok (.iconst 1, 1) := by decide +kernel
theorem dX9_treeNode_59 : decode cX9_treeNode 59 = .ok (.goto 4, 3) := by decide +kernel
theorem dX9_treeNode_62 : decode cX9_treeNode 62 = .ok (.iconst 0, 1) := by decide +kernel
theorem dX9_treeNode_63 : decode cX9_treeNode 63 = .ok (.invokevirtual 79, 3) := by decide +kernel
theorem dX9_treeNode_66 : decode cX9_treeNode 66 = .ok (.ifCond .eq 5, 3) := by decide +kernel
theorem dX9_treeNode_69 : decode cX9_treeNode 69 = .ok (.iconst 0, 1) := by decide +kernel
theorem dX9_treeNode_70 : decode cX9_treeNode 70 = .ok (.ireturn, 1) := by decide +kernel
theorem dX9_treeNode_71 : decode cX9_treeNode 71 = .ok (.iload_n 2, 1) := by decide +kernel
theorem dX9_treeNode_72 : decode cX9_treeNode 72 = .ok (.ifCond .ne 12, 3) := by decide +kernel
theorem dX9_treeNode_75 : decode cX9_treeNode 75 = .ok (.aload_n 0, 1) := by decide +kernel
theorem dX9_treeNode_76 : decode cX9_treeNode 76 = .ok (.getfield 45, 3) := by decide +kernel
theorem dX9_treeNode_79 : decode cX9_treeNode 79 = .ok (.iload_n 1, 1) := by decide +kernel
theorem dX9_treeNode_80 : decode cX9_treeNode 80 = .ok (.iaload, 1) := by decide +kernel
theorem dX9_treeNode_81 : decode cX9_treeNode 81 = .ok (.goto 23, 3) := by decide +kernel
theorem dX9_treeNode_84 : decode cX9_treeNode 84 = .ok (.iload_n 2, 1) := by decide +kernel
theorem dX9_treeNode_85 : decode cX9_treeNode 85 = .ok (.iconst 1, 1) := by decide +kernel
theorem dX9_treeNode_86 : decode cX9_treeNode 86 = .ok (.if_icmp .ne 12, 3) := by decide +kernel
theorem dX9_treeNode_89 : decode cX9_treeNode 89 = .ok (.aload_n 0, 1) := by decide +kernel
theorem dX9_treeNode_90 : decode cX9_treeNode 90 = .ok (.getfield 48, 3) := by decide +kernel
theorem dX9_treeNode_93 : decode cX9_treeNode 93 = .ok (.iload_n 1, 1) := by decide +kernel
theorem dX9_treeNode_94 : decode cX9_treeNode 94 = .ok (.iaload, 1) := by decide +kernel
theorem dX9_treeNode_95 : decode cX9_treeNode 95 = .ok (.goto 9, 3) := by decide +kernel
theorem dX9_treeNode_98 : decode cX9_treeNode 98 = .ok (.aload_n 0, 1) := by decide +kernel
theorem dX9_treeNode_99 : decode cX9_treeNode 99 = .ok (.getfield 51, 3) := by decide +kernel
theorem dX9_treeNode_102 : decode cX9_treeNode 102 = .ok (.iload_n 1, 1) := by decide +kernel
theorem dX9_treeNode_103 : decode cX9_treeNode 103 = .ok (.iaload, 1) := by decide +kernel
theorem dX9_treeNode_104 : decode cX9_treeNode 104 = .ok (.ireturn, 1) := by decide +kernel
theorem dX9_isSlot_0 : decode cX9_isSlot 0 = .ok (.iload_n 0, 1) := by decide +kernel
theorem dX9_isSlot_1 : decode cX9_isSlot 1 = .ok (.iconst 0, 1) := by decide +kernel
theorem dX9_isSlot_2 : decode cX9_isSlot 2 = .ok (.iconst 2, 1) := by decide +kernel
theorem dX9_isSlot_3 : decode cX9_isSlot 3 = .ok (.invokestatic 72, 3) := by decide +kernel
theorem dX9_isSlot_6 : decode cX9_isSlot 6 = .ok (.ireturn, 1) := by decide +kernel
theorem dX9_allocate_0 : decode cX9_allocate 0 = .ok (.aload_n 0, 1) := by decide +kernel
theorem dX9_allocate_1 : decode cX9_allocate 1 = .ok (.iconst 1, 1) := by decide +kernel
theorem dX9_allocate_2 : decode cX9_allocate 2 = .ok (.iload_n 1, 1) := by decide +kernel
theorem dX9_allocate_3 : decode cX9_allocate 3 = .ok (.invokestatic 209, 3) := by decide +kernel
theorem dX9_allocate_6 : decode cX9_allocate 6 = .ok (.ifCond .eq 13, 3) := by decide +kernel
theorem dX9_allocate_9 : decode cX9_allocate 9 = .ok (.iload_n 3, 1) := by decide +kernel
theorem dX9_allocate_10 : decode cX9_allocate 10 = .ok (.iconst 0, 1) := by decide +kernel
theorem dX9_allocate_11 : decode cX9_allocate 11 = .ok (.bipush 40, 2) := by decide +kernel
theorem dX9_allocate_13 : decode cX9_allocate 13 = .ok (.invokestatic 72, 3) := by decide +kernel
theorem dX9_allocate_16 : decode cX9_allocate 16 = .ok (.ifCond .ne 7, 3) := by decide +kernel
theorem dX9_allocate_19 : decode cX9_allocate 19 = .ok (.iconst 1, 1) := by decide +kernel
theorem dX9_allocate_20 : decode cX9_allocate 20 = .ok (.goto 4, 3) := by decide +kernel
theorem dX9_allocate_23 : decode cX9_allocate 23 = .ok (.iconst 0, 1) := by decide +kernel
theorem dX9_allocate_24 : decode cX9_allocate 24 = .ok (.invokevirtual 79, 3) := by decide +kernel
theorem dX9_allocate_27 : decode cX9_allocate 27 = .ok (.ifCond .eq 4, 3) := by decide +kernel
theorem dX9_allocate_30 : decode cX9_allocate 30 = .ok (.return_, 1) := by decide +kernel
theorem dX9_allocate_31 : decode cX9_allocate 31 = .ok (.aload_n 0, 1) := by decide +kernel
theorem dX9_allocate_32 : decode cX9_allocate 32 = .ok (.getfield 54, 3) := by decide +kernel
theorem dX9_allocate_35 : decode cX9_allocate 35 = .ok (.iload_n 1, 1) := by decide +kernel
theorem dX9_allocate_36 : decode cX9_allocate 36 = .ok (.iload_n 3, 1) := by decide +kernel
theorem dX9_allocate_37 : decode cX9_allocate 37 = .ok (.iastore, 1) := by decide +kernel
theorem dX9_allocate_38 : decode cX9_allocate 38 = .ok (.aload_n 0, 1) := by decide +kernel
theorem dX9_allocate_39 : decode cX9_allocate 39 = .ok (.getfield 57, 3) := by decide +kernel
theorem dX9_allocate_42 : decode cX9_allocate 42 = .ok (.iload_n 1, 1) := by decide +kernel
theorem dX9_allocate_43 : decode cX9_allocate 43 = .ok (.iload_n 2, 1) := by decide +kernel
theorem dX9_allocate_44 : decode cX9_allocate 44 = .ok (.bastore, 1) := by decide +kernel
theorem dX9_allocate_45 : decode cX9_allocate 45 = .ok (.iconst 0, 1) := by decide +kernel
theorem dX9_allocate_46 : decode cX9_allocate 46 = .ok (.istore 4, 2) := by decide +kernel
theorem dX9_allocate_48 : decode cX9_allocate 48 = .ok (.iload 4, 2) := by decide +kernel
theorem dX9_allocate_50 : decode cX9_allocate 50 = .ok (.iload_n 3, 1) := by decide +kernel
theorem dX9_allocate_51 : decode cX9_allocate 51 = .ok (.if_icmp .ge 19, 3) := by decide +kernel
theorem dX9_allocate_54 : decode cX9_allocate 54 = .ok (.aload_n 0, 1) := by decide +kernel
theorem dX9_allocate_55 : decode cX9_allocate 55 = .ok (.getfield 60, 3) := by decide +kernel
theorem dX9_allocate_58 : decode cX9_allocate 58 = .ok (.iload_n 1, 1) := by decide +kernel
theorem dX9_allocate_59 : decode cX9_allocate 59 = .ok (.aaload, 1) := by decide +kernel
theorem dX9_allocate_60 : decode cX9_allocate 60 = .ok (.iload 4, 2) := by decide +kernel
theorem dX9_allocate_62 : decode cX9_allocate 62 = .ok (.iconst 0, 1) := by decide +kernel
theorem dX9_allocate_63 : decode cX9_allocate 63 = .ok (.iastore, 1) := by decide +kernel
theorem dX9_allocate_64 : decode cX9_allocate 64 = .ok (.iinc 4 1, 3) := by decide +kernel
theorem dX9_allocate_67 : decode cX9_allocate 67 = .ok (.goto (-19), 3) := by decide +kernel
theorem dX9_allocate_70 : decode cX9_allocate 70 = .ok (.return_, 1) := by decide +kernel
theorem dX9_narrowed_0 : decode cX9_narrowed 0 = .ok (.aload_n 0, 1) := by decide +kernel
theorem dX9_narrowed_1 : decode cX9_narrowed 1 = .ok (.getfield 57, 3) := by decide +kernel
theorem dX9_narrowed_4 : decode cX9_narrowed 4 = .ok (.iload_n 1, 1) := by decide +kernel
theorem dX9_narrowed_5 : decode cX9_narrowed 5 = .ok (.baload, 1) := by decide +kernel
theorem dX9_narrowed_6 : decode cX9_narrowed 6 = .ok (.ifCond .eq 7, 3) := by decide +kernel
theorem dX9_narrowed_9 : decode cX9_narrowed 9 = .ok (.iload_n 2, 1) := by decide +kernel
theorem dX9_narrowed_10 : decode cX9_narrowed 10 = .ok (.goto 5, 3) := by decide +kernel
theorem dX9_narrowed_13 : decode cX9_narrowed 13 = .ok (.iload_n 2, 1) := by decide +kernel
theorem dX9_narrowed_14 : decode cX9_narrowed 14 = .ok (.i2s, 1) := by decide +kernel
theorem dX9_narrowed_15 : decode cX9_narrowed 15 = .ok (.ireturn, 1) := by decide +kernel
theorem dX9_setElement_0 : decode cX9_setElement 0 = .ok (.aload_n 0, 1) := by decide +kernel
theorem dX9_setElement_1 : decode cX9_setElement 1 = .ok (.iconst 1, 1) := by decide +kernel
theorem dX9_setElement_2 : decode cX9_setElement 2 = .ok (.iload_n 1, 1) := by decide +kernel
theorem dX9_setElement_3 : decode cX9_setElement 3 = .ok (.invokestatic 209, 3) := by decide +kernel
theorem dX9_setElement_6 : decode cX9_setElement 6 = .ok (.ifCond .ne 7, 3) := by decide +kernel
theorem dX9_setElement_9 : decode cX9_setElement 9 = .ok (.iconst 1, 1) := by decide +kernel
theorem dX9_setElement_10 : decode cX9_setElement 10 = .ok (.goto 4, 3) := by decide +kernel
theorem dX9_setElement_13 : decode cX9_setElement 13 = .ok (.iconst 0, 1) := by decide +kernel
theorem dX9_setElement_14 : decode cX9_setElement 14 = .ok (.invokevirtual 79, 3) := by decide +kernel
theorem dX9_setElement_17 : decode cX9_setElement 17 = .ok (.ifCond .ne 54, 3) := by decide +kernel
theorem dX9_setElement_20 : decode cX9_setElement 20 = .ok (.aload_n 0, 1) := by decide +kernel
theorem dX9_setElement_21 : decode cX9_setElement 21 = .ok (.iconst 2, 1) := by decide +kernel
theorem dX9_setElement_22 : decode cX9_setElement 22 = .ok (.aload_n 0, 1) := by decide +kernel
theorem dX9_setElement_23 : decode cX9_setElement 23 = .ok (.getfield 54, 3) := by decide +kernel
theorem dX9_setElement_26 : decode cX9_setElement 26 = .ok (.iload_n 1, 1) := by decide +kernel
theorem dX9_setElement_27 : decode cX9_setElement 27 = .ok (.iaload, 1) := by decide +kernel
theorem dX9_setElement_28 : decode cX9_setElement 28 = .ok (.ifCond .ge 7, 3) := by decide +kernel
theorem dX9_setElement_31 : decode cX9_setElement 31 = .ok (.iconst 1, 1) := by decide +kernel
theorem dX9_setElement_32 : decode cX9_setElement 32 = .ok (.goto 4, 3) := by decide +kernel
theorem dX9_setElement_35 : decode cX9_setElement 35 = .ok (.iconst 0, 1) := by decide +kernel
theorem dX9_setElement_36 : decode cX9_setElement 36 = .ok (.invokevirtual 79, 3) := by decide +kernel
theorem dX9_setElement_39 : decode cX9_setElement 39 = .ok (.ifCond .ne 32, 3) := by decide +kernel
theorem dX9_setElement_42 : decode cX9_setElement 42 = .ok (.aload_n 0, 1) := by decide +kernel
theorem dX9_setElement_43 : decode cX9_setElement 43 = .ok (.iconst 3, 1) := by decide +kernel
theorem dX9_setElement_44 : decode cX9_setElement 44 = .ok (.iload_n 2, 1) := by decide +kernel
theorem dX9_setElement_45 : decode cX9_setElement 45 = .ok (.iconst 0, 1) := by decide +kernel
theorem dX9_setElement_46 : decode cX9_setElement 46 = .ok (.aload_n 0, 1) := by decide +kernel
theorem dX9_setElement_47 : decode cX9_setElement 47 = .ok (.getfield 54, 3) := by decide +kernel
theorem dX9_setElement_50 : decode cX9_setElement 50 = .ok (.iload_n 1, 1) := by decide +kernel
theorem dX9_setElement_51 : decode cX9_setElement 51 = .ok (.iaload, 1) := by decide +kernel
theorem dX9_setElement_52 : decode cX9_setElement 52 = .ok (.iconst 1, 1) := by decide +kernel
theorem dX9_setElement_53 : decode cX9_setElement 53 = .ok (.isub, 1) := by decide +kernel
theorem dX9_setElement_54 : decode cX9_setElement 54 = .ok (.invokestatic 72, 3) := by decide +kernel
theorem dX9_setElement_57 : decode cX9_setElement 57 = .ok (.ifCond .ne 7, 3) := by decide +kernel
theorem dX9_setElement_60 : decode cX9_setElement 60 = .ok (.iconst 1, 1) := by decide +kernel
theorem dX9_setElement_61 : decode cX9_setElement 61 = .ok (.goto 4, 3) := by decide +kernel
theorem dX9_setElement_64 : decode cX9_setElement 64 = .ok (.iconst 0, 1) := by decide +kernel
theorem dX9_setElement_65 : decode cX9_setElement 65 = .ok (.invokevirtual 79, 3) := by decide +kernel
theorem dX9_setElement_68 : decode cX9_setElement 68 = .ok (.ifCond .eq 5, 3) := by decide +kernel
theorem dX9_setElement_71 : decode cX9_setElement 71 = .ok (.iconst 0, 1) := by decide +kernel
theorem dX9_setElement_72 : decode cX9_setElement 72 = .ok (.ireturn, 1) := by decide +kernel
theorem dX9_setElement_73 : decode cX9_setElement 73 = .ok (.aload_n 0, 1) := by decide +kernel
theorem dX9_setElement_74 : decode cX9_setElement 74 = .ok (.getfield 60, 3) := by decide +kernel
theorem dX9_setElement_77 : decode cX9_setElement 77 = .ok (.iload_n 1, 1) := by decide +kernel
theorem dX9_setElement_78 : decode cX9_setElement 78 = .ok (.aaload, 1) := by decide +kernel
theorem dX9_setElement_79 : decode cX9_setElement 79 = .ok (.iload_n 2, 1) := by decide +kernel
theorem dX9_setElement_80 : decode cX9_setElement 80 = .ok (.iaload, 1) := by decide +kernel
theorem dX9_setElement_81 : decode cX9_setElement 81 = .ok (.istore 4, 2) := by decide +kernel
theorem dX9_setElement_83 : decode cX9_setElement 83 = .ok (.aload_n 0, 1) := by decide +kernel
theorem dX9_setElement_84 : decode cX9_setElement 84 = .ok (.getfield 60, 3) := by decide +kernel
theorem dX9_setElement_87 : decode cX9_setElement 87 = .ok (.iload_n 1, 1) := by decide +kernel
theorem dX9_setElement_88 : decode cX9_setElement 88 = .ok (.aaload, 1) := by decide +kernel
theorem dX9_setElement_89 : decode cX9_setElement 89 = .ok (.iload_n 2, 1) := by decide +kernel
theorem dX9_setElement_90 : decode cX9_setElement 90 = .ok (.aload_n 0, 1) := by decide +kernel
theorem dX9_setElement_91 : decode cX9_setElement 91 = .ok (.iload_n 1, 1) := by decide +kernel
theorem dX9_setElement_92 : decode cX9_setElement 92 = .ok (.iload_n 3, 1) := by decide +kernel
theorem dX9_setElement_93 : decode cX9_setElement 93 = .ok (.invokevirtual 212, 3) := by decide +kernel
theorem dX9_setElement_96 : decode cX9_setElement 96 = .ok (.iastore, 1) := by decide +kernel
theorem dX9_setElement_97 : decode cX9_setElement 97 = .ok (.iload 4, 2) := by decide +kernel
theorem dX9_setElement_99 : decode cX9_setElement 99 = .ok (.ireturn, 1) := by decide +kernel
theorem dX9_storeCounts_0 : decode cX9_storeCounts 0 = .ok (.aload_n 0, 1) := by decide +kernel
theorem dX9_storeCounts_1 : decode cX9_storeCounts 1 = .ok (.iconst 1, 1) := by decide +kernel
theorem dX9_storeCounts_2 : decode cX9_storeCounts 2 = .ok (.iload_n 1, 1) := by decide +kernel
theorem dX9_storeCounts_3 : decode cX9_storeCounts 3 = .ok (.invokestatic 209, 3) := by decide +kernel
theorem dX9_storeCounts_6 : decode cX9_storeCounts 6 = .ok (.ifCond .ne 7, 3) := by decide +kernel
theorem dX9_storeCounts_9 : decode cX9_storeCounts 9 = .ok (.iconst 1, 1) := by decide +kernel
theorem dX9_storeCounts_10 : decode cX9_storeCounts 10 = .ok (.goto 4, 3) := by decide +kernel
theorem dX9_storeCounts_13 : decode cX9_storeCounts 13 = .ok (.iconst 0, 1) := by decide +kernel
theorem dX9_storeCounts_14 : decode cX9_storeCounts 14 = .ok (.invokevirtual 79, 3) := by decide +kernel
theorem dX9_storeCounts_17 : decode cX9_storeCounts 17 = .ok (.ifCond .ne 55, 3) := by decide +kernel
theorem dX9_storeCounts_20 : decode cX9_storeCounts 20 = .ok (.aload_n 0, 1) := by decide +kernel
theorem dX9_storeCounts_21 : decode cX9_storeCounts 21 = .ok (.iconst 2, 1) := by decide +kernel
theorem dX9_storeCounts_22 : decode cX9_storeCounts 22 = .ok (.aload_n 0, 1) := by decide +kernel
theorem dX9_storeCounts_23 : decode cX9_storeCounts 23 = .ok (.getfield 54, 3) := by decide +kernel
theorem dX9_storeCounts_26 : decode cX9_storeCounts 26 = .ok (.iload_n 1, 1) := by decide +kernel
theorem dX9_storeCounts_27 : decode cX9_storeCounts 27 = .ok (.iaload, 1) := by decide +kernel
theorem dX9_storeCounts_28 : decode cX9_storeCounts 28 = .ok (.ifCond .ge 7, 3) := by decide +kernel
theorem dX9_storeCounts_31 : decode cX9_storeCounts 31 = .ok (.iconst 1, 1) := by decide +kernel
theorem dX9_storeCounts_32 : decode cX9_storeCounts 32 = .ok (.goto 4, 3) := by decide +kernel
theorem dX9_storeCounts_35 : decode cX9_storeCounts 35 = .ok (.iconst 0, 1) := by decide +kernel
theorem dX9_storeCounts_36 : decode cX9_storeCounts 36 = .ok (.invokevirtual 79, 3) := by decide +kernel
theorem dX9_storeCounts_39 : decode cX9_storeCounts 39 = .ok (.ifCond .ne 33, 3) := by decide +kernel
theorem dX9_storeCounts_42 : decode cX9_storeCounts 42 = .ok (.aload_n 0, 1) := by decide +kernel
theorem dX9_storeCounts_43 : decode cX9_storeCounts 43 = .ok (.iconst 3, 1) := by decide +kernel
theorem dX9_storeCounts_44 : decode cX9_storeCounts 44 = .ok (.iload_n 2, 1) := by decide +kernel
theorem dX9_storeCounts_45 : decode cX9_storeCounts 45 = .ok (.iconst 0, 1) := by decide +kernel
theorem dX9_storeCounts_46 : decode cX9_storeCounts 46 = .ok (.aload_n 0, 1) := by decide +kernel
theorem dX9_storeCounts_47 : decode cX9_storeCounts 47 = .ok (.getfield 54, 3) := by decide +kernel
theorem dX9_storeCounts_50 : decode cX9_storeCounts 50 = .ok (.iload_n 1, 1) := by decide +kernel
theorem dX9_storeCounts_51 : decode cX9_storeCounts 51 = .ok (.iaload, 1) := by decide +kernel
theorem dX9_storeCounts_52 : decode cX9_storeCounts 52 = .ok (.bipush 6, 2) := by decide +kernel
theorem dX9_storeCounts_54 : decode cX9_storeCounts 54 = .ok (.isub, 1) := by decide +kernel
theorem dX9_storeCounts_55 : decode cX9_storeCounts 55 = .ok (.invokestatic 72, 3) := by decide +kernel
theorem dX9_storeCounts_58 : decode cX9_storeCounts 58 = .ok (.ifCond .ne 7, 3) := by decide +kernel
theorem dX9_storeCounts_61 : decode cX9_storeCounts 61 = .ok (.iconst 1, 1) := by decide +kernel
theorem dX9_storeCounts_62 : decode cX9_storeCounts 62 = .ok (.goto 4, 3) := by decide +kernel
theorem dX9_storeCounts_65 : decode cX9_storeCounts 65 = .ok (.iconst 0, 1) := by decide +kernel
theorem dX9_storeCounts_66 : decode cX9_storeCounts 66 = .ok (.invokevirtual 79, 3) := by decide +kernel
theorem dX9_storeCounts_69 : decode cX9_storeCounts 69 = .ok (.ifCond .eq 4, 3) := by decide +kernel
theorem dX9_storeCounts_72 : decode cX9_storeCounts 72 = .ok (.return_, 1) := by decide +kernel
theorem dX9_storeCounts_73 : decode cX9_storeCounts 73 = .ok (.iconst 1, 1) := by decide +kernel
theorem dX9_storeCounts_74 : decode cX9_storeCounts 74 = .ok (.istore_n 3, 1) := by decide +kernel
theorem dX9_storeCounts_75 : decode cX9_storeCounts 75 = .ok (.iload_n 3, 1) := by decide +kernel
theorem dX9_storeCounts_76 : decode cX9_storeCounts 76 = .ok (.bipush 6, 2) := by decide +kernel
theorem dX9_storeCounts_78 : decode cX9_storeCounts 78 = .ok (.if_icmp .gt 32, 3) := by decide +kernel
theorem dX9_storeCounts_81 : decode cX9_storeCounts 81 = .ok (.aload_n 0, 1) := by decide +kernel
theorem dX9_storeCounts_82 : decode cX9_storeCounts 82 = .ok (.getfield 60, 3) := by decide +kernel
theorem dX9_storeCounts_85 : decode cX9_storeCounts 85 = .ok (.iload_n 1, 1) := by decide +kernel
theorem dX9_storeCounts_86 : decode cX9_storeCounts 86 = .ok (.aaload, 1) := by decide +kernel
theorem dX9_storeCounts_87 : decode cX9_storeCounts 87 = .ok (.iload_n 2, 1) := by decide +kernel
theorem dX9_storeCounts_88 : decode cX9_storeCounts 88 = .ok (.iload_n 3, 1) := by decide +kernel
theorem dX9_storeCounts_89 : decode cX9_storeCounts 89 = .ok (.iadd, 1) := by decide +kernel
theorem dX9_storeCounts_90 : decode cX9_storeCounts 90 = .ok (.iconst 1, 1) := by decide +kernel
theorem dX9_storeCounts_91 : decode cX9_storeCounts 91 = .ok (.isub, 1) := by decide +kernel
theorem dX9_storeCounts_92 : decode cX9_storeCounts 92 = .ok (.aload_n 0, 1) := by decide +kernel
theorem dX9_storeCounts_93 : decode cX9_storeCounts 93 = .ok (.iload_n 1, 1) := by decide +kernel
theorem dX9_storeCounts_94 : decode cX9_storeCounts 94 = .ok (.aload_n 0, 1) := by decide +kernel
theorem dX9_storeCounts_95 : decode cX9_storeCounts 95 = .ok (.iload_n 3, 1) := by decide +kernel
theorem dX9_storeCounts_96 : decode cX9_storeCounts 96 = .ok (.iconst 3, 1) := by decide +kernel
theorem dX9_storeCounts_97 : decode cX9_storeCounts 97 = .ok (.invokevirtual 159, 3) := by decide +kernel
theorem dX9_storeCounts_100 : decode cX9_storeCounts 100 = .ok (.invokevirtual 212, 3) := by decide +kernel
theorem dX9_storeCounts_103 : decode cX9_storeCounts 103 = .ok (.iastore, 1) := by decide +kernel
theorem dX9_storeCounts_104 : decode cX9_storeCounts 104 = .ok (.iinc 3 1, 3) := by decide +kernel
theorem dX9_storeCounts_107 : decode cX9_storeCounts 107 = .ok (.goto (-32), 3) := by decide +kernel
theorem dX9_storeCounts_110 : decode cX9_storeCounts 110 = .ok (.return_, 1) := by decide +kernel
theorem dX9_areTerminals_0 : decode cX9_areTerminals 0 = .ok (.iconst 0, 1) := by decide +kernel
theorem dX9_areTerminals_1 : decode cX9_areTerminals 1 = .ok (.istore 4, 2) := by decide +kernel
theorem dX9_areTerminals_3 : decode cX9_areTerminals 3 = .ok (.iload 4, 2) := by decide +kernel
theorem dX9_areTerminals_5 : decode cX9_areTerminals 5 = .ok (.iload_n 3, 1) := by decide +kernel
theorem dX9_areTerminals_6 : decode cX9_areTerminals 6 = .ok (.if_icmp .ge 35, 3) := by decide +kernel
theorem dX9_areTerminals_9 : decode cX9_areTerminals 9 = .ok (.aload_n 0, 1) := by decide +kernel
theorem dX9_areTerminals_10 : decode cX9_areTerminals 10 = .ok (.getfield 60, 3) := by decide +kernel
theorem dX9_areTerminals_13 : decode cX9_areTerminals 13 = .ok (.iload_n 1, 1) := by decide +kernel
theorem dX9_areTerminals_14 : decode cX9_areTerminals 14 = .ok (.aaload, 1) := by decide +kernel
theorem dX9_areTerminals_15 : decode cX9_areTerminals 15 = .ok (.iload_n 2, 1) := by decide +kernel
theorem dX9_areTerminals_16 : decode cX9_areTerminals 16 = .ok (.iload 4, 2) := by decide +kernel
theorem dX9_areTerminals_18 : decode cX9_areTerminals 18 = .ok (.iadd, 1) := by decide +kernel
theorem dX9_areTerminals_19 : decode cX9_areTerminals 19 = .ok (.iaload, 1) := by decide +kernel
theorem dX9_areTerminals_20 : decode cX9_areTerminals 20 = .ok (.iconst 0, 1) := by decide +kernel
theorem dX9_areTerminals_21 : decode cX9_areTerminals 21 = .ok (.aload_n 0, 1) := by decide +kernel
theorem dX9_areTerminals_22 : decode cX9_areTerminals 22 = .ok (.getfield 13, 3) := by decide +kernel
theorem dX9_areTerminals_25 : decode cX9_areTerminals 25 = .ok (.iconst 1, 1) := by decide +kernel
theorem dX9_areTerminals_26 : decode cX9_areTerminals 26 = .ok (.isub, 1) := by decide +kernel
theorem dX9_areTerminals_27 : decode cX9_areTerminals 27 = .ok (.invokestatic 72, 3) := by decide +kernel
theorem dX9_areTerminals_30 : decode cX9_areTerminals 30 = .ok (.ifCond .ne 5, 3) := by decide +kernel
theorem dX9_areTerminals_33 : decode cX9_areTerminals 33 = .ok (.iconst 0, 1) := by decide +kernel
theorem dX9_areTerminals_34 : decode cX9_areTerminals 34 = .ok (.ireturn, 1) := by decide +kernel
theorem dX9_areTerminals_35 : decode cX9_areTerminals 35 = .ok (.iinc 4 1, 3) := by decide +kernel
theorem dX9_areTerminals_38 : decode cX9_areTerminals 38 = .ok (.goto (-35), 3) := by decide +kernel
theorem dX9_areTerminals_41 : decode cX9_areTerminals 41 = .ok (.iconst 1, 1) := by decide +kernel
theorem dX9_areTerminals_42 : decode cX9_areTerminals 42 = .ok (.ireturn, 1) := by decide +kernel
theorem dX9_loadWord_0 : decode cX9_loadWord 0 = .ok (.aload_n 0, 1) := by decide +kernel
theorem dX9_loadWord_1 : decode cX9_loadWord 1 = .ok (.iconst 1, 1) := by decide +kernel
theorem dX9_loadWord_2 : decode cX9_loadWord 2 = .ok (.iload_n 1, 1) := by decide +kernel
theorem dX9_loadWord_3 : decode cX9_loadWord 3 = .ok (.invokestatic 209, 3) := by decide +kernel
theorem dX9_loadWord_6 : decode cX9_loadWord 6 = .ok (.ifCond .eq 13, 3) := by decide +kernel
theorem dX9_loadWord_9 : decode cX9_loadWord 9 = .ok (.iload_n 3, 1) := by decide +kernel
theorem dX9_loadWord_10 : decode cX9_loadWord 10 = .ok (.iconst 0, 1) := by decide +kernel
theorem dX9_loadWord_11 : decode cX9_loadWord 11 = .ok (.bipush 8, 2) := by decide +kernel
theorem dX9_loadWord_13 : decode cX9_loadWord 13 = .ok (.invokestatic 72, 3) := by decide +kernel
theorem dX9_loadWord_16 : decode cX9_loadWord 16 = .ok (.ifCond .ne 7, 3) := by decide +kernel
theorem dX9_loadWord_19 : decode cX9_loadWord 19 = .ok (.iconst 1, 1) := by decide +kernel
theorem dX9_loadWord_20 : decode cX9_loadWord 20 = .ok (.goto 4, 3) := by decide +kernel
theorem dX9_loadWord_23 : decode cX9_loadWord 23 = .ok (.iconst 0, 1) := by decide +kernel
theorem dX9_loadWord_24 : decode cX9_loadWord 24 = .ok (.invokevirtual 79, 3) := by decide +kernel
theorem dX9_loadWord_27 : decode cX9_loadWord 27 = .ok (.ifCond .ne 25, 3) := by decide +kernel
theorem dX9_loadWord_30 : decode cX9_loadWord 30 = .ok (.aload_n 0, 1) := by decide +kernel
theorem dX9_loadWord_31 : decode cX9_loadWord 31 = .ok (.iconst 2, 1) := by decide +kernel
theorem dX9_loadWord_32 : decode cX9_loadWord 32 = .ok (.aload_n 0, 1) := by decide +kernel
theorem dX9_loadWord_33 : decode cX9_loadWord 33 = .ok (.getfield 54, 3) := by decide +kernel
theorem dX9_loadWord_36 : decode cX9_loadWord 36 = .ok (.iload_n 1, 1) := by decide +kernel
theorem dX9_loadWord_37 : decode cX9_loadWord 37 = .ok (.iaload, 1) := by decide +kernel
theorem dX9_loadWord_38 : decode cX9_loadWord 38 = .ok (.ifCond .ge 7, 3) := by decide +kernel
theorem dX9_loadWord_41 : decode cX9_loadWord 41 = .ok (.iconst 1, 1) := by decide +kernel
theorem dX9_loadWord_42 : decode cX9_loadWord 42 = .ok (.goto 4, 3) := by decide +kernel
theorem dX9_loadWord_45 : decode cX9_loadWord 45 = .ok (.iconst 0, 1) := by decide +kernel
theorem dX9_loadWord_46 : decode cX9_loadWord 46 = .ok (.invokevirtual 79, 3) := by decide +kernel
theorem dX9_loadWord_49 : decode cX9_loadWord 49 = .ok (.ifCond .eq 4, 3) := by decide +kernel
theorem dX9_loadWord_52 : decode cX9_loadWord 52 = .ok (.return_, 1) := by decide +kernel
theorem dX9_loadWord_53 : decode cX9_loadWord 53 = .ok (.iload_n 3, 1) := by decide +kernel
theorem dX9_loadWord_54 : decode cX9_loadWord 54 = .ok (.ifCond .eq 23, 3) := by decide +kernel
theorem dX9_loadWord_57 : decode cX9_loadWord 57 = .ok (.iload_n 2, 1) := by decide +kernel
theorem dX9_loadWord_58 : decode cX9_loadWord 58 = .ok (.ifCond .lt 23, 3) := by decide +kernel
theorem dX9_loadWord_61 : decode cX9_loadWord 61 = .ok (.iload_n 2, 1) := by decide +kernel
theorem dX9_loadWord_62 : decode cX9_loadWord 62 = .ok (.i2l, 1) := by decide +kernel
theorem dX9_loadWord_63 : decode cX9_loadWord 63 = .ok (.iload_n 3, 1) := by decide +kernel
theorem dX9_loadWord_64 : decode cX9_loadWord 64 = .ok (.i2l, 1) := by decide +kernel
theorem dX9_loadWord_65 : decode cX9_loadWord 65 = .ok (.ladd, 1) := by decide +kernel
theorem dX9_loadWord_66 : decode cX9_loadWord 66 = .ok (.aload_n 0, 1) := by decide +kernel
theorem dX9_loadWord_67 : decode cX9_loadWord 67 = .ok (.getfield 54, 3) := by decide +kernel
theorem dX9_loadWord_70 : decode cX9_loadWord 70 = .ok (.iload_n 1, 1) := by decide +kernel
theorem dX9_loadWord_71 : decode cX9_loadWord 71 = .ok (.iaload, 1) := by decide +kernel
theorem dX9_loadWord_72 : decode cX9_loadWord 72 = .ok (.i2l, 1) := by decide +kernel
theorem dX9_loadWord_73 : decode cX9_loadWord 73 = .ok (.lcmp, 1) := by decide +kernel
theorem dX9_loadWord_74 : decode cX9_loadWord 74 = .ok (.ifCond .gt 7, 3) := by decide +kernel
theorem dX9_loadWord_77 : decode cX9_loadWord 77 = .ok (.iconst 1, 1) := by decide +kernel
theorem dX9_loadWord_78 : decode cX9_loadWord 78 = .ok (.goto 4, 3) := by decide +kernel
theorem dX9_loadWord_81 : decode cX9_loadWord 81 = .ok (.iconst 0, 1) := by decide +kernel
theorem dX9_loadWord_82 : decode cX9_loadWord 82 = .ok (.istore 4, 2) := by decide +kernel
theorem dX9_loadWord_84 : decode cX9_loadWord 84 = .ok (.aload_n 0, 1) := by decide +kernel
theorem dX9_loadWord_85 : decode cX9_loadWord 85 = .ok (.iconst 3, 1) := by decide +kernel
theorem dX9_loadWord_86 : decode cX9_loadWord 86 = .ok (.iload 4, 2) := by decide +kernel
theorem dX9_loadWord_88 : decode cX9_loadWord 88 = .ok (.ifCond .ne 7, 3) := by decide +kernel
theorem dX9_loadWord_91 : decode cX9_loadWord 91 = .ok (.iconst 1, 1) := by decide +kernel
theorem dX9_loadWord_92 : decode cX9_loadWord 92 = .ok (.goto 4, 3) := by decide +kernel
theorem dX9_loadWord_95 : decode cX9_loadWord 95 = .ok (.iconst 0, 1) := by decide +kernel
theorem dX9_loadWord_96 : decode cX9_loadWord 96 = .ok (.invokevirtual 79, 3) := by decide +kernel
theorem dX9_loadWord_99 : decode cX9_loadWord 99 = .ok (.ifCond .ne 26, 3) := by decide +kernel
theorem dX9_loadWord_102 : decode cX9_loadWord 102 = .ok (.aload_n 0, 1) := by decide +kernel
theorem dX9_loadWord_103 : decode cX9_loadWord 103 = .ok (.iconst 4, 1) := by decide +kernel
theorem dX9_loadWord_104 : decode cX9_loadWord 104 = .ok (.aload_n 0, 1) := by decide +kernel
theorem dX9_loadWord_105 : decode cX9_loadWord 105 = .ok (.iload_n 1, 1) := by decide +kernel
theorem dX9_loadWord_106 : decode cX9_loadWord 106 = .ok (.iload_n 2, 1) := by decide +kernel
theorem dX9_loadWord_107 : decode cX9_loadWord 107 = .ok (.iload_n 3, 1) := by decide +kernel
theorem dX9_loadWord_108 : decode cX9_loadWord 108 = .ok (.invokevirtual 215, 3) := by decide +kernel
theorem dX9_loadWord_111 : decode cX9_loadWord 111 = .ok (.ifCond .ne 7, 3) := by decide +kernel
theorem dX9_loadWord_114 : decode cX9_loadWord 114 = .ok (.iconst 1, 1) := by decide +kernel
theorem dX9_loadWord_115 : decode cX9_loadWord 115 = .ok (.goto 4, 3) := by decide +kernel
theorem dX9_loadWord_118 : decode cX9_loadWord 118 = .ok (.iconst 0, 1) := by decide +kernel
theorem dX9_loadWord_119 : decode cX9_loadWord 119 = .ok (.invokevirtual 79, 3) := by decide +kernel
theorem dX9_loadWord_122 : decode cX9_loadWord 122 = .ok (.ifCond .eq 4, 3) := by decide +kernel
theorem dX9_loadWord_125 : decode cX9_loadWord 125 = .ok (.return_, 1) := by decide +kernel
theorem dX9_loadWord_126 : decode cX9_loadWord 126 = .ok (.iconst 0, 1) := by decide +kernel
theorem dX9_loadWord_127 : decode cX9_loadWord 127 = .ok (.istore 5, 2) := by decide +kernel
theorem dX9_loadWord_129 : decode cX9_loadWord 129 = .ok (.iload 5, 2) := by decide +kernel
theorem dX9_loadWord_131 : decode cX9_loadWord 131 = .ok (.iload_n 3, 1) := by decide +kernel
theorem dX9_loadWord_132 : decode cX9_loadWord 132 = .ok (.if_icmp .ge 27, 3) := by decide +kernel
theorem dX9_loadWord_135 : decode cX9_loadWord 135 = .ok (.aload_n 0, 1) := by decide +kernel
theorem dX9_loadWord_136 : decode cX9_loadWord 136 = .ok (.getfield 21, 3) := by decide +kernel
theorem dX9_loadWord_139 : decode cX9_loadWord 139 = .ok (.iload 5, 2) := by decide +kernel
theorem dX9_loadWord_141 : decode cX9_loadWord 141 = .ok (.aload_n 0, 1) := by decide +kernel
theorem dX9_loadWord_142 : decode cX9_loadWord 142 = .ok (.getfield 60, 3) := by decide +kernel
theorem dX9_loadWord_145 : decode cX9_loadWord 145 = .ok (.iload_n 1, 1) := by decide +kernel
theorem dX9_loadWord_146 : decode cX9_loadWord 146 = .ok (.aaload, 1) := by decide +kernel
theorem dX9_loadWord_147 : decode cX9_loadWord 147 = .ok (.iload_n 2, 1) := by decide +kernel
theorem dX9_loadWord_148 : decode cX9_loadWord 148 = .ok (.iload 5, 2) := by decide +kernel
theorem dX9_loadWord_150 : decode cX9_loadWord 150 = .ok (.iadd, 1) := by decide +kernel
theorem dX9_loadWord_151 : decode cX9_loadWord 151 = .ok (.iaload, 1) := by decide +kernel
theorem dX9_loadWord_152 : decode cX9_loadWord 152 = .ok (.iastore, 1) := by decide +kernel
theorem dX9_loadWord_153 : decode cX9_loadWord 153 = .ok (.iinc 5 1, 3) := by decide +kernel
theorem dX9_loadWord_156 : decode cX9_loadWord 156 = .ok (.goto (-27), 3) := by decide +kernel
theorem dX9_loadWord_159 : decode cX9_loadWord 159 = .ok (.aload_n 0, 1) := by decide +kernel
theorem dX9_loadWord_160 : decode cX9_loadWord 160 = .ok (.iload_n 3, 1) := by decide +kernel
theorem dX9_loadWord_161 : decode cX9_loadWord 161 = .ok (.putfield 86, 3) := by decide +kernel
theorem dX9_loadWord_164 : decode cX9_loadWord 164 = .ok (.aload_n 0, 1) := by decide +kernel
theorem dX9_loadWord_165 : decode cX9_loadWord 165 = .ok (.iconst 0, 1) := by decide +kernel
theorem dX9_loadWord_166 : decode cX9_loadWord 166 = .ok (.putfield 89, 3) := by decide +kernel
theorem dX9_loadWord_169 : decode cX9_loadWord 169 = .ok (.return_, 1) := by decide +kernel
theorem dX9_copyTable_0 : decode cX9_copyTable 0 = .ok (.iconst 0, 1) := by decide +kernel
theorem dX9_copyTable_1 : decode cX9_copyTable 1 = .ok (.istore_n 2, 1) := by decide +kernel
theorem dX9_copyTable_2 : decode cX9_copyTable 2 = .ok (.iload_n 2, 1) := by decide +kernel
theorem dX9_copyTable_3 : decode cX9_copyTable 3 = .ok (.bipush 24, 2) := by decide +kernel
theorem dX9_copyTable_5 : decode cX9_copyTable 5 = .ok (.if_icmp .ge 32, 3) := by decide +kernel
theorem dX9_copyTable_8 : decode cX9_copyTable 8 = .ok (.iconst 0, 1) := by decide +kernel
theorem dX9_copyTable_9 : decode cX9_copyTable 9 = .ok (.istore_n 3, 1) := by decide +kernel
theorem dX9_copyTable_10 : decode cX9_copyTable 10 = .ok (.iload_n 3, 1) := by decide +kernel
theorem dX9_copyTable_11 : decode cX9_copyTable 11 = .ok (.iconst 4, 1) := by decide +kernel
theorem dX9_copyTable_12 : decode cX9_copyTable 12 = .ok (.if_icmp .ge 19, 3) := by decide +kernel
theorem dX9_copyTable_15 : decode cX9_copyTable 15 = .ok (.aload_n 1, 1) := by decide +kernel
theorem dX9_copyTable_16 : decode cX9_copyTable 16 = .ok (.iload_n 2, 1) := by decide +kernel
theorem dX9_copyTable_17 : decode cX9_copyTable 17 = .ok (.aaload, 1) := by decide +kernel
theorem dX9_copyTable_18 : decode cX9_copyTable 18 = .ok (.iload_n 3, 1) := by decide +kernel
theorem dX9_copyTable_19 : decode cX9_copyTable 19 = .ok (.aload_n 0, 1) := by decide +kernel
theorem dX9_copyTable_20 : decode cX9_copyTable 20 = .ok (.iload_n 2, 1) := by decide +kernel
theorem dX9_copyTable_21 : decode cX9_copyTable 21 = .ok (.aaload, 1) := by decide +kernel
theorem dX9_copyTable_22 : decode cX9_copyTable 22 = .ok (.iload_n 3, 1) := by decide +kernel
theorem dX9_copyTable_23 : decode cX9_copyTable 23 = .ok (.iaload, 1) := by decide +kernel
theorem dX9_copyTable_24 : decode cX9_copyTable 24 = .ok (.iastore, 1) := by decide +kernel
theorem dX9_copyTable_25 : decode cX9_copyTable 25 = .ok (.iinc 3 1, 3) := by decide +kernel
theorem dX9_copyTable_28 : decode cX9_copyTable 28 = .ok (.goto (-18), 3) := by decide +kernel
theorem dX9_copyTable_31 : decode cX9_copyTable 31 = .ok (.iinc 2 1, 3) := by decide +kernel
theorem dX9_copyTable_34 : decode cX9_copyTable 34 = .ok (.goto (-32), 3) := by decide +kernel
theorem dX9_copyTable_37 : decode cX9_copyTable 37 = .ok (.return_, 1) := by decide +kernel
theorem dX9_snapshot_0 : decode cX9_snapshot 0 = .ok (.aload_n 0, 1) := by decide +kernel
theorem dX9_snapshot_1 : decode cX9_snapshot 1 = .ok (.iconst 0, 1) := by decide +kernel
theorem dX9_snapshot_2 : decode cX9_snapshot 2 = .ok (.putfield 69, 3) := by decide +kernel
theorem dX9_snapshot_5 : decode cX9_snapshot 5 = .ok (.aload_n 0, 1) := by decide +kernel
theorem dX9_snapshot_6 : decode cX9_snapshot 6 = .ok (.iconst 1, 1) := by decide +kernel
theorem dX9_snapshot_7 : decode cX9_snapshot 7 = .ok (.putfield 218, 3) := by decide +kernel
theorem dX9_snapshot_10 : decode cX9_snapshot 10 = .ok (.aload_n 0, 1) := by decide +kernel
theorem dX9_snapshot_11 : decode cX9_snapshot 11 = .ok (.aload_n 0, 1) := by decide +kernel
theorem dX9_snapshot_12 : decode cX9_snapshot 12 = .ok (.getfield 7, 3) := by decide +kernel
theorem dX9_snapshot_15 : decode cX9_snapshot 15 = .ok (.putfield 221, 3) := by decide +kernel
theorem dX9_snapshot_18 : decode cX9_snapshot 18 = .ok (.aload_n 0, 1) := by decide +kernel
theorem dX9_snapshot_19 : decode cX9_snapshot 19 = .ok (.aload_n 0, 1) := by decide +kernel
theorem dX9_snapshot_20 : decode cX9_snapshot 20 = .ok (.getfield 13, 3) := by decide +kernel
theorem dX9_snapshot_23 : decode cX9_snapshot 23 = .ok (.putfield 224, 3) := by decide +kernel
theorem dX9_snapshot_26 : decode cX9_snapshot 26 = .ok (.aload_n 0, 1) := by decide +kernel
theorem dX9_snapshot_27 : decode cX9_snapshot 27 = .ok (.aload_n 0, 1) := by decide +kernel
theorem dX9_snapshot_28 : decode cX9_snapshot 28 = .ok (.getfield 83, 3) := by decide +kernel
theorem dX9_snapshot_31 : decode cX9_snapshot 31 = .ok (.putfield 227, 3) := by decide +kernel
theorem dX9_snapshot_34 : decode cX9_snapshot 34 = .ok (.aload_n 0, 1) := by decide +kernel
theorem dX9_snapshot_35 : decode cX9_snapshot 35 = .ok (.aload_n 0, 1) := by decide +kernel
theorem dX9_snapshot_36 : decode cX9_snapshot 36 = .ok (.getfield 76, 3) := by decide +kernel
theorem dX9_snapshot_39 : decode cX9_snapshot 39 = .ok (.putfield 230, 3) := by decide +kernel
theorem dX9_snapshot_42 : decode cX9_snapshot 42 = .ok (.aload_n 0, 1) := by decide +kernel
theorem dX9_snapshot_43 : decode cX9_snapshot 43 = .ok (.aload_n 0, 1) := by decide +kernel
theorem dX9_snapshot_44 : decode cX9_snapshot 44 = .ok (.getfield 86, 3) := by decide +kernel
theorem dX9_snapshot_47 : decode cX9_snapshot 47 = .ok (.putfield 233, 3) := by decide +kernel
theorem dX9_snapshot_50 : decode cX9_snapshot 50 = .ok (.aload_n 0, 1) := by decide +kernel
theorem dX9_snapshot_51 : decode cX9_snapshot 51 = .ok (.getfield 18, 3) := by decide +kernel
theorem dX9_snapshot_54 : decode cX9_snapshot 54 = .ok (.aload_n 0, 1) := by decide +kernel
theorem dX9_snapshot_55 : decode cX9_snapshot 55 = .ok (.getfield 63, 3) := by decide +kernel
theorem dX9_snapshot_58 : decode cX9_snapshot 58 = .ok (.invokestatic 236, 3) := by decide +kernel
theorem dX9_snapshot_61 : decode cX9_snapshot 61 = .ok (.iconst 0, 1) := by decide +kernel
theorem dX9_snapshot_62 : decode cX9_snapshot 62 = .ok (.istore_n 1, 1) := by decide +kernel
theorem dX9_snapshot_63 : decode cX9_snapshot 63 = .ok (.iload_n 1, 1) := by decide +kernel
theorem dX9_snapshot_64 : decode cX9_snapshot 64 = .ok (.bipush 8, 2) := by decide +kernel
theorem dX9_snapshot_66 : decode cX9_snapshot 66 = .ok (.if_icmp .ge 21, 3) := by decide +kernel
theorem dX9_snapshot_69 : decode cX9_snapshot 69 = .ok (.aload_n 0, 1) := by decide +kernel
theorem dX9_snapshot_70 : decode cX9_snapshot 70 = .ok (.getfield 66, 3) := by decide +kernel
theorem dX9_snapshot_73 : decode cX9_snapshot 73 = .ok (.iload_n 1, 1) := by decide +kernel
theorem dX9_snapshot_74 : decode cX9_snapshot 74 = .ok (.aload_n 0, 1) := by decide +kernel
theorem dX9_snapshot_75 : decode cX9_snapshot 75 = .ok (.getfield 21, 3) := by decide +kernel
theorem dX9_snapshot_78 : decode cX9_snapshot 78 = .ok (.iload_n 1, 1) := by decide +kernel
theorem dX9_snapshot_79 : decode cX9_snapshot 79 = .ok (.iaload, 1) := by decide +kernel
theorem dX9_snapshot_80 : decode cX9_snapshot 80 = .ok (.iastore, 1) := by decide +kernel
theorem dX9_snapshot_81 : decode cX9_snapshot 81 = .ok (.iinc 1 1, 3) := by decide +kernel
theorem dX9_snapshot_84 : decode cX9_snapshot 84 = .ok (.goto (-21), 3) := by decide +kernel
theorem dX9_snapshot_87 : decode cX9_snapshot 87 = .ok (.return_, 1) := by decide +kernel
theorem dX9_restore_0 : decode cX9_restore 0 = .ok (.aload_n 0, 1) := by decide +kernel
theorem dX9_restore_1 : decode cX9_restore 1 = .ok (.iconst 1, 1) := by decide +kernel
theorem dX9_restore_2 : decode cX9_restore 2 = .ok (.aload_n 0, 1) := by decide +kernel
theorem dX9_restore_3 : decode cX9_restore 3 = .ok (.getfield 218, 3) := by decide +kernel
theorem dX9_restore_6 : decode cX9_restore 6 = .ok (.ifCond .ne 7, 3) := by decide +kernel
theorem dX9_restore_9 : decode cX9_restore 9 = .ok (.iconst 1, 1) := by decide +kernel
theorem dX9_restore_10 : decode cX9_restore 10 = .ok (.goto 4, 3) := by decide +kernel
theorem dX9_restore_13 : decode cX9_restore 13 = .ok (.iconst 0, 1) := by decide +kernel
theorem dX9_restore_14 : decode cX9_restore 14 = .ok (.invokevirtual 79, 3) := by decide +kernel
theorem dX9_restore_17 : decode cX9_restore 17 = .ok (.ifCond .eq 4, 3) := by decide +kernel
theorem dX9_restore_20 : decode cX9_restore 20 = .ok (.return_, 1) := by decide +kernel
theorem dX9_restore_21 : decode cX9_restore 21 = .ok (.aload_n 0, 1) := by decide +kernel
theorem dX9_restore_22 : decode cX9_restore 22 = .ok (.aload_n 0, 1) := by decide +kernel
theorem dX9_restore_23 : decode cX9_restore 23 = .ok (.getfield 221, 3) := by decide +kernel
theorem dX9_restore_26 : decode cX9_restore 26 = .ok (.putfield 7, 3) := by decide +kernel
theorem dX9_restore_29 : decode cX9_restore 29 = .ok (.aload_n 0, 1) := by decide +kernel
theorem dX9_restore_30 : decode cX9_restore 30 = .ok (.aload_n 0, 1) := by decide +kernel
theorem dX9_restore_31 : decode cX9_restore 31 = .ok (.getfield 224, 3) := by decide +kernel
theorem dX9_restore_34 : decode cX9_restore 34 = .ok (.putfield 13, 3) := by decide +kernel
theorem dX9_restore_37 : decode cX9_restore 37 = .ok (.aload_n 0, 1) := by decide +kernel
theorem dX9_restore_38 : decode cX9_restore 38 = .ok (.aload_n 0, 1) := by decide +kernel
theorem dX9_restore_39 : decode cX9_restore 39 = .ok (.getfield 227, 3) := by decide +kernel
theorem dX9_restore_42 : decode cX9_restore 42 = .ok (.putfield 83, 3) := by decide +kernel
theorem dX9_restore_45 : decode cX9_restore 45 = .ok (.aload_n 0, 1) := by decide +kernel
theorem dX9_restore_46 : decode cX9_restore 46 = .ok (.aload_n 0, 1) := by decide +kernel
theorem dX9_restore_47 : decode cX9_restore 47 = .ok (.getfield 230, 3) := by decide +kernel
theorem dX9_restore_50 : decode cX9_restore 50 = .ok (.putfield 76, 3) := by decide +kernel
theorem dX9_restore_53 : decode cX9_restore 53 = .ok (.aload_n 0, 1) := by decide +kernel
theorem dX9_restore_54 : decode cX9_restore 54 = .ok (.aload_n 0, 1) := by decide +kernel
theorem dX9_restore_55 : decode cX9_restore 55 = .ok (.getfield 233, 3) := by decide +kernel
theorem dX9_restore_58 : decode cX9_restore 58 = .ok (.putfield 86, 3) := by decide +kernel
theorem dX9_restore_61 : decode cX9_restore 61 = .ok (.aload_n 0, 1) := by decide +kernel
theorem dX9_restore_62 : decode cX9_restore 62 = .ok (.getfield 63, 3) := by decide +kernel
theorem dX9_restore_65 : decode cX9_restore 65 = .ok (.aload_n 0, 1) := by decide +kernel
theorem dX9_restore_66 : decode cX9_restore 66 = .ok (.getfield 18, 3) := by decide +kernel
theorem dX9_restore_69 : decode cX9_restore 69 = .ok (.invokestatic 236, 3) := by decide +kernel
theorem dX9_restore_72 : decode cX9_restore 72 = .ok (.iconst 0, 1) := by decide +kernel
theorem dX9_restore_73 : decode cX9_restore 73 = .ok (.istore_n 1, 1) := by decide +kernel
theorem dX9_restore_74 : decode cX9_restore 74 = .ok (.iload_n 1, 1) := by decide +kernel
theorem dX9_restore_75 : decode cX9_restore 75 = .ok (.bipush 8, 2) := by decide +kernel
theorem dX9_restore_77 : decode cX9_restore 77 = .ok (.if_icmp .ge 21, 3) := by decide +kernel
theorem dX9_restore_80 : decode cX9_restore 80 = .ok (.aload_n 0, 1) := by decide +kernel
theorem dX9_restore_81 : decode cX9_restore 81 = .ok (.getfield 21, 3) := by decide +kernel
theorem dX9_restore_84 : decode cX9_restore 84 = .ok (.iload_n 1, 1) := by decide +kernel
theorem dX9_restore_85 : decode cX9_restore 85 = .ok (.aload_n 0, 1) := by decide +kernel
theorem dX9_restore_86 : decode cX9_restore 86 = .ok (.getfield 66, 3) := by decide +kernel
theorem dX9_restore_89 : decode cX9_restore 89 = .ok (.iload_n 1, 1) := by decide +kernel
theorem dX9_restore_90 : decode cX9_restore 90 = .ok (.iaload, 1) := by decide +kernel
theorem dX9_restore_91 : decode cX9_restore 91 = .ok (.iastore, 1) := by decide +kernel
theorem dX9_restore_92 : decode cX9_restore 92 = .ok (.iinc 1 1, 3) := by decide +kernel
theorem dX9_restore_95 : decode cX9_restore 95 = .ok (.goto (-21), 3) := by decide +kernel
theorem dX9_restore_98 : decode cX9_restore 98 = .ok (.aload_n 0, 1) := by decide +kernel
theorem dX9_restore_99 : decode cX9_restore 99 = .ok (.iconst 0, 1) := by decide +kernel
theorem dX9_restore_100 : decode cX9_restore 100 = .ok (.putfield 89, 3) := by decide +kernel
theorem dX9_restore_103 : decode cX9_restore 103 = .ok (.return_, 1) := by decide +kernel
theorem dJ9_max_7cf53_0 : decode cJ9_max_7cf53 0 = .ok (.iload_n 0, 1) := by decide +kernel
theorem dJ9_max_7cf53_1 : decode cJ9_max_7cf53 1 = .ok (.iload_n 1, 1) := by decide +kernel
theorem dJ9_max_7cf53_2 : decode cJ9_max_7cf53 2 = .ok (.if_icmp .lt 7, 3) := by decide +kernel
theorem dJ9_max_7cf53_5 : decode cJ9_max_7cf53 5 = .ok (.iload_n 0, 1) := by decide +kernel
theorem dJ9_max_7cf53_6 : decode cJ9_max_7cf53 6 = .ok (.goto 4, 3) := by decide +kernel
theorem dJ9_max_7cf53_9 : decode cJ9_max_7cf53 9 = .ok (.iload_n 1, 1) := by decide +kernel
theorem dJ9_max_7cf53_10 : decode cJ9_max_7cf53 10 = .ok (.ireturn, 1) := by decide +kernel
theorem dJ9_max_f86c9_0 : decode cJ9_max_f86c9 0 = .ok (.lload_n 0, 1) := by decide +kernel
theorem dJ9_max_f86c9_1 : decode cJ9_max_f86c9 1 = .ok (.lload_n 2, 1) := by decide +kernel
theorem dJ9_max_f86c9_2 : decode cJ9_max_f86c9 2 = .ok (.lcmp, 1) := by decide +kernel
theorem dJ9_max_f86c9_3 : decode cJ9_max_f86c9 3 = .ok (.ifCond .lt 7, 3) := by decide +kernel
theorem dJ9_max_f86c9_6 : decode cJ9_max_f86c9 6 = .ok (.lload_n 0, 1) := by decide +kernel
theorem dJ9_max_f86c9_7 : decode cJ9_max_f86c9 7 = .ok (.goto 4, 3) := by decide +kernel
theorem dJ9_max_f86c9_10 : decode cJ9_max_f86c9 10 = .ok (.lload_n 2, 1) := by decide +kernel
theorem dJ9_max_f86c9_11 : decode cJ9_max_f86c9 11 = .ok (.lreturn, 1) := by decide +kernel
theorem dJ9_min_7cf53_0 : decode cJ9_min_7cf53 0 = .ok (.iload_n 0, 1) := by decide +kernel
theorem dJ9_min_7cf53_1 : decode cJ9_min_7cf53 1 = .ok (.iload_n 1, 1) := by decide +kernel
theorem dJ9_min_7cf53_2 : decode cJ9_min_7cf53 2 = .ok (.if_icmp .gt 7, 3) := by decide +kernel
theorem dJ9_min_7cf53_5 : decode cJ9_min_7cf53 5 = .ok (.iload_n 0, 1) := by decide +kernel
theorem dJ9_min_7cf53_6 : decode cJ9_min_7cf53 6 = .ok (.goto 4, 3) := by decide +kernel
theorem dJ9_min_7cf53_9 : decode cJ9_min_7cf53 9 = .ok (.iload_n 1, 1) := by decide +kernel
theorem dJ9_min_7cf53_10 : decode cJ9_min_7cf53 10 = .ok (.ireturn, 1) := by decide +kernel
theorem dL_reset_0 : decode cL_reset 0 = .ok (.aload_n 0, 1) := by decide +kernel
theorem dL_reset_1 : decode cL_reset 1 = .ok (.iload_n 1, 1) := by decide +kernel
theorem dL_reset_2 : decode cL_reset 2 = .ok (.iload_n 2, 1) := by decide +kernel
theorem dL_reset_3 : decode cL_reset 3 = .ok (.invokevirtual 7, 3) := by decide +kernel
theorem dL_reset_6 : decode cL_reset 6 = .ok (.goto 6, 3) := by decide +kernel
theorem dL_reset_9 : decode cL_reset 9 = .ok (.astore_n 3, 1) := by decide +kernel
theorem dL_reset_10 : decode cL_reset 10 = .ok (.iconst 1, 1) := by decide +kernel
theorem dL_reset_11 : decode cL_reset 11 = .ok (.ireturn, 1) := by decide +kernel
theorem dL_reset_12 : decode cL_reset 12 = .ok (.iconst 0, 1) := by decide +kernel
theorem dL_reset_13 : decode cL_reset 13 = .ok (.ireturn, 1) := by decide +kernel
theorem dL_addProduction_0 : decode cL_addProduction 0 = .ok (.aload 5, 2) := by decide +kernel
theorem dL_addProduction_2 : decode cL_addProduction 2 = .ok (.iconst 0, 1) := by decide +kernel
theorem dL_addProduction_3 : decode cL_addProduction 3 = .ok (.aload_n 0, 1) := by decide +kernel
theorem dL_addProduction_4 : decode cL_addProduction 4 = .ok (.iload_n 1, 1) := by decide +kernel
theorem dL_addProduction_5 : decode cL_addProduction 5 = .ok (.iload_n 2, 1) := by decide +kernel
theorem dL_addProduction_6 : decode cL_addProduction 6 = .ok (.iload_n 3, 1) := by decide +kernel
theorem dL_addProduction_7 : decode cL_addProduction 7 = .ok (.iload 4, 2) := by decide +kernel
theorem dL_addProduction_9 : decode cL_addProduction 9 = .ok (.invokevirtual 15, 3) := by decide +kernel
theorem dL_addProduction_12 : decode cL_addProduction 12 = .ok (.i2l, 1) := by decide +kernel
theorem dL_addProduction_13 : decode cL_addProduction 13 = .ok (.lastore, 1) := by decide +kernel
theorem dL_addProduction_14 : decode cL_addProduction 14 = .ok (.goto 11, 3) := by decide +kernel
theorem dL_addProduction_17 : decode cL_addProduction 17 = .ok (.astore 6, 2) := by decide +kernel
theorem dL_addProduction_19 : decode cL_addProduction 19 = .ok (.iconst 1, 1) := by decide +kernel
theorem dL_addProduction_20 : decode cL_addProduction 20 = .ok (.ireturn, 1) := by decide +kernel
theorem dL_addProduction_21 : decode cL_addProduction 21 = .ok (.astore 6, 2) := by decide +kernel
theorem dL_addProduction_23 : decode cL_addProduction 23 = .ok (.iconst 2, 1) := by decide +kernel
theorem dL_addProduction_24 : decode cL_addProduction 24 = .ok (.ireturn, 1) := by decide +kernel
theorem dL_addProduction_25 : decode cL_addProduction 25 = .ok (.iconst 0, 1) := by decide +kernel
theorem dL_addProduction_26 : decode cL_addProduction 26 = .ok (.ireturn, 1) := by decide +kernel
theorem dL_removeProduction_0 : decode cL_removeProduction 0 = .ok (.aload_n 2, 1) := by decide +kernel
theorem dL_removeProduction_1 : decode cL_removeProduction 1 = .ok (.iconst 0, 1) := by decide +kernel
theorem dL_removeProduction_2 : decode cL_removeProduction 2 = .ok (.aload_n 0, 1) := by decide +kernel
theorem dL_removeProduction_3 : decode cL_removeProduction 3 = .ok (.iload_n 1, 1) := by decide +kernel
theorem dL_removeProduction_4 : decode cL_removeProduction 4 = .ok (.invokevirtual 21, 3) := by decide +kernel
theorem dL_removeProduction_7 : decode cL_removeProduction 7 = .ok (.i2l, 1) := by decide +kernel
theorem dL_removeProduction_8 : decode cL_removeProduction 8 = .ok (.lastore, 1) := by decide +kernel
theorem dL_removeProduction_9 : decode cL_removeProduction 9 = .ok (.goto 6, 3) := by decide +kernel
theorem dL_removeProduction_12 : decode cL_removeProduction 12 = .ok (.astore_n 3, 1) := by decide +kernel
theorem dL_removeProduction_13 : decode cL_removeProduction 13 = .ok (.iconst 1, 1) := by decide +kernel
theorem dL_removeProduction_14 : decode cL_removeProduction 14 = .ok (.ireturn, 1) := by decide +kernel
theorem dL_removeProduction_15 : decode cL_removeProduction 15 = .ok (.iconst 0, 1) := by decide +kernel
theorem dL_removeProduction_16 : decode cL_removeProduction 16 = .ok (.ireturn, 1) := by decide +kernel
theorem dL_productionSymbol_0 : decode cL_productionSymbol 0 = .ok (.aload_n 3, 1) := by decide +kernel
theorem dL_productionSymbol_1 : decode cL_productionSymbol 1 = .ok (.iconst 0, 1) := by decide +kernel
theorem dL_productionSymbol_2 : decode cL_productionSymbol 2 = .ok (.aload_n 0, 1) := by decide +kernel
theorem dL_productionSymbol_3 : decode cL_productionSymbol 3 = .ok (.iload_n 1, 1) := by decide +kernel
theorem dL_productionSymbol_4 : decode cL_productionSymbol 4 = .ok (.iload_n 2, 1) := by decide +kernel
theorem dL_productionSymbol_5 : decode cL_productionSymbol 5 = .ok (.invokevirtual 25, 3) := by decide +kernel
theorem dL_productionSymbol_8 : decode cL_productionSymbol 8 = .ok (.i2l, 1) := by decide +kernel
theorem dL_productionSymbol_9 : decode cL_productionSymbol 9 = .ok (.lastore, 1) := by decide +kernel
theorem dL_productionSymbol_10 : decode cL_productionSymbol 10 = .ok (.goto 11, 3) := by decide +kernel
theorem dL_productionSymbol_13 : decode cL_productionSymbol 13 = .ok (.astore 4, 2) := by decide +kernel
theorem dL_productionSymbol_15 : decode cL_productionSymbol 15 = .ok (.iconst 1, 1) := by decide +kernel
theorem dL_productionSymbol_16 : decode cL_productionSymbol 16 = .ok (.ireturn, 1) := by decide +kernel
theorem dL_productionSymbol_17 : decode cL_productionSymbol 17 = .ok (.astore 4, 2) := by decide +kernel
theorem dL_productionSymbol_19 : decode cL_productionSymbol 19 = .ok (.iconst 2, 1) := by decide +kernel
theorem dL_productionSymbol_20 : decode cL_productionSymbol 20 = .ok (.ireturn, 1) := by decide +kernel
theorem dL_productionSymbol_21 : decode cL_productionSymbol 21 = .ok (.iconst 0, 1) := by decide +kernel
theorem dL_productionSymbol_22 : decode cL_productionSymbol 22 = .ok (.ireturn, 1) := by decide +kernel
theorem dL_setStart_0 : decode cL_setStart 0 = .ok (.aload_n 2, 1) := by decide +kernel
theorem dL_setStart_1 : decode cL_setStart 1 = .ok (.iconst 0, 1) := by decide +kernel
theorem dL_setStart_2 : decode cL_setStart 2 = .ok (.aload_n 0, 1) := by decide +kernel
theorem dL_setStart_3 : decode cL_setStart 3 = .ok (.iload_n 1, 1) := by decide +kernel
theorem dL_setStart_4 : decode cL_setStart 4 = .ok (.invokevirtual 31, 3) := by decide +kernel
theorem dL_setStart_7 : decode cL_setStart 7 = .ok (.i2l, 1) := by decide +kernel
theorem dL_setStart_8 : decode cL_setStart 8 = .ok (.lastore, 1) := by decide +kernel
theorem dL_setStart_9 : decode cL_setStart 9 = .ok (.goto 6, 3) := by decide +kernel
theorem dL_setStart_12 : decode cL_setStart 12 = .ok (.astore_n 3, 1) := by decide +kernel
theorem dL_setStart_13 : decode cL_setStart 13 = .ok (.iconst 1, 1) := by decide +kernel
theorem dL_setStart_14 : decode cL_setStart 14 = .ok (.ireturn, 1) := by decide +kernel
theorem dL_setStart_15 : decode cL_setStart 15 = .ok (.iconst 0, 1) := by decide +kernel
theorem dL_setStart_16 : decode cL_setStart 16 = .ok (.ireturn, 1) := by decide +kernel
theorem dL_shortestLength_0 : decode cL_shortestLength 0 = .ok (.aload_n 2, 1) := by decide +kernel
theorem dL_shortestLength_1 : decode cL_shortestLength 1 = .ok (.iconst 0, 1) := by decide +kernel
theorem dL_shortestLength_2 : decode cL_shortestLength 2 = .ok (.aload_n 0, 1) := by decide +kernel
theorem dL_shortestLength_3 : decode cL_shortestLength 3 = .ok (.iload_n 1, 1) := by decide +kernel
theorem dL_shortestLength_4 : decode cL_shortestLength 4 = .ok (.invokevirtual 34, 3) := by decide +kernel
theorem dL_shortestLength_7 : decode cL_shortestLength 7 = .ok (.i2l, 1) := by decide +kernel
theorem dL_shortestLength_8 : decode cL_shortestLength 8 = .ok (.lastore, 1) := by decide +kernel
theorem dL_shortestLength_9 : decode cL_shortestLength 9 = .ok (.goto 6, 3) := by decide +kernel
theorem dL_shortestLength_12 : decode cL_shortestLength 12 = .ok (.astore_n 3, 1) := by decide +kernel
theorem dL_shortestLength_13 : decode cL_shortestLength 13 = .ok (.iconst 1, 1) := by decide +kernel
theorem dL_shortestLength_14 : decode cL_shortestLength 14 = .ok (.ireturn, 1) := by decide +kernel
theorem dL_shortestLength_15 : decode cL_shortestLength 15 = .ok (.iconst 0, 1) := by decide +kernel
theorem dL_shortestLength_16 : decode cL_shortestLength 16 = .ok (.ireturn, 1) := by decide +kernel
theorem dL_append_0 : decode cL_append 0 = .ok (.aload_n 2, 1) := by decide +kernel
theorem dL_append_1 : decode cL_append 1 = .ok (.iconst 0, 1) := by decide +kernel
theorem dL_append_2 : decode cL_append 2 = .ok (.aload_n 0, 1) := by decide +kernel
theorem dL_append_3 : decode cL_append 3 = .ok (.iload_n 1, 1) := by decide +kernel
theorem dL_append_4 : decode cL_append 4 = .ok (.invokevirtual 37, 3) := by decide +kernel
theorem dL_append_7 : decode cL_append 7 = .ok (.i2l, 1) := by decide +kernel
theorem dL_append_8 : decode cL_append 8 = .ok (.lastore, 1) := by decide +kernel
theorem dL_append_9 : decode cL_append 9 = .ok (.goto 9, 3) := by decide +kernel
theorem dL_append_12 : decode cL_append 12 = .ok (.astore_n 3, 1) := by decide +kernel
theorem dL_append_13 : decode cL_append 13 = .ok (.iconst 1, 1) := by decide +kernel
theorem dL_append_14 : decode cL_append 14 = .ok (.ireturn, 1) := by decide +kernel
theorem dL_append_15 : decode cL_append 15 = .ok (.astore_n 3, 1) := by decide +kernel
theorem dL_append_16 : decode cL_append 16 = .ok (.iconst 2, 1) := by decide +kernel
theorem dL_append_17 : decode cL_append 17 = .ok (.ireturn, 1) := by decide +kernel
theorem dL_append_18 : decode cL_append 18 = .ok (.iconst 0, 1) := by decide +kernel
theorem dL_append_19 : decode cL_append 19 = .ok (.ireturn, 1) := by decide +kernel
theorem dL_terminalAt_0 : decode cL_terminalAt 0 = .ok (.aload_n 2, 1) := by decide +kernel
theorem dL_terminalAt_1 : decode cL_terminalAt 1 = .ok (.iconst 0, 1) := by decide +kernel
theorem dL_terminalAt_2 : decode cL_terminalAt 2 = .ok (.aload_n 0, 1) := by decide +kernel
theorem dL_terminalAt_3 : decode cL_terminalAt 3 = .ok (.iload_n 1, 1) := by decide +kernel
theorem dL_terminalAt_4 : decode cL_terminalAt 4 = .ok (.invokevirtual 40, 3) := by decide +kernel
theorem dL_terminalAt_7 : decode cL_terminalAt 7 = .ok (.i2l, 1) := by decide +kernel
theorem dL_terminalAt_8 : decode cL_terminalAt 8 = .ok (.lastore, 1) := by decide +kernel
theorem dL_terminalAt_9 : decode cL_terminalAt 9 = .ok (.goto 6, 3) := by decide +kernel
theorem dL_terminalAt_12 : decode cL_terminalAt 12 = .ok (.astore_n 3, 1) := by decide +kernel
theorem dL_terminalAt_13 : decode cL_terminalAt 13 = .ok (.iconst 1, 1) := by decide +kernel
theorem dL_terminalAt_14 : decode cL_terminalAt 14 = .ok (.ireturn, 1) := by decide +kernel
theorem dL_terminalAt_15 : decode cL_terminalAt 15 = .ok (.iconst 0, 1) := by decide +kernel
theorem dL_terminalAt_16 : decode cL_terminalAt 16 = .ok (.ireturn, 1) := by decide +kernel
theorem dL_treesOfLength_0 : decode cL_treesOfLength 0 = .ok (.aload_n 2, 1) := by decide +kernel
theorem dL_treesOfLength_1 : decode cL_treesOfLength 1 = .ok (.iconst 0, 1) := by decide +kernel
theorem dL_treesOfLength_2 : decode cL_treesOfLength 2 = .ok (.aload_n 0, 1) := by decide +kernel
theorem dL_treesOfLength_3 : decode cL_treesOfLength 3 = .ok (.iload_n 1, 1) := by decide +kernel
theorem dL_treesOfLength_4 : decode cL_treesOfLength 4 = .ok (.invokevirtual 43, 3) := by decide +kernel
theorem dL_treesOfLength_7 : decode cL_treesOfLength 7 = .ok (.lastore, 1) := by decide +kernel
theorem dL_treesOfLength_8 : decode cL_treesOfLength 8 = .ok (.goto 6, 3) := by decide +kernel
theorem dL_treesOfLength_11 : decode cL_treesOfLength 11 = .ok (.astore_n 3, 1) := by decide +kernel
theorem dL_treesOfLength_12 : decode cL_treesOfLength 12 = .ok (.iconst 1, 1) := by decide +kernel
theorem dL_treesOfLength_13 : decode cL_treesOfLength 13 = .ok (.ireturn, 1) := by decide +kernel
theorem dL_treesOfLength_14 : decode cL_treesOfLength 14 = .ok (.iconst 0, 1) := by decide +kernel
theorem dL_treesOfLength_15 : decode cL_treesOfLength 15 = .ok (.ireturn, 1) := by decide +kernel
theorem dL_wordsOfLength_0 : decode cL_wordsOfLength 0 = .ok (.aload_n 3, 1) := by decide +kernel
theorem dL_wordsOfLength_1 : decode cL_wordsOfLength 1 = .ok (.iconst 0, 1) := by decide +kernel
theorem dL_wordsOfLength_2 : decode cL_wordsOfLength 2 = .ok (.aload_n 0, 1) := by decide +kernel
theorem dL_wordsOfLength_3 : decode cL_wordsOfLength 3 = .ok (.iload_n 1, 1) := by decide +kernel
theorem dL_wordsOfLength_4 : decode cL_wordsOfLength 4 = .ok (.iload_n 2, 1) := by decide +kernel
theorem dL_wordsOfLength_5 : decode cL_wordsOfLength 5 = .ok (.invokevirtual 47, 3) := by decide +kernel
theorem dL_wordsOfLength_8 : decode cL_wordsOfLength 8 = .ok (.i2l, 1) := by decide +kernel
theorem dL_wordsOfLength_9 : decode cL_wordsOfLength 9 = .ok (.lastore, 1) := by decide +kernel
theorem dL_wordsOfLength_10 : decode cL_wordsOfLength 10 = .ok (.goto 7, 3) := by decide +kernel
theorem dL_wordsOfLength_13 : decode cL_wordsOfLength 13 = .ok (.astore 4, 2) := by decide +kernel
theorem dL_wordsOfLength_15 : decode cL_wordsOfLength 15 = .ok (.iconst 1, 1) := by decide +kernel
theorem dL_wordsOfLength_16 : decode cL_wordsOfLength 16 = .ok (.ireturn, 1) := by decide +kernel
theorem dL_wordsOfLength_17 : decode cL_wordsOfLength 17 = .ok (.iconst 0, 1) := by decide +kernel
theorem dL_wordsOfLength_18 : decode cL_wordsOfLength 18 = .ok (.ireturn, 1) := by decide +kernel
theorem dL_unambiguousShare_0 : decode cL_unambiguousShare 0 = .ok (.aload_n 2, 1) := by decide +kernel
theorem dL_unambiguousShare_1 : decode cL_unambiguousShare 1 = .ok (.iconst 0, 1) := by decide +kernel
theorem dL_unambiguousShare_2 : decode cL_unambiguousShare 2 = .ok (.aload_n 0, 1) := by decide +kernel
theorem dL_unambiguousShare_3 : decode cL_unambiguousShare 3 = .ok (.iload_n 1, 1) := by decide +kernel
theorem dL_unambiguousShare_4 : decode cL_unambiguousShare 4 = .ok (.invokevirtual 50, 3) := by decide +kernel
theorem dL_unambiguousShare_7 : decode cL_unambiguousShare 7 = .ok (.dastore, 1) := by decide +kernel
theorem dL_unambiguousShare_8 : decode cL_unambiguousShare 8 = .ok (.goto 6, 3) := by decide +kernel
theorem dL_unambiguousShare_11 : decode cL_unambiguousShare 11 = .ok (.astore_n 3, 1) := by decide +kernel
theorem dL_unambiguousShare_12 : decode cL_unambiguousShare 12 = .ok (.iconst 1, 1) := by decide +kernel
theorem dL_unambiguousShare_13 : decode cL_unambiguousShare 13 = .ok (.ireturn, 1) := by decide +kernel
theorem dL_unambiguousShare_14 : decode cL_unambiguousShare 14 = .ok (.iconst 0, 1) := by decide +kernel
theorem dL_unambiguousShare_15 : decode cL_unambiguousShare 15 = .ok (.ireturn, 1) := by decide +kernel
theorem dL_averageTrees_0 : decode cL_averageTrees 0 = .ok (.aload_n 2, 1) := by decide +kernel
theorem dL_averageTrees_1 : decode cL_averageTrees 1 = .ok (.iconst 0, 1) := by decide +kernel
theorem dL_averageTrees_2 : decode cL_averageTrees 2 = .ok (.aload_n 0, 1) := by decide +kernel
theorem dL_averageTrees_3 : decode cL_averageTrees 3 = .ok (.iload_n 1, 1) := by decide +kernel
theorem dL_averageTrees_4 : decode cL_averageTrees 4 = .ok (.invokevirtual 54, 3) := by decide +kernel
theorem dL_averageTrees_7 : decode cL_averageTrees 7 = .ok (.dastore, 1) := by decide +kernel
theorem dL_averageTrees_8 : decode cL_averageTrees 8 = .ok (.goto 9, 3) := by decide +kernel
theorem dL_averageTrees_11 : decode cL_averageTrees 11 = .ok (.astore_n 3, 1) := by decide +kernel
theorem dL_averageTrees_12 : decode cL_averageTrees 12 = .ok (.iconst 1, 1) := by decide +kernel
theorem dL_averageTrees_13 : decode cL_averageTrees 13 = .ok (.ireturn, 1) := by decide +kernel
theorem dL_averageTrees_14 : decode cL_averageTrees 14 = .ok (.astore_n 3, 1) := by decide +kernel
theorem dL_averageTrees_15 : decode cL_averageTrees 15 = .ok (.iconst 2, 1) := by decide +kernel
theorem dL_averageTrees_16 : decode cL_averageTrees 16 = .ok (.ireturn, 1) := by decide +kernel
theorem dL_averageTrees_17 : decode cL_averageTrees 17 = .ok (.iconst 0, 1) := by decide +kernel
theorem dL_averageTrees_18 : decode cL_averageTrees 18 = .ok (.ireturn, 1) := by decide +kernel
theorem dL_firstAmbiguous_0 : decode cL_firstAmbiguous 0 = .ok (.aload_n 2, 1) := by decide +kernel
theorem dL_firstAmbiguous_1 : decode cL_firstAmbiguous 1 = .ok (.iconst 0, 1) := by decide +kernel
theorem dL_firstAmbiguous_2 : decode cL_firstAmbiguous 2 = .ok (.aload_n 0, 1) := by decide +kernel
theorem dL_firstAmbiguous_3 : decode cL_firstAmbiguous 3 = .ok (.iload_n 1, 1) := by decide +kernel
theorem dL_firstAmbiguous_4 : decode cL_firstAmbiguous 4 = .ok (.invokevirtual 59, 3) := by decide +kernel
theorem dL_firstAmbiguous_7 : decode cL_firstAmbiguous 7 = .ok (.i2l, 1) := by decide +kernel
theorem dL_firstAmbiguous_8 : decode cL_firstAmbiguous 8 = .ok (.lastore, 1) := by decide +kernel
theorem dL_firstAmbiguous_9 : decode cL_firstAmbiguous 9 = .ok (.goto 9, 3) := by decide +kernel
theorem dL_firstAmbiguous_12 : decode cL_firstAmbiguous 12 = .ok (.astore_n 3, 1) := by decide +kernel
theorem dL_firstAmbiguous_13 : decode cL_firstAmbiguous 13 = .ok (.iconst 1, 1) := by decide +kernel
theorem dL_firstAmbiguous_14 : decode cL_firstAmbiguous 14 = .ok (.ireturn, 1) := by decide +kernel
theorem dL_firstAmbiguous_15 : decode cL_firstAmbiguous 15 = .ok (.astore_n 3, 1) := by decide +kernel
theorem dL_firstAmbiguous_16 : decode cL_firstAmbiguous 16 = .ok (.iconst 2, 1) := by decide +kernel
theorem dL_firstAmbiguous_17 : decode cL_firstAmbiguous 17 = .ok (.ireturn, 1) := by decide +kernel
theorem dL_firstAmbiguous_18 : decode cL_firstAmbiguous 18 = .ok (.iconst 0, 1) := by decide +kernel
theorem dL_firstAmbiguous_19 : decode cL_firstAmbiguous 19 = .ok (.ireturn, 1) := by decide +kernel
theorem dL_wordRank_0 : decode cL_wordRank 0 = .ok (.aload_n 1, 1) := by decide +kernel
theorem dL_wordRank_1 : decode cL_wordRank 1 = .ok (.iconst 0, 1) := by decide +kernel
theorem dL_wordRank_2 : decode cL_wordRank 2 = .ok (.aload_n 0, 1) := by decide +kernel
theorem dL_wordRank_3 : decode cL_wordRank 3 = .ok (.invokevirtual 62, 3) := by decide +kernel
theorem dL_wordRank_6 : decode cL_wordRank 6 = .ok (.i2l, 1) := by decide +kernel
theorem dL_wordRank_7 : decode cL_wordRank 7 = .ok (.lastore, 1) := by decide +kernel
theorem dL_wordRank_8 : decode cL_wordRank 8 = .ok (.goto 9, 3) := by decide +kernel
theorem dL_wordRank_11 : decode cL_wordRank 11 = .ok (.astore_n 2, 1) := by decide +kernel
theorem dL_wordRank_12 : decode cL_wordRank 12 = .ok (.iconst 1, 1) := by decide +kernel
theorem dL_wordRank_13 : decode cL_wordRank 13 = .ok (.ireturn, 1) := by decide +kernel
theorem dL_wordRank_14 : decode cL_wordRank 14 = .ok (.astore_n 2, 1) := by decide +kernel
theorem dL_wordRank_15 : decode cL_wordRank 15 = .ok (.iconst 2, 1) := by decide +kernel
theorem dL_wordRank_16 : decode cL_wordRank 16 = .ok (.ireturn, 1) := by decide +kernel
theorem dL_wordRank_17 : decode cL_wordRank 17 = .ok (.iconst 0, 1) := by decide +kernel
theorem dL_wordRank_18 : decode cL_wordRank 18 = .ok (.ireturn, 1) := by decide +kernel
theorem dL_takeWord_0 : decode cL_takeWord 0 = .ok (.aload_n 0, 1) := by decide +kernel
theorem dL_takeWord_1 : decode cL_takeWord 1 = .ok (.iload_n 1, 1) := by decide +kernel
theorem dL_takeWord_2 : decode cL_takeWord 2 = .ok (.iload_n 2, 1) := by decide +kernel
theorem dL_takeWord_3 : decode cL_takeWord 3 = .ok (.invokevirtual 66, 3) := by decide +kernel
theorem dL_takeWord_6 : decode cL_takeWord 6 = .ok (.goto 9, 3) := by decide +kernel
theorem dL_takeWord_9 : decode cL_takeWord 9 = .ok (.astore_n 3, 1) := by decide +kernel
theorem dL_takeWord_10 : decode cL_takeWord 10 = .ok (.iconst 1, 1) := by decide +kernel
theorem dL_takeWord_11 : decode cL_takeWord 11 = .ok (.ireturn, 1) := by decide +kernel
theorem dL_takeWord_12 : decode cL_takeWord 12 = .ok (.astore_n 3, 1) := by decide +kernel
theorem dL_takeWord_13 : decode cL_takeWord 13 = .ok (.iconst 2, 1) := by decide +kernel
theorem dL_takeWord_14 : decode cL_takeWord 14 = .ok (.ireturn, 1) := by decide +kernel
theorem dL_takeWord_15 : decode cL_takeWord 15 = .ok (.iconst 0, 1) := by decide +kernel
theorem dL_takeWord_16 : decode cL_takeWord 16 = .ok (.ireturn, 1) := by decide +kernel
theorem dL_drawWord_0 : decode cL_drawWord 0 = .ok (.aload 4, 2) := by decide +kernel
theorem dL_drawWord_2 : decode cL_drawWord 2 = .ok (.iconst 0, 1) := by decide +kernel
theorem dL_drawWord_3 : decode cL_drawWord 3 = .ok (.aload_n 0, 1) := by decide +kernel
theorem dL_drawWord_4 : decode cL_drawWord 4 = .ok (.lload_n 1, 1) := by decide +kernel
theorem dL_drawWord_5 : decode cL_drawWord 5 = .ok (.iload_n 3, 1) := by decide +kernel
theorem dL_drawWord_6 : decode cL_drawWord 6 = .ok (.invokevirtual 69, 3) := by decide +kernel
theorem dL_drawWord_9 : decode cL_drawWord 9 = .ok (.i2l, 1) := by decide +kernel
theorem dL_drawWord_10 : decode cL_drawWord 10 = .ok (.lastore, 1) := by decide +kernel
theorem dL_drawWord_11 : decode cL_drawWord 11 = .ok (.goto 11, 3) := by decide +kernel
theorem dL_drawWord_14 : decode cL_drawWord 14 = .ok (.astore 5, 2) := by decide +kernel
theorem dL_drawWord_16 : decode cL_drawWord 16 = .ok (.iconst 1, 1) := by decide +kernel
theorem dL_drawWord_17 : decode cL_drawWord 17 = .ok (.ireturn, 1) := by decide +kernel
theorem dL_drawWord_18 : decode cL_drawWord 18 = .ok (.astore 5, 2) := by decide +kernel
theorem dL_drawWord_20 : decode cL_drawWord 20 = .ok (.iconst 2, 1) := by decide +kernel
theorem dL_drawWord_21 : decode cL_drawWord 21 = .ok (.ireturn, 1) := by decide +kernel
theorem dL_drawWord_22 : decode cL_drawWord 22 = .ok (.iconst 0, 1) := by decide +kernel
theorem dL_drawWord_23 : decode cL_drawWord 23 = .ok (.ireturn, 1) := by decide +kernel
theorem dL_drawTree_0 : decode cL_drawTree 0 = .ok (.aload 4, 2) := by decide +kernel
theorem dL_drawTree_2 : decode cL_drawTree 2 = .ok (.iconst 0, 1) := by decide +kernel
theorem dL_drawTree_3 : decode cL_drawTree 3 = .ok (.aload_n 0, 1) := by decide +kernel
theorem dL_drawTree_4 : decode cL_drawTree 4 = .ok (.lload_n 1, 1) := by decide +kernel
theorem dL_drawTree_5 : decode cL_drawTree 5 = .ok (.iload_n 3, 1) := by decide +kernel
theorem dL_drawTree_6 : decode cL_drawTree 6 = .ok (.invokevirtual 73, 3) := by decide +kernel
theorem dL_drawTree_9 : decode cL_drawTree 9 = .ok (.lastore, 1) := by decide +kernel
theorem dL_drawTree_10 : decode cL_drawTree 10 = .ok (.goto 11, 3) := by decide +kernel
theorem dL_drawTree_13 : decode cL_drawTree 13 = .ok (.astore 5, 2) := by decide +kernel
theorem dL_drawTree_15 : decode cL_drawTree 15 = .ok (.iconst 1, 1) := by decide +kernel
theorem dL_drawTree_16 : decode cL_drawTree 16 = .ok (.ireturn, 1) := by decide +kernel
theorem dL_drawTree_17 : decode cL_drawTree 17 = .ok (.astore 5, 2) := by decide +kernel
theorem dL_drawTree_19 : decode cL_drawTree 19 = .ok (.iconst 2, 1) := by decide +kernel
theorem dL_drawTree_20 : decode cL_drawTree 20 = .ok (.ireturn, 1) := by decide +kernel
theorem dL_drawTree_21 : decode cL_drawTree 21 = .ok (.iconst 0, 1) := by decide +kernel
theorem dL_drawTree_22 : decode cL_drawTree 22 = .ok (.ireturn, 1) := by decide +kernel
theorem dL_takeTree_0 : decode cL_takeTree 0 = .ok (.aload_n 3, 1) := by decide +kernel
theorem dL_takeTree_1 : decode cL_takeTree 1 = .ok (.iconst 0, 1) := by decide +kernel
theorem dL_takeTree_2 : decode cL_takeTree 2 = .ok (.aload_n 0, 1) := by decide +kernel
theorem dL_takeTree_3 : decode cL_takeTree 3 = .ok (.lload_n 1, 1) := by decide +kernel
theorem dL_takeTree_4 : decode cL_takeTree 4 = .ok (.invokevirtual 77, 3) := by decide +kernel
theorem dL_takeTree_7 : decode cL_takeTree 7 = .ok (.i2l, 1) := by decide +kernel
theorem dL_takeTree_8 : decode cL_takeTree 8 = .ok (.lastore, 1) := by decide +kernel
theorem dL_takeTree_9 : decode cL_takeTree 9 = .ok (.goto 7, 3) := by decide +kernel
theorem dL_takeTree_12 : decode cL_takeTree 12 = .ok (.astore 4, 2) := by decide +kernel
theorem dL_takeTree_14 : decode cL_takeTree 14 = .ok (.iconst 1, 1) := by decide +kernel
theorem dL_takeTree_15 : decode cL_takeTree 15 = .ok (.ireturn, 1) := by decide +kernel
theorem dL_takeTree_16 : decode cL_takeTree 16 = .ok (.iconst 0, 1) := by decide +kernel
theorem dL_takeTree_17 : decode cL_takeTree 17 = .ok (.ireturn, 1) := by decide +kernel
theorem dL_treeNumber_0 : decode cL_treeNumber 0 = .ok (.aload_n 1, 1) := by decide +kernel
theorem dL_treeNumber_1 : decode cL_treeNumber 1 = .ok (.iconst 0, 1) := by decide +kernel
theorem dL_treeNumber_2 : decode cL_treeNumber 2 = .ok (.aload_n 0, 1) := by decide +kernel
theorem dL_treeNumber_3 : decode cL_treeNumber 3 = .ok (.invokevirtual 81, 3) := by decide +kernel
theorem dL_treeNumber_6 : decode cL_treeNumber 6 = .ok (.lastore, 1) := by decide +kernel
theorem dL_treeNumber_7 : decode cL_treeNumber 7 = .ok (.goto 6, 3) := by decide +kernel
theorem dL_treeNumber_10 : decode cL_treeNumber 10 = .ok (.astore_n 2, 1) := by decide +kernel
theorem dL_treeNumber_11 : decode cL_treeNumber 11 = .ok (.iconst 1, 1) := by decide +kernel
theorem dL_treeNumber_12 : decode cL_treeNumber 12 = .ok (.ireturn, 1) := by decide +kernel
theorem dL_treeNumber_13 : decode cL_treeNumber 13 = .ok (.iconst 0, 1) := by decide +kernel
theorem dL_treeNumber_14 : decode cL_treeNumber 14 = .ok (.ireturn, 1) := by decide +kernel
theorem dL_treeSize_0 : decode cL_treeSize 0 = .ok (.aload_n 1, 1) := by decide +kernel
theorem dL_treeSize_1 : decode cL_treeSize 1 = .ok (.iconst 0, 1) := by decide +kernel
theorem dL_treeSize_2 : decode cL_treeSize 2 = .ok (.aload_n 0, 1) := by decide +kernel
theorem dL_treeSize_3 : decode cL_treeSize 3 = .ok (.invokevirtual 85, 3) := by decide +kernel
theorem dL_treeSize_6 : decode cL_treeSize 6 = .ok (.i2l, 1) := by decide +kernel
theorem dL_treeSize_7 : decode cL_treeSize 7 = .ok (.lastore, 1) := by decide +kernel
theorem dL_treeSize_8 : decode cL_treeSize 8 = .ok (.goto 6, 3) := by decide +kernel
theorem dL_treeSize_11 : decode cL_treeSize 11 = .ok (.astore_n 2, 1) := by decide +kernel
theorem dL_treeSize_12 : decode cL_treeSize 12 = .ok (.iconst 1, 1) := by decide +kernel
theorem dL_treeSize_13 : decode cL_treeSize 13 = .ok (.ireturn, 1) := by decide +kernel
theorem dL_treeSize_14 : decode cL_treeSize 14 = .ok (.iconst 0, 1) := by decide +kernel
theorem dL_treeSize_15 : decode cL_treeSize 15 = .ok (.ireturn, 1) := by decide +kernel
theorem dL_treeNode_0 : decode cL_treeNode 0 = .ok (.aload_n 3, 1) := by decide +kernel
theorem dL_treeNode_1 : decode cL_treeNode 1 = .ok (.iconst 0, 1) := by decide +kernel
theorem dL_treeNode_2 : decode cL_treeNode 2 = .ok (.aload_n 0, 1) := by decide +kernel
theorem dL_treeNode_3 : decode cL_treeNode 3 = .ok (.iload_n 1, 1) := by decide +kernel
theorem dL_treeNode_4 : decode cL_treeNode 4 = .ok (.iload_n 2, 1) := by decide +kernel
theorem dL_treeNode_5 : decode cL_treeNode 5 = .ok (.invokevirtual 88, 3) := by decide +kernel
theorem dL_treeNode_8 : decode cL_treeNode 8 = .ok (.i2l, 1) := by decide +kernel
theorem dL_treeNode_9 : decode cL_treeNode 9 = .ok (.lastore, 1) := by decide +kernel
theorem dL_treeNode_10 : decode cL_treeNode 10 = .ok (.goto 15, 3) := by decide +kernel
theorem dL_treeNode_13 : decode cL_treeNode 13 = .ok (.astore 4, 2) := by decide +kernel
theorem dL_treeNode_15 : decode cL_treeNode 15 = .ok (.iconst 1, 1) := by decide +kernel
theorem dL_treeNode_16 : decode cL_treeNode 16 = .ok (.ireturn, 1) := by decide +kernel
theorem dL_treeNode_17 : decode cL_treeNode 17 = .ok (.astore 4, 2) := by decide +kernel
theorem dL_treeNode_19 : decode cL_treeNode 19 = .ok (.iconst 2, 1) := by decide +kernel
theorem dL_treeNode_20 : decode cL_treeNode 20 = .ok (.ireturn, 1) := by decide +kernel
theorem dL_treeNode_21 : decode cL_treeNode 21 = .ok (.astore 4, 2) := by decide +kernel
theorem dL_treeNode_23 : decode cL_treeNode 23 = .ok (.iconst 3, 1) := by decide +kernel
theorem dL_treeNode_24 : decode cL_treeNode 24 = .ok (.ireturn, 1) := by decide +kernel
theorem dL_treeNode_25 : decode cL_treeNode 25 = .ok (.iconst 0, 1) := by decide +kernel
theorem dL_treeNode_26 : decode cL_treeNode 26 = .ok (.ireturn, 1) := by decide +kernel
theorem dL_allocate_0 : decode cL_allocate 0 = .ok (.aload_n 0, 1) := by decide +kernel
theorem dL_allocate_1 : decode cL_allocate 1 = .ok (.iload_n 1, 1) := by decide +kernel
theorem dL_allocate_2 : decode cL_allocate 2 = .ok (.iload_n 2, 1) := by decide +kernel
theorem dL_allocate_3 : decode cL_allocate 3 = .ok (.iload_n 3, 1) := by decide +kernel
theorem dL_allocate_4 : decode cL_allocate 4 = .ok (.invokevirtual 91, 3) := by decide +kernel
theorem dL_allocate_7 : decode cL_allocate 7 = .ok (.goto 7, 3) := by decide +kernel
theorem dL_allocate_10 : decode cL_allocate 10 = .ok (.astore 4, 2) := by decide +kernel
theorem dL_allocate_12 : decode cL_allocate 12 = .ok (.iconst 1, 1) := by decide +kernel
theorem dL_allocate_13 : decode cL_allocate 13 = .ok (.ireturn, 1) := by decide +kernel
theorem dL_allocate_14 : decode cL_allocate 14 = .ok (.iconst 0, 1) := by decide +kernel
theorem dL_allocate_15 : decode cL_allocate 15 = .ok (.ireturn, 1) := by decide +kernel
theorem dL_setElement_0 : decode cL_setElement 0 = .ok (.aload 4, 2) := by decide +kernel
theorem dL_setElement_2 : decode cL_setElement 2 = .ok (.iconst 0, 1) := by decide +kernel
theorem dL_setElement_3 : decode cL_setElement 3 = .ok (.aload_n 0, 1) := by decide +kernel
theorem dL_setElement_4 : decode cL_setElement 4 = .ok (.iload_n 1, 1) := by decide +kernel
theorem dL_setElement_5 : decode cL_setElement 5 = .ok (.iload_n 2, 1) := by decide +kernel
theorem dL_setElement_6 : decode cL_setElement 6 = .ok (.iload_n 3, 1) := by decide +kernel
theorem dL_setElement_7 : decode cL_setElement 7 = .ok (.invokevirtual 95, 3) := by decide +kernel
theorem dL_setElement_10 : decode cL_setElement 10 = .ok (.i2l, 1) := by decide +kernel
theorem dL_setElement_11 : decode cL_setElement 11 = .ok (.lastore, 1) := by decide +kernel
theorem dL_setElement_12 : decode cL_setElement 12 = .ok (.goto 15, 3) := by decide +kernel
theorem dL_setElement_15 : decode cL_setElement 15 = .ok (.astore 5, 2) := by decide +kernel
theorem dL_setElement_17 : decode cL_setElement 17 = .ok (.iconst 1, 1) := by decide +kernel
theorem dL_setElement_18 : decode cL_setElement 18 = .ok (.ireturn, 1) := by decide +kernel
theorem dL_setElement_19 : decode cL_setElement 19 = .ok (.astore 5, 2) := by decide +kernel
theorem dL_setElement_21 : decode cL_setElement 21 = .ok (.iconst 2, 1) := by decide +kernel
theorem dL_setElement_22 : decode cL_setElement 22 = .ok (.ireturn, 1) := by decide +kernel
theorem dL_setElement_23 : decode cL_setElement 23 = .ok (.astore 5, 2) := by decide +kernel
theorem dL_setElement_25 : decode cL_setElement 25 = .ok (.iconst 3, 1) := by decide +kernel
theorem dL_setElement_26 : decode cL_setElement 26 = .ok (.ireturn, 1) := by decide +kernel
theorem dL_setElement_27 : decode cL_setElement 27 = .ok (.iconst 0, 1) := by decide +kernel
theorem dL_setElement_28 : decode cL_setElement 28 = .ok (.ireturn, 1) := by decide +kernel
theorem dL_storeCounts_0 : decode cL_storeCounts 0 = .ok (.aload_n 0, 1) := by decide +kernel
theorem dL_storeCounts_1 : decode cL_storeCounts 1 = .ok (.iload_n 1, 1) := by decide +kernel
theorem dL_storeCounts_2 : decode cL_storeCounts 2 = .ok (.iload_n 2, 1) := by decide +kernel
theorem dL_storeCounts_3 : decode cL_storeCounts 3 = .ok (.invokevirtual 99, 3) := by decide +kernel
theorem dL_storeCounts_6 : decode cL_storeCounts 6 = .ok (.goto 12, 3) := by decide +kernel
theorem dL_storeCounts_9 : decode cL_storeCounts 9 = .ok (.astore_n 3, 1) := by decide +kernel
theorem dL_storeCounts_10 : decode cL_storeCounts 10 = .ok (.iconst 1, 1) := by decide +kernel
theorem dL_storeCounts_11 : decode cL_storeCounts 11 = .ok (.ireturn, 1) := by decide +kernel
theorem dL_storeCounts_12 : decode cL_storeCounts 12 = .ok (.astore_n 3, 1) := by decide +kernel
theorem dL_storeCounts_13 : decode cL_storeCounts 13 = .ok (.iconst 2, 1) := by decide +kernel
theorem dL_storeCounts_14 : decode cL_storeCounts 14 = .ok (.ireturn, 1) := by decide +kernel
theorem dL_storeCounts_15 : decode cL_storeCounts 15 = .ok (.astore_n 3, 1) := by decide +kernel
theorem dL_storeCounts_16 : decode cL_storeCounts 16 = .ok (.iconst 3, 1) := by decide +kernel
theorem dL_storeCounts_17 : decode cL_storeCounts 17 = .ok (.ireturn, 1) := by decide +kernel
theorem dL_storeCounts_18 : decode cL_storeCounts 18 = .ok (.iconst 0, 1) := by decide +kernel
theorem dL_storeCounts_19 : decode cL_storeCounts 19 = .ok (.ireturn, 1) := by decide +kernel
theorem dL_loadWord_0 : decode cL_loadWord 0 = .ok (.aload_n 0, 1) := by decide +kernel
theorem dL_loadWord_1 : decode cL_loadWord 1 = .ok (.iload_n 1, 1) := by decide +kernel
theorem dL_loadWord_2 : decode cL_loadWord 2 = .ok (.iload_n 2, 1) := by decide +kernel
theorem dL_loadWord_3 : decode cL_loadWord 3 = .ok (.iload_n 3, 1) := by decide +kernel
theorem dL_loadWord_4 : decode cL_loadWord 4 = .ok (.invokevirtual 102, 3) := by decide +kernel
theorem dL_loadWord_7 : decode cL_loadWord 7 = .ok (.goto 19, 3) := by decide +kernel
theorem dL_loadWord_10 : decode cL_loadWord 10 = .ok (.astore 4, 2) := by decide +kernel
theorem dL_loadWord_12 : decode cL_loadWord 12 = .ok (.iconst 1, 1) := by decide +kernel
theorem dL_loadWord_13 : decode cL_loadWord 13 = .ok (.ireturn, 1) := by decide +kernel
theorem dL_loadWord_14 : decode cL_loadWord 14 = .ok (.astore 4, 2) := by decide +kernel
theorem dL_loadWord_16 : decode cL_loadWord 16 = .ok (.iconst 2, 1) := by decide +kernel
theorem dL_loadWord_17 : decode cL_loadWord 17 = .ok (.ireturn, 1) := by decide +kernel
theorem dL_loadWord_18 : decode cL_loadWord 18 = .ok (.astore 4, 2) := by decide +kernel
theorem dL_loadWord_20 : decode cL_loadWord 20 = .ok (.iconst 3, 1) := by decide +kernel
theorem dL_loadWord_21 : decode cL_loadWord 21 = .ok (.ireturn, 1) := by decide +kernel
theorem dL_loadWord_22 : decode cL_loadWord 22 = .ok (.astore 4, 2) := by decide +kernel
theorem dL_loadWord_24 : decode cL_loadWord 24 = .ok (.iconst 4, 1) := by decide +kernel
theorem dL_loadWord_25 : decode cL_loadWord 25 = .ok (.ireturn, 1) := by decide +kernel
theorem dL_loadWord_26 : decode cL_loadWord 26 = .ok (.iconst 0, 1) := by decide +kernel
theorem dL_loadWord_27 : decode cL_loadWord 27 = .ok (.ireturn, 1) := by decide +kernel
theorem dL_restore_0 : decode cL_restore 0 = .ok (.aload_n 0, 1) := by decide +kernel
theorem dL_restore_1 : decode cL_restore 1 = .ok (.invokevirtual 106, 3) := by decide +kernel
theorem dL_restore_4 : decode cL_restore 4 = .ok (.goto 6, 3) := by decide +kernel
theorem dL_restore_7 : decode cL_restore 7 = .ok (.astore_n 1, 1) := by decide +kernel
theorem dL_restore_8 : decode cL_restore 8 = .ok (.iconst 1, 1) := by decide +kernel
theorem dL_restore_9 : decode cL_restore 9 = .ok (.ireturn, 1) := by decide +kernel
theorem dL_restore_10 : decode cL_restore 10 = .ok (.iconst 0, 1) := by decide +kernel
theorem dL_restore_11 : decode cL_restore 11 = .ok (.ireturn, 1) := by decide +kernel
theorem dL_law_0 : decode cL_law 0 = .ok (.new 8, 3) := by decide +kernel
theorem dL_law_3 : decode cL_law 3 = .ok (.dup, 1) := by decide +kernel
theorem dL_law_4 : decode cL_law 4 = .ok (.invokespecial 109, 3) := by decide +kernel
theorem dL_law_7 : decode cL_law 7 = .ok (.astore_n 1, 1) := by decide +kernel
theorem dL_law_8 : decode cL_law 8 = .ok (.new 110, 3) := by decide +kernel
theorem dL_law_11 : decode cL_law 11 = .ok (.dup, 1) := by decide +kernel
theorem dL_law_12 : decode cL_law 12 = .ok (.invokespecial 112, 3) := by decide +kernel
theorem dL_law_15 : decode cL_law 15 = .ok (.astore_n 2, 1) := by decide +kernel
theorem dL_law_16 : decode cL_law 16 = .ok (.iconst 1, 1) := by decide +kernel
theorem dL_law_17 : decode cL_law 17 = .ok (.newarray .long, 2) := by decide +kernel
theorem dL_law_19 : decode cL_law 19 = .ok (.astore_n 3, 1) := by decide +kernel
theorem dL_law_20 : decode cL_law 20 = .ok (.iconst 1, 1) := by decide +kernel
theorem dL_law_21 : decode cL_law 21 = .ok (.newarray .double, 2) := by decide +kernel
theorem dL_law_23 : decode cL_law 23 = .ok (.astore 4, 2) := by decide +kernel
theorem dL_law_25 : decode cL_law 25 = .ok (.iconst 0, 1) := by decide +kernel
theorem dL_law_26 : decode cL_law 26 = .ok (.istore 5, 2) := by decide +kernel
theorem dL_law_28 : decode cL_law 28 = .ok (.iload 5, 2) := by decide +kernel
theorem dL_law_30 : decode cL_law 30 = .ok (.aload_n 0, 1) := by decide +kernel
theorem dL_law_31 : decode cL_law 31 = .ok (.arraylength, 1) := by decide +kernel
theorem dL_law_32 : decode cL_law 32 = .ok (.iconst 5, 1) := by decide +kernel
theorem dL_law_33 : decode cL_law 33 = .ok (.isub, 1) := by decide +kernel
theorem dL_law_34 : decode cL_law 34 = .ok (.if_icmp .gt 1880, 3) := by decide +kernel
theorem dL_law_37 : decode cL_law 37 = .ok (.aload_n 0, 1) := by decide +kernel
theorem dL_law_38 : decode cL_law 38 = .ok (.iload 5, 2) := by decide +kernel
theorem dL_law_40 : decode cL_law 40 = .ok (.iaload, 1) := by decide +kernel
theorem dL_law_41 : decode cL_law 41 = .ok (.bipush 31, 2) := by decide +kernel
theorem dL_law_43 : decode cL_law 43 = .ok (.iand, 1) := by decide +kernel
theorem dL_law_44 : decode cL_law 44 = .ok (.tableswitch 1864 0 31 #[144, 192, 284, 340, 353, 366, 434, 490, 546, 602, 615, 628, 684, 698, 753, 821, 898, 975, 1031, 1075, 1123, 1223, 1322, 1410, 1453, 1497, 1565, 1641, 1721, 1769, 1829, 1840], 144) := by decide +kernel
theorem dL_law_188 : decode cL_law 188 = .ok (.aload_n 1, 1) := by decide +kernel
theorem dL_law_189 : decode cL_law 189 = .ok (.aload_n 0, 1) := by decide +kernel
theorem dL_law_190 : decode cL_law 190 = .ok (.iload 5, 2) := by decide +kernel
theorem dL_law_192 : decode cL_law 192 = .ok (.iconst 1, 1) := by decide +kernel
theorem dL_law_193 : decode cL_law 193 = .ok (.iadd, 1) := by decide +kernel
theorem dL_law_194 : decode cL_law 194 = .ok (.iaload, 1) := by decide +kernel
theorem dL_law_195 : decode cL_law 195 = .ok (.aload_n 0, 1) := by decide +kernel
theorem dL_law_196 : decode cL_law 196 = .ok (.iload 5, 2) := by decide +kernel
theorem dL_law_198 : decode cL_law 198 = .ok (.iconst 2, 1) := by decide +kernel
theorem dL_law_199 : decode cL_law 199 = .ok (.iadd, 1) := by decide +kernel
theorem dL_law_200 : decode cL_law 200 = .ok (.iaload, 1) := by decide +kernel
theorem dL_law_201 : decode cL_law 201 = .ok (.invokestatic 113, 3) := by decide +kernel
theorem dL_law_204 : decode cL_law 204 = .ok (.istore 6, 2) := by decide +kernel
theorem dL_law_206 : decode cL_law 206 = .ok (.aload_n 2, 1) := by decide +kernel
theorem dL_law_207 : decode cL_law 207 = .ok (.aload_n 0, 1) := by decide +kernel
theorem dL_law_208 : decode cL_law 208 = .ok (.iload 5, 2) := by decide +kernel
theorem dL_law_210 : decode cL_law 210 = .ok (.iconst 1, 1) := by decide +kernel
theorem dL_law_211 : decode cL_law 211 = .ok (.iadd, 1) := by decide +kernel
theorem dL_law_212 : decode cL_law 212 = .ok (.iaload, 1) := by decide +kernel
theorem dL_law_213 : decode cL_law 213 = .ok (.aload_n 0, 1) := by decide +kernel
theorem dL_law_214 : decode cL_law 214 = .ok (.iload 5, 2) := by decide +kernel
theorem dL_law_216 : decode cL_law 216 = .ok (.iconst 2, 1) := by decide +kernel
theorem dL_law_217 : decode cL_law 217 = .ok (.iadd, 1) := by decide +kernel
theorem dL_law_218 : decode cL_law 218 = .ok (.iaload, 1) := by decide +kernel
theorem dL_law_219 : decode cL_law 219 = .ok (.invokevirtual 118, 3) := by decide +kernel
theorem dL_law_222 : decode cL_law 222 = .ok (.aload_n 2, 1) := by decide +kernel
theorem dL_law_223 : decode cL_law 223 = .ok (.invokevirtual 119, 3) := by decide +kernel
theorem dL_law_226 : decode cL_law 226 = .ok (.iload 6, 2) := by decide +kernel
theorem dL_law_228 : decode cL_law 228 = .ok (.if_icmp .eq 5, 3) := by decide +kernel
theorem dL_law_231 : decode cL_law 231 = .ok (.iconst 0, 1) := by decide +kernel
theorem dL_law_232 : decode cL_law 232 = .ok (.ireturn, 1) := by decide +kernel
theorem dL_law_233 : decode cL_law 233 = .ok (.goto 1675, 3) := by decide +kernel
theorem dL_law_236 : decode cL_law 236 = .ok (.aload_n 1, 1) := by decide +kernel
theorem dL_law_237 : decode cL_law 237 = .ok (.aload_n 0, 1) := by decide +kernel
theorem dL_law_238 : decode cL_law 238 = .ok (.iload 5, 2) := by decide +kernel
theorem dL_law_240 : decode cL_law 240 = .ok (.iconst 1, 1) := by decide +kernel
theorem dL_law_241 : decode cL_law 241 = .ok (.iadd, 1) := by decide +kernel
theorem dL_law_242 : decode cL_law 242 = .ok (.iaload, 1) := by decide +kernel
theorem dL_law_243 : decode cL_law 243 = .ok (.aload_n 0, 1) := by decide +kernel
theorem dL_law_244 : decode cL_law 244 = .ok (.iload 5, 2) := by decide +kernel
theorem dL_law_246 : decode cL_law 246 = .ok (.iconst 2, 1) := by decide +kernel
theorem dL_law_247 : decode cL_law 247 = .ok (.iadd, 1) := by decide +kernel
theorem dL_law_248 : decode cL_law 248 = .ok (.iaload, 1) := by decide +kernel
theorem dL_law_249 : decode cL_law 249 = .ok (.aload_n 0, 1) := by decide +kernel
theorem dL_law_250 : decode cL_law 250 = .ok (.iload 5, 2) := by decide +kernel
theorem dL_law_252 : decode cL_law 252 = .ok (.iconst 3, 1) := by decide +kernel
theorem dL_law_253 : decode cL_law 253 = .ok (.iadd, 1) := by decide +kernel
theorem dL_law_254 : decode cL_law 254 = .ok (.iaload, 1) := by decide +kernel
theorem dL_law_255 : decode cL_law 255 = .ok (.aload_n 0, 1) := by decide +kernel
theorem dL_law_256 : decode cL_law 256 = .ok (.iload 5, 2) := by decide +kernel
theorem dL_law_258 : decode cL_law 258 = .ok (.iconst 4, 1) := by decide +kernel
theorem dL_law_259 : decode cL_law 259 = .ok (.iadd, 1) := by decide +kernel
theorem dL_law_260 : decode cL_law 260 = .ok (.iaload, 1) := by decide +kernel
theorem dL_law_261 : decode cL_law 261 = .ok (.aload_n 3, 1) := by decide +kernel
theorem dL_law_262 : decode cL_law 262 = .ok (.invokestatic 122, 3) := by decide +kernel
theorem dL_law_265 : decode cL_law 265 = .ok (.istore 6, 2) := by decide +kernel
theorem dL_law_267 : decode cL_law 267 = .ok (.aload_n 2, 1) := by decide +kernel
theorem dL_law_268 : decode cL_law 268 = .ok (.aload_n 0, 1) := by decide +kernel
theorem dL_law_269 : decode cL_law 269 = .ok (.iload 5, 2) := by decide +kernel
theorem dL_law_271 : decode cL_law 271 = .ok (.iconst 1, 1) := by decide +kernel
theorem dL_law_272 : decode cL_law 272 = .ok (.iadd, 1) := by decide +kernel
theorem dL_law_273 : decode cL_law 273 = .ok (.iaload, 1) := by decide +kernel
theorem dL_law_274 : decode cL_law 274 = .ok (.aload_n 0, 1) := by decide +kernel
theorem dL_law_275 : decode cL_law 275 = .ok (.iload 5, 2) := by decide +kernel
theorem dL_law_277 : decode cL_law 277 = .ok (.iconst 2, 1) := by decide +kernel
theorem dL_law_278 : decode cL_law 278 = .ok (.iadd, 1) := by decide +kernel
theorem dL_law_279 : decode cL_law 279 = .ok (.iaload, 1) := by decide +kernel
theorem dL_law_280 : decode cL_law 280 = .ok (.aload_n 0, 1) := by decide +kernel
theorem dL_law_281 : decode cL_law 281 = .ok (.iload 5, 2) := by decide +kernel
theorem dL_law_283 : decode cL_law 283 = .ok (.iconst 3, 1) := by decide +kernel
theorem dL_law_284 : decode cL_law 284 = .ok (.iadd, 1) := by decide +kernel
theorem dL_law_285 : decode cL_law 285 = .ok (.iaload, 1) := by decide +kernel
theorem dL_law_286 : decode cL_law 286 = .ok (.aload_n 0, 1) := by decide +kernel
theorem dL_law_287 : decode cL_law 287 = .ok (.iload 5, 2) := by decide +kernel
theorem dL_law_289 : decode cL_law 289 = .ok (.iconst 4, 1) := by decide +kernel
theorem dL_law_290 : decode cL_law 290 = .ok (.iadd, 1) := by decide +kernel
theorem dL_law_291 : decode cL_law 291 = .ok (.iaload, 1) := by decide +kernel
theorem dL_law_292 : decode cL_law 292 = .ok (.invokevirtual 125, 3) := by decide +kernel
theorem dL_law_295 : decode cL_law 295 = .ok (.istore 7, 2) := by decide +kernel
theorem dL_law_297 : decode cL_law 297 = .ok (.aload_n 2, 1) := by decide +kernel
theorem dL_law_298 : decode cL_law 298 = .ok (.invokevirtual 119, 3) := by decide +kernel
theorem dL_law_301 : decode cL_law 301 = .ok (.iload 6, 2) := by decide +kernel
theorem dL_law_303 : decode cL_law 303 = .ok (.if_icmp .eq 5, 3) := by decide +kernel
theorem dL_law_306 : decode cL_law 306 = .ok (.iconst 0, 1) := by decide +kernel
theorem dL_law_307 : decode cL_law 307 = .ok (.ireturn, 1) := by decide +kernel
theorem dL_law_308 : decode cL_law 308 = .ok (.iload 6, 2) := by decide +kernel
theorem dL_law_310 : decode cL_law 310 = .ok (.ifCond .ne 15, 3) := by decide +kernel
theorem dL_law_313 : decode cL_law 313 = .ok (.aload_n 3, 1) := by decide +kernel
theorem dL_law_314 : decode cL_law 314 = .ok (.iconst 0, 1) := by decide +kernel
theorem dL_law_315 : decode cL_law 315 = .ok (.laload, 1) := by decide +kernel
theorem dL_law_316 : decode cL_law 316 = .ok (.iload 7, 2) := by decide +kernel
theorem dL_law_318 : decode cL_law 318 = .ok (.i2l, 1) := by decide +kernel
theorem dL_law_319 : decode cL_law 319 = .ok (.lcmp, 1) := by decide +kernel
theorem dL_law_320 : decode cL_law 320 = .ok (.ifCond .eq 5, 3) := by decide +kernel
theorem dL_law_323 : decode cL_law 323 = .ok (.iconst 0, 1) := by decide +kernel
theorem dL_law_324 : decode cL_law 324 = .ok (.ireturn, 1) := by decide +kernel
theorem dL_law_325 : decode cL_law 325 = .ok (.goto 1583, 3) := by decide +kernel
theorem dL_law_328 : decode cL_law 328 = .ok (.aload_n 1, 1) := by decide +kernel
theorem dL_law_329 : decode cL_law 329 = .ok (.aload_n 0, 1) := by decide +kernel
theorem dL_law_330 : decode cL_law 330 = .ok (.iload 5, 2) := by decide +kernel
theorem dL_law_332 : decode cL_law 332 = .ok (.iconst 1, 1) := by decide +kernel
theorem dL_law_333 : decode cL_law 333 = .ok (.iadd, 1) := by decide +kernel
theorem dL_law_334 : decode cL_law 334 = .ok (.iaload, 1) := by decide +kernel
theorem dL_law_335 : decode cL_law 335 = .ok (.aload_n 3, 1) := by decide +kernel
theorem dL_law_336 : decode cL_law 336 = .ok (.invokestatic 126, 3) := by decide +kernel
theorem dL_law_339 : decode cL_law 339 = .ok (.istore 6, 2) := by decide +kernel
theorem dL_law_341 : decode cL_law 341 = .ok (.aload_n 2, 1) := by decide +kernel
theorem dL_law_342 : decode cL_law 342 = .ok (.aload_n 0, 1) := by decide +kernel
theorem dL_law_343 : decode cL_law 343 = .ok (.iload 5, 2) := by decide +kernel
theorem dL_law_345 : decode cL_law 345 = .ok (.iconst 1, 1) := by decide +kernel
theorem dL_law_346 : decode cL_law 346 = .ok (.iadd, 1) := by decide +kernel
theorem dL_law_347 : decode cL_law 347 = .ok (.iaload, 1) := by decide +kernel
theorem dL_law_348 : decode cL_law 348 = .ok (.invokevirtual 129, 3) := by decide +kernel
theorem dL_law_351 : decode cL_law 351 = .ok (.istore 7, 2) := by decide +kernel
theorem dL_law_353 : decode cL_law 353 = .ok (.aload_n 2, 1) := by decide +kernel
theorem dL_law_354 : decode cL_law 354 = .ok (.invokevirtual 119, 3) := by decide +kernel
theorem dL_law_357 : decode cL_law 357 = .ok (.iload 6, 2) := by decide +kernel
theorem dL_law_359 : decode cL_law 359 = .ok (.if_icmp .eq 5, 3) := by decide +kernel
theorem dL_law_362 : decode cL_law 362 = .ok (.iconst 0, 1) := by decide +kernel
theorem dL_law_363 : decode cL_law 363 = .ok (.ireturn, 1) := by decide +kernel
theorem dL_law_364 : decode cL_law 364 = .ok (.iload 6, 2) := by decide +kernel
theorem dL_law_366 : decode cL_law 366 = .ok (.ifCond .ne 15, 3) := by decide +kernel
theorem dL_law_369 : decode cL_law 369 = .ok (.aload_n 3, 1) := by decide +kernel
theorem dL_law_370 : decode cL_law 370 = .ok (.iconst 0, 1) := by decide +kernel
theorem dL_law_371 : decode cL_law 371 = .ok (.laload, 1) := by decide +kernel
theorem dL_law_372 : decode cL_law 372 = .ok (.iload 7, 2) := by decide +kernel
theorem dL_law_374 : decode cL_law 374 = .ok (.i2l, 1) := by decide +kernel
theorem dL_law_375 : decode cL_law 375 = .ok (.lcmp, 1) := by decide +kernel
theorem dL_law_376 : decode cL_law 376 = .ok (.ifCond .eq 5, 3) := by decide +kernel
theorem dL_law_379 : decode cL_law 379 = .ok (.iconst 0, 1) := by decide +kernel
theorem dL_law_380 : decode cL_law 380 = .ok (.ireturn, 1) := by decide +kernel
theorem dL_law_381 : decode cL_law 381 = .ok (.goto 1527, 3) := by decide +kernel
theorem dL_law_384 : decode cL_law 384 = .ok (.aload_n 1, 1) := by decide +kernel
theorem dL_law_385 : decode cL_law 385 = .ok (.invokevirtual 130, 3) := by decide +kernel
theorem dL_law_388 : decode cL_law 388 = .ok (.aload_n 2, 1) := by decide +kernel
theorem dL_law_389 : decode cL_law 389 = .ok (.invokevirtual 133, 3) := by decide +kernel
theorem dL_law_392 : decode cL_law 392 = .ok (.if_icmp .eq 1516, 3) := by decide +kernel
theorem dL_law_395 : decode cL_law 395 = .ok (.iconst 0, 1) := by decide +kernel
theorem dL_law_396 : decode cL_law 396 = .ok (.ireturn, 1) := by decide +kernel
theorem dL_law_397 : decode cL_law 397 = .ok (.aload_n 1, 1) := by decide +kernel
theorem dL_law_398 : decode cL_law 398 = .ok (.invokevirtual 134, 3) := by decide +kernel
theorem dL_law_401 : decode cL_law 401 = .ok (.aload_n 2, 1) := by decide +kernel
theorem dL_law_402 : decode cL_law 402 = .ok (.invokevirtual 137, 3) := by decide +kernel
theorem dL_law_405 : decode cL_law 405 = .ok (.if_icmp .eq 1503, 3) := by decide +kernel
theorem dL_law_408 : decode cL_law 408 = .ok (.iconst 0, 1) := by decide +kernel
theorem dL_law_409 : decode cL_law 409 = .ok (.ireturn, 1) := by decide +kernel
theorem dL_law_410 : decode cL_law 410 = .ok (.aload_n 1, 1) := by decide +kernel
theorem dL_law_411 : decode cL_law 411 = .ok (.aload_n 0, 1) := by decide +kernel
theorem dL_law_412 : decode cL_law 412 = .ok (.iload 5, 2) := by decide +kernel
theorem dL_law_414 : decode cL_law 414 = .ok (.iconst 1, 1) := by decide +kernel
theorem dL_law_415 : decode cL_law 415 = .ok (.iadd, 1) := by decide +kernel
theorem dL_law_416 : decode cL_law 416 = .ok (.iaload, 1) := by decide +kernel
theorem dL_law_417 : decode cL_law 417 = .ok (.aload_n 0, 1) := by decide +kernel
theorem dL_law_418 : decode cL_law 418 = .ok (.iload 5, 2) := by decide +kernel
theorem dL_law_420 : decode cL_law 420 = .ok (.iconst 2, 1) := by decide +kernel
theorem dL_law_421 : decode cL_law 421 = .ok (.iadd, 1) := by decide +kernel
theorem dL_law_422 : decode cL_law 422 = .ok (.iaload, 1) := by decide +kernel
theorem dL_law_423 : decode cL_law 423 = .ok (.aload_n 3, 1) := by decide +kernel
theorem dL_law_424 : decode cL_law 424 = .ok (.invokestatic 138, 3) := by decide +kernel
theorem dL_law_427 : decode cL_law 427 = .ok (.istore 6, 2) := by decide +kernel
theorem dL_law_429 : decode cL_law 429 = .ok (.aload_n 2, 1) := by decide +kernel
theorem dL_law_430 : decode cL_law 430 = .ok (.aload_n 0, 1) := by decide +kernel
theorem dL_law_431 : decode cL_law 431 = .ok (.iload 5, 2) := by decide +kernel
theorem dL_law_433 : decode cL_law 433 = .ok (.iconst 1, 1) := by decide +kernel
theorem dL_law_434 : decode cL_law 434 = .ok (.iadd, 1) := by decide +kernel
theorem dL_law_435 : decode cL_law 435 = .ok (.iaload, 1) := by decide +kernel
theorem dL_law_436 : decode cL_law 436 = .ok (.aload_n 0, 1) := by decide +kernel
theorem dL_law_437 : decode cL_law 437 = .ok (.iload 5, 2) := by decide +kernel
theorem dL_law_439 : decode cL_law 439 = .ok (.iconst 2, 1) := by decide +kernel
theorem dL_law_440 : decode cL_law 440 = .ok (.iadd, 1) := by decide +kernel
theorem dL_law_441 : decode cL_law 441 = .ok (.iaload, 1) := by decide +kernel
theorem dL_law_442 : decode cL_law 442 = .ok (.invokevirtual 141, 3) := by decide +kernel
theorem dL_law_445 : decode cL_law 445 = .ok (.istore 7, 2) := by decide +kernel
theorem dL_law_447 : decode cL_law 447 = .ok (.aload_n 2, 1) := by decide +kernel
theorem dL_law_448 : decode cL_law 448 = .ok (.invokevirtual 119, 3) := by decide +kernel
theorem dL_law_451 : decode cL_law 451 = .ok (.iload 6, 2) := by decide +kernel
theorem dL_law_453 : decode cL_law 453 = .ok (.if_icmp .eq 5, 3) := by decide +kernel
theorem dL_law_456 : decode cL_law 456 = .ok (.iconst 0, 1) := by decide +kernel
theorem dL_law_457 : decode cL_law 457 = .ok (.ireturn, 1) := by decide +kernel
theorem dL_law_458 : decode cL_law 458 = .ok (.iload 6, 2) := by decide +kernel
theorem dL_law_460 : decode cL_law 460 = .ok (.ifCond .ne 15, 3) := by decide +kernel
theorem dL_law_463 : decode cL_law 463 = .ok (.aload_n 3, 1) := by decide +kernel
theorem dL_law_464 : decode cL_law 464 = .ok (.iconst 0, 1) := by decide +kernel
theorem dL_law_465 : decode cL_law 465 = .ok (.laload, 1) := by decide +kernel
theorem dL_law_466 : decode cL_law 466 = .ok (.iload 7, 2) := by decide +kernel
theorem dL_law_468 : decode cL_law 468 = .ok (.i2l, 1) := by decide +kernel
theorem dL_law_469 : decode cL_law 469 = .ok (.lcmp, 1) := by decide +kernel
theorem dL_law_470 : decode cL_law 470 = .ok (.ifCond .eq 5, 3) := by decide +kernel
theorem dL_law_473 : decode cL_law 473 = .ok (.iconst 0, 1) := by decide +kernel
theorem dL_law_474 : decode cL_law 474 = .ok (.ireturn, 1) := by decide +kernel
theorem dL_law_475 : decode cL_law 475 = .ok (.goto 1433, 3) := by decide +kernel
theorem dL_law_478 : decode cL_law 478 = .ok (.aload_n 1, 1) := by decide +kernel
theorem dL_law_479 : decode cL_law 479 = .ok (.aload_n 0, 1) := by decide +kernel
theorem dL_law_480 : decode cL_law 480 = .ok (.iload 5, 2) := by decide +kernel
theorem dL_law_482 : decode cL_law 482 = .ok (.iconst 1, 1) := by decide +kernel
theorem dL_law_483 : decode cL_law 483 = .ok (.iadd, 1) := by decide +kernel
theorem dL_law_484 : decode cL_law 484 = .ok (.iaload, 1) := by decide +kernel
theorem dL_law_485 : decode cL_law 485 = .ok (.aload_n 3, 1) := by decide +kernel
theorem dL_law_486 : decode cL_law 486 = .ok (.invokestatic 142, 3) := by decide +kernel
theorem dL_law_489 : decode cL_law 489 = .ok (.istore 6, 2) := by decide +kernel
theorem dL_law_491 : decode cL_law 491 = .ok (.aload_n 2, 1) := by decide +kernel
theorem dL_law_492 : decode cL_law 492 = .ok (.aload_n 0, 1) := by decide +kernel
theorem dL_law_493 : decode cL_law 493 = .ok (.iload 5, 2) := by decide +kernel
theorem dL_law_495 : decode cL_law 495 = .ok (.iconst 1, 1) := by decide +kernel
theorem dL_law_496 : decode cL_law 496 = .ok (.iadd, 1) := by decide +kernel
theorem dL_law_497 : decode cL_law 497 = .ok (.iaload, 1) := by decide +kernel
theorem dL_law_498 : decode cL_law 498 = .ok (.invokevirtual 144, 3) := by decide +kernel
theorem dL_law_501 : decode cL_law 501 = .ok (.istore 7, 2) := by decide +kernel
theorem dL_law_503 : decode cL_law 503 = .ok (.aload_n 2, 1) := by decide +kernel
theorem dL_law_504 : decode cL_law 504 = .ok (.invokevirtual 119, 3) := by decide +kernel
theorem dL_law_507 : decode cL_law 507 = .ok (.iload 6, 2) := by decide +kernel
theorem dL_law_509 : decode cL_law 509 = .ok (.if_icmp .eq 5, 3) := by decide +kernel
theorem dL_law_512 : decode cL_law 512 = .ok (.iconst 0, 1) := by decide +kernel
theorem dL_law_513 : decode cL_law 513 = .ok (.ireturn, 1) := by decide +kernel
theorem dL_law_514 : decode cL_law 514 = .ok (.iload 6, 2) := by decide +kernel
theorem dL_law_516 : decode cL_law 516 = .ok (.ifCond .ne 15, 3) := by decide +kernel
theorem dL_law_519 : decode cL_law 519 = .ok (.aload_n 3, 1) := by decide +kernel
theorem dL_law_520 : decode cL_law 520 = .ok (.iconst 0, 1) := by decide +kernel
theorem dL_law_521 : decode cL_law 521 = .ok (.laload, 1) := by decide +kernel
theorem dL_law_522 : decode cL_law 522 = .ok (.iload 7, 2) := by decide +kernel
theorem dL_law_524 : decode cL_law 524 = .ok (.i2l, 1) := by decide +kernel
theorem dL_law_525 : decode cL_law 525 = .ok (.lcmp, 1) := by decide +kernel
theorem dL_law_526 : decode cL_law 526 = .ok (.ifCond .eq 5, 3) := by decide +kernel
theorem dL_law_529 : decode cL_law 529 = .ok (.iconst 0, 1) := by decide +kernel
theorem dL_law_530 : decode cL_law 530 = .ok (.ireturn, 1) := by decide +kernel
theorem dL_law_531 : decode cL_law 531 = .ok (.goto 1377, 3) := by decide +kernel
theorem dL_law_534 : decode cL_law 534 = .ok (.aload_n 1, 1) := by decide +kernel
theorem dL_law_535 : decode cL_law 535 = .ok (.aload_n 0, 1) := by decide +kernel
theorem dL_law_536 : decode cL_law 536 = .ok (.iload 5, 2) := by decide +kernel
theorem dL_law_538 : decode cL_law 538 = .ok (.iconst 1, 1) := by decide +kernel
theorem dL_law_539 : decode cL_law 539 = .ok (.iadd, 1) := by decide +kernel
theorem dL_law_540 : decode cL_law 540 = .ok (.iaload, 1) := by decide +kernel
theorem dL_law_541 : decode cL_law 541 = .ok (.aload_n 3, 1) := by decide +kernel
theorem dL_law_542 : decode cL_law 542 = .ok (.invokestatic 145, 3) := by decide +kernel
theorem dL_law_545 : decode cL_law 545 = .ok (.istore 6, 2) := by decide +kernel
theorem dL_law_547 : decode cL_law 547 = .ok (.aload_n 2, 1) := by decide +kernel
theorem dL_law_548 : decode cL_law 548 = .ok (.aload_n 0, 1) := by decide +kernel
theorem dL_law_549 : decode cL_law 549 = .ok (.iload 5, 2) := by decide +kernel
theorem dL_law_551 : decode cL_law 551 = .ok (.iconst 1, 1) := by decide +kernel
theorem dL_law_552 : decode cL_law 552 = .ok (.iadd, 1) := by decide +kernel
theorem dL_law_553 : decode cL_law 553 = .ok (.iaload, 1) := by decide +kernel
theorem dL_law_554 : decode cL_law 554 = .ok (.invokevirtual 147, 3) := by decide +kernel
theorem dL_law_557 : decode cL_law 557 = .ok (.istore 7, 2) := by decide +kernel
theorem dL_law_559 : decode cL_law 559 = .ok (.aload_n 2, 1) := by decide +kernel
theorem dL_law_560 : decode cL_law 560 = .ok (.invokevirtual 119, 3) := by decide +kernel
theorem dL_law_563 : decode cL_law 563 = .ok (.iload 6, 2) := by decide +kernel
theorem dL_law_565 : decode cL_law 565 = .ok (.if_icmp .eq 5, 3) := by decide +kernel
theorem dL_law_568 : decode cL_law 568 = .ok (.iconst 0, 1) := by decide +kernel
theorem dL_law_569 : decode cL_law 569 = .ok (.ireturn, 1) := by decide +kernel
theorem dL_law_570 : decode cL_law 570 = .ok (.iload 6, 2) := by decide +kernel
theorem dL_law_572 : decode cL_law 572 = .ok (.ifCond .ne 15, 3) := by decide +kernel
theorem dL_law_575 : decode cL_law 575 = .ok (.aload_n 3, 1) := by decide +kernel
theorem dL_law_576 : decode cL_law 576 = .ok (.iconst 0, 1) := by decide +kernel
theorem dL_law_577 : decode cL_law 577 = .ok (.laload, 1) := by decide +kernel
theorem dL_law_578 : decode cL_law 578 = .ok (.iload 7, 2) := by decide +kernel
theorem dL_law_580 : decode cL_law 580 = .ok (.i2l, 1) := by decide +kernel
theorem dL_law_581 : decode cL_law 581 = .ok (.lcmp, 1) := by decide +kernel
theorem dL_law_582 : decode cL_law 582 = .ok (.ifCond .eq 5, 3) := by decide +kernel
theorem dL_law_585 : decode cL_law 585 = .ok (.iconst 0, 1) := by decide +kernel
theorem dL_law_586 : decode cL_law 586 = .ok (.ireturn, 1) := by decide +kernel
theorem dL_law_587 : decode cL_law 587 = .ok (.goto 1321, 3) := by decide +kernel
theorem dL_law_590 : decode cL_law 590 = .ok (.aload_n 1, 1) := by decide +kernel
theorem dL_law_591 : decode cL_law 591 = .ok (.aload_n 0, 1) := by decide +kernel
theorem dL_law_592 : decode cL_law 592 = .ok (.iload 5, 2) := by decide +kernel
theorem dL_law_594 : decode cL_law 594 = .ok (.iconst 1, 1) := by decide +kernel
theorem dL_law_595 : decode cL_law 595 = .ok (.iadd, 1) := by decide +kernel
theorem dL_law_596 : decode cL_law 596 = .ok (.iaload, 1) := by decide +kernel
theorem dL_law_597 : decode cL_law 597 = .ok (.aload_n 3, 1) := by decide +kernel
theorem dL_law_598 : decode cL_law 598 = .ok (.invokestatic 148, 3) := by decide +kernel
theorem dL_law_601 : decode cL_law 601 = .ok (.istore 6, 2) := by decide +kernel
theorem dL_law_603 : decode cL_law 603 = .ok (.aload_n 2, 1) := by decide +kernel
theorem dL_law_604 : decode cL_law 604 = .ok (.aload_n 0, 1) := by decide +kernel
theorem dL_law_605 : decode cL_law 605 = .ok (.iload 5, 2) := by decide +kernel
theorem dL_law_607 : decode cL_law 607 = .ok (.iconst 1, 1) := by decide +kernel
theorem dL_law_608 : decode cL_law 608 = .ok (.iadd, 1) := by decide +kernel
theorem dL_law_609 : decode cL_law 609 = .ok (.iaload, 1) := by decide +kernel
theorem dL_law_610 : decode cL_law 610 = .ok (.invokevirtual 150, 3) := by decide +kernel
theorem dL_law_613 : decode cL_law 613 = .ok (.istore 7, 2) := by decide +kernel
theorem dL_law_615 : decode cL_law 615 = .ok (.aload_n 2, 1) := by decide +kernel
theorem dL_law_616 : decode cL_law 616 = .ok (.invokevirtual 119, 3) := by decide +kernel
theorem dL_law_619 : decode cL_law 619 = .ok (.iload 6, 2) := by decide +kernel
theorem dL_law_621 : decode cL_law 621 = .ok (.if_icmp .eq 5, 3) := by decide +kernel
theorem dL_law_624 : decode cL_law 624 = .ok (.iconst 0, 1) := by decide +kernel
theorem dL_law_625 : decode cL_law 625 = .ok (.ireturn, 1) := by decide +kernel
theorem dL_law_626 : decode cL_law 626 = .ok (.iload 6, 2) := by decide +kernel
theorem dL_law_628 : decode cL_law 628 = .ok (.ifCond .ne 15, 3) := by decide +kernel
theorem dL_law_631 : decode cL_law 631 = .ok (.aload_n 3, 1) := by decide +kernel
theorem dL_law_632 : decode cL_law 632 = .ok (.iconst 0, 1) := by decide +kernel
theorem dL_law_633 : decode cL_law 633 = .ok (.laload, 1) := by decide +kernel
theorem dL_law_634 : decode cL_law 634 = .ok (.iload 7, 2) := by decide +kernel
theorem dL_law_636 : decode cL_law 636 = .ok (.i2l, 1) := by decide +kernel
theorem dL_law_637 : decode cL_law 637 = .ok (.lcmp, 1) := by decide +kernel
theorem dL_law_638 : decode cL_law 638 = .ok (.ifCond .eq 5, 3) := by decide +kernel
theorem dL_law_641 : decode cL_law 641 = .ok (.iconst 0, 1) := by decide +kernel
theorem dL_law_642 : decode cL_law 642 = .ok (.ireturn, 1) := by decide +kernel
theorem dL_law_643 : decode cL_law 643 = .ok (.goto 1265, 3) := by decide +kernel
theorem dL_law_646 : decode cL_law 646 = .ok (.aload_n 1, 1) := by decide +kernel
theorem dL_law_647 : decode cL_law 647 = .ok (.invokevirtual 151, 3) := by decide +kernel
theorem dL_law_650 : decode cL_law 650 = .ok (.aload_n 2, 1) := by decide +kernel
theorem dL_law_651 : decode cL_law 651 = .ok (.invokevirtual 154, 3) := by decide +kernel
theorem dL_law_654 : decode cL_law 654 = .ok (.if_icmp .eq 1254, 3) := by decide +kernel
theorem dL_law_657 : decode cL_law 657 = .ok (.iconst 0, 1) := by decide +kernel
theorem dL_law_658 : decode cL_law 658 = .ok (.ireturn, 1) := by decide +kernel
theorem dL_law_659 : decode cL_law 659 = .ok (.aload_n 1, 1) := by decide +kernel
theorem dL_law_660 : decode cL_law 660 = .ok (.invokevirtual 155, 3) := by decide +kernel
theorem dL_law_663 : decode cL_law 663 = .ok (.aload_n 2, 1) := by decide +kernel
theorem dL_law_664 : decode cL_law 664 = .ok (.invokevirtual 158, 3) := by decide +kernel
theorem dL_law_667 : decode cL_law 667 = .ok (.if_icmp .eq 1241, 3) := by decide +kernel
theorem dL_law_670 : decode cL_law 670 = .ok (.iconst 0, 1) := by decide +kernel
theorem dL_law_671 : decode cL_law 671 = .ok (.ireturn, 1) := by decide +kernel
theorem dL_law_672 : decode cL_law 672 = .ok (.aload_n 1, 1) := by decide +kernel
theorem dL_law_673 : decode cL_law 673 = .ok (.aload_n 0, 1) := by decide +kernel
theorem dL_law_674 : decode cL_law 674 = .ok (.iload 5, 2) := by decide +kernel
theorem dL_law_676 : decode cL_law 676 = .ok (.iconst 1, 1) := by decide +kernel
theorem dL_law_677 : decode cL_law 677 = .ok (.iadd, 1) := by decide +kernel
theorem dL_law_678 : decode cL_law 678 = .ok (.iaload, 1) := by decide +kernel
theorem dL_law_679 : decode cL_law 679 = .ok (.aload_n 3, 1) := by decide +kernel
theorem dL_law_680 : decode cL_law 680 = .ok (.invokestatic 159, 3) := by decide +kernel
theorem dL_law_683 : decode cL_law 683 = .ok (.istore 6, 2) := by decide +kernel
theorem dL_law_685 : decode cL_law 685 = .ok (.aload_n 2, 1) := by decide +kernel
theorem dL_law_686 : decode cL_law 686 = .ok (.aload_n 0, 1) := by decide +kernel
theorem dL_law_687 : decode cL_law 687 = .ok (.iload 5, 2) := by decide +kernel
theorem dL_law_689 : decode cL_law 689 = .ok (.iconst 1, 1) := by decide +kernel
theorem dL_law_690 : decode cL_law 690 = .ok (.iadd, 1) := by decide +kernel
theorem dL_law_691 : decode cL_law 691 = .ok (.iaload, 1) := by decide +kernel
theorem dL_law_692 : decode cL_law 692 = .ok (.invokevirtual 161, 3) := by decide +kernel
theorem dL_law_695 : decode cL_law 695 = .ok (.istore 7, 2) := by decide +kernel
theorem dL_law_697 : decode cL_law 697 = .ok (.aload_n 2, 1) := by decide +kernel
theorem dL_law_698 : decode cL_law 698 = .ok (.invokevirtual 119, 3) := by decide +kernel
theorem dL_law_701 : decode cL_law 701 = .ok (.iload 6, 2) := by decide +kernel
theorem dL_law_703 : decode cL_law 703 = .ok (.if_icmp .eq 5, 3) := by decide +kernel
theorem dL_law_706 : decode cL_law 706 = .ok (.iconst 0, 1) := by decide +kernel
theorem dL_law_707 : decode cL_law 707 = .ok (.ireturn, 1) := by decide +kernel
theorem dL_law_708 : decode cL_law 708 = .ok (.iload 6, 2) := by decide +kernel
theorem dL_law_710 : decode cL_law 710 = .ok (.ifCond .ne 15, 3) := by decide +kernel
theorem dL_law_713 : decode cL_law 713 = .ok (.aload_n 3, 1) := by decide +kernel
theorem dL_law_714 : decode cL_law 714 = .ok (.iconst 0, 1) := by decide +kernel
theorem dL_law_715 : decode cL_law 715 = .ok (.laload, 1) := by decide +kernel
theorem dL_law_716 : decode cL_law 716 = .ok (.iload 7, 2) := by decide +kernel
theorem dL_law_718 : decode cL_law 718 = .ok (.i2l, 1) := by decide +kernel
theorem dL_law_719 : decode cL_law 719 = .ok (.lcmp, 1) := by decide +kernel
theorem dL_law_720 : decode cL_law 720 = .ok (.ifCond .eq 5, 3) := by decide +kernel
theorem dL_law_723 : decode cL_law 723 = .ok (.iconst 0, 1) := by decide +kernel
theorem dL_law_724 : decode cL_law 724 = .ok (.ireturn, 1) := by decide +kernel
theorem dL_law_725 : decode cL_law 725 = .ok (.goto 1183, 3) := by decide +kernel
theorem dL_law_728 : decode cL_law 728 = .ok (.aload_n 1, 1) := by decide +kernel
theorem dL_law_729 : decode cL_law 729 = .ok (.invokevirtual 162, 3) := by decide +kernel
theorem dL_law_732 : decode cL_law 732 = .ok (.aload_n 2, 1) := by decide +kernel
theorem dL_law_733 : decode cL_law 733 = .ok (.invokevirtual 165, 3) := by decide +kernel
theorem dL_law_736 : decode cL_law 736 = .ok (.lcmp, 1) := by decide +kernel
theorem dL_law_737 : decode cL_law 737 = .ok (.ifCond .eq 1171, 3) := by decide +kernel
theorem dL_law_740 : decode cL_law 740 = .ok (.iconst 0, 1) := by decide +kernel
theorem dL_law_741 : decode cL_law 741 = .ok (.ireturn, 1) := by decide +kernel
theorem dL_law_742 : decode cL_law 742 = .ok (.aload_n 1, 1) := by decide +kernel
theorem dL_law_743 : decode cL_law 743 = .ok (.aload_n 0, 1) := by decide +kernel
theorem dL_law_744 : decode cL_law 744 = .ok (.iload 5, 2) := by decide +kernel
theorem dL_law_746 : decode cL_law 746 = .ok (.iconst 1, 1) := by decide +kernel
theorem dL_law_747 : decode cL_law 747 = .ok (.iadd, 1) := by decide +kernel
theorem dL_law_748 : decode cL_law 748 = .ok (.iaload, 1) := by decide +kernel
theorem dL_law_749 : decode cL_law 749 = .ok (.aload_n 3, 1) := by decide +kernel
theorem dL_law_750 : decode cL_law 750 = .ok (.invokestatic 166, 3) := by decide +kernel
theorem dL_law_753 : decode cL_law 753 = .ok (.istore 6, 2) := by decide +kernel
theorem dL_law_755 : decode cL_law 755 = .ok (.aload_n 2, 1) := by decide +kernel
theorem dL_law_756 : decode cL_law 756 = .ok (.aload_n 0, 1) := by decide +kernel
theorem dL_law_757 : decode cL_law 757 = .ok (.iload 5, 2) := by decide +kernel
theorem dL_law_759 : decode cL_law 759 = .ok (.iconst 1, 1) := by decide +kernel
theorem dL_law_760 : decode cL_law 760 = .ok (.iadd, 1) := by decide +kernel
theorem dL_law_761 : decode cL_law 761 = .ok (.iaload, 1) := by decide +kernel
theorem dL_law_762 : decode cL_law 762 = .ok (.invokevirtual 168, 3) := by decide +kernel
theorem dL_law_765 : decode cL_law 765 = .ok (.lstore 7, 2) := by decide +kernel
theorem dL_law_767 : decode cL_law 767 = .ok (.aload_n 2, 1) := by decide +kernel
theorem dL_law_768 : decode cL_law 768 = .ok (.invokevirtual 119, 3) := by decide +kernel
theorem dL_law_771 : decode cL_law 771 = .ok (.iload 6, 2) := by decide +kernel
theorem dL_law_773 : decode cL_law 773 = .ok (.if_icmp .eq 5, 3) := by decide +kernel
theorem dL_law_776 : decode cL_law 776 = .ok (.iconst 0, 1) := by decide +kernel
theorem dL_law_777 : decode cL_law 777 = .ok (.ireturn, 1) := by decide +kernel
theorem dL_law_778 : decode cL_law 778 = .ok (.iload 6, 2) := by decide +kernel
theorem dL_law_780 : decode cL_law 780 = .ok (.ifCond .ne 14, 3) := by decide +kernel
theorem dL_law_783 : decode cL_law 783 = .ok (.aload_n 3, 1) := by decide +kernel
theorem dL_law_784 : decode cL_law 784 = .ok (.iconst 0, 1) := by decide +kernel
theorem dL_law_785 : decode cL_law 785 = .ok (.laload, 1) := by decide +kernel
theorem dL_law_786 : decode cL_law 786 = .ok (.lload 7, 2) := by decide +kernel
theorem dL_law_788 : decode cL_law 788 = .ok (.lcmp, 1) := by decide +kernel
theorem dL_law_789 : decode cL_law 789 = .ok (.ifCond .eq 5, 3) := by decide +kernel
theorem dL_law_792 : decode cL_law 792 = .ok (.iconst 0, 1) := by decide +kernel
theorem dL_law_793 : decode cL_law 793 = .ok (.ireturn, 1) := by decide +kernel
theorem dL_law_794 : decode cL_law 794 = .ok (.goto 1114, 3) := by decide +kernel
theorem dL_law_797 : decode cL_law 797 = .ok (.aload_n 1, 1) := by decide +kernel
theorem dL_law_798 : decode cL_law 798 = .ok (.aload_n 0, 1) := by decide +kernel
theorem dL_law_799 : decode cL_law 799 = .ok (.iload 5, 2) := by decide +kernel
theorem dL_law_801 : decode cL_law 801 = .ok (.iconst 1, 1) := by decide +kernel
theorem dL_law_802 : decode cL_law 802 = .ok (.iadd, 1) := by decide +kernel
theorem dL_law_803 : decode cL_law 803 = .ok (.iaload, 1) := by decide +kernel
theorem dL_law_804 : decode cL_law 804 = .ok (.aload_n 0, 1) := by decide +kernel
theorem dL_law_805 : decode cL_law 805 = .ok (.iload 5, 2) := by decide +kernel
theorem dL_law_807 : decode cL_law 807 = .ok (.iconst 2, 1) := by decide +kernel
theorem dL_law_808 : decode cL_law 808 = .ok (.iadd, 1) := by decide +kernel
theorem dL_law_809 : decode cL_law 809 = .ok (.iaload, 1) := by decide +kernel
theorem dL_law_810 : decode cL_law 810 = .ok (.aload_n 3, 1) := by decide +kernel
theorem dL_law_811 : decode cL_law 811 = .ok (.invokestatic 169, 3) := by decide +kernel
theorem dL_law_814 : decode cL_law 814 = .ok (.istore 6, 2) := by decide +kernel
theorem dL_law_816 : decode cL_law 816 = .ok (.aload_n 2, 1) := by decide +kernel
theorem dL_law_817 : decode cL_law 817 = .ok (.aload_n 0, 1) := by decide +kernel
theorem dL_law_818 : decode cL_law 818 = .ok (.iload 5, 2) := by decide +kernel
theorem dL_law_820 : decode cL_law 820 = .ok (.iconst 1, 1) := by decide +kernel
theorem dL_law_821 : decode cL_law 821 = .ok (.iadd, 1) := by decide +kernel
theorem dL_law_822 : decode cL_law 822 = .ok (.iaload, 1) := by decide +kernel
theorem dL_law_823 : decode cL_law 823 = .ok (.aload_n 0, 1) := by decide +kernel
theorem dL_law_824 : decode cL_law 824 = .ok (.iload 5, 2) := by decide +kernel
theorem dL_law_826 : decode cL_law 826 = .ok (.iconst 2, 1) := by decide +kernel
theorem dL_law_827 : decode cL_law 827 = .ok (.iadd, 1) := by decide +kernel
theorem dL_law_828 : decode cL_law 828 = .ok (.iaload, 1) := by decide +kernel
theorem dL_law_829 : decode cL_law 829 = .ok (.invokevirtual 171, 3) := by decide +kernel
theorem dL_law_832 : decode cL_law 832 = .ok (.istore 7, 2) := by decide +kernel
theorem dL_law_834 : decode cL_law 834 = .ok (.aload_n 2, 1) := by decide +kernel
theorem dL_law_835 : decode cL_law 835 = .ok (.invokevirtual 119, 3) := by decide +kernel
theorem dL_law_838 : decode cL_law 838 = .ok (.iload 6, 2) := by decide +kernel
theorem dL_law_840 : decode cL_law 840 = .ok (.if_icmp .eq 5, 3) := by decide +kernel
theorem dL_law_843 : decode cL_law 843 = .ok (.iconst 0, 1) := by decide +kernel
theorem dL_law_844 : decode cL_law 844 = .ok (.ireturn, 1) := by decide +kernel
theorem dL_law_845 : decode cL_law 845 = .ok (.iload 6, 2) := by decide +kernel
theorem dL_law_847 : decode cL_law 847 = .ok (.ifCond .ne 15, 3) := by decide +kernel
theorem dL_law_850 : decode cL_law 850 = .ok (.aload_n 3, 1) := by decide +kernel
theorem dL_law_851 : decode cL_law 851 = .ok (.iconst 0, 1) := by decide +kernel
theorem dL_law_852 : decode cL_law 852 = .ok (.laload, 1) := by decide +kernel
theorem dL_law_853 : decode cL_law 853 = .ok (.iload 7, 2) := by decide +kernel
theorem dL_law_855 : decode cL_law 855 = .ok (.i2l, 1) := by decide +kernel
theorem dL_law_856 : decode cL_law 856 = .ok (.lcmp, 1) := by decide +kernel
theorem dL_law_857 : decode cL_law 857 = .ok (.ifCond .eq 5, 3) := by decide +kernel
theorem dL_law_860 : decode cL_law 860 = .ok (.iconst 0, 1) := by decide +kernel
theorem dL_law_861 : decode cL_law 861 = .ok (.ireturn, 1) := by decide +kernel
theorem dL_law_862 : decode cL_law 862 = .ok (.goto 1046, 3) := by decide +kernel
theorem dL_law_865 : decode cL_law 865 = .ok (.aload_n 1, 1) := by decide +kernel
theorem dL_law_866 : decode cL_law 866 = .ok (.aload_n 0, 1) := by decide +kernel
theorem dL_law_867 : decode cL_law 867 = .ok (.iload 5, 2) := by decide +kernel
theorem dL_law_869 : decode cL_law 869 = .ok (.iconst 1, 1) := by decide +kernel
theorem dL_law_870 : decode cL_law 870 = .ok (.iadd, 1) := by decide +kernel
theorem dL_law_871 : decode cL_law 871 = .ok (.iaload, 1) := by decide +kernel
theorem dL_law_872 : decode cL_law 872 = .ok (.aload 4, 2) := by decide +kernel
theorem dL_law_874 : decode cL_law 874 = .ok (.invokestatic 172, 3) := by decide +kernel
theorem dL_law_877 : decode cL_law 877 = .ok (.istore 6, 2) := by decide +kernel
theorem dL_law_879 : decode cL_law 879 = .ok (.aload_n 2, 1) := by decide +kernel
theorem dL_law_880 : decode cL_law 880 = .ok (.aload_n 0, 1) := by decide +kernel
theorem dL_law_881 : decode cL_law 881 = .ok (.iload 5, 2) := by decide +kernel
theorem dL_law_883 : decode cL_law 883 = .ok (.iconst 1, 1) := by decide +kernel
theorem dL_law_884 : decode cL_law 884 = .ok (.iadd, 1) := by decide +kernel
theorem dL_law_885 : decode cL_law 885 = .ok (.iaload, 1) := by decide +kernel
theorem dL_law_886 : decode cL_law 886 = .ok (.invokevirtual 175, 3) := by decide +kernel
theorem dL_law_889 : decode cL_law 889 = .ok (.dstore 7, 2) := by decide +kernel
theorem dL_law_891 : decode cL_law 891 = .ok (.aload_n 2, 1) := by decide +kernel
theorem dL_law_892 : decode cL_law 892 = .ok (.invokevirtual 119, 3) := by decide +kernel
theorem dL_law_895 : decode cL_law 895 = .ok (.iload 6, 2) := by decide +kernel
theorem dL_law_897 : decode cL_law 897 = .ok (.if_icmp .eq 5, 3) := by decide +kernel
theorem dL_law_900 : decode cL_law 900 = .ok (.iconst 0, 1) := by decide +kernel
theorem dL_law_901 : decode cL_law 901 = .ok (.ireturn, 1) := by decide +kernel
theorem dL_law_902 : decode cL_law 902 = .ok (.iload 6, 2) := by decide +kernel
theorem dL_law_904 : decode cL_law 904 = .ok (.ifCond .ne 35, 3) := by decide +kernel
theorem dL_law_907 : decode cL_law 907 = .ok (.aload 4, 2) := by decide +kernel
theorem dL_law_909 : decode cL_law 909 = .ok (.iconst 0, 1) := by decide +kernel
theorem dL_law_910 : decode cL_law 910 = .ok (.daload, 1) := by decide +kernel
theorem dL_law_911 : decode cL_law 911 = .ok (.dload 7, 2) := by decide +kernel
theorem dL_law_913 : decode cL_law 913 = .ok (.dcmp .l, 1) := by decide +kernel
theorem dL_law_914 : decode cL_law 914 = .ok (.ifCond .eq 25, 3) := by decide +kernel
theorem dL_law_917 : decode cL_law 917 = .ok (.aload 4, 2) := by decide +kernel
theorem dL_law_919 : decode cL_law 919 = .ok (.iconst 0, 1) := by decide +kernel
theorem dL_law_920 : decode cL_law 920 = .ok (.daload, 1) := by decide +kernel
theorem dL_law_921 : decode cL_law 921 = .ok (.aload 4, 2) := by decide +kernel
theorem dL_law_923 : decode cL_law 923 = .ok (.iconst 0, 1) := by decide +kernel
theorem dL_law_924 : decode cL_law 924 = .ok (.daload, 1) := by decide +kernel
theorem dL_law_925 : decode cL_law 925 = .ok (.dcmp .l, 1) := by decide +kernel
theorem dL_law_926 : decode cL_law 926 = .ok (.ifCond .eq 11, 3) := by decide +kernel
theorem dL_law_929 : decode cL_law 929 = .ok (.dload 7, 2) := by decide +kernel
theorem dL_law_931 : decode cL_law 931 = .ok (.dload 7, 2) := by decide +kernel
theorem dL_law_933 : decode cL_law 933 = .ok (.dcmp .l, 1) := by decide +kernel
theorem dL_law_934 : decode cL_law 934 = .ok (.ifCond .ne 5, 3) := by decide +kernel
theorem dL_law_937 : decode cL_law 937 = .ok (.iconst 0, 1) := by decide +kernel
theorem dL_law_938 : decode cL_law 938 = .ok (.ireturn, 1) := by decide +kernel
theorem dL_law_939 : decode cL_law 939 = .ok (.goto 969, 3) := by decide +kernel
theorem dL_law_942 : decode cL_law 942 = .ok (.aload_n 1, 1) := by decide +kernel
theorem dL_law_943 : decode cL_law 943 = .ok (.aload_n 0, 1) := by decide +kernel
theorem dL_law_944 : decode cL_law 944 = .ok (.iload 5, 2) := by decide +kernel
theorem dL_law_946 : decode cL_law 946 = .ok (.iconst 1, 1) := by decide +kernel
theorem dL_law_947 : decode cL_law 947 = .ok (.iadd, 1) := by decide +kernel
theorem dL_law_948 : decode cL_law 948 = .ok (.iaload, 1) := by decide +kernel
theorem dL_law_949 : decode cL_law 949 = .ok (.aload 4, 2) := by decide +kernel
theorem dL_law_951 : decode cL_law 951 = .ok (.invokestatic 176, 3) := by decide +kernel
theorem dL_law_954 : decode cL_law 954 = .ok (.istore 6, 2) := by decide +kernel
theorem dL_law_956 : decode cL_law 956 = .ok (.aload_n 2, 1) := by decide +kernel
theorem dL_law_957 : decode cL_law 957 = .ok (.aload_n 0, 1) := by decide +kernel
theorem dL_law_958 : decode cL_law 958 = .ok (.iload 5, 2) := by decide +kernel
theorem dL_law_960 : decode cL_law 960 = .ok (.iconst 1, 1) := by decide +kernel
theorem dL_law_961 : decode cL_law 961 = .ok (.iadd, 1) := by decide +kernel
theorem dL_law_962 : decode cL_law 962 = .ok (.iaload, 1) := by decide +kernel
theorem dL_law_963 : decode cL_law 963 = .ok (.invokevirtual 178, 3) := by decide +kernel
theorem dL_law_966 : decode cL_law 966 = .ok (.dstore 7, 2) := by decide +kernel
theorem dL_law_968 : decode cL_law 968 = .ok (.aload_n 2, 1) := by decide +kernel
theorem dL_law_969 : decode cL_law 969 = .ok (.invokevirtual 119, 3) := by decide +kernel
theorem dL_law_972 : decode cL_law 972 = .ok (.iload 6, 2) := by decide +kernel
theorem dL_law_974 : decode cL_law 974 = .ok (.if_icmp .eq 5, 3) := by decide +kernel
theorem dL_law_977 : decode cL_law 977 = .ok (.iconst 0, 1) := by decide +kernel
theorem dL_law_978 : decode cL_law 978 = .ok (.ireturn, 1) := by decide +kernel
theorem dL_law_979 : decode cL_law 979 = .ok (.iload 6, 2) := by decide +kernel
theorem dL_law_981 : decode cL_law 981 = .ok (.ifCond .ne 35, 3) := by decide +kernel
theorem dL_law_984 : decode cL_law 984 = .ok (.aload 4, 2) := by decide +kernel
theorem dL_law_986 : decode cL_law 986 = .ok (.iconst 0, 1) := by decide +kernel
theorem dL_law_987 : decode cL_law 987 = .ok (.daload, 1) := by decide +kernel
theorem dL_law_988 : decode cL_law 988 = .ok (.dload 7, 2) := by decide +kernel
theorem dL_law_990 : decode cL_law 990 = .ok (.dcmp .l, 1) := by decide +kernel
theorem dL_law_991 : decode cL_law 991 = .ok (.ifCond .eq 25, 3) := by decide +kernel
theorem dL_law_994 : decode cL_law 994 = .ok (.aload 4, 2) := by decide +kernel
theorem dL_law_996 : decode cL_law 996 = .ok (.iconst 0, 1) := by decide +kernel
theorem dL_law_997 : decode cL_law 997 = .ok (.daload, 1) := by decide +kernel
theorem dL_law_998 : decode cL_law 998 = .ok (.aload 4, 2) := by decide +kernel
theorem dL_law_1000 : decode cL_law 1000 = .ok (.iconst 0, 1) := by decide +kernel
theorem dL_law_1001 : decode cL_law 1001 = .ok (.daload, 1) := by decide +kernel
theorem dL_law_1002 : decode cL_law 1002 = .ok (.dcmp .l, 1) := by decide +kernel
theorem dL_law_1003 : decode cL_law 1003 = .ok (.ifCond .eq 11, 3) := by decide +kernel
theorem dL_law_1006 : decode cL_law 1006 = .ok (.dload 7, 2) := by decide +kernel
theorem dL_law_1008 : decode cL_law 1008 = .ok (.dload 7, 2) := by decide +kernel
theorem dL_law_1010 : decode cL_law 1010 = .ok (.dcmp .l, 1) := by decide +kernel
theorem dL_law_1011 : decode cL_law 1011 = .ok (.ifCond .ne 5, 3) := by decide +kernel
theorem dL_law_1014 : decode cL_law 1014 = .ok (.iconst 0, 1) := by decide +kernel
theorem dL_law_1015 : decode cL_law 1015 = .ok (.ireturn, 1) := by decide +kernel
theorem dL_law_1016 : decode cL_law 1016 = .ok (.goto 892, 3) := by decide +kernel
theorem dL_law_1019 : decode cL_law 1019 = .ok (.aload_n 1, 1) := by decide +kernel
theorem dL_law_1020 : decode cL_law 1020 = .ok (.aload_n 0, 1) := by decide +kernel
theorem dL_law_1021 : decode cL_law 1021 = .ok (.iload 5, 2) := by decide +kernel
theorem dL_law_1023 : decode cL_law 1023 = .ok (.iconst 1, 1) := by decide +kernel
theorem dL_law_1024 : decode cL_law 1024 = .ok (.iadd, 1) := by decide +kernel
theorem dL_law_1025 : decode cL_law 1025 = .ok (.iaload, 1) := by decide +kernel
theorem dL_law_1026 : decode cL_law 1026 = .ok (.aload_n 3, 1) := by decide +kernel
theorem dL_law_1027 : decode cL_law 1027 = .ok (.invokestatic 179, 3) := by decide +kernel
theorem dL_law_1030 : decode cL_law 1030 = .ok (.istore 6, 2) := by decide +kernel
theorem dL_law_1032 : decode cL_law 1032 = .ok (.aload_n 2, 1) := by decide +kernel
theorem dL_law_1033 : decode cL_law 1033 = .ok (.aload_n 0, 1) := by decide +kernel
theorem dL_law_1034 : decode cL_law 1034 = .ok (.iload 5, 2) := by decide +kernel
theorem dL_law_1036 : decode cL_law 1036 = .ok (.iconst 1, 1) := by decide +kernel
theorem dL_law_1037 : decode cL_law 1037 = .ok (.iadd, 1) := by decide +kernel
theorem dL_law_1038 : decode cL_law 1038 = .ok (.iaload, 1) := by decide +kernel
theorem dL_law_1039 : decode cL_law 1039 = .ok (.invokevirtual 181, 3) := by decide +kernel
theorem dL_law_1042 : decode cL_law 1042 = .ok (.istore 7, 2) := by decide +kernel
theorem dL_law_1044 : decode cL_law 1044 = .ok (.aload_n 2, 1) := by decide +kernel
theorem dL_law_1045 : decode cL_law 1045 = .ok (.invokevirtual 119, 3) := by decide +kernel
theorem dL_law_1048 : decode cL_law 1048 = .ok (.iload 6, 2) := by decide +kernel
theorem dL_law_1050 : decode cL_law 1050 = .ok (.if_icmp .eq 5, 3) := by decide +kernel
theorem dL_law_1053 : decode cL_law 1053 = .ok (.iconst 0, 1) := by decide +kernel
theorem dL_law_1054 : decode cL_law 1054 = .ok (.ireturn, 1) := by decide +kernel
theorem dL_law_1055 : decode cL_law 1055 = .ok (.iload 6, 2) := by decide +kernel
theorem dL_law_1057 : decode cL_law 1057 = .ok (.ifCond .ne 15, 3) := by decide +kernel
theorem dL_law_1060 : decode cL_law 1060 = .ok (.aload_n 3, 1) := by decide +kernel
theorem dL_law_1061 : decode cL_law 1061 = .ok (.iconst 0, 1) := by decide +kernel
theorem dL_law_1062 : decode cL_law 1062 = .ok (.laload, 1) := by decide +kernel
theorem dL_law_1063 : decode cL_law 1063 = .ok (.iload 7, 2) := by decide +kernel
theorem dL_law_1065 : decode cL_law 1065 = .ok (.i2l, 1) := by decide +kernel
theorem dL_law_1066 : decode cL_law 1066 = .ok (.lcmp, 1) := by decide +kernel
theorem dL_law_1067 : decode cL_law 1067 = .ok (.ifCond .eq 5, 3) := by decide +kernel
theorem dL_law_1070 : decode cL_law 1070 = .ok (.iconst 0, 1) := by decide +kernel
theorem dL_law_1071 : decode cL_law 1071 = .ok (.ireturn, 1) := by decide +kernel
theorem dL_law_1072 : decode cL_law 1072 = .ok (.goto 836, 3) := by decide +kernel
theorem dL_law_1075 : decode cL_law 1075 = .ok (.aload_n 1, 1) := by decide +kernel
theorem dL_law_1076 : decode cL_law 1076 = .ok (.aload_n 3, 1) := by decide +kernel
theorem dL_law_1077 : decode cL_law 1077 = .ok (.invokestatic 182, 3) := by decide +kernel
theorem dL_law_1080 : decode cL_law 1080 = .ok (.istore 6, 2) := by decide +kernel
theorem dL_law_1082 : decode cL_law 1082 = .ok (.aload_n 2, 1) := by decide +kernel
theorem dL_law_1083 : decode cL_law 1083 = .ok (.invokevirtual 185, 3) := by decide +kernel
theorem dL_law_1086 : decode cL_law 1086 = .ok (.istore 7, 2) := by decide +kernel
theorem dL_law_1088 : decode cL_law 1088 = .ok (.aload_n 2, 1) := by decide +kernel
theorem dL_law_1089 : decode cL_law 1089 = .ok (.invokevirtual 119, 3) := by decide +kernel
theorem dL_law_1092 : decode cL_law 1092 = .ok (.iload 6, 2) := by decide +kernel
theorem dL_law_1094 : decode cL_law 1094 = .ok (.if_icmp .eq 5, 3) := by decide +kernel
theorem dL_law_1097 : decode cL_law 1097 = .ok (.iconst 0, 1) := by decide +kernel
theorem dL_law_1098 : decode cL_law 1098 = .ok (.ireturn, 1) := by decide +kernel
theorem dL_law_1099 : decode cL_law 1099 = .ok (.iload 6, 2) := by decide +kernel
theorem dL_law_1101 : decode cL_law 1101 = .ok (.ifCond .ne 15, 3) := by decide +kernel
theorem dL_law_1104 : decode cL_law 1104 = .ok (.aload_n 3, 1) := by decide +kernel
theorem dL_law_1105 : decode cL_law 1105 = .ok (.iconst 0, 1) := by decide +kernel
theorem dL_law_1106 : decode cL_law 1106 = .ok (.laload, 1) := by decide +kernel
theorem dL_law_1107 : decode cL_law 1107 = .ok (.iload 7, 2) := by decide +kernel
theorem dL_law_1109 : decode cL_law 1109 = .ok (.i2l, 1) := by decide +kernel
theorem dL_law_1110 : decode cL_law 1110 = .ok (.lcmp, 1) := by decide +kernel
theorem dL_law_1111 : decode cL_law 1111 = .ok (.ifCond .eq 5, 3) := by decide +kernel
theorem dL_law_1114 : decode cL_law 1114 = .ok (.iconst 0, 1) := by decide +kernel
theorem dL_law_1115 : decode cL_law 1115 = .ok (.ireturn, 1) := by decide +kernel
theorem dL_law_1116 : decode cL_law 1116 = .ok (.goto 792, 3) := by decide +kernel
theorem dL_law_1119 : decode cL_law 1119 = .ok (.aload_n 1, 1) := by decide +kernel
theorem dL_law_1120 : decode cL_law 1120 = .ok (.aload_n 0, 1) := by decide +kernel
theorem dL_law_1121 : decode cL_law 1121 = .ok (.iload 5, 2) := by decide +kernel
theorem dL_law_1123 : decode cL_law 1123 = .ok (.iconst 1, 1) := by decide +kernel
theorem dL_law_1124 : decode cL_law 1124 = .ok (.iadd, 1) := by decide +kernel
theorem dL_law_1125 : decode cL_law 1125 = .ok (.iaload, 1) := by decide +kernel
theorem dL_law_1126 : decode cL_law 1126 = .ok (.aload_n 0, 1) := by decide +kernel
theorem dL_law_1127 : decode cL_law 1127 = .ok (.iload 5, 2) := by decide +kernel
theorem dL_law_1129 : decode cL_law 1129 = .ok (.iconst 2, 1) := by decide +kernel
theorem dL_law_1130 : decode cL_law 1130 = .ok (.iadd, 1) := by decide +kernel
theorem dL_law_1131 : decode cL_law 1131 = .ok (.iaload, 1) := by decide +kernel
theorem dL_law_1132 : decode cL_law 1132 = .ok (.invokestatic 186, 3) := by decide +kernel
theorem dL_law_1135 : decode cL_law 1135 = .ok (.istore 6, 2) := by decide +kernel
theorem dL_law_1137 : decode cL_law 1137 = .ok (.aload_n 2, 1) := by decide +kernel
theorem dL_law_1138 : decode cL_law 1138 = .ok (.aload_n 0, 1) := by decide +kernel
theorem dL_law_1139 : decode cL_law 1139 = .ok (.iload 5, 2) := by decide +kernel
theorem dL_law_1141 : decode cL_law 1141 = .ok (.iconst 1, 1) := by decide +kernel
theorem dL_law_1142 : decode cL_law 1142 = .ok (.iadd, 1) := by decide +kernel
theorem dL_law_1143 : decode cL_law 1143 = .ok (.iaload, 1) := by decide +kernel
theorem dL_law_1144 : decode cL_law 1144 = .ok (.aload_n 0, 1) := by decide +kernel
theorem dL_law_1145 : decode cL_law 1145 = .ok (.iload 5, 2) := by decide +kernel
theorem dL_law_1147 : decode cL_law 1147 = .ok (.iconst 2, 1) := by decide +kernel
theorem dL_law_1148 : decode cL_law 1148 = .ok (.iadd, 1) := by decide +kernel
theorem dL_law_1149 : decode cL_law 1149 = .ok (.iaload, 1) := by decide +kernel
theorem dL_law_1150 : decode cL_law 1150 = .ok (.invokevirtual 188, 3) := by decide +kernel
theorem dL_law_1153 : decode cL_law 1153 = .ok (.aload_n 2, 1) := by decide +kernel
theorem dL_law_1154 : decode cL_law 1154 = .ok (.invokevirtual 119, 3) := by decide +kernel
theorem dL_law_1157 : decode cL_law 1157 = .ok (.iload 6, 2) := by decide +kernel
theorem dL_law_1159 : decode cL_law 1159 = .ok (.if_icmp .eq 5, 3) := by decide +kernel
theorem dL_law_1162 : decode cL_law 1162 = .ok (.iconst 0, 1) := by decide +kernel
theorem dL_law_1163 : decode cL_law 1163 = .ok (.ireturn, 1) := by decide +kernel
theorem dL_law_1164 : decode cL_law 1164 = .ok (.goto 744, 3) := by decide +kernel
theorem dL_law_1167 : decode cL_law 1167 = .ok (.aload_n 1, 1) := by decide +kernel
theorem dL_law_1168 : decode cL_law 1168 = .ok (.aload_n 0, 1) := by decide +kernel
theorem dL_law_1169 : decode cL_law 1169 = .ok (.iload 5, 2) := by decide +kernel
theorem dL_law_1171 : decode cL_law 1171 = .ok (.iconst 1, 1) := by decide +kernel
theorem dL_law_1172 : decode cL_law 1172 = .ok (.iadd, 1) := by decide +kernel
theorem dL_law_1173 : decode cL_law 1173 = .ok (.iaload, 1) := by decide +kernel
theorem dL_law_1174 : decode cL_law 1174 = .ok (.i2l, 1) := by decide +kernel
theorem dL_law_1175 : decode cL_law 1175 = .ok (.bipush 32, 2) := by decide +kernel
theorem dL_law_1177 : decode cL_law 1177 = .ok (.lshl, 1) := by decide +kernel
theorem dL_law_1178 : decode cL_law 1178 = .ok (.aload_n 0, 1) := by decide +kernel
theorem dL_law_1179 : decode cL_law 1179 = .ok (.iload 5, 2) := by decide +kernel
theorem dL_law_1181 : decode cL_law 1181 = .ok (.iconst 2, 1) := by decide +kernel
theorem dL_law_1182 : decode cL_law 1182 = .ok (.iadd, 1) := by decide +kernel
theorem dL_law_1183 : decode cL_law 1183 = .ok (.iaload, 1) := by decide +kernel
theorem dL_law_1184 : decode cL_law 1184 = .ok (.i2l, 1) := by decide +kernel
theorem dL_law_1185 : decode cL_law 1185 = .ok (.ldc2_w 189, 3) := by decide +kernel
theorem dL_law_1188 : decode cL_law 1188 = .ok (.land, 1) := by decide +kernel
theorem dL_law_1189 : decode cL_law 1189 = .ok (.lor, 1) := by decide +kernel
theorem dL_law_1190 : decode cL_law 1190 = .ok (.aload_n 0, 1) := by decide +kernel
theorem dL_law_1191 : decode cL_law 1191 = .ok (.iload 5, 2) := by decide +kernel
theorem dL_law_1193 : decode cL_law 1193 = .ok (.iconst 3, 1) := by decide +kernel
theorem dL_law_1194 : decode cL_law 1194 = .ok (.iadd, 1) := by decide +kernel
theorem dL_law_1195 : decode cL_law 1195 = .ok (.iaload, 1) := by decide +kernel
theorem dL_law_1196 : decode cL_law 1196 = .ok (.aload_n 3, 1) := by decide +kernel
theorem dL_law_1197 : decode cL_law 1197 = .ok (.invokestatic 191, 3) := by decide +kernel
theorem dL_law_1200 : decode cL_law 1200 = .ok (.istore 6, 2) := by decide +kernel
theorem dL_law_1202 : decode cL_law 1202 = .ok (.aload_n 2, 1) := by decide +kernel
theorem dL_law_1203 : decode cL_law 1203 = .ok (.aload_n 0, 1) := by decide +kernel
theorem dL_law_1204 : decode cL_law 1204 = .ok (.iload 5, 2) := by decide +kernel
theorem dL_law_1206 : decode cL_law 1206 = .ok (.iconst 1, 1) := by decide +kernel
theorem dL_law_1207 : decode cL_law 1207 = .ok (.iadd, 1) := by decide +kernel
theorem dL_law_1208 : decode cL_law 1208 = .ok (.iaload, 1) := by decide +kernel
theorem dL_law_1209 : decode cL_law 1209 = .ok (.i2l, 1) := by decide +kernel
theorem dL_law_1210 : decode cL_law 1210 = .ok (.bipush 32, 2) := by decide +kernel
theorem dL_law_1212 : decode cL_law 1212 = .ok (.lshl, 1) := by decide +kernel
theorem dL_law_1213 : decode cL_law 1213 = .ok (.aload_n 0, 1) := by decide +kernel
theorem dL_law_1214 : decode cL_law 1214 = .ok (.iload 5, 2) := by decide +kernel
theorem dL_law_1216 : decode cL_law 1216 = .ok (.iconst 2, 1) := by decide +kernel
theorem dL_law_1217 : decode cL_law 1217 = .ok (.iadd, 1) := by decide +kernel
theorem dL_law_1218 : decode cL_law 1218 = .ok (.iaload, 1) := by decide +kernel
theorem dL_law_1219 : decode cL_law 1219 = .ok (.i2l, 1) := by decide +kernel
theorem dL_law_1220 : decode cL_law 1220 = .ok (.ldc2_w 189, 3) := by decide +kernel
theorem dL_law_1223 : decode cL_law 1223 = .ok (.land, 1) := by decide +kernel
theorem dL_law_1224 : decode cL_law 1224 = .ok (.lor, 1) := by decide +kernel
theorem dL_law_1225 : decode cL_law 1225 = .ok (.aload_n 0, 1) := by decide +kernel
theorem dL_law_1226 : decode cL_law 1226 = .ok (.iload 5, 2) := by decide +kernel
theorem dL_law_1228 : decode cL_law 1228 = .ok (.iconst 3, 1) := by decide +kernel
theorem dL_law_1229 : decode cL_law 1229 = .ok (.iadd, 1) := by decide +kernel
theorem dL_law_1230 : decode cL_law 1230 = .ok (.iaload, 1) := by decide +kernel
theorem dL_law_1231 : decode cL_law 1231 = .ok (.invokevirtual 194, 3) := by decide +kernel
theorem dL_law_1234 : decode cL_law 1234 = .ok (.istore 7, 2) := by decide +kernel
theorem dL_law_1236 : decode cL_law 1236 = .ok (.aload_n 2, 1) := by decide +kernel
theorem dL_law_1237 : decode cL_law 1237 = .ok (.invokevirtual 119, 3) := by decide +kernel
theorem dL_law_1240 : decode cL_law 1240 = .ok (.iload 6, 2) := by decide +kernel
theorem dL_law_1242 : decode cL_law 1242 = .ok (.if_icmp .eq 5, 3) := by decide +kernel
theorem dL_law_1245 : decode cL_law 1245 = .ok (.iconst 0, 1) := by decide +kernel
theorem dL_law_1246 : decode cL_law 1246 = .ok (.ireturn, 1) := by decide +kernel
theorem dL_law_1247 : decode cL_law 1247 = .ok (.iload 6, 2) := by decide +kernel
theorem dL_law_1249 : decode cL_law 1249 = .ok (.ifCond .ne 15, 3) := by decide +kernel
theorem dL_law_1252 : decode cL_law 1252 = .ok (.aload_n 3, 1) := by decide +kernel
theorem dL_law_1253 : decode cL_law 1253 = .ok (.iconst 0, 1) := by decide +kernel
theorem dL_law_1254 : decode cL_law 1254 = .ok (.laload, 1) := by decide +kernel
theorem dL_law_1255 : decode cL_law 1255 = .ok (.iload 7, 2) := by decide +kernel
theorem dL_law_1257 : decode cL_law 1257 = .ok (.i2l, 1) := by decide +kernel
theorem dL_law_1258 : decode cL_law 1258 = .ok (.lcmp, 1) := by decide +kernel
theorem dL_law_1259 : decode cL_law 1259 = .ok (.ifCond .eq 5, 3) := by decide +kernel
theorem dL_law_1262 : decode cL_law 1262 = .ok (.iconst 0, 1) := by decide +kernel
theorem dL_law_1263 : decode cL_law 1263 = .ok (.ireturn, 1) := by decide +kernel
theorem dL_law_1264 : decode cL_law 1264 = .ok (.goto 644, 3) := by decide +kernel
theorem dL_law_1267 : decode cL_law 1267 = .ok (.aload_n 1, 1) := by decide +kernel
theorem dL_law_1268 : decode cL_law 1268 = .ok (.aload_n 0, 1) := by decide +kernel
theorem dL_law_1269 : decode cL_law 1269 = .ok (.iload 5, 2) := by decide +kernel
theorem dL_law_1271 : decode cL_law 1271 = .ok (.iconst 1, 1) := by decide +kernel
theorem dL_law_1272 : decode cL_law 1272 = .ok (.iadd, 1) := by decide +kernel
theorem dL_law_1273 : decode cL_law 1273 = .ok (.iaload, 1) := by decide +kernel
theorem dL_law_1274 : decode cL_law 1274 = .ok (.i2l, 1) := by decide +kernel
theorem dL_law_1275 : decode cL_law 1275 = .ok (.bipush 32, 2) := by decide +kernel
theorem dL_law_1277 : decode cL_law 1277 = .ok (.lshl, 1) := by decide +kernel
theorem dL_law_1278 : decode cL_law 1278 = .ok (.aload_n 0, 1) := by decide +kernel
theorem dL_law_1279 : decode cL_law 1279 = .ok (.iload 5, 2) := by decide +kernel
theorem dL_law_1281 : decode cL_law 1281 = .ok (.iconst 2, 1) := by decide +kernel
theorem dL_law_1282 : decode cL_law 1282 = .ok (.iadd, 1) := by decide +kernel
theorem dL_law_1283 : decode cL_law 1283 = .ok (.iaload, 1) := by decide +kernel
theorem dL_law_1284 : decode cL_law 1284 = .ok (.i2l, 1) := by decide +kernel
theorem dL_law_1285 : decode cL_law 1285 = .ok (.ldc2_w 189, 3) := by decide +kernel
theorem dL_law_1288 : decode cL_law 1288 = .ok (.land, 1) := by decide +kernel
theorem dL_law_1289 : decode cL_law 1289 = .ok (.lor, 1) := by decide +kernel
theorem dL_law_1290 : decode cL_law 1290 = .ok (.aload_n 0, 1) := by decide +kernel
theorem dL_law_1291 : decode cL_law 1291 = .ok (.iload 5, 2) := by decide +kernel
theorem dL_law_1293 : decode cL_law 1293 = .ok (.iconst 3, 1) := by decide +kernel
theorem dL_law_1294 : decode cL_law 1294 = .ok (.iadd, 1) := by decide +kernel
theorem dL_law_1295 : decode cL_law 1295 = .ok (.iaload, 1) := by decide +kernel
theorem dL_law_1296 : decode cL_law 1296 = .ok (.aload_n 3, 1) := by decide +kernel
theorem dL_law_1297 : decode cL_law 1297 = .ok (.invokestatic 195, 3) := by decide +kernel
theorem dL_law_1300 : decode cL_law 1300 = .ok (.istore 6, 2) := by decide +kernel
theorem dL_law_1302 : decode cL_law 1302 = .ok (.aload_n 2, 1) := by decide +kernel
theorem dL_law_1303 : decode cL_law 1303 = .ok (.aload_n 0, 1) := by decide +kernel
theorem dL_law_1304 : decode cL_law 1304 = .ok (.iload 5, 2) := by decide +kernel
theorem dL_law_1306 : decode cL_law 1306 = .ok (.iconst 1, 1) := by decide +kernel
theorem dL_law_1307 : decode cL_law 1307 = .ok (.iadd, 1) := by decide +kernel
theorem dL_law_1308 : decode cL_law 1308 = .ok (.iaload, 1) := by decide +kernel
theorem dL_law_1309 : decode cL_law 1309 = .ok (.i2l, 1) := by decide +kernel
theorem dL_law_1310 : decode cL_law 1310 = .ok (.bipush 32, 2) := by decide +kernel
theorem dL_law_1312 : decode cL_law 1312 = .ok (.lshl, 1) := by decide +kernel
theorem dL_law_1313 : decode cL_law 1313 = .ok (.aload_n 0, 1) := by decide +kernel
theorem dL_law_1314 : decode cL_law 1314 = .ok (.iload 5, 2) := by decide +kernel
theorem dL_law_1316 : decode cL_law 1316 = .ok (.iconst 2, 1) := by decide +kernel
theorem dL_law_1317 : decode cL_law 1317 = .ok (.iadd, 1) := by decide +kernel
theorem dL_law_1318 : decode cL_law 1318 = .ok (.iaload, 1) := by decide +kernel
theorem dL_law_1319 : decode cL_law 1319 = .ok (.i2l, 1) := by decide +kernel
theorem dL_law_1320 : decode cL_law 1320 = .ok (.ldc2_w 189, 3) := by decide +kernel
theorem dL_law_1323 : decode cL_law 1323 = .ok (.land, 1) := by decide +kernel
theorem dL_law_1324 : decode cL_law 1324 = .ok (.lor, 1) := by decide +kernel
theorem dL_law_1325 : decode cL_law 1325 = .ok (.aload_n 0, 1) := by decide +kernel
theorem dL_law_1326 : decode cL_law 1326 = .ok (.iload 5, 2) := by decide +kernel
theorem dL_law_1328 : decode cL_law 1328 = .ok (.iconst 3, 1) := by decide +kernel
theorem dL_law_1329 : decode cL_law 1329 = .ok (.iadd, 1) := by decide +kernel
theorem dL_law_1330 : decode cL_law 1330 = .ok (.iaload, 1) := by decide +kernel
theorem dL_law_1331 : decode cL_law 1331 = .ok (.invokevirtual 197, 3) := by decide +kernel
theorem dL_law_1334 : decode cL_law 1334 = .ok (.lstore 7, 2) := by decide +kernel
theorem dL_law_1336 : decode cL_law 1336 = .ok (.aload_n 2, 1) := by decide +kernel
theorem dL_law_1337 : decode cL_law 1337 = .ok (.invokevirtual 119, 3) := by decide +kernel
theorem dL_law_1340 : decode cL_law 1340 = .ok (.iload 6, 2) := by decide +kernel
theorem dL_law_1342 : decode cL_law 1342 = .ok (.if_icmp .eq 5, 3) := by decide +kernel
theorem dL_law_1345 : decode cL_law 1345 = .ok (.iconst 0, 1) := by decide +kernel
theorem dL_law_1346 : decode cL_law 1346 = .ok (.ireturn, 1) := by decide +kernel
theorem dL_law_1347 : decode cL_law 1347 = .ok (.iload 6, 2) := by decide +kernel
theorem dL_law_1349 : decode cL_law 1349 = .ok (.ifCond .ne 14, 3) := by decide +kernel
theorem dL_law_1352 : decode cL_law 1352 = .ok (.aload_n 3, 1) := by decide +kernel
theorem dL_law_1353 : decode cL_law 1353 = .ok (.iconst 0, 1) := by decide +kernel
theorem dL_law_1354 : decode cL_law 1354 = .ok (.laload, 1) := by decide +kernel
theorem dL_law_1355 : decode cL_law 1355 = .ok (.lload 7, 2) := by decide +kernel
theorem dL_law_1357 : decode cL_law 1357 = .ok (.lcmp, 1) := by decide +kernel
theorem dL_law_1358 : decode cL_law 1358 = .ok (.ifCond .eq 5, 3) := by decide +kernel
theorem dL_law_1361 : decode cL_law 1361 = .ok (.iconst 0, 1) := by decide +kernel
theorem dL_law_1362 : decode cL_law 1362 = .ok (.ireturn, 1) := by decide +kernel
theorem dL_law_1363 : decode cL_law 1363 = .ok (.goto 545, 3) := by decide +kernel
theorem dL_law_1366 : decode cL_law 1366 = .ok (.aload_n 1, 1) := by decide +kernel
theorem dL_law_1367 : decode cL_law 1367 = .ok (.aload_n 0, 1) := by decide +kernel
theorem dL_law_1368 : decode cL_law 1368 = .ok (.iload 5, 2) := by decide +kernel
theorem dL_law_1370 : decode cL_law 1370 = .ok (.iconst 1, 1) := by decide +kernel
theorem dL_law_1371 : decode cL_law 1371 = .ok (.iadd, 1) := by decide +kernel
theorem dL_law_1372 : decode cL_law 1372 = .ok (.iaload, 1) := by decide +kernel
theorem dL_law_1373 : decode cL_law 1373 = .ok (.i2l, 1) := by decide +kernel
theorem dL_law_1374 : decode cL_law 1374 = .ok (.bipush 32, 2) := by decide +kernel
theorem dL_law_1376 : decode cL_law 1376 = .ok (.lshl, 1) := by decide +kernel
theorem dL_law_1377 : decode cL_law 1377 = .ok (.aload_n 0, 1) := by decide +kernel
theorem dL_law_1378 : decode cL_law 1378 = .ok (.iload 5, 2) := by decide +kernel
theorem dL_law_1380 : decode cL_law 1380 = .ok (.iconst 2, 1) := by decide +kernel
theorem dL_law_1381 : decode cL_law 1381 = .ok (.iadd, 1) := by decide +kernel
theorem dL_law_1382 : decode cL_law 1382 = .ok (.iaload, 1) := by decide +kernel
theorem dL_law_1383 : decode cL_law 1383 = .ok (.i2l, 1) := by decide +kernel
theorem dL_law_1384 : decode cL_law 1384 = .ok (.ldc2_w 189, 3) := by decide +kernel
theorem dL_law_1387 : decode cL_law 1387 = .ok (.land, 1) := by decide +kernel
theorem dL_law_1388 : decode cL_law 1388 = .ok (.lor, 1) := by decide +kernel
theorem dL_law_1389 : decode cL_law 1389 = .ok (.aload_n 3, 1) := by decide +kernel
theorem dL_law_1390 : decode cL_law 1390 = .ok (.invokestatic 198, 3) := by decide +kernel
theorem dL_law_1393 : decode cL_law 1393 = .ok (.istore 6, 2) := by decide +kernel
theorem dL_law_1395 : decode cL_law 1395 = .ok (.aload_n 2, 1) := by decide +kernel
theorem dL_law_1396 : decode cL_law 1396 = .ok (.aload_n 0, 1) := by decide +kernel
theorem dL_law_1397 : decode cL_law 1397 = .ok (.iload 5, 2) := by decide +kernel
theorem dL_law_1399 : decode cL_law 1399 = .ok (.iconst 1, 1) := by decide +kernel
theorem dL_law_1400 : decode cL_law 1400 = .ok (.iadd, 1) := by decide +kernel
theorem dL_law_1401 : decode cL_law 1401 = .ok (.iaload, 1) := by decide +kernel
theorem dL_law_1402 : decode cL_law 1402 = .ok (.i2l, 1) := by decide +kernel
theorem dL_law_1403 : decode cL_law 1403 = .ok (.bipush 32, 2) := by decide +kernel
theorem dL_law_1405 : decode cL_law 1405 = .ok (.lshl, 1) := by decide +kernel
theorem dL_law_1406 : decode cL_law 1406 = .ok (.aload_n 0, 1) := by decide +kernel
theorem dL_law_1407 : decode cL_law 1407 = .ok (.iload 5, 2) := by decide +kernel
theorem dL_law_1409 : decode cL_law 1409 = .ok (.iconst 2, 1) := by decide +kernel
theorem dL_law_1410 : decode cL_law 1410 = .ok (.iadd, 1) := by decide +kernel
theorem dL_law_1411 : decode cL_law 1411 = .ok (.iaload, 1) := by decide +kernel
theorem dL_law_1412 : decode cL_law 1412 = .ok (.i2l, 1) := by decide +kernel
theorem dL_law_1413 : decode cL_law 1413 = .ok (.ldc2_w 189, 3) := by decide +kernel
theorem dL_law_1416 : decode cL_law 1416 = .ok (.land, 1) := by decide +kernel
theorem dL_law_1417 : decode cL_law 1417 = .ok (.lor, 1) := by decide +kernel
theorem dL_law_1418 : decode cL_law 1418 = .ok (.invokevirtual 201, 3) := by decide +kernel
theorem dL_law_1421 : decode cL_law 1421 = .ok (.istore 7, 2) := by decide +kernel
theorem dL_law_1423 : decode cL_law 1423 = .ok (.aload_n 2, 1) := by decide +kernel
theorem dL_law_1424 : decode cL_law 1424 = .ok (.invokevirtual 119, 3) := by decide +kernel
theorem dL_law_1427 : decode cL_law 1427 = .ok (.iload 6, 2) := by decide +kernel
theorem dL_law_1429 : decode cL_law 1429 = .ok (.if_icmp .eq 5, 3) := by decide +kernel
theorem dL_law_1432 : decode cL_law 1432 = .ok (.iconst 0, 1) := by decide +kernel
theorem dL_law_1433 : decode cL_law 1433 = .ok (.ireturn, 1) := by decide +kernel
theorem dL_law_1434 : decode cL_law 1434 = .ok (.iload 6, 2) := by decide +kernel
theorem dL_law_1436 : decode cL_law 1436 = .ok (.ifCond .ne 15, 3) := by decide +kernel
theorem dL_law_1439 : decode cL_law 1439 = .ok (.aload_n 3, 1) := by decide +kernel
theorem dL_law_1440 : decode cL_law 1440 = .ok (.iconst 0, 1) := by decide +kernel
theorem dL_law_1441 : decode cL_law 1441 = .ok (.laload, 1) := by decide +kernel
theorem dL_law_1442 : decode cL_law 1442 = .ok (.iload 7, 2) := by decide +kernel
theorem dL_law_1444 : decode cL_law 1444 = .ok (.i2l, 1) := by decide +kernel
theorem dL_law_1445 : decode cL_law 1445 = .ok (.lcmp, 1) := by decide +kernel
theorem dL_law_1446 : decode cL_law 1446 = .ok (.ifCond .eq 5, 3) := by decide +kernel
theorem dL_law_1449 : decode cL_law 1449 = .ok (.iconst 0, 1) := by decide +kernel
theorem dL_law_1450 : decode cL_law 1450 = .ok (.ireturn, 1) := by decide +kernel
theorem dL_law_1451 : decode cL_law 1451 = .ok (.goto 457, 3) := by decide +kernel
theorem dL_law_1454 : decode cL_law 1454 = .ok (.aload_n 1, 1) := by decide +kernel
theorem dL_law_1455 : decode cL_law 1455 = .ok (.aload_n 3, 1) := by decide +kernel
theorem dL_law_1456 : decode cL_law 1456 = .ok (.invokestatic 202, 3) := by decide +kernel
theorem dL_law_1459 : decode cL_law 1459 = .ok (.istore 6, 2) := by decide +kernel
theorem dL_law_1461 : decode cL_law 1461 = .ok (.aload_n 2, 1) := by decide +kernel
theorem dL_law_1462 : decode cL_law 1462 = .ok (.invokevirtual 204, 3) := by decide +kernel
theorem dL_law_1465 : decode cL_law 1465 = .ok (.lstore 7, 2) := by decide +kernel
theorem dL_law_1467 : decode cL_law 1467 = .ok (.aload_n 2, 1) := by decide +kernel
theorem dL_law_1468 : decode cL_law 1468 = .ok (.invokevirtual 119, 3) := by decide +kernel
theorem dL_law_1471 : decode cL_law 1471 = .ok (.iload 6, 2) := by decide +kernel
theorem dL_law_1473 : decode cL_law 1473 = .ok (.if_icmp .eq 5, 3) := by decide +kernel
theorem dL_law_1476 : decode cL_law 1476 = .ok (.iconst 0, 1) := by decide +kernel
theorem dL_law_1477 : decode cL_law 1477 = .ok (.ireturn, 1) := by decide +kernel
theorem dL_law_1478 : decode cL_law 1478 = .ok (.iload 6, 2) := by decide +kernel
theorem dL_law_1480 : decode cL_law 1480 = .ok (.ifCond .ne 14, 3) := by decide +kernel
theorem dL_law_1483 : decode cL_law 1483 = .ok (.aload_n 3, 1) := by decide +kernel
theorem dL_law_1484 : decode cL_law 1484 = .ok (.iconst 0, 1) := by decide +kernel
theorem dL_law_1485 : decode cL_law 1485 = .ok (.laload, 1) := by decide +kernel
theorem dL_law_1486 : decode cL_law 1486 = .ok (.lload 7, 2) := by decide +kernel
theorem dL_law_1488 : decode cL_law 1488 = .ok (.lcmp, 1) := by decide +kernel
theorem dL_law_1489 : decode cL_law 1489 = .ok (.ifCond .eq 5, 3) := by decide +kernel
theorem dL_law_1492 : decode cL_law 1492 = .ok (.iconst 0, 1) := by decide +kernel
theorem dL_law_1493 : decode cL_law 1493 = .ok (.ireturn, 1) := by decide +kernel
theorem dL_law_1494 : decode cL_law 1494 = .ok (.goto 414, 3) := by decide +kernel
theorem dL_law_1497 : decode cL_law 1497 = .ok (.aload_n 1, 1) := by decide +kernel
theorem dL_law_1498 : decode cL_law 1498 = .ok (.aload_n 3, 1) := by decide +kernel
theorem dL_law_1499 : decode cL_law 1499 = .ok (.invokestatic 205, 3) := by decide +kernel
theorem dL_law_1502 : decode cL_law 1502 = .ok (.istore 6, 2) := by decide +kernel
theorem dL_law_1504 : decode cL_law 1504 = .ok (.aload_n 2, 1) := by decide +kernel
theorem dL_law_1505 : decode cL_law 1505 = .ok (.invokevirtual 207, 3) := by decide +kernel
theorem dL_law_1508 : decode cL_law 1508 = .ok (.istore 7, 2) := by decide +kernel
theorem dL_law_1510 : decode cL_law 1510 = .ok (.aload_n 2, 1) := by decide +kernel
theorem dL_law_1511 : decode cL_law 1511 = .ok (.invokevirtual 119, 3) := by decide +kernel
theorem dL_law_1514 : decode cL_law 1514 = .ok (.iload 6, 2) := by decide +kernel
theorem dL_law_1516 : decode cL_law 1516 = .ok (.if_icmp .eq 5, 3) := by decide +kernel
theorem dL_law_1519 : decode cL_law 1519 = .ok (.iconst 0, 1) := by decide +kernel
theorem dL_law_1520 : decode cL_law 1520 = .ok (.ireturn, 1) := by decide +kernel
theorem dL_law_1521 : decode cL_law 1521 = .ok (.iload 6, 2) := by decide +kernel
theorem dL_law_1523 : decode cL_law 1523 = .ok (.ifCond .ne 15, 3) := by decide +kernel
theorem dL_law_1526 : decode cL_law 1526 = .ok (.aload_n 3, 1) := by decide +kernel
theorem dL_law_1527 : decode cL_law 1527 = .ok (.iconst 0, 1) := by decide +kernel
theorem dL_law_1528 : decode cL_law 1528 = .ok (.laload, 1) := by decide +kernel
theorem dL_law_1529 : decode cL_law 1529 = .ok (.iload 7, 2) := by decide +kernel
theorem dL_law_1531 : decode cL_law 1531 = .ok (.i2l, 1) := by decide +kernel
theorem dL_law_1532 : decode cL_law 1532 = .ok (.lcmp, 1) := by decide +kernel
theorem dL_law_1533 : decode cL_law 1533 = .ok (.ifCond .eq 5, 3) := by decide +kernel
theorem dL_law_1536 : decode cL_law 1536 = .ok (.iconst 0, 1) := by decide +kernel
theorem dL_law_1537 : decode cL_law 1537 = .ok (.ireturn, 1) := by decide +kernel
theorem dL_law_1538 : decode cL_law 1538 = .ok (.goto 370, 3) := by decide +kernel
theorem dL_law_1541 : decode cL_law 1541 = .ok (.aload_n 1, 1) := by decide +kernel
theorem dL_law_1542 : decode cL_law 1542 = .ok (.aload_n 0, 1) := by decide +kernel
theorem dL_law_1543 : decode cL_law 1543 = .ok (.iload 5, 2) := by decide +kernel
theorem dL_law_1545 : decode cL_law 1545 = .ok (.iconst 1, 1) := by decide +kernel
theorem dL_law_1546 : decode cL_law 1546 = .ok (.iadd, 1) := by decide +kernel
theorem dL_law_1547 : decode cL_law 1547 = .ok (.iaload, 1) := by decide +kernel
theorem dL_law_1548 : decode cL_law 1548 = .ok (.aload_n 0, 1) := by decide +kernel
theorem dL_law_1549 : decode cL_law 1549 = .ok (.iload 5, 2) := by decide +kernel
theorem dL_law_1551 : decode cL_law 1551 = .ok (.iconst 2, 1) := by decide +kernel
theorem dL_law_1552 : decode cL_law 1552 = .ok (.iadd, 1) := by decide +kernel
theorem dL_law_1553 : decode cL_law 1553 = .ok (.iaload, 1) := by decide +kernel
theorem dL_law_1554 : decode cL_law 1554 = .ok (.aload_n 3, 1) := by decide +kernel
theorem dL_law_1555 : decode cL_law 1555 = .ok (.invokestatic 208, 3) := by decide +kernel
theorem dL_law_1558 : decode cL_law 1558 = .ok (.istore 6, 2) := by decide +kernel
theorem dL_law_1560 : decode cL_law 1560 = .ok (.aload_n 2, 1) := by decide +kernel
theorem dL_law_1561 : decode cL_law 1561 = .ok (.aload_n 0, 1) := by decide +kernel
theorem dL_law_1562 : decode cL_law 1562 = .ok (.iload 5, 2) := by decide +kernel
theorem dL_law_1564 : decode cL_law 1564 = .ok (.iconst 1, 1) := by decide +kernel
theorem dL_law_1565 : decode cL_law 1565 = .ok (.iadd, 1) := by decide +kernel
theorem dL_law_1566 : decode cL_law 1566 = .ok (.iaload, 1) := by decide +kernel
theorem dL_law_1567 : decode cL_law 1567 = .ok (.aload_n 0, 1) := by decide +kernel
theorem dL_law_1568 : decode cL_law 1568 = .ok (.iload 5, 2) := by decide +kernel
theorem dL_law_1570 : decode cL_law 1570 = .ok (.iconst 2, 1) := by decide +kernel
theorem dL_law_1571 : decode cL_law 1571 = .ok (.iadd, 1) := by decide +kernel
theorem dL_law_1572 : decode cL_law 1572 = .ok (.iaload, 1) := by decide +kernel
theorem dL_law_1573 : decode cL_law 1573 = .ok (.invokevirtual 210, 3) := by decide +kernel
theorem dL_law_1576 : decode cL_law 1576 = .ok (.istore 7, 2) := by decide +kernel
theorem dL_law_1578 : decode cL_law 1578 = .ok (.aload_n 2, 1) := by decide +kernel
theorem dL_law_1579 : decode cL_law 1579 = .ok (.invokevirtual 119, 3) := by decide +kernel
theorem dL_law_1582 : decode cL_law 1582 = .ok (.iload 6, 2) := by decide +kernel
theorem dL_law_1584 : decode cL_law 1584 = .ok (.if_icmp .eq 5, 3) := by decide +kernel
theorem dL_law_1587 : decode cL_law 1587 = .ok (.iconst 0, 1) := by decide +kernel
theorem dL_law_1588 : decode cL_law 1588 = .ok (.ireturn, 1) := by decide +kernel
theorem dL_law_1589 : decode cL_law 1589 = .ok (.iload 6, 2) := by decide +kernel
theorem dL_law_1591 : decode cL_law 1591 = .ok (.ifCond .ne 15, 3) := by decide +kernel
theorem dL_law_1594 : decode cL_law 1594 = .ok (.aload_n 3, 1) := by decide +kernel
theorem dL_law_1595 : decode cL_law 1595 = .ok (.iconst 0, 1) := by decide +kernel
theorem dL_law_1596 : decode cL_law 1596 = .ok (.laload, 1) := by decide +kernel
theorem dL_law_1597 : decode cL_law 1597 = .ok (.iload 7, 2) := by decide +kernel
theorem dL_law_1599 : decode cL_law 1599 = .ok (.i2l, 1) := by decide +kernel
theorem dL_law_1600 : decode cL_law 1600 = .ok (.lcmp, 1) := by decide +kernel
theorem dL_law_1601 : decode cL_law 1601 = .ok (.ifCond .eq 5, 3) := by decide +kernel
theorem dL_law_1604 : decode cL_law 1604 = .ok (.iconst 0, 1) := by decide +kernel
theorem dL_law_1605 : decode cL_law 1605 = .ok (.ireturn, 1) := by decide +kernel
theorem dL_law_1606 : decode cL_law 1606 = .ok (.goto 302, 3) := by decide +kernel
theorem dL_law_1609 : decode cL_law 1609 = .ok (.aload_n 1, 1) := by decide +kernel
theorem dL_law_1610 : decode cL_law 1610 = .ok (.aload_n 0, 1) := by decide +kernel
theorem dL_law_1611 : decode cL_law 1611 = .ok (.iload 5, 2) := by decide +kernel
theorem dL_law_1613 : decode cL_law 1613 = .ok (.iconst 1, 1) := by decide +kernel
theorem dL_law_1614 : decode cL_law 1614 = .ok (.iadd, 1) := by decide +kernel
theorem dL_law_1615 : decode cL_law 1615 = .ok (.iaload, 1) := by decide +kernel
theorem dL_law_1616 : decode cL_law 1616 = .ok (.aload_n 0, 1) := by decide +kernel
theorem dL_law_1617 : decode cL_law 1617 = .ok (.iload 5, 2) := by decide +kernel
theorem dL_law_1619 : decode cL_law 1619 = .ok (.iconst 2, 1) := by decide +kernel
theorem dL_law_1620 : decode cL_law 1620 = .ok (.iadd, 1) := by decide +kernel
theorem dL_law_1621 : decode cL_law 1621 = .ok (.iaload, 1) := by decide +kernel
theorem dL_law_1622 : decode cL_law 1622 = .ok (.ifCond .eq 7, 3) := by decide +kernel
theorem dL_law_1625 : decode cL_law 1625 = .ok (.iconst 1, 1) := by decide +kernel
theorem dL_law_1626 : decode cL_law 1626 = .ok (.goto 4, 3) := by decide +kernel
theorem dL_law_1629 : decode cL_law 1629 = .ok (.iconst 0, 1) := by decide +kernel
theorem dL_law_1630 : decode cL_law 1630 = .ok (.aload_n 0, 1) := by decide +kernel
theorem dL_law_1631 : decode cL_law 1631 = .ok (.iload 5, 2) := by decide +kernel
theorem dL_law_1633 : decode cL_law 1633 = .ok (.iconst 3, 1) := by decide +kernel
theorem dL_law_1634 : decode cL_law 1634 = .ok (.iadd, 1) := by decide +kernel
theorem dL_law_1635 : decode cL_law 1635 = .ok (.iaload, 1) := by decide +kernel
theorem dL_law_1636 : decode cL_law 1636 = .ok (.invokestatic 211, 3) := by decide +kernel
theorem dL_law_1639 : decode cL_law 1639 = .ok (.istore 6, 2) := by decide +kernel
theorem dL_law_1641 : decode cL_law 1641 = .ok (.aload_n 2, 1) := by decide +kernel
theorem dL_law_1642 : decode cL_law 1642 = .ok (.aload_n 0, 1) := by decide +kernel
theorem dL_law_1643 : decode cL_law 1643 = .ok (.iload 5, 2) := by decide +kernel
theorem dL_law_1645 : decode cL_law 1645 = .ok (.iconst 1, 1) := by decide +kernel
theorem dL_law_1646 : decode cL_law 1646 = .ok (.iadd, 1) := by decide +kernel
theorem dL_law_1647 : decode cL_law 1647 = .ok (.iaload, 1) := by decide +kernel
theorem dL_law_1648 : decode cL_law 1648 = .ok (.aload_n 0, 1) := by decide +kernel
theorem dL_law_1649 : decode cL_law 1649 = .ok (.iload 5, 2) := by decide +kernel
theorem dL_law_1651 : decode cL_law 1651 = .ok (.iconst 2, 1) := by decide +kernel
theorem dL_law_1652 : decode cL_law 1652 = .ok (.iadd, 1) := by decide +kernel
theorem dL_law_1653 : decode cL_law 1653 = .ok (.iaload, 1) := by decide +kernel
theorem dL_law_1654 : decode cL_law 1654 = .ok (.ifCond .eq 7, 3) := by decide +kernel
theorem dL_law_1657 : decode cL_law 1657 = .ok (.iconst 1, 1) := by decide +kernel
theorem dL_law_1658 : decode cL_law 1658 = .ok (.goto 4, 3) := by decide +kernel
theorem dL_law_1661 : decode cL_law 1661 = .ok (.iconst 0, 1) := by decide +kernel
theorem dL_law_1662 : decode cL_law 1662 = .ok (.aload_n 0, 1) := by decide +kernel
theorem dL_law_1663 : decode cL_law 1663 = .ok (.iload 5, 2) := by decide +kernel
theorem dL_law_1665 : decode cL_law 1665 = .ok (.iconst 3, 1) := by decide +kernel
theorem dL_law_1666 : decode cL_law 1666 = .ok (.iadd, 1) := by decide +kernel
theorem dL_law_1667 : decode cL_law 1667 = .ok (.iaload, 1) := by decide +kernel
theorem dL_law_1668 : decode cL_law 1668 = .ok (.invokevirtual 214, 3) := by decide +kernel
theorem dL_law_1671 : decode cL_law 1671 = .ok (.aload_n 2, 1) := by decide +kernel
theorem dL_law_1672 : decode cL_law 1672 = .ok (.invokevirtual 119, 3) := by decide +kernel
theorem dL_law_1675 : decode cL_law 1675 = .ok (.iload 6, 2) := by decide +kernel
theorem dL_law_1677 : decode cL_law 1677 = .ok (.if_icmp .eq 5, 3) := by decide +kernel
theorem dL_law_1680 : decode cL_law 1680 = .ok (.iconst 0, 1) := by decide +kernel
theorem dL_law_1681 : decode cL_law 1681 = .ok (.ireturn, 1) := by decide +kernel
theorem dL_law_1682 : decode cL_law 1682 = .ok (.goto 226, 3) := by decide +kernel
theorem dL_law_1685 : decode cL_law 1685 = .ok (.aload_n 1, 1) := by decide +kernel
theorem dL_law_1686 : decode cL_law 1686 = .ok (.aload_n 0, 1) := by decide +kernel
theorem dL_law_1687 : decode cL_law 1687 = .ok (.iload 5, 2) := by decide +kernel
theorem dL_law_1689 : decode cL_law 1689 = .ok (.iconst 1, 1) := by decide +kernel
theorem dL_law_1690 : decode cL_law 1690 = .ok (.iadd, 1) := by decide +kernel
theorem dL_law_1691 : decode cL_law 1691 = .ok (.iaload, 1) := by decide +kernel
theorem dL_law_1692 : decode cL_law 1692 = .ok (.aload_n 0, 1) := by decide +kernel
theorem dL_law_1693 : decode cL_law 1693 = .ok (.iload 5, 2) := by decide +kernel
theorem dL_law_1695 : decode cL_law 1695 = .ok (.iconst 2, 1) := by decide +kernel
theorem dL_law_1696 : decode cL_law 1696 = .ok (.iadd, 1) := by decide +kernel
theorem dL_law_1697 : decode cL_law 1697 = .ok (.iaload, 1) := by decide +kernel
theorem dL_law_1698 : decode cL_law 1698 = .ok (.aload_n 0, 1) := by decide +kernel
theorem dL_law_1699 : decode cL_law 1699 = .ok (.iload 5, 2) := by decide +kernel
theorem dL_law_1701 : decode cL_law 1701 = .ok (.iconst 3, 1) := by decide +kernel
theorem dL_law_1702 : decode cL_law 1702 = .ok (.iadd, 1) := by decide +kernel
theorem dL_law_1703 : decode cL_law 1703 = .ok (.iaload, 1) := by decide +kernel
theorem dL_law_1704 : decode cL_law 1704 = .ok (.aload_n 3, 1) := by decide +kernel
theorem dL_law_1705 : decode cL_law 1705 = .ok (.invokestatic 215, 3) := by decide +kernel
theorem dL_law_1708 : decode cL_law 1708 = .ok (.istore 6, 2) := by decide +kernel
theorem dL_law_1710 : decode cL_law 1710 = .ok (.aload_n 2, 1) := by decide +kernel
theorem dL_law_1711 : decode cL_law 1711 = .ok (.aload_n 0, 1) := by decide +kernel
theorem dL_law_1712 : decode cL_law 1712 = .ok (.iload 5, 2) := by decide +kernel
theorem dL_law_1714 : decode cL_law 1714 = .ok (.iconst 1, 1) := by decide +kernel
theorem dL_law_1715 : decode cL_law 1715 = .ok (.iadd, 1) := by decide +kernel
theorem dL_law_1716 : decode cL_law 1716 = .ok (.iaload, 1) := by decide +kernel
theorem dL_law_1717 : decode cL_law 1717 = .ok (.aload_n 0, 1) := by decide +kernel
theorem dL_law_1718 : decode cL_law 1718 = .ok (.iload 5, 2) := by decide +kernel
theorem dL_law_1720 : decode cL_law 1720 = .ok (.iconst 2, 1) := by decide +kernel
theorem dL_law_1721 : decode cL_law 1721 = .ok (.iadd, 1) := by decide +kernel
theorem dL_law_1722 : decode cL_law 1722 = .ok (.iaload, 1) := by decide +kernel
theorem dL_law_1723 : decode cL_law 1723 = .ok (.aload_n 0, 1) := by decide +kernel
theorem dL_law_1724 : decode cL_law 1724 = .ok (.iload 5, 2) := by decide +kernel
theorem dL_law_1726 : decode cL_law 1726 = .ok (.iconst 3, 1) := by decide +kernel
theorem dL_law_1727 : decode cL_law 1727 = .ok (.iadd, 1) := by decide +kernel
theorem dL_law_1728 : decode cL_law 1728 = .ok (.iaload, 1) := by decide +kernel
theorem dL_law_1729 : decode cL_law 1729 = .ok (.invokevirtual 218, 3) := by decide +kernel
theorem dL_law_1732 : decode cL_law 1732 = .ok (.istore 7, 2) := by decide +kernel
theorem dL_law_1734 : decode cL_law 1734 = .ok (.aload_n 2, 1) := by decide +kernel
theorem dL_law_1735 : decode cL_law 1735 = .ok (.invokevirtual 119, 3) := by decide +kernel
theorem dL_law_1738 : decode cL_law 1738 = .ok (.iload 6, 2) := by decide +kernel
theorem dL_law_1740 : decode cL_law 1740 = .ok (.if_icmp .eq 5, 3) := by decide +kernel
theorem dL_law_1743 : decode cL_law 1743 = .ok (.iconst 0, 1) := by decide +kernel
theorem dL_law_1744 : decode cL_law 1744 = .ok (.ireturn, 1) := by decide +kernel
theorem dL_law_1745 : decode cL_law 1745 = .ok (.iload 6, 2) := by decide +kernel
theorem dL_law_1747 : decode cL_law 1747 = .ok (.ifCond .ne 15, 3) := by decide +kernel
theorem dL_law_1750 : decode cL_law 1750 = .ok (.aload_n 3, 1) := by decide +kernel
theorem dL_law_1751 : decode cL_law 1751 = .ok (.iconst 0, 1) := by decide +kernel
theorem dL_law_1752 : decode cL_law 1752 = .ok (.laload, 1) := by decide +kernel
theorem dL_law_1753 : decode cL_law 1753 = .ok (.iload 7, 2) := by decide +kernel
theorem dL_law_1755 : decode cL_law 1755 = .ok (.i2l, 1) := by decide +kernel
theorem dL_law_1756 : decode cL_law 1756 = .ok (.lcmp, 1) := by decide +kernel
theorem dL_law_1757 : decode cL_law 1757 = .ok (.ifCond .eq 5, 3) := by decide +kernel
theorem dL_law_1760 : decode cL_law 1760 = .ok (.iconst 0, 1) := by decide +kernel
theorem dL_law_1761 : decode cL_law 1761 = .ok (.ireturn, 1) := by decide +kernel
theorem dL_law_1762 : decode cL_law 1762 = .ok (.goto 146, 3) := by decide +kernel
theorem dL_law_1765 : decode cL_law 1765 = .ok (.aload_n 1, 1) := by decide +kernel
theorem dL_law_1766 : decode cL_law 1766 = .ok (.aload_n 0, 1) := by decide +kernel
theorem dL_law_1767 : decode cL_law 1767 = .ok (.iload 5, 2) := by decide +kernel
theorem dL_law_1769 : decode cL_law 1769 = .ok (.iconst 1, 1) := by decide +kernel
theorem dL_law_1770 : decode cL_law 1770 = .ok (.iadd, 1) := by decide +kernel
theorem dL_law_1771 : decode cL_law 1771 = .ok (.iaload, 1) := by decide +kernel
theorem dL_law_1772 : decode cL_law 1772 = .ok (.aload_n 0, 1) := by decide +kernel
theorem dL_law_1773 : decode cL_law 1773 = .ok (.iload 5, 2) := by decide +kernel
theorem dL_law_1775 : decode cL_law 1775 = .ok (.iconst 2, 1) := by decide +kernel
theorem dL_law_1776 : decode cL_law 1776 = .ok (.iadd, 1) := by decide +kernel
theorem dL_law_1777 : decode cL_law 1777 = .ok (.iaload, 1) := by decide +kernel
theorem dL_law_1778 : decode cL_law 1778 = .ok (.invokestatic 219, 3) := by decide +kernel
theorem dL_law_1781 : decode cL_law 1781 = .ok (.istore 6, 2) := by decide +kernel
theorem dL_law_1783 : decode cL_law 1783 = .ok (.aload_n 2, 1) := by decide +kernel
theorem dL_law_1784 : decode cL_law 1784 = .ok (.aload_n 0, 1) := by decide +kernel
theorem dL_law_1785 : decode cL_law 1785 = .ok (.iload 5, 2) := by decide +kernel
theorem dL_law_1787 : decode cL_law 1787 = .ok (.iconst 1, 1) := by decide +kernel
theorem dL_law_1788 : decode cL_law 1788 = .ok (.iadd, 1) := by decide +kernel
theorem dL_law_1789 : decode cL_law 1789 = .ok (.iaload, 1) := by decide +kernel
theorem dL_law_1790 : decode cL_law 1790 = .ok (.aload_n 0, 1) := by decide +kernel
theorem dL_law_1791 : decode cL_law 1791 = .ok (.iload 5, 2) := by decide +kernel
theorem dL_law_1793 : decode cL_law 1793 = .ok (.iconst 2, 1) := by decide +kernel
theorem dL_law_1794 : decode cL_law 1794 = .ok (.iadd, 1) := by decide +kernel
theorem dL_law_1795 : decode cL_law 1795 = .ok (.iaload, 1) := by decide +kernel
theorem dL_law_1796 : decode cL_law 1796 = .ok (.invokevirtual 221, 3) := by decide +kernel
theorem dL_law_1799 : decode cL_law 1799 = .ok (.aload_n 2, 1) := by decide +kernel
theorem dL_law_1800 : decode cL_law 1800 = .ok (.invokevirtual 119, 3) := by decide +kernel
theorem dL_law_1803 : decode cL_law 1803 = .ok (.iload 6, 2) := by decide +kernel
theorem dL_law_1805 : decode cL_law 1805 = .ok (.if_icmp .eq 5, 3) := by decide +kernel
theorem dL_law_1808 : decode cL_law 1808 = .ok (.iconst 0, 1) := by decide +kernel
theorem dL_law_1809 : decode cL_law 1809 = .ok (.ireturn, 1) := by decide +kernel
theorem dL_law_1810 : decode cL_law 1810 = .ok (.goto 98, 3) := by decide +kernel
theorem dL_law_1813 : decode cL_law 1813 = .ok (.aload_n 1, 1) := by decide +kernel
theorem dL_law_1814 : decode cL_law 1814 = .ok (.aload_n 0, 1) := by decide +kernel
theorem dL_law_1815 : decode cL_law 1815 = .ok (.iload 5, 2) := by decide +kernel
theorem dL_law_1817 : decode cL_law 1817 = .ok (.iconst 1, 1) := by decide +kernel
theorem dL_law_1818 : decode cL_law 1818 = .ok (.iadd, 1) := by decide +kernel
theorem dL_law_1819 : decode cL_law 1819 = .ok (.iaload, 1) := by decide +kernel
theorem dL_law_1820 : decode cL_law 1820 = .ok (.aload_n 0, 1) := by decide +kernel
theorem dL_law_1821 : decode cL_law 1821 = .ok (.iload 5, 2) := by decide +kernel
theorem dL_law_1823 : decode cL_law 1823 = .ok (.iconst 2, 1) := by decide +kernel
theorem dL_law_1824 : decode cL_law 1824 = .ok (.iadd, 1) := by decide +kernel
theorem dL_law_1825 : decode cL_law 1825 = .ok (.iaload, 1) := by decide +kernel
theorem dL_law_1826 : decode cL_law 1826 = .ok (.aload_n 0, 1) := by decide +kernel
theorem dL_law_1827 : decode cL_law 1827 = .ok (.iload 5, 2) := by decide +kernel
theorem dL_law_1829 : decode cL_law 1829 = .ok (.iconst 3, 1) := by decide +kernel
theorem dL_law_1830 : decode cL_law 1830 = .ok (.iadd, 1) := by decide +kernel
theorem dL_law_1831 : decode cL_law 1831 = .ok (.iaload, 1) := by decide +kernel
theorem dL_law_1832 : decode cL_law 1832 = .ok (.invokestatic 222, 3) := by decide +kernel
theorem dL_law_1835 : decode cL_law 1835 = .ok (.istore 6, 2) := by decide +kernel
theorem dL_law_1837 : decode cL_law 1837 = .ok (.aload_n 2, 1) := by decide +kernel
theorem dL_law_1838 : decode cL_law 1838 = .ok (.aload_n 0, 1) := by decide +kernel
theorem dL_law_1839 : decode cL_law 1839 = .ok (.iload 5, 2) := by decide +kernel
theorem dL_law_1841 : decode cL_law 1841 = .ok (.iconst 1, 1) := by decide +kernel
theorem dL_law_1842 : decode cL_law 1842 = .ok (.iadd, 1) := by decide +kernel
theorem dL_law_1843 : decode cL_law 1843 = .ok (.iaload, 1) := by decide +kernel
theorem dL_law_1844 : decode cL_law 1844 = .ok (.aload_n 0, 1) := by decide +kernel
theorem dL_law_1845 : decode cL_law 1845 = .ok (.iload 5, 2) := by decide +kernel
theorem dL_law_1847 : decode cL_law 1847 = .ok (.iconst 2, 1) := by decide +kernel
theorem dL_law_1848 : decode cL_law 1848 = .ok (.iadd, 1) := by decide +kernel
theorem dL_law_1849 : decode cL_law 1849 = .ok (.iaload, 1) := by decide +kernel
theorem dL_law_1850 : decode cL_law 1850 = .ok (.aload_n 0, 1) := by decide +kernel
theorem dL_law_1851 : decode cL_law 1851 = .ok (.iload 5, 2) := by decide +kernel
theorem dL_law_1853 : decode cL_law 1853 = .ok (.iconst 3, 1) := by decide +kernel
theorem dL_law_1854 : decode cL_law 1854 = .ok (.iadd, 1) := by decide +kernel
theorem dL_law_1855 : decode cL_law 1855 = .ok (.iaload, 1) := by decide +kernel
theorem dL_law_1856 : decode cL_law 1856 = .ok (.invokevirtual 225, 3) := by decide +kernel
theorem dL_law_1859 : decode cL_law 1859 = .ok (.aload_n 2, 1) := by decide +kernel
theorem dL_law_1860 : decode cL_law 1860 = .ok (.invokevirtual 119, 3) := by decide +kernel
theorem dL_law_1863 : decode cL_law 1863 = .ok (.iload 6, 2) := by decide +kernel
theorem dL_law_1865 : decode cL_law 1865 = .ok (.if_icmp .eq 5, 3) := by decide +kernel
theorem dL_law_1868 : decode cL_law 1868 = .ok (.iconst 0, 1) := by decide +kernel
theorem dL_law_1869 : decode cL_law 1869 = .ok (.ireturn, 1) := by decide +kernel
theorem dL_law_1870 : decode cL_law 1870 = .ok (.goto 38, 3) := by decide +kernel
theorem dL_law_1873 : decode cL_law 1873 = .ok (.aload_n 1, 1) := by decide +kernel
theorem dL_law_1874 : decode cL_law 1874 = .ok (.invokevirtual 226, 3) := by decide +kernel
theorem dL_law_1877 : decode cL_law 1877 = .ok (.aload_n 2, 1) := by decide +kernel
theorem dL_law_1878 : decode cL_law 1878 = .ok (.invokevirtual 229, 3) := by decide +kernel
theorem dL_law_1881 : decode cL_law 1881 = .ok (.goto 27, 3) := by decide +kernel
theorem dL_law_1884 : decode cL_law 1884 = .ok (.aload_n 1, 1) := by decide +kernel
theorem dL_law_1885 : decode cL_law 1885 = .ok (.invokestatic 230, 3) := by decide +kernel
theorem dL_law_1888 : decode cL_law 1888 = .ok (.istore 6, 2) := by decide +kernel
theorem dL_law_1890 : decode cL_law 1890 = .ok (.aload_n 2, 1) := by decide +kernel
theorem dL_law_1891 : decode cL_law 1891 = .ok (.invokevirtual 233, 3) := by decide +kernel
theorem dL_law_1894 : decode cL_law 1894 = .ok (.aload_n 2, 1) := by decide +kernel
theorem dL_law_1895 : decode cL_law 1895 = .ok (.invokevirtual 119, 3) := by decide +kernel
theorem dL_law_1898 : decode cL_law 1898 = .ok (.iload 6, 2) := by decide +kernel
theorem dL_law_1900 : decode cL_law 1900 = .ok (.if_icmp .eq 5, 3) := by decide +kernel
theorem dL_law_1903 : decode cL_law 1903 = .ok (.iconst 0, 1) := by decide +kernel
theorem dL_law_1904 : decode cL_law 1904 = .ok (.ireturn, 1) := by decide +kernel
theorem dL_law_1905 : decode cL_law 1905 = .ok (.goto 3, 3) := by decide +kernel
theorem dL_law_1908 : decode cL_law 1908 = .ok (.iinc 5 5, 3) := by decide +kernel
theorem dL_law_1911 : decode cL_law 1911 = .ok (.goto (-1883), 3) := by decide +kernel
theorem dL_law_1914 : decode cL_law 1914 = .ok (.iconst 1, 1) := by decide +kernel
theorem dL_law_1915 : decode cL_law 1915 = .ok (.ireturn, 1) := by decide +kernel
