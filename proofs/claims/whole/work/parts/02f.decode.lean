theorem dX7_init_52 : decode cX7_init 52 = .ok (.aload_n 0, 1) := by decide +kernel
theorem dX7_init_53 : decode cX7_init 53 = .ok (.bipush 90, 2) := by decide +kernel
theorem dX7_init_55 : decode cX7_init 55 = .ok (.newarray .int, 2) := by decide +kernel
theorem dX7_init_57 : decode cX7_init 57 = .ok (.putfield 28, 3) := by decide +kernel
theorem dX7_init_60 : decode cX7_init 60 = .ok (.aload_n 0, 1) := by decide +kernel
theorem dX7_init_61 : decode cX7_init 61 = .ok (.bipush 90, 2) := by decide +kernel
theorem dX7_init_63 : decode cX7_init 63 = .ok (.newarray .int, 2) := by decide +kernel
theorem dX7_init_65 : decode cX7_init 65 = .ok (.putfield 31, 3) := by decide +kernel
theorem dX7_init_68 : decode cX7_init 68 = .ok (.aload_n 0, 1) := by decide +kernel
theorem dX7_init_69 : decode cX7_init 69 = .ok (.bipush 90, 2) := by decide +kernel
theorem dX7_init_71 : decode cX7_init 71 = .ok (.newarray .boolean, 2) := by decide +kernel
theorem dX7_init_73 : decode cX7_init 73 = .ok (.putfield 34, 3) := by decide +kernel
theorem dX7_init_76 : decode cX7_init 76 = .ok (.aload_n 0, 1) := by decide +kernel
theorem dX7_init_77 : decode cX7_init 77 = .ok (.bipush 90, 2) := by decide +kernel
theorem dX7_init_79 : decode cX7_init 79 = .ok (.newarray .int, 2) := by decide +kernel
theorem dX7_init_81 : decode cX7_init 81 = .ok (.putfield 38, 3) := by decide +kernel
theorem dX7_init_84 : decode cX7_init 84 = .ok (.aload_n 0, 1) := by decide +kernel
theorem dX7_init_85 : decode cX7_init 85 = .ok (.bipush 90, 2) := by decide +kernel
theorem dX7_init_87 : decode cX7_init 87 = .ok (.newarray .int, 2) := by decide +kernel
theorem dX7_init_89 : decode cX7_init 89 = .ok (.putfield 41, 3) := by decide +kernel
theorem dX7_init_92 : decode cX7_init 92 = .ok (.aload_n 0, 1) := by decide +kernel
theorem dX7_init_93 : decode cX7_init 93 = .ok (.iconst 4, 1) := by decide +kernel
theorem dX7_init_94 : decode cX7_init 94 = .ok (.newarray .int, 2) := by decide +kernel
theorem dX7_init_96 : decode cX7_init 96 = .ok (.putfield 44, 3) := by decide +kernel
theorem dX7_init_99 : decode cX7_init 99 = .ok (.aload_n 0, 1) := by decide +kernel
theorem dX7_init_100 : decode cX7_init 100 = .ok (.iconst 4, 1) := by decide +kernel
theorem dX7_init_101 : decode cX7_init 101 = .ok (.newarray .int, 2) := by decide +kernel
theorem dX7_init_103 : decode cX7_init 103 = .ok (.putfield 47, 3) := by decide +kernel
theorem dX7_init_106 : decode cX7_init 106 = .ok (.aload_n 0, 1) := by decide +kernel
theorem dX7_init_107 : decode cX7_init 107 = .ok (.sipush 360, 3) := by decide +kernel
theorem dX7_init_110 : decode cX7_init 110 = .ok (.newarray .int, 2) := by decide +kernel
theorem dX7_init_112 : decode cX7_init 112 = .ok (.putfield 50, 3) := by decide +kernel
theorem dX7_init_115 : decode cX7_init 115 = .ok (.aload_n 0, 1) := by decide +kernel
theorem dX7_init_116 : decode cX7_init 116 = .ok (.sipush 360, 3) := by decide +kernel
theorem dX7_init_119 : decode cX7_init 119 = .ok (.newarray .boolean, 2) := by decide +kernel
theorem dX7_init_121 : decode cX7_init 121 = .ok (.putfield 53, 3) := by decide +kernel
theorem dX7_init_124 : decode cX7_init 124 = .ok (.aload_n 0, 1) := by decide +kernel
theorem dX7_init_125 : decode cX7_init 125 = .ok (.sipush 200, 3) := by decide +kernel
theorem dX7_init_128 : decode cX7_init 128 = .ok (.newarray .int, 2) := by decide +kernel
theorem dX7_init_130 : decode cX7_init 130 = .ok (.putfield 56, 3) := by decide +kernel
theorem dX7_init_133 : decode cX7_init 133 = .ok (.aload_n 0, 1) := by decide +kernel
theorem dX7_init_134 : decode cX7_init 134 = .ok (.sipush 1200, 3) := by decide +kernel
theorem dX7_init_137 : decode cX7_init 137 = .ok (.newarray .int, 2) := by decide +kernel
theorem dX7_init_139 : decode cX7_init 139 = .ok (.putfield 59, 3) := by decide +kernel
theorem dX7_init_142 : decode cX7_init 142 = .ok (.aload_n 0, 1) := by decide +kernel
theorem dX7_init_143 : decode cX7_init 143 = .ok (.sipush 1200, 3) := by decide +kernel
theorem dX7_init_146 : decode cX7_init 146 = .ok (.newarray .int, 2) := by decide +kernel
theorem dX7_init_148 : decode cX7_init 148 = .ok (.putfield 62, 3) := by decide +kernel
theorem dX7_init_151 : decode cX7_init 151 = .ok (.aload_n 0, 1) := by decide +kernel
theorem dX7_init_152 : decode cX7_init 152 = .ok (.bipush 90, 2) := by decide +kernel
theorem dX7_init_154 : decode cX7_init 154 = .ok (.newarray .int, 2) := by decide +kernel
theorem dX7_init_156 : decode cX7_init 156 = .ok (.putfield 65, 3) := by decide +kernel
theorem dX7_init_159 : decode cX7_init 159 = .ok (.aload_n 0, 1) := by decide +kernel
theorem dX7_init_160 : decode cX7_init 160 = .ok (.bipush 90, 2) := by decide +kernel
theorem dX7_init_162 : decode cX7_init 162 = .ok (.newarray .int, 2) := by decide +kernel
theorem dX7_init_164 : decode cX7_init 164 = .ok (.putfield 68, 3) := by decide +kernel
theorem dX7_init_167 : decode cX7_init 167 = .ok (.aload_n 0, 1) := by decide +kernel
theorem dX7_init_168 : decode cX7_init 168 = .ok (.bipush 90, 2) := by decide +kernel
theorem dX7_init_170 : decode cX7_init 170 = .ok (.newarray .int, 2) := by decide +kernel
theorem dX7_init_172 : decode cX7_init 172 = .ok (.putfield 71, 3) := by decide +kernel
theorem dX7_init_175 : decode cX7_init 175 = .ok (.aload_n 0, 1) := by decide +kernel
theorem dX7_init_176 : decode cX7_init 176 = .ok (.bipush 90, 2) := by decide +kernel
theorem dX7_init_178 : decode cX7_init 178 = .ok (.newarray .int, 2) := by decide +kernel
theorem dX7_init_180 : decode cX7_init 180 = .ok (.putfield 74, 3) := by decide +kernel
theorem dX7_init_183 : decode cX7_init 183 = .ok (.aload_n 0, 1) := by decide +kernel
theorem dX7_init_184 : decode cX7_init 184 = .ok (.bipush 90, 2) := by decide +kernel
theorem dX7_init_186 : decode cX7_init 186 = .ok (.newarray .int, 2) := by decide +kernel
theorem dX7_init_188 : decode cX7_init 188 = .ok (.putfield 77, 3) := by decide +kernel
theorem dX7_init_191 : decode cX7_init 191 = .ok (.return_, 1) := by decide +kernel
theorem dX7_thrown_0 : decode cX7_thrown 0 = .ok (.aload_n 0, 1) := by decide +kernel
theorem dX7_thrown_1 : decode cX7_thrown 1 = .ok (.getfield 80, 3) := by decide +kernel
theorem dX7_thrown_4 : decode cX7_thrown 4 = .ok (.ireturn, 1) := by decide +kernel
theorem dX7_goesWell_0 : decode cX7_goesWell 0 = .ok (.aload_n 0, 1) := by decide +kernel
theorem dX7_goesWell_1 : decode cX7_goesWell 1 = .ok (.iload_n 1, 1) := by decide +kernel
theorem dX7_goesWell_2 : decode cX7_goesWell 2 = .ok (.putfield 80, 3) := by decide +kernel
theorem dX7_goesWell_5 : decode cX7_goesWell 5 = .ok (.iload_n 1, 1) := by decide +kernel
theorem dX7_goesWell_6 : decode cX7_goesWell 6 = .ok (.ifCond .ne 7, 3) := by decide +kernel
theorem dX7_goesWell_9 : decode cX7_goesWell 9 = .ok (.iconst 1, 1) := by decide +kernel
theorem dX7_goesWell_10 : decode cX7_goesWell 10 = .ok (.goto 4, 3) := by decide +kernel
theorem dX7_goesWell_13 : decode cX7_goesWell 13 = .ok (.iconst 0, 1) := by decide +kernel
theorem dX7_goesWell_14 : decode cX7_goesWell 14 = .ok (.ireturn, 1) := by decide +kernel
theorem dX7_in_0 : decode cX7_in 0 = .ok (.iload_n 0, 1) := by decide +kernel
theorem dX7_in_1 : decode cX7_in 1 = .ok (.iload_n 1, 1) := by decide +kernel
theorem dX7_in_2 : decode cX7_in 2 = .ok (.if_icmp .lt 12, 3) := by decide +kernel
theorem dX7_in_5 : decode cX7_in 5 = .ok (.iload_n 0, 1) := by decide +kernel
theorem dX7_in_6 : decode cX7_in 6 = .ok (.iload_n 2, 1) := by decide +kernel
theorem dX7_in_7 : decode cX7_in 7 = .ok (.if_icmp .gt 7, 3) := by decide +kernel
theorem dX7_in_10 : decode cX7_in 10 = .ok (.iconst 1, 1) := by decide +kernel
theorem dX7_in_11 : decode cX7_in 11 = .ok (.goto 4, 3) := by decide +kernel
theorem dX7_in_14 : decode cX7_in 14 = .ok (.iconst 0, 1) := by decide +kernel
theorem dX7_in_15 : decode cX7_in 15 = .ok (.ireturn, 1) := by decide +kernel
theorem dX7_isSite_0 : decode cX7_isSite 0 = .ok (.iload_n 0, 1) := by decide +kernel
theorem dX7_isSite_1 : decode cX7_isSite 1 = .ok (.iconst 0, 1) := by decide +kernel
theorem dX7_isSite_2 : decode cX7_isSite 2 = .ok (.iconst 3, 1) := by decide +kernel
theorem dX7_isSite_3 : decode cX7_isSite 3 = .ok (.invokestatic 84, 3) := by decide +kernel
theorem dX7_isSite_6 : decode cX7_isSite 6 = .ok (.ireturn, 1) := by decide +kernel
theorem dX7_knowsLine_0 : decode cX7_knowsLine 0 = .ok (.iload_n 2, 1) := by decide +kernel
theorem dX7_knowsLine_1 : decode cX7_knowsLine 1 = .ok (.iconst 0, 1) := by decide +kernel
theorem dX7_knowsLine_2 : decode cX7_knowsLine 2 = .ok (.aload_n 0, 1) := by decide +kernel
theorem dX7_knowsLine_3 : decode cX7_knowsLine 3 = .ok (.getfield 88, 3) := by decide +kernel
theorem dX7_knowsLine_6 : decode cX7_knowsLine 6 = .ok (.iconst 1, 1) := by decide +kernel
theorem dX7_knowsLine_7 : decode cX7_knowsLine 7 = .ok (.isub, 1) := by decide +kernel
theorem dX7_knowsLine_8 : decode cX7_knowsLine 8 = .ok (.invokestatic 84, 3) := by decide +kernel
theorem dX7_knowsLine_11 : decode cX7_knowsLine 11 = .ok (.ifCond .eq 26, 3) := by decide +kernel
theorem dX7_knowsLine_14 : decode cX7_knowsLine 14 = .ok (.aload_n 0, 1) := by decide +kernel
theorem dX7_knowsLine_15 : decode cX7_knowsLine 15 = .ok (.getfield 53, 3) := by decide +kernel
theorem dX7_knowsLine_18 : decode cX7_knowsLine 18 = .ok (.bipush 90, 2) := by decide +kernel
theorem dX7_knowsLine_20 : decode cX7_knowsLine 20 = .ok (.iload_n 1, 1) := by decide +kernel
theorem dX7_knowsLine_21 : decode cX7_knowsLine 21 = .ok (.imul, 1) := by decide +kernel
theorem dX7_knowsLine_22 : decode cX7_knowsLine 22 = .ok (.aload_n 0, 1) := by decide +kernel
theorem dX7_knowsLine_23 : decode cX7_knowsLine 23 = .ok (.getfield 25, 3) := by decide +kernel
theorem dX7_knowsLine_26 : decode cX7_knowsLine 26 = .ok (.iload_n 2, 1) := by decide +kernel
theorem dX7_knowsLine_27 : decode cX7_knowsLine 27 = .ok (.iaload, 1) := by decide +kernel
theorem dX7_knowsLine_28 : decode cX7_knowsLine 28 = .ok (.iadd, 1) := by decide +kernel
theorem dX7_knowsLine_29 : decode cX7_knowsLine 29 = .ok (.baload, 1) := by decide +kernel
theorem dX7_knowsLine_30 : decode cX7_knowsLine 30 = .ok (.ifCond .eq 7, 3) := by decide +kernel
theorem dX7_knowsLine_33 : decode cX7_knowsLine 33 = .ok (.iconst 1, 1) := by decide +kernel
theorem dX7_knowsLine_34 : decode cX7_knowsLine 34 = .ok (.goto 4, 3) := by decide +kernel
theorem dX7_knowsLine_37 : decode cX7_knowsLine 37 = .ok (.iconst 0, 1) := by decide +kernel
theorem dX7_knowsLine_38 : decode cX7_knowsLine 38 = .ok (.ireturn, 1) := by decide +kernel
theorem dX7_knowsNote_0 : decode cX7_knowsNote 0 = .ok (.iload_n 2, 1) := by decide +kernel
theorem dX7_knowsNote_1 : decode cX7_knowsNote 1 = .ok (.iconst 0, 1) := by decide +kernel
theorem dX7_knowsNote_2 : decode cX7_knowsNote 2 = .ok (.aload_n 0, 1) := by decide +kernel
theorem dX7_knowsNote_3 : decode cX7_knowsNote 3 = .ok (.getfield 91, 3) := by decide +kernel
theorem dX7_knowsNote_6 : decode cX7_knowsNote 6 = .ok (.iconst 1, 1) := by decide +kernel
theorem dX7_knowsNote_7 : decode cX7_knowsNote 7 = .ok (.isub, 1) := by decide +kernel
theorem dX7_knowsNote_8 : decode cX7_knowsNote 8 = .ok (.invokestatic 84, 3) := by decide +kernel
theorem dX7_knowsNote_11 : decode cX7_knowsNote 11 = .ok (.ifCond .eq 26, 3) := by decide +kernel
theorem dX7_knowsNote_14 : decode cX7_knowsNote 14 = .ok (.aload_n 0, 1) := by decide +kernel
theorem dX7_knowsNote_15 : decode cX7_knowsNote 15 = .ok (.getfield 53, 3) := by decide +kernel
theorem dX7_knowsNote_18 : decode cX7_knowsNote 18 = .ok (.bipush 90, 2) := by decide +kernel
theorem dX7_knowsNote_20 : decode cX7_knowsNote 20 = .ok (.iload_n 1, 1) := by decide +kernel
theorem dX7_knowsNote_21 : decode cX7_knowsNote 21 = .ok (.imul, 1) := by decide +kernel
theorem dX7_knowsNote_22 : decode cX7_knowsNote 22 = .ok (.aload_n 0, 1) := by decide +kernel
theorem dX7_knowsNote_23 : decode cX7_knowsNote 23 = .ok (.getfield 38, 3) := by decide +kernel
theorem dX7_knowsNote_26 : decode cX7_knowsNote 26 = .ok (.iload_n 2, 1) := by decide +kernel
theorem dX7_knowsNote_27 : decode cX7_knowsNote 27 = .ok (.iaload, 1) := by decide +kernel
theorem dX7_knowsNote_28 : decode cX7_knowsNote 28 = .ok (.iadd, 1) := by decide +kernel
theorem dX7_knowsNote_29 : decode cX7_knowsNote 29 = .ok (.baload, 1) := by decide +kernel
theorem dX7_knowsNote_30 : decode cX7_knowsNote 30 = .ok (.ifCond .eq 7, 3) := by decide +kernel
theorem dX7_knowsNote_33 : decode cX7_knowsNote 33 = .ok (.iconst 1, 1) := by decide +kernel
theorem dX7_knowsNote_34 : decode cX7_knowsNote 34 = .ok (.goto 4, 3) := by decide +kernel
theorem dX7_knowsNote_37 : decode cX7_knowsNote 37 = .ok (.iconst 0, 1) := by decide +kernel
theorem dX7_knowsNote_38 : decode cX7_knowsNote 38 = .ok (.ireturn, 1) := by decide +kernel
theorem dX7_isThere_0 : decode cX7_isThere 0 = .ok (.iconst 1, 1) := by decide +kernel
theorem dX7_isThere_1 : decode cX7_isThere 1 = .ok (.istore_n 3, 1) := by decide +kernel
theorem dX7_isThere_2 : decode cX7_isThere 2 = .ok (.iconst 0, 1) := by decide +kernel
theorem dX7_isThere_3 : decode cX7_isThere 3 = .ok (.istore 4, 2) := by decide +kernel
theorem dX7_isThere_5 : decode cX7_isThere 5 = .ok (.iload 4, 2) := by decide +kernel
theorem dX7_isThere_7 : decode cX7_isThere 7 = .ok (.aload_n 0, 1) := by decide +kernel
theorem dX7_isThere_8 : decode cX7_isThere 8 = .ok (.getfield 94, 3) := by decide +kernel
theorem dX7_isThere_11 : decode cX7_isThere 11 = .ok (.if_icmp .ge 56, 3) := by decide +kernel
theorem dX7_isThere_14 : decode cX7_isThere 14 = .ok (.iload_n 3, 1) := by decide +kernel
theorem dX7_isThere_15 : decode cX7_isThere 15 = .ok (.ifCond .eq 44, 3) := by decide +kernel
theorem dX7_isThere_18 : decode cX7_isThere 18 = .ok (.aload_n 0, 1) := by decide +kernel
theorem dX7_isThere_19 : decode cX7_isThere 19 = .ok (.getfield 7, 3) := by decide +kernel
theorem dX7_isThere_22 : decode cX7_isThere 22 = .ok (.iload 4, 2) := by decide +kernel
theorem dX7_isThere_24 : decode cX7_isThere 24 = .ok (.iaload, 1) := by decide +kernel
theorem dX7_isThere_25 : decode cX7_isThere 25 = .ok (.iconst 1, 1) := by decide +kernel
theorem dX7_isThere_26 : decode cX7_isThere 26 = .ok (.if_icmp .ne 29, 3) := by decide +kernel
theorem dX7_isThere_29 : decode cX7_isThere 29 = .ok (.aload_n 0, 1) := by decide +kernel
theorem dX7_isThere_30 : decode cX7_isThere 30 = .ok (.getfield 19, 3) := by decide +kernel
theorem dX7_isThere_33 : decode cX7_isThere 33 = .ok (.iload 4, 2) := by decide +kernel
theorem dX7_isThere_35 : decode cX7_isThere 35 = .ok (.iaload, 1) := by decide +kernel
theorem dX7_isThere_36 : decode cX7_isThere 36 = .ok (.iload_n 2, 1) := by decide +kernel
theorem dX7_isThere_37 : decode cX7_isThere 37 = .ok (.if_icmp .ne 18, 3) := by decide +kernel
theorem dX7_isThere_40 : decode cX7_isThere 40 = .ok (.aload_n 0, 1) := by decide +kernel
theorem dX7_isThere_41 : decode cX7_isThere 41 = .ok (.getfield 53, 3) := by decide +kernel
theorem dX7_isThere_44 : decode cX7_isThere 44 = .ok (.bipush 90, 2) := by decide +kernel
theorem dX7_isThere_46 : decode cX7_isThere 46 = .ok (.iload_n 1, 1) := by decide +kernel
theorem dX7_isThere_47 : decode cX7_isThere 47 = .ok (.imul, 1) := by decide +kernel
theorem dX7_isThere_48 : decode cX7_isThere 48 = .ok (.iload 4, 2) := by decide +kernel
theorem dX7_isThere_50 : decode cX7_isThere 50 = .ok (.iadd, 1) := by decide +kernel
theorem dX7_isThere_51 : decode cX7_isThere 51 = .ok (.baload, 1) := by decide +kernel
theorem dX7_isThere_52 : decode cX7_isThere 52 = .ok (.ifCond .ne 7, 3) := by decide +kernel
theorem dX7_isThere_55 : decode cX7_isThere 55 = .ok (.iconst 1, 1) := by decide +kernel
theorem dX7_isThere_56 : decode cX7_isThere 56 = .ok (.goto 4, 3) := by decide +kernel
theorem dX7_isThere_59 : decode cX7_isThere 59 = .ok (.iconst 0, 1) := by decide +kernel
theorem dX7_isThere_60 : decode cX7_isThere 60 = .ok (.istore_n 3, 1) := by decide +kernel
theorem dX7_isThere_61 : decode cX7_isThere 61 = .ok (.iinc 4 1, 3) := by decide +kernel
theorem dX7_isThere_64 : decode cX7_isThere 64 = .ok (.goto (-59), 3) := by decide +kernel
theorem dX7_isThere_67 : decode cX7_isThere 67 = .ok (.iload_n 3, 1) := by decide +kernel
theorem dX7_isThere_68 : decode cX7_isThere 68 = .ok (.ireturn, 1) := by decide +kernel
theorem dX7_learn_0 : decode cX7_learn 0 = .ok (.aload_n 0, 1) := by decide +kernel
theorem dX7_learn_1 : decode cX7_learn 1 = .ok (.getfield 53, 3) := by decide +kernel
theorem dX7_learn_4 : decode cX7_learn 4 = .ok (.bipush 90, 2) := by decide +kernel
theorem dX7_learn_6 : decode cX7_learn 6 = .ok (.iload_n 1, 1) := by decide +kernel
theorem dX7_learn_7 : decode cX7_learn 7 = .ok (.imul, 1) := by decide +kernel
theorem dX7_learn_8 : decode cX7_learn 8 = .ok (.iload_n 2, 1) := by decide +kernel
theorem dX7_learn_9 : decode cX7_learn 9 = .ok (.iadd, 1) := by decide +kernel
theorem dX7_learn_10 : decode cX7_learn 10 = .ok (.iconst 1, 1) := by decide +kernel
theorem dX7_learn_11 : decode cX7_learn 11 = .ok (.bastore, 1) := by decide +kernel
theorem dX7_learn_12 : decode cX7_learn 12 = .ok (.aload_n 0, 1) := by decide +kernel
theorem dX7_learn_13 : decode cX7_learn 13 = .ok (.getfield 50, 3) := by decide +kernel
theorem dX7_learn_16 : decode cX7_learn 16 = .ok (.bipush 90, 2) := by decide +kernel
theorem dX7_learn_18 : decode cX7_learn 18 = .ok (.iload_n 1, 1) := by decide +kernel
theorem dX7_learn_19 : decode cX7_learn 19 = .ok (.imul, 1) := by decide +kernel
theorem dX7_learn_20 : decode cX7_learn 20 = .ok (.aload_n 0, 1) := by decide +kernel
theorem dX7_learn_21 : decode cX7_learn 21 = .ok (.getfield 47, 3) := by decide +kernel
theorem dX7_learn_24 : decode cX7_learn 24 = .ok (.iload_n 1, 1) := by decide +kernel
theorem dX7_learn_25 : decode cX7_learn 25 = .ok (.iaload, 1) := by decide +kernel
theorem dX7_learn_26 : decode cX7_learn 26 = .ok (.iadd, 1) := by decide +kernel
theorem dX7_learn_27 : decode cX7_learn 27 = .ok (.iload_n 2, 1) := by decide +kernel
theorem dX7_learn_28 : decode cX7_learn 28 = .ok (.iastore, 1) := by decide +kernel
theorem dX7_learn_29 : decode cX7_learn 29 = .ok (.aload_n 0, 1) := by decide +kernel
theorem dX7_learn_30 : decode cX7_learn 30 = .ok (.getfield 47, 3) := by decide +kernel
theorem dX7_learn_33 : decode cX7_learn 33 = .ok (.iload_n 1, 1) := by decide +kernel
theorem dX7_learn_34 : decode cX7_learn 34 = .ok (.dup2, 1) := by decide +kernel
theorem dX7_learn_35 : decode cX7_learn 35 = .ok (.iaload, 1) := by decide +kernel
theorem dX7_learn_36 : decode cX7_learn 36 = .ok (.iconst 1, 1) := by decide +kernel
theorem dX7_learn_37 : decode cX7_learn 37 = .ok (.iadd, 1) := by decide +kernel
theorem dX7_learn_38 : decode cX7_learn 38 = .ok (.iastore, 1) := by decide +kernel
theorem dX7_learn_39 : decode cX7_learn 39 = .ok (.return_, 1) := by decide +kernel
theorem dX7_deed_0 : decode cX7_deed 0 = .ok (.aload_n 0, 1) := by decide +kernel
theorem dX7_deed_1 : decode cX7_deed 1 = .ok (.getfield 44, 3) := by decide +kernel
theorem dX7_deed_4 : decode cX7_deed 4 = .ok (.iload_n 1, 1) := by decide +kernel
theorem dX7_deed_5 : decode cX7_deed 5 = .ok (.dup2, 1) := by decide +kernel
theorem dX7_deed_6 : decode cX7_deed 6 = .ok (.iaload, 1) := by decide +kernel
theorem dX7_deed_7 : decode cX7_deed 7 = .ok (.iconst 1, 1) := by decide +kernel
theorem dX7_deed_8 : decode cX7_deed 8 = .ok (.iadd, 1) := by decide +kernel
theorem dX7_deed_9 : decode cX7_deed 9 = .ok (.iastore, 1) := by decide +kernel
theorem dX7_deed_10 : decode cX7_deed 10 = .ok (.aload_n 0, 1) := by decide +kernel
theorem dX7_deed_11 : decode cX7_deed 11 = .ok (.getfield 7, 3) := by decide +kernel
theorem dX7_deed_14 : decode cX7_deed 14 = .ok (.aload_n 0, 1) := by decide +kernel
theorem dX7_deed_15 : decode cX7_deed 15 = .ok (.getfield 94, 3) := by decide +kernel
theorem dX7_deed_18 : decode cX7_deed 18 = .ok (.iload_n 2, 1) := by decide +kernel
theorem dX7_deed_19 : decode cX7_deed 19 = .ok (.iastore, 1) := by decide +kernel
theorem dX7_deed_20 : decode cX7_deed 20 = .ok (.aload_n 0, 1) := by decide +kernel
theorem dX7_deed_21 : decode cX7_deed 21 = .ok (.getfield 13, 3) := by decide +kernel
theorem dX7_deed_24 : decode cX7_deed 24 = .ok (.aload_n 0, 1) := by decide +kernel
theorem dX7_deed_25 : decode cX7_deed 25 = .ok (.getfield 94, 3) := by decide +kernel
theorem dX7_deed_28 : decode cX7_deed 28 = .ok (.aload_n 0, 1) := by decide +kernel
theorem dX7_deed_29 : decode cX7_deed 29 = .ok (.getfield 44, 3) := by decide +kernel
theorem dX7_deed_32 : decode cX7_deed 32 = .ok (.iload_n 1, 1) := by decide +kernel
theorem dX7_deed_33 : decode cX7_deed 33 = .ok (.iaload, 1) := by decide +kernel
theorem dX7_deed_34 : decode cX7_deed 34 = .ok (.iastore, 1) := by decide +kernel
theorem dX7_deed_35 : decode cX7_deed 35 = .ok (.aload_n 0, 1) := by decide +kernel
theorem dX7_deed_36 : decode cX7_deed 36 = .ok (.getfield 16, 3) := by decide +kernel
theorem dX7_deed_39 : decode cX7_deed 39 = .ok (.aload_n 0, 1) := by decide +kernel
theorem dX7_deed_40 : decode cX7_deed 40 = .ok (.getfield 94, 3) := by decide +kernel
theorem dX7_deed_43 : decode cX7_deed 43 = .ok (.iload_n 1, 1) := by decide +kernel
theorem dX7_deed_44 : decode cX7_deed 44 = .ok (.iastore, 1) := by decide +kernel
theorem dX7_deed_45 : decode cX7_deed 45 = .ok (.aload_n 0, 1) := by decide +kernel
theorem dX7_deed_46 : decode cX7_deed 46 = .ok (.getfield 19, 3) := by decide +kernel
theorem dX7_deed_49 : decode cX7_deed 49 = .ok (.aload_n 0, 1) := by decide +kernel
theorem dX7_deed_50 : decode cX7_deed 50 = .ok (.getfield 94, 3) := by decide +kernel
theorem dX7_deed_53 : decode cX7_deed 53 = .ok (.iload_n 3, 1) := by decide +kernel
theorem dX7_deed_54 : decode cX7_deed 54 = .ok (.iastore, 1) := by decide +kernel
theorem dX7_deed_55 : decode cX7_deed 55 = .ok (.aload_n 0, 1) := by decide +kernel
theorem dX7_deed_56 : decode cX7_deed 56 = .ok (.getfield 22, 3) := by decide +kernel
theorem dX7_deed_59 : decode cX7_deed 59 = .ok (.aload_n 0, 1) := by decide +kernel
theorem dX7_deed_60 : decode cX7_deed 60 = .ok (.getfield 94, 3) := by decide +kernel
theorem dX7_deed_63 : decode cX7_deed 63 = .ok (.iload 4, 2) := by decide +kernel
theorem dX7_deed_65 : decode cX7_deed 65 = .ok (.iastore, 1) := by decide +kernel
theorem dX7_deed_66 : decode cX7_deed 66 = .ok (.aload_n 0, 1) := by decide +kernel
theorem dX7_deed_67 : decode cX7_deed 67 = .ok (.dup, 1) := by decide +kernel
theorem dX7_deed_68 : decode cX7_deed 68 = .ok (.getfield 94, 3) := by decide +kernel
theorem dX7_deed_71 : decode cX7_deed 71 = .ok (.iconst 1, 1) := by decide +kernel
theorem dX7_deed_72 : decode cX7_deed 72 = .ok (.iadd, 1) := by decide +kernel
theorem dX7_deed_73 : decode cX7_deed 73 = .ok (.putfield 94, 3) := by decide +kernel
theorem dX7_deed_76 : decode cX7_deed 76 = .ok (.aload_n 0, 1) := by decide +kernel
theorem dX7_deed_77 : decode cX7_deed 77 = .ok (.iload_n 1, 1) := by decide +kernel
theorem dX7_deed_78 : decode cX7_deed 78 = .ok (.aload_n 0, 1) := by decide +kernel
theorem dX7_deed_79 : decode cX7_deed 79 = .ok (.getfield 94, 3) := by decide +kernel
theorem dX7_deed_82 : decode cX7_deed 82 = .ok (.iconst 1, 1) := by decide +kernel
theorem dX7_deed_83 : decode cX7_deed 83 = .ok (.isub, 1) := by decide +kernel
theorem dX7_deed_84 : decode cX7_deed 84 = .ok (.invokevirtual 97, 3) := by decide +kernel
theorem dX7_deed_87 : decode cX7_deed 87 = .ok (.aload_n 0, 1) := by decide +kernel
theorem dX7_deed_88 : decode cX7_deed 88 = .ok (.getfield 94, 3) := by decide +kernel
theorem dX7_deed_91 : decode cX7_deed 91 = .ok (.iconst 1, 1) := by decide +kernel
theorem dX7_deed_92 : decode cX7_deed 92 = .ok (.isub, 1) := by decide +kernel
theorem dX7_deed_93 : decode cX7_deed 93 = .ok (.ireturn, 1) := by decide +kernel
theorem dX7_insert_0 : decode cX7_insert 0 = .ok (.iload_n 1, 1) := by decide +kernel
theorem dX7_insert_1 : decode cX7_insert 1 = .ok (.invokestatic 101, 3) := by decide +kernel
theorem dX7_insert_4 : decode cX7_insert 4 = .ok (.ifCond .eq 21, 3) := by decide +kernel
theorem dX7_insert_7 : decode cX7_insert 7 = .ok (.iload_n 2, 1) := by decide +kernel
theorem dX7_insert_8 : decode cX7_insert 8 = .ok (.iconst (-1), 1) := by decide +kernel
theorem dX7_insert_9 : decode cX7_insert 9 = .ok (.if_icmp .eq 12, 3) := by decide +kernel
theorem dX7_insert_12 : decode cX7_insert 12 = .ok (.aload_n 0, 1) := by decide +kernel
theorem dX7_insert_13 : decode cX7_insert 13 = .ok (.iload_n 1, 1) := by decide +kernel
theorem dX7_insert_14 : decode cX7_insert 14 = .ok (.iload_n 2, 1) := by decide +kernel
theorem dX7_insert_15 : decode cX7_insert 15 = .ok (.invokevirtual 105, 3) := by decide +kernel
theorem dX7_insert_18 : decode cX7_insert 18 = .ok (.ifCond .eq 7, 3) := by decide +kernel
theorem dX7_insert_21 : decode cX7_insert 21 = .ok (.iconst 1, 1) := by decide +kernel
theorem dX7_insert_22 : decode cX7_insert 22 = .ok (.goto 4, 3) := by decide +kernel
theorem dX7_insert_25 : decode cX7_insert 25 = .ok (.iconst 0, 1) := by decide +kernel
theorem dX7_insert_26 : decode cX7_insert 26 = .ok (.istore 5, 2) := by decide +kernel
theorem dX7_insert_28 : decode cX7_insert 28 = .ok (.iload_n 3, 1) := by decide +kernel
theorem dX7_insert_29 : decode cX7_insert 29 = .ok (.iconst 0, 1) := by decide +kernel
theorem dX7_insert_30 : decode cX7_insert 30 = .ok (.bipush 99, 2) := by decide +kernel
theorem dX7_insert_32 : decode cX7_insert 32 = .ok (.invokestatic 84, 3) := by decide +kernel
theorem dX7_insert_35 : decode cX7_insert 35 = .ok (.istore 6, 2) := by decide +kernel
theorem dX7_insert_37 : decode cX7_insert 37 = .ok (.aload_n 0, 1) := by decide +kernel
theorem dX7_insert_38 : decode cX7_insert 38 = .ok (.iload 5, 2) := by decide +kernel
theorem dX7_insert_40 : decode cX7_insert 40 = .ok (.ifCond .ne 7, 3) := by decide +kernel
theorem dX7_insert_43 : decode cX7_insert 43 = .ok (.iconst 1, 1) := by decide +kernel
theorem dX7_insert_44 : decode cX7_insert 44 = .ok (.goto 26, 3) := by decide +kernel
theorem dX7_insert_47 : decode cX7_insert 47 = .ok (.iload 6, 2) := by decide +kernel
theorem dX7_insert_49 : decode cX7_insert 49 = .ok (.ifCond .ne 7, 3) := by decide +kernel
theorem dX7_insert_52 : decode cX7_insert 52 = .ok (.iconst 2, 1) := by decide +kernel
theorem dX7_insert_53 : decode cX7_insert 53 = .ok (.goto 17, 3) := by decide +kernel
theorem dX7_insert_56 : decode cX7_insert 56 = .ok (.aload_n 0, 1) := by decide +kernel
theorem dX7_insert_57 : decode cX7_insert 57 = .ok (.getfield 94, 3) := by decide +kernel
theorem dX7_insert_60 : decode cX7_insert 60 = .ok (.bipush 90, 2) := by decide +kernel
theorem dX7_insert_62 : decode cX7_insert 62 = .ok (.if_icmp .ne 7, 3) := by decide +kernel
theorem dX7_insert_65 : decode cX7_insert 65 = .ok (.iconst 3, 1) := by decide +kernel
theorem dX7_insert_66 : decode cX7_insert 66 = .ok (.goto 4, 3) := by decide +kernel
theorem dX7_insert_69 : decode cX7_insert 69 = .ok (.iconst 0, 1) := by decide +kernel
theorem dX7_insert_70 : decode cX7_insert 70 = .ok (.invokevirtual 109, 3) := by decide +kernel
theorem dX7_insert_73 : decode cX7_insert 73 = .ok (.ifCond .ne 5, 3) := by decide +kernel
theorem dX7_insert_76 : decode cX7_insert 76 = .ok (.iconst 0, 1) := by decide +kernel
theorem dX7_insert_77 : decode cX7_insert 77 = .ok (.ireturn, 1) := by decide +kernel
theorem dX7_insert_78 : decode cX7_insert 78 = .ok (.aload_n 0, 1) := by decide +kernel
theorem dX7_insert_79 : decode cX7_insert 79 = .ok (.getfield 28, 3) := by decide +kernel
theorem dX7_insert_82 : decode cX7_insert 82 = .ok (.aload_n 0, 1) := by decide +kernel
theorem dX7_insert_83 : decode cX7_insert 83 = .ok (.getfield 88, 3) := by decide +kernel
theorem dX7_insert_86 : decode cX7_insert 86 = .ok (.iload_n 2, 1) := by decide +kernel
theorem dX7_insert_87 : decode cX7_insert 87 = .ok (.iastore, 1) := by decide +kernel
theorem dX7_insert_88 : decode cX7_insert 88 = .ok (.aload_n 0, 1) := by decide +kernel
theorem dX7_insert_89 : decode cX7_insert 89 = .ok (.getfield 31, 3) := by decide +kernel
theorem dX7_insert_92 : decode cX7_insert 92 = .ok (.aload_n 0, 1) := by decide +kernel
theorem dX7_insert_93 : decode cX7_insert 93 = .ok (.getfield 88, 3) := by decide +kernel
theorem dX7_insert_96 : decode cX7_insert 96 = .ok (.iload_n 3, 1) := by decide +kernel
theorem dX7_insert_97 : decode cX7_insert 97 = .ok (.iastore, 1) := by decide +kernel
theorem dX7_insert_98 : decode cX7_insert 98 = .ok (.aload_n 0, 1) := by decide +kernel
theorem dX7_insert_99 : decode cX7_insert 99 = .ok (.getfield 34, 3) := by decide +kernel
theorem dX7_insert_102 : decode cX7_insert 102 = .ok (.aload_n 0, 1) := by decide +kernel
theorem dX7_insert_103 : decode cX7_insert 103 = .ok (.getfield 88, 3) := by decide +kernel
theorem dX7_insert_106 : decode cX7_insert 106 = .ok (.iload 4, 2) := by decide +kernel
theorem dX7_insert_108 : decode cX7_insert 108 = .ok (.bastore, 1) := by decide +kernel
theorem dX7_insert_109 : decode cX7_insert 109 = .ok (.aload_n 0, 1) := by decide +kernel
theorem dX7_insert_110 : decode cX7_insert 110 = .ok (.dup, 1) := by decide +kernel
theorem dX7_insert_111 : decode cX7_insert 111 = .ok (.getfield 88, 3) := by decide +kernel
theorem dX7_insert_114 : decode cX7_insert 114 = .ok (.iconst 1, 1) := by decide +kernel
theorem dX7_insert_115 : decode cX7_insert 115 = .ok (.iadd, 1) := by decide +kernel
theorem dX7_insert_116 : decode cX7_insert 116 = .ok (.putfield 88, 3) := by decide +kernel
theorem dX7_insert_119 : decode cX7_insert 119 = .ok (.aload_n 0, 1) := by decide +kernel
theorem dX7_insert_120 : decode cX7_insert 120 = .ok (.getfield 25, 3) := by decide +kernel
theorem dX7_insert_123 : decode cX7_insert 123 = .ok (.aload_n 0, 1) := by decide +kernel
theorem dX7_insert_124 : decode cX7_insert 124 = .ok (.getfield 88, 3) := by decide +kernel
theorem dX7_insert_127 : decode cX7_insert 127 = .ok (.iconst 1, 1) := by decide +kernel
theorem dX7_insert_128 : decode cX7_insert 128 = .ok (.isub, 1) := by decide +kernel
theorem dX7_insert_129 : decode cX7_insert 129 = .ok (.aload_n 0, 1) := by decide +kernel
theorem dX7_insert_130 : decode cX7_insert 130 = .ok (.iload_n 1, 1) := by decide +kernel
theorem dX7_insert_131 : decode cX7_insert 131 = .ok (.iconst 0, 1) := by decide +kernel
theorem dX7_insert_132 : decode cX7_insert 132 = .ok (.aload_n 0, 1) := by decide +kernel
theorem dX7_insert_133 : decode cX7_insert 133 = .ok (.getfield 88, 3) := by decide +kernel
theorem dX7_insert_136 : decode cX7_insert 136 = .ok (.iconst 1, 1) := by decide +kernel
theorem dX7_insert_137 : decode cX7_insert 137 = .ok (.isub, 1) := by decide +kernel
theorem dX7_insert_138 : decode cX7_insert 138 = .ok (.iconst (-1), 1) := by decide +kernel
theorem dX7_insert_139 : decode cX7_insert 139 = .ok (.invokevirtual 112, 3) := by decide +kernel
theorem dX7_insert_142 : decode cX7_insert 142 = .ok (.iastore, 1) := by decide +kernel
theorem dX7_insert_143 : decode cX7_insert 143 = .ok (.aload_n 0, 1) := by decide +kernel
theorem dX7_insert_144 : decode cX7_insert 144 = .ok (.getfield 88, 3) := by decide +kernel
theorem dX7_insert_147 : decode cX7_insert 147 = .ok (.iconst 1, 1) := by decide +kernel
theorem dX7_insert_148 : decode cX7_insert 148 = .ok (.isub, 1) := by decide +kernel
theorem dX7_insert_149 : decode cX7_insert 149 = .ok (.ireturn, 1) := by decide +kernel
theorem dX7_remove_0 : decode cX7_remove 0 = .ok (.iload_n 1, 1) := by decide +kernel
theorem dX7_remove_1 : decode cX7_remove 1 = .ok (.invokestatic 101, 3) := by decide +kernel
theorem dX7_remove_4 : decode cX7_remove 4 = .ok (.ifCond .eq 16, 3) := by decide +kernel
theorem dX7_remove_7 : decode cX7_remove 7 = .ok (.aload_n 0, 1) := by decide +kernel
theorem dX7_remove_8 : decode cX7_remove 8 = .ok (.iload_n 1, 1) := by decide +kernel
theorem dX7_remove_9 : decode cX7_remove 9 = .ok (.iload_n 2, 1) := by decide +kernel
theorem dX7_remove_10 : decode cX7_remove 10 = .ok (.invokevirtual 105, 3) := by decide +kernel
theorem dX7_remove_13 : decode cX7_remove 13 = .ok (.ifCond .eq 7, 3) := by decide +kernel
theorem dX7_remove_16 : decode cX7_remove 16 = .ok (.iconst 1, 1) := by decide +kernel
theorem dX7_remove_17 : decode cX7_remove 17 = .ok (.goto 4, 3) := by decide +kernel
theorem dX7_remove_20 : decode cX7_remove 20 = .ok (.iconst 0, 1) := by decide +kernel
theorem dX7_remove_21 : decode cX7_remove 21 = .ok (.istore_n 3, 1) := by decide +kernel
theorem dX7_remove_22 : decode cX7_remove 22 = .ok (.aload_n 0, 1) := by decide +kernel
theorem dX7_remove_23 : decode cX7_remove 23 = .ok (.iload_n 3, 1) := by decide +kernel
theorem dX7_remove_24 : decode cX7_remove 24 = .ok (.ifCond .ne 7, 3) := by decide +kernel
theorem dX7_remove_27 : decode cX7_remove 27 = .ok (.iconst 1, 1) := by decide +kernel
theorem dX7_remove_28 : decode cX7_remove 28 = .ok (.goto 30, 3) := by decide +kernel
theorem dX7_remove_31 : decode cX7_remove 31 = .ok (.aload_n 0, 1) := by decide +kernel
theorem dX7_remove_32 : decode cX7_remove 32 = .ok (.iload_n 1, 1) := by decide +kernel
theorem dX7_remove_33 : decode cX7_remove 33 = .ok (.iload_n 2, 1) := by decide +kernel
theorem dX7_remove_34 : decode cX7_remove 34 = .ok (.invokevirtual 116, 3) := by decide +kernel
theorem dX7_remove_37 : decode cX7_remove 37 = .ok (.ifCond .ne 7, 3) := by decide +kernel
theorem dX7_remove_40 : decode cX7_remove 40 = .ok (.iconst 2, 1) := by decide +kernel
theorem dX7_remove_41 : decode cX7_remove 41 = .ok (.goto 17, 3) := by decide +kernel
theorem dX7_remove_44 : decode cX7_remove 44 = .ok (.aload_n 0, 1) := by decide +kernel
theorem dX7_remove_45 : decode cX7_remove 45 = .ok (.getfield 94, 3) := by decide +kernel
theorem dX7_remove_48 : decode cX7_remove 48 = .ok (.bipush 90, 2) := by decide +kernel
theorem dX7_remove_50 : decode cX7_remove 50 = .ok (.if_icmp .ne 7, 3) := by decide +kernel
theorem dX7_remove_53 : decode cX7_remove 53 = .ok (.iconst 3, 1) := by decide +kernel
theorem dX7_remove_54 : decode cX7_remove 54 = .ok (.goto 4, 3) := by decide +kernel
theorem dX7_remove_57 : decode cX7_remove 57 = .ok (.iconst 0, 1) := by decide +kernel
theorem dX7_remove_58 : decode cX7_remove 58 = .ok (.invokevirtual 109, 3) := by decide +kernel
theorem dX7_remove_61 : decode cX7_remove 61 = .ok (.ifCond .ne 5, 3) := by decide +kernel
theorem dX7_remove_64 : decode cX7_remove 64 = .ok (.iconst 0, 1) := by decide +kernel
theorem dX7_remove_65 : decode cX7_remove 65 = .ok (.ireturn, 1) := by decide +kernel
theorem dX7_remove_66 : decode cX7_remove 66 = .ok (.aload_n 0, 1) := by decide +kernel
theorem dX7_remove_67 : decode cX7_remove 67 = .ok (.iload_n 1, 1) := by decide +kernel
theorem dX7_remove_68 : decode cX7_remove 68 = .ok (.iconst 1, 1) := by decide +kernel
theorem dX7_remove_69 : decode cX7_remove 69 = .ok (.iload_n 2, 1) := by decide +kernel
theorem dX7_remove_70 : decode cX7_remove 70 = .ok (.iconst (-1), 1) := by decide +kernel
theorem dX7_remove_71 : decode cX7_remove 71 = .ok (.invokevirtual 112, 3) := by decide +kernel
theorem dX7_remove_74 : decode cX7_remove 74 = .ok (.istore 4, 2) := by decide +kernel
theorem dX7_remove_76 : decode cX7_remove 76 = .ok (.aload_n 0, 1) := by decide +kernel
theorem dX7_remove_77 : decode cX7_remove 77 = .ok (.iload_n 1, 1) := by decide +kernel
theorem dX7_remove_78 : decode cX7_remove 78 = .ok (.invokevirtual 119, 3) := by decide +kernel
theorem dX7_remove_81 : decode cX7_remove 81 = .ok (.aload_n 0, 1) := by decide +kernel
theorem dX7_remove_82 : decode cX7_remove 82 = .ok (.getfield 123, 3) := by decide +kernel
theorem dX7_remove_85 : decode cX7_remove 85 = .ok (.ireturn, 1) := by decide +kernel
theorem dX7_note_0 : decode cX7_note 0 = .ok (.iload_n 1, 1) := by decide +kernel
theorem dX7_note_1 : decode cX7_note 1 = .ok (.invokestatic 101, 3) := by decide +kernel
theorem dX7_note_4 : decode cX7_note 4 = .ok (.ifCond .eq 16, 3) := by decide +kernel
theorem dX7_note_7 : decode cX7_note 7 = .ok (.aload_n 0, 1) := by decide +kernel
theorem dX7_note_8 : decode cX7_note 8 = .ok (.iload_n 1, 1) := by decide +kernel
theorem dX7_note_9 : decode cX7_note 9 = .ok (.iload_n 2, 1) := by decide +kernel
theorem dX7_note_10 : decode cX7_note 10 = .ok (.invokevirtual 105, 3) := by decide +kernel
theorem dX7_note_13 : decode cX7_note 13 = .ok (.ifCond .eq 7, 3) := by decide +kernel
theorem dX7_note_16 : decode cX7_note 16 = .ok (.iconst 1, 1) := by decide +kernel
theorem dX7_note_17 : decode cX7_note 17 = .ok (.goto 4, 3) := by decide +kernel
theorem dX7_note_20 : decode cX7_note 20 = .ok (.iconst 0, 1) := by decide +kernel
theorem dX7_note_21 : decode cX7_note 21 = .ok (.istore 4, 2) := by decide +kernel
theorem dX7_note_23 : decode cX7_note 23 = .ok (.iload_n 3, 1) := by decide +kernel
theorem dX7_note_24 : decode cX7_note 24 = .ok (.iconst 1, 1) := by decide +kernel
theorem dX7_note_25 : decode cX7_note 25 = .ok (.iconst 3, 1) := by decide +kernel
theorem dX7_note_26 : decode cX7_note 26 = .ok (.invokestatic 84, 3) := by decide +kernel
theorem dX7_note_29 : decode cX7_note 29 = .ok (.istore 5, 2) := by decide +kernel
theorem dX7_note_31 : decode cX7_note 31 = .ok (.aload_n 0, 1) := by decide +kernel
theorem dX7_note_32 : decode cX7_note 32 = .ok (.iload 4, 2) := by decide +kernel
theorem dX7_note_34 : decode cX7_note 34 = .ok (.ifCond .ne 7, 3) := by decide +kernel
theorem dX7_note_37 : decode cX7_note 37 = .ok (.iconst 1, 1) := by decide +kernel
theorem dX7_note_38 : decode cX7_note 38 = .ok (.goto 39, 3) := by decide +kernel
theorem dX7_note_41 : decode cX7_note 41 = .ok (.iload 5, 2) := by decide +kernel
theorem dX7_note_43 : decode cX7_note 43 = .ok (.ifCond .ne 7, 3) := by decide +kernel
theorem dX7_note_46 : decode cX7_note 46 = .ok (.iconst 2, 1) := by decide +kernel
theorem dX7_note_47 : decode cX7_note 47 = .ok (.goto 30, 3) := by decide +kernel
theorem dX7_note_50 : decode cX7_note 50 = .ok (.aload_n 0, 1) := by decide +kernel
theorem dX7_note_51 : decode cX7_note 51 = .ok (.iload_n 1, 1) := by decide +kernel
theorem dX7_note_52 : decode cX7_note 52 = .ok (.iload_n 2, 1) := by decide +kernel
theorem dX7_note_53 : decode cX7_note 53 = .ok (.invokevirtual 116, 3) := by decide +kernel
theorem dX7_note_56 : decode cX7_note 56 = .ok (.ifCond .ne 7, 3) := by decide +kernel
theorem dX7_note_59 : decode cX7_note 59 = .ok (.iconst 3, 1) := by decide +kernel
theorem dX7_note_60 : decode cX7_note 60 = .ok (.goto 17, 3) := by decide +kernel
theorem dX7_note_63 : decode cX7_note 63 = .ok (.aload_n 0, 1) := by decide +kernel
theorem dX7_note_64 : decode cX7_note 64 = .ok (.getfield 94, 3) := by decide +kernel
theorem dX7_note_67 : decode cX7_note 67 = .ok (.bipush 90, 2) := by decide +kernel
theorem dX7_note_69 : decode cX7_note 69 = .ok (.if_icmp .ne 7, 3) := by decide +kernel
theorem dX7_note_72 : decode cX7_note 72 = .ok (.iconst 4, 1) := by decide +kernel
theorem dX7_note_73 : decode cX7_note 73 = .ok (.goto 4, 3) := by decide +kernel
theorem dX7_note_76 : decode cX7_note 76 = .ok (.iconst 0, 1) := by decide +kernel
theorem dX7_note_77 : decode cX7_note 77 = .ok (.invokevirtual 109, 3) := by decide +kernel
theorem dX7_note_80 : decode cX7_note 80 = .ok (.ifCond .ne 5, 3) := by decide +kernel
theorem dX7_note_83 : decode cX7_note 83 = .ok (.iconst 0, 1) := by decide +kernel
theorem dX7_note_84 : decode cX7_note 84 = .ok (.ireturn, 1) := by decide +kernel
theorem dX7_note_85 : decode cX7_note 85 = .ok (.aload_n 0, 1) := by decide +kernel
theorem dX7_note_86 : decode cX7_note 86 = .ok (.getfield 41, 3) := by decide +kernel
theorem dX7_note_89 : decode cX7_note 89 = .ok (.aload_n 0, 1) := by decide +kernel
theorem dX7_note_90 : decode cX7_note 90 = .ok (.getfield 91, 3) := by decide +kernel
theorem dX7_note_93 : decode cX7_note 93 = .ok (.iload_n 3, 1) := by decide +kernel
theorem dX7_note_94 : decode cX7_note 94 = .ok (.iastore, 1) := by decide +kernel
theorem dX7_note_95 : decode cX7_note 95 = .ok (.aload_n 0, 1) := by decide +kernel
theorem dX7_note_96 : decode cX7_note 96 = .ok (.dup, 1) := by decide +kernel
theorem dX7_note_97 : decode cX7_note 97 = .ok (.getfield 91, 3) := by decide +kernel
theorem dX7_note_100 : decode cX7_note 100 = .ok (.iconst 1, 1) := by decide +kernel
theorem dX7_note_101 : decode cX7_note 101 = .ok (.iadd, 1) := by decide +kernel
theorem dX7_note_102 : decode cX7_note 102 = .ok (.putfield 91, 3) := by decide +kernel
theorem dX7_note_105 : decode cX7_note 105 = .ok (.aload_n 0, 1) := by decide +kernel
theorem dX7_note_106 : decode cX7_note 106 = .ok (.getfield 38, 3) := by decide +kernel
theorem dX7_note_109 : decode cX7_note 109 = .ok (.aload_n 0, 1) := by decide +kernel
theorem dX7_note_110 : decode cX7_note 110 = .ok (.getfield 91, 3) := by decide +kernel
theorem dX7_note_113 : decode cX7_note 113 = .ok (.iconst 1, 1) := by decide +kernel
theorem dX7_note_114 : decode cX7_note 114 = .ok (.isub, 1) := by decide +kernel
theorem dX7_note_115 : decode cX7_note 115 = .ok (.aload_n 0, 1) := by decide +kernel
theorem dX7_note_116 : decode cX7_note 116 = .ok (.iload_n 1, 1) := by decide +kernel
theorem dX7_note_117 : decode cX7_note 117 = .ok (.iconst 2, 1) := by decide +kernel
theorem dX7_note_118 : decode cX7_note 118 = .ok (.iload_n 2, 1) := by decide +kernel
theorem dX7_note_119 : decode cX7_note 119 = .ok (.aload_n 0, 1) := by decide +kernel
theorem dX7_note_120 : decode cX7_note 120 = .ok (.getfield 91, 3) := by decide +kernel
theorem dX7_note_123 : decode cX7_note 123 = .ok (.iconst 1, 1) := by decide +kernel
theorem dX7_note_124 : decode cX7_note 124 = .ok (.isub, 1) := by decide +kernel
theorem dX7_note_125 : decode cX7_note 125 = .ok (.invokevirtual 112, 3) := by decide +kernel
theorem dX7_note_128 : decode cX7_note 128 = .ok (.iastore, 1) := by decide +kernel
theorem dX7_note_129 : decode cX7_note 129 = .ok (.aload_n 0, 1) := by decide +kernel
theorem dX7_note_130 : decode cX7_note 130 = .ok (.getfield 91, 3) := by decide +kernel
theorem dX7_note_133 : decode cX7_note 133 = .ok (.iconst 1, 1) := by decide +kernel
theorem dX7_note_134 : decode cX7_note 134 = .ok (.isub, 1) := by decide +kernel
theorem dX7_note_135 : decode cX7_note 135 = .ok (.ireturn, 1) := by decide +kernel
theorem dX7_move_0 : decode cX7_move 0 = .ok (.iload_n 1, 1) := by decide +kernel
theorem dX7_move_1 : decode cX7_move 1 = .ok (.invokestatic 101, 3) := by decide +kernel
theorem dX7_move_4 : decode cX7_move 4 = .ok (.ifCond .eq 25, 3) := by decide +kernel
theorem dX7_move_7 : decode cX7_move 7 = .ok (.aload_n 0, 1) := by decide +kernel
theorem dX7_move_8 : decode cX7_move 8 = .ok (.iload_n 1, 1) := by decide +kernel
theorem dX7_move_9 : decode cX7_move 9 = .ok (.iload_n 2, 1) := by decide +kernel
theorem dX7_move_10 : decode cX7_move 10 = .ok (.invokevirtual 126, 3) := by decide +kernel
theorem dX7_move_13 : decode cX7_move 13 = .ok (.ifCond .eq 16, 3) := by decide +kernel
theorem dX7_move_16 : decode cX7_move 16 = .ok (.aload_n 0, 1) := by decide +kernel
theorem dX7_move_17 : decode cX7_move 17 = .ok (.iload_n 1, 1) := by decide +kernel
theorem dX7_move_18 : decode cX7_move 18 = .ok (.iload_n 3, 1) := by decide +kernel
theorem dX7_move_19 : decode cX7_move 19 = .ok (.invokevirtual 105, 3) := by decide +kernel
theorem dX7_move_22 : decode cX7_move 22 = .ok (.ifCond .eq 7, 3) := by decide +kernel
theorem dX7_move_25 : decode cX7_move 25 = .ok (.iconst 1, 1) := by decide +kernel
theorem dX7_move_26 : decode cX7_move 26 = .ok (.goto 4, 3) := by decide +kernel
theorem dX7_move_29 : decode cX7_move 29 = .ok (.iconst 0, 1) := by decide +kernel
theorem dX7_move_30 : decode cX7_move 30 = .ok (.istore 4, 2) := by decide +kernel
theorem dX7_move_32 : decode cX7_move 32 = .ok (.aload_n 0, 1) := by decide +kernel
theorem dX7_move_33 : decode cX7_move 33 = .ok (.iload 4, 2) := by decide +kernel
theorem dX7_move_35 : decode cX7_move 35 = .ok (.ifCond .ne 7, 3) := by decide +kernel
theorem dX7_move_38 : decode cX7_move 38 = .ok (.iconst 1, 1) := by decide +kernel
theorem dX7_move_39 : decode cX7_move 39 = .ok (.goto 30, 3) := by decide +kernel
theorem dX7_move_42 : decode cX7_move 42 = .ok (.aload_n 0, 1) := by decide +kernel
theorem dX7_move_43 : decode cX7_move 43 = .ok (.iload_n 1, 1) := by decide +kernel
theorem dX7_move_44 : decode cX7_move 44 = .ok (.iload_n 3, 1) := by decide +kernel
theorem dX7_move_45 : decode cX7_move 45 = .ok (.invokevirtual 116, 3) := by decide +kernel
theorem dX7_move_48 : decode cX7_move 48 = .ok (.ifCond .ne 7, 3) := by decide +kernel
theorem dX7_move_51 : decode cX7_move 51 = .ok (.iconst 2, 1) := by decide +kernel
theorem dX7_move_52 : decode cX7_move 52 = .ok (.goto 17, 3) := by decide +kernel
theorem dX7_move_55 : decode cX7_move 55 = .ok (.aload_n 0, 1) := by decide +kernel
theorem dX7_move_56 : decode cX7_move 56 = .ok (.getfield 94, 3) := by decide +kernel
theorem dX7_move_59 : decode cX7_move 59 = .ok (.bipush 90, 2) := by decide +kernel
theorem dX7_move_61 : decode cX7_move 61 = .ok (.if_icmp .ne 7, 3) := by decide +kernel
theorem dX7_move_64 : decode cX7_move 64 = .ok (.iconst 3, 1) := by decide +kernel
theorem dX7_move_65 : decode cX7_move 65 = .ok (.goto 4, 3) := by decide +kernel
theorem dX7_move_68 : decode cX7_move 68 = .ok (.iconst 0, 1) := by decide +kernel
theorem dX7_move_69 : decode cX7_move 69 = .ok (.invokevirtual 109, 3) := by decide +kernel
theorem dX7_move_72 : decode cX7_move 72 = .ok (.ifCond .eq 13, 3) := by decide +kernel
theorem dX7_move_75 : decode cX7_move 75 = .ok (.aload_n 0, 1) := by decide +kernel
theorem dX7_move_76 : decode cX7_move 76 = .ok (.iload_n 1, 1) := by decide +kernel
theorem dX7_move_77 : decode cX7_move 77 = .ok (.iconst 3, 1) := by decide +kernel
theorem dX7_move_78 : decode cX7_move 78 = .ok (.iload_n 3, 1) := by decide +kernel
theorem dX7_move_79 : decode cX7_move 79 = .ok (.iload_n 2, 1) := by decide +kernel
theorem dX7_move_80 : decode cX7_move 80 = .ok (.invokevirtual 112, 3) := by decide +kernel
theorem dX7_move_83 : decode cX7_move 83 = .ok (.istore 5, 2) := by decide +kernel
theorem dX7_move_85 : decode cX7_move 85 = .ok (.return_, 1) := by decide +kernel
theorem dX7_sync_0 : decode cX7_sync 0 = .ok (.aload_n 0, 1) := by decide +kernel
theorem dX7_sync_1 : decode cX7_sync 1 = .ok (.iload_n 1, 1) := by decide +kernel
theorem dX7_sync_2 : decode cX7_sync 2 = .ok (.invokestatic 101, 3) := by decide +kernel
theorem dX7_sync_5 : decode cX7_sync 5 = .ok (.ifCond .eq 14, 3) := by decide +kernel
theorem dX7_sync_8 : decode cX7_sync 8 = .ok (.iload_n 2, 1) := by decide +kernel
theorem dX7_sync_9 : decode cX7_sync 9 = .ok (.invokestatic 101, 3) := by decide +kernel
theorem dX7_sync_12 : decode cX7_sync 12 = .ok (.ifCond .eq 7, 3) := by decide +kernel
theorem dX7_sync_15 : decode cX7_sync 15 = .ok (.iconst 0, 1) := by decide +kernel
theorem dX7_sync_16 : decode cX7_sync 16 = .ok (.goto 4, 3) := by decide +kernel
theorem dX7_sync_19 : decode cX7_sync 19 = .ok (.iconst 1, 1) := by decide +kernel
theorem dX7_sync_20 : decode cX7_sync 20 = .ok (.invokevirtual 109, 3) := by decide +kernel
theorem dX7_sync_23 : decode cX7_sync 23 = .ok (.ifCond .ne 5, 3) := by decide +kernel
theorem dX7_sync_26 : decode cX7_sync 26 = .ok (.iconst 0, 1) := by decide +kernel
theorem dX7_sync_27 : decode cX7_sync 27 = .ok (.ireturn, 1) := by decide +kernel
theorem dX7_sync_28 : decode cX7_sync 28 = .ok (.aload_n 0, 1) := by decide +kernel
theorem dX7_sync_29 : decode cX7_sync 29 = .ok (.getfield 47, 3) := by decide +kernel
theorem dX7_sync_32 : decode cX7_sync 32 = .ok (.iload_n 2, 1) := by decide +kernel
theorem dX7_sync_33 : decode cX7_sync 33 = .ok (.iaload, 1) := by decide +kernel
theorem dX7_sync_34 : decode cX7_sync 34 = .ok (.istore_n 3, 1) := by decide +kernel
theorem dX7_sync_35 : decode cX7_sync 35 = .ok (.iconst 0, 1) := by decide +kernel
theorem dX7_sync_36 : decode cX7_sync 36 = .ok (.istore 4, 2) := by decide +kernel
theorem dX7_sync_38 : decode cX7_sync 38 = .ok (.iload 4, 2) := by decide +kernel
theorem dX7_sync_40 : decode cX7_sync 40 = .ok (.aload_n 0, 1) := by decide +kernel
theorem dX7_sync_41 : decode cX7_sync 41 = .ok (.getfield 47, 3) := by decide +kernel
theorem dX7_sync_44 : decode cX7_sync 44 = .ok (.iload_n 1, 1) := by decide +kernel
theorem dX7_sync_45 : decode cX7_sync 45 = .ok (.iaload, 1) := by decide +kernel
theorem dX7_sync_46 : decode cX7_sync 46 = .ok (.if_icmp .ge 50, 3) := by decide +kernel
theorem dX7_sync_49 : decode cX7_sync 49 = .ok (.iload_n 1, 1) := by decide +kernel
theorem dX7_sync_50 : decode cX7_sync 50 = .ok (.iload_n 2, 1) := by decide +kernel
theorem dX7_sync_51 : decode cX7_sync 51 = .ok (.if_icmp .eq 45, 3) := by decide +kernel
theorem dX7_sync_54 : decode cX7_sync 54 = .ok (.aload_n 0, 1) := by decide +kernel
theorem dX7_sync_55 : decode cX7_sync 55 = .ok (.getfield 50, 3) := by decide +kernel
theorem dX7_sync_58 : decode cX7_sync 58 = .ok (.bipush 90, 2) := by decide +kernel
theorem dX7_sync_60 : decode cX7_sync 60 = .ok (.iload_n 1, 1) := by decide +kernel
theorem dX7_sync_61 : decode cX7_sync 61 = .ok (.imul, 1) := by decide +kernel
theorem dX7_sync_62 : decode cX7_sync 62 = .ok (.iload 4, 2) := by decide +kernel
theorem dX7_sync_64 : decode cX7_sync 64 = .ok (.iadd, 1) := by decide +kernel
theorem dX7_sync_65 : decode cX7_sync 65 = .ok (.iaload, 1) := by decide +kernel
theorem dX7_sync_66 : decode cX7_sync 66 = .ok (.istore 5, 2) := by decide +kernel
theorem dX7_sync_68 : decode cX7_sync 68 = .ok (.aload_n 0, 1) := by decide +kernel
theorem dX7_sync_69 : decode cX7_sync 69 = .ok (.getfield 53, 3) := by decide +kernel
theorem dX7_sync_72 : decode cX7_sync 72 = .ok (.bipush 90, 2) := by decide +kernel
theorem dX7_sync_74 : decode cX7_sync 74 = .ok (.iload_n 2, 1) := by decide +kernel
theorem dX7_sync_75 : decode cX7_sync 75 = .ok (.imul, 1) := by decide +kernel
theorem dX7_sync_76 : decode cX7_sync 76 = .ok (.iload 5, 2) := by decide +kernel
theorem dX7_sync_78 : decode cX7_sync 78 = .ok (.iadd, 1) := by decide +kernel
theorem dX7_sync_79 : decode cX7_sync 79 = .ok (.baload, 1) := by decide +kernel
theorem dX7_sync_80 : decode cX7_sync 80 = .ok (.ifCond .ne 10, 3) := by decide +kernel
theorem dX7_sync_83 : decode cX7_sync 83 = .ok (.aload_n 0, 1) := by decide +kernel
theorem dX7_sync_84 : decode cX7_sync 84 = .ok (.iload_n 2, 1) := by decide +kernel
theorem dX7_sync_85 : decode cX7_sync 85 = .ok (.iload 5, 2) := by decide +kernel
theorem dX7_sync_87 : decode cX7_sync 87 = .ok (.invokevirtual 97, 3) := by decide +kernel
theorem dX7_sync_90 : decode cX7_sync 90 = .ok (.iinc 4 1, 3) := by decide +kernel
theorem dX7_sync_93 : decode cX7_sync 93 = .ok (.goto (-55), 3) := by decide +kernel
theorem dX7_sync_96 : decode cX7_sync 96 = .ok (.aload_n 0, 1) := by decide +kernel
theorem dX7_sync_97 : decode cX7_sync 97 = .ok (.getfield 44, 3) := by decide +kernel
theorem dX7_sync_100 : decode cX7_sync 100 = .ok (.iload_n 2, 1) := by decide +kernel
theorem dX7_sync_101 : decode cX7_sync 101 = .ok (.aload_n 0, 1) := by decide +kernel
theorem dX7_sync_102 : decode cX7_sync 102 = .ok (.getfield 44, 3) := by decide +kernel
theorem dX7_sync_105 : decode cX7_sync 105 = .ok (.iload_n 1, 1) := by decide +kernel
theorem dX7_sync_106 : decode cX7_sync 106 = .ok (.iaload, 1) := by decide +kernel
theorem dX7_sync_107 : decode cX7_sync 107 = .ok (.aload_n 0, 1) := by decide +kernel
theorem dX7_sync_108 : decode cX7_sync 108 = .ok (.getfield 44, 3) := by decide +kernel
theorem dX7_sync_111 : decode cX7_sync 111 = .ok (.iload_n 2, 1) := by decide +kernel
theorem dX7_sync_112 : decode cX7_sync 112 = .ok (.iaload, 1) := by decide +kernel
theorem dX7_sync_113 : decode cX7_sync 113 = .ok (.if_icmp .le 12, 3) := by decide +kernel
theorem dX7_sync_116 : decode cX7_sync 116 = .ok (.aload_n 0, 1) := by decide +kernel
theorem dX7_sync_117 : decode cX7_sync 117 = .ok (.getfield 44, 3) := by decide +kernel
theorem dX7_sync_120 : decode cX7_sync 120 = .ok (.iload_n 1, 1) := by decide +kernel
theorem dX7_sync_121 : decode cX7_sync 121 = .ok (.iaload, 1) := by decide +kernel
theorem dX7_sync_122 : decode cX7_sync 122 = .ok (.goto 9, 3) := by decide +kernel
theorem dX7_sync_125 : decode cX7_sync 125 = .ok (.aload_n 0, 1) := by decide +kernel
theorem dX7_sync_126 : decode cX7_sync 126 = .ok (.getfield 44, 3) := by decide +kernel
theorem dX7_sync_129 : decode cX7_sync 129 = .ok (.iload_n 2, 1) := by decide +kernel
theorem dX7_sync_130 : decode cX7_sync 130 = .ok (.iaload, 1) := by decide +kernel
theorem dX7_sync_131 : decode cX7_sync 131 = .ok (.iastore, 1) := by decide +kernel
theorem dX7_sync_132 : decode cX7_sync 132 = .ok (.aload_n 0, 1) := by decide +kernel
theorem dX7_sync_133 : decode cX7_sync 133 = .ok (.getfield 47, 3) := by decide +kernel
theorem dX7_sync_136 : decode cX7_sync 136 = .ok (.iload_n 2, 1) := by decide +kernel
theorem dX7_sync_137 : decode cX7_sync 137 = .ok (.iaload, 1) := by decide +kernel
theorem dX7_sync_138 : decode cX7_sync 138 = .ok (.iload_n 3, 1) := by decide +kernel
theorem dX7_sync_139 : decode cX7_sync 139 = .ok (.isub, 1) := by decide +kernel
theorem dX7_sync_140 : decode cX7_sync 140 = .ok (.ireturn, 1) := by decide +kernel
theorem dX7_isGreater_0 : decode cX7_isGreater 0 = .ok (.aload_n 0, 1) := by decide +kernel
theorem dX7_isGreater_1 : decode cX7_isGreater 1 = .ok (.getfield 13, 3) := by decide +kernel
theorem dX7_isGreater_4 : decode cX7_isGreater 4 = .ok (.iload_n 1, 1) := by decide +kernel
theorem dX7_isGreater_5 : decode cX7_isGreater 5 = .ok (.iaload, 1) := by decide +kernel
theorem dX7_isGreater_6 : decode cX7_isGreater 6 = .ok (.aload_n 0, 1) := by decide +kernel
theorem dX7_isGreater_7 : decode cX7_isGreater 7 = .ok (.getfield 13, 3) := by decide +kernel
theorem dX7_isGreater_10 : decode cX7_isGreater 10 = .ok (.iload_n 2, 1) := by decide +kernel
theorem dX7_isGreater_11 : decode cX7_isGreater 11 = .ok (.iaload, 1) := by decide +kernel
theorem dX7_isGreater_12 : decode cX7_isGreater 12 = .ok (.if_icmp .eq 26, 3) := by decide +kernel
theorem dX7_isGreater_15 : decode cX7_isGreater 15 = .ok (.aload_n 0, 1) := by decide +kernel
theorem dX7_isGreater_16 : decode cX7_isGreater 16 = .ok (.getfield 13, 3) := by decide +kernel
theorem dX7_isGreater_19 : decode cX7_isGreater 19 = .ok (.iload_n 1, 1) := by decide +kernel
theorem dX7_isGreater_20 : decode cX7_isGreater 20 = .ok (.iaload, 1) := by decide +kernel
theorem dX7_isGreater_21 : decode cX7_isGreater 21 = .ok (.aload_n 0, 1) := by decide +kernel
theorem dX7_isGreater_22 : decode cX7_isGreater 22 = .ok (.getfield 13, 3) := by decide +kernel
theorem dX7_isGreater_25 : decode cX7_isGreater 25 = .ok (.iload_n 2, 1) := by decide +kernel
theorem dX7_isGreater_26 : decode cX7_isGreater 26 = .ok (.iaload, 1) := by decide +kernel
theorem dX7_isGreater_27 : decode cX7_isGreater 27 = .ok (.if_icmp .le 7, 3) := by decide +kernel
theorem dX7_isGreater_30 : decode cX7_isGreater 30 = .ok (.iconst 1, 1) := by decide +kernel
theorem dX7_isGreater_31 : decode cX7_isGreater 31 = .ok (.goto 27, 3) := by decide +kernel
theorem dX7_isGreater_34 : decode cX7_isGreater 34 = .ok (.iconst 0, 1) := by decide +kernel
theorem dX7_isGreater_35 : decode cX7_isGreater 35 = .ok (.goto 23, 3) := by decide +kernel
theorem dX7_isGreater_38 : decode cX7_isGreater 38 = .ok (.aload_n 0, 1) := by decide +kernel
theorem dX7_isGreater_39 : decode cX7_isGreater 39 = .ok (.getfield 16, 3) := by decide +kernel
theorem dX7_isGreater_42 : decode cX7_isGreater 42 = .ok (.iload_n 1, 1) := by decide +kernel
theorem dX7_isGreater_43 : decode cX7_isGreater 43 = .ok (.iaload, 1) := by decide +kernel
theorem dX7_isGreater_44 : decode cX7_isGreater 44 = .ok (.aload_n 0, 1) := by decide +kernel
theorem dX7_isGreater_45 : decode cX7_isGreater 45 = .ok (.getfield 16, 3) := by decide +kernel
theorem dX7_isGreater_48 : decode cX7_isGreater 48 = .ok (.iload_n 2, 1) := by decide +kernel
theorem dX7_isGreater_49 : decode cX7_isGreater 49 = .ok (.iaload, 1) := by decide +kernel
theorem dX7_isGreater_50 : decode cX7_isGreater 50 = .ok (.if_icmp .le 7, 3) := by decide +kernel
theorem dX7_isGreater_53 : decode cX7_isGreater 53 = .ok (.iconst 1, 1) := by decide +kernel
theorem dX7_isGreater_54 : decode cX7_isGreater 54 = .ok (.goto 4, 3) := by decide +kernel
theorem dX7_isGreater_57 : decode cX7_isGreater 57 = .ok (.iconst 0, 1) := by decide +kernel
theorem dX7_isGreater_58 : decode cX7_isGreater 58 = .ok (.ireturn, 1) := by decide +kernel
theorem dX7_pileUp_0 : decode cX7_pileUp 0 = .ok (.iload_n 3, 1) := by decide +kernel
theorem dX7_pileUp_1 : decode cX7_pileUp 1 = .ok (.istore 4, 2) := by decide +kernel
theorem dX7_pileUp_3 : decode cX7_pileUp 3 = .ok (.iconst 0, 1) := by decide +kernel
theorem dX7_pileUp_4 : decode cX7_pileUp 4 = .ok (.istore 5, 2) := by decide +kernel
theorem dX7_pileUp_6 : decode cX7_pileUp 6 = .ok (.iload 5, 2) := by decide +kernel
theorem dX7_pileUp_8 : decode cX7_pileUp 8 = .ok (.aload_n 0, 1) := by decide +kernel
theorem dX7_pileUp_9 : decode cX7_pileUp 9 = .ok (.getfield 88, 3) := by decide +kernel
theorem dX7_pileUp_12 : decode cX7_pileUp 12 = .ok (.if_icmp .ge 102, 3) := by decide +kernel
theorem dX7_pileUp_15 : decode cX7_pileUp 15 = .ok (.aload_n 0, 1) := by decide +kernel
theorem dX7_pileUp_16 : decode cX7_pileUp 16 = .ok (.iload_n 1, 1) := by decide +kernel
theorem dX7_pileUp_17 : decode cX7_pileUp 17 = .ok (.iload 5, 2) := by decide +kernel
theorem dX7_pileUp_19 : decode cX7_pileUp 19 = .ok (.invokevirtual 105, 3) := by decide +kernel
theorem dX7_pileUp_22 : decode cX7_pileUp 22 = .ok (.ifCond .eq 86, 3) := by decide +kernel
theorem dX7_pileUp_25 : decode cX7_pileUp 25 = .ok (.aload_n 0, 1) := by decide +kernel
theorem dX7_pileUp_26 : decode cX7_pileUp 26 = .ok (.getfield 28, 3) := by decide +kernel
theorem dX7_pileUp_29 : decode cX7_pileUp 29 = .ok (.iload 5, 2) := by decide +kernel
theorem dX7_pileUp_31 : decode cX7_pileUp 31 = .ok (.iaload, 1) := by decide +kernel
theorem dX7_pileUp_32 : decode cX7_pileUp 32 = .ok (.iload_n 2, 1) := by decide +kernel
theorem dX7_pileUp_33 : decode cX7_pileUp 33 = .ok (.if_icmp .ne 75, 3) := by decide +kernel
theorem dX7_pileUp_36 : decode cX7_pileUp 36 = .ok (.iload 4, 2) := by decide +kernel
theorem dX7_pileUp_38 : decode cX7_pileUp 38 = .ok (.istore 6, 2) := by decide +kernel
theorem dX7_pileUp_40 : decode cX7_pileUp 40 = .ok (.iload 6, 2) := by decide +kernel
theorem dX7_pileUp_42 : decode cX7_pileUp 42 = .ok (.iload_n 3, 1) := by decide +kernel
theorem dX7_pileUp_43 : decode cX7_pileUp 43 = .ok (.if_icmp .le 53, 3) := by decide +kernel
theorem dX7_pileUp_46 : decode cX7_pileUp 46 = .ok (.aload_n 0, 1) := by decide +kernel
theorem dX7_pileUp_47 : decode cX7_pileUp 47 = .ok (.aload_n 0, 1) := by decide +kernel
theorem dX7_pileUp_48 : decode cX7_pileUp 48 = .ok (.getfield 25, 3) := by decide +kernel
theorem dX7_pileUp_51 : decode cX7_pileUp 51 = .ok (.aload_n 0, 1) := by decide +kernel
theorem dX7_pileUp_52 : decode cX7_pileUp 52 = .ok (.getfield 68, 3) := by decide +kernel
theorem dX7_pileUp_55 : decode cX7_pileUp 55 = .ok (.iload 6, 2) := by decide +kernel
theorem dX7_pileUp_57 : decode cX7_pileUp 57 = .ok (.iconst 1, 1) := by decide +kernel
theorem dX7_pileUp_58 : decode cX7_pileUp 58 = .ok (.isub, 1) := by decide +kernel
theorem dX7_pileUp_59 : decode cX7_pileUp 59 = .ok (.iaload, 1) := by decide +kernel
theorem dX7_pileUp_60 : decode cX7_pileUp 60 = .ok (.iaload, 1) := by decide +kernel
theorem dX7_pileUp_61 : decode cX7_pileUp 61 = .ok (.aload_n 0, 1) := by decide +kernel
theorem dX7_pileUp_62 : decode cX7_pileUp 62 = .ok (.getfield 25, 3) := by decide +kernel
theorem dX7_pileUp_65 : decode cX7_pileUp 65 = .ok (.iload 5, 2) := by decide +kernel
theorem dX7_pileUp_67 : decode cX7_pileUp 67 = .ok (.iaload, 1) := by decide +kernel
theorem dX7_pileUp_68 : decode cX7_pileUp 68 = .ok (.invokevirtual 129, 3) := by decide +kernel
theorem dX7_pileUp_71 : decode cX7_pileUp 71 = .ok (.ifCond .eq 25, 3) := by decide +kernel
theorem dX7_pileUp_74 : decode cX7_pileUp 74 = .ok (.aload_n 0, 1) := by decide +kernel
theorem dX7_pileUp_75 : decode cX7_pileUp 75 = .ok (.getfield 68, 3) := by decide +kernel
theorem dX7_pileUp_78 : decode cX7_pileUp 78 = .ok (.iload 6, 2) := by decide +kernel
theorem dX7_pileUp_80 : decode cX7_pileUp 80 = .ok (.aload_n 0, 1) := by decide +kernel
theorem dX7_pileUp_81 : decode cX7_pileUp 81 = .ok (.getfield 68, 3) := by decide +kernel
theorem dX7_pileUp_84 : decode cX7_pileUp 84 = .ok (.iload 6, 2) := by decide +kernel
theorem dX7_pileUp_86 : decode cX7_pileUp 86 = .ok (.iconst 1, 1) := by decide +kernel
theorem dX7_pileUp_87 : decode cX7_pileUp 87 = .ok (.isub, 1) := by decide +kernel
theorem dX7_pileUp_88 : decode cX7_pileUp 88 = .ok (.iaload, 1) := by decide +kernel
theorem dX7_pileUp_89 : decode cX7_pileUp 89 = .ok (.iastore, 1) := by decide +kernel
theorem dX7_pileUp_90 : decode cX7_pileUp 90 = .ok (.iinc 6 (-1), 3) := by decide +kernel
theorem dX7_pileUp_93 : decode cX7_pileUp 93 = .ok (.goto (-53), 3) := by decide +kernel
theorem dX7_pileUp_96 : decode cX7_pileUp 96 = .ok (.aload_n 0, 1) := by decide +kernel
theorem dX7_pileUp_97 : decode cX7_pileUp 97 = .ok (.getfield 68, 3) := by decide +kernel
theorem dX7_pileUp_100 : decode cX7_pileUp 100 = .ok (.iload 6, 2) := by decide +kernel
theorem dX7_pileUp_102 : decode cX7_pileUp 102 = .ok (.iload 5, 2) := by decide +kernel
theorem dX7_pileUp_104 : decode cX7_pileUp 104 = .ok (.iastore, 1) := by decide +kernel
theorem dX7_pileUp_105 : decode cX7_pileUp 105 = .ok (.iinc 4 1, 3) := by decide +kernel
theorem dX7_pileUp_108 : decode cX7_pileUp 108 = .ok (.iinc 5 1, 3) := by decide +kernel
theorem dX7_pileUp_111 : decode cX7_pileUp 111 = .ok (.goto (-105), 3) := by decide +kernel
theorem dX7_pileUp_114 : decode cX7_pileUp 114 = .ok (.iload 4, 2) := by decide +kernel
theorem dX7_pileUp_116 : decode cX7_pileUp 116 = .ok (.ireturn, 1) := by decide +kernel
theorem dX7_arrange_0 : decode cX7_arrange 0 = .ok (.aload_n 0, 1) := by decide +kernel
theorem dX7_arrange_1 : decode cX7_arrange 1 = .ok (.iconst 0, 1) := by decide +kernel
theorem dX7_arrange_2 : decode cX7_arrange 2 = .ok (.putfield 132, 3) := by decide +kernel
theorem dX7_arrange_5 : decode cX7_arrange 5 = .ok (.aload_n 0, 1) := by decide +kernel
theorem dX7_arrange_6 : decode cX7_arrange 6 = .ok (.iconst 0, 1) := by decide +kernel
theorem dX7_arrange_7 : decode cX7_arrange 7 = .ok (.putfield 123, 3) := by decide +kernel
theorem dX7_arrange_10 : decode cX7_arrange 10 = .ok (.aload_n 0, 1) := by decide +kernel
theorem dX7_arrange_11 : decode cX7_arrange 11 = .ok (.iload_n 1, 1) := by decide +kernel
theorem dX7_arrange_12 : decode cX7_arrange 12 = .ok (.iconst (-1), 1) := by decide +kernel
theorem dX7_arrange_13 : decode cX7_arrange 13 = .ok (.iconst 0, 1) := by decide +kernel
theorem dX7_arrange_14 : decode cX7_arrange 14 = .ok (.invokevirtual 135, 3) := by decide +kernel
theorem dX7_arrange_17 : decode cX7_arrange 17 = .ok (.istore_n 2, 1) := by decide +kernel
theorem dX7_arrange_18 : decode cX7_arrange 18 = .ok (.iload_n 2, 1) := by decide +kernel
theorem dX7_arrange_19 : decode cX7_arrange 19 = .ok (.ifCond .le 73, 3) := by decide +kernel
theorem dX7_arrange_22 : decode cX7_arrange 22 = .ok (.iinc 2 (-1), 3) := by decide +kernel
theorem dX7_arrange_25 : decode cX7_arrange 25 = .ok (.aload_n 0, 1) := by decide +kernel
theorem dX7_arrange_26 : decode cX7_arrange 26 = .ok (.getfield 68, 3) := by decide +kernel
theorem dX7_arrange_29 : decode cX7_arrange 29 = .ok (.iload_n 2, 1) := by decide +kernel
theorem dX7_arrange_30 : decode cX7_arrange 30 = .ok (.iaload, 1) := by decide +kernel
theorem dX7_arrange_31 : decode cX7_arrange 31 = .ok (.istore_n 3, 1) := by decide +kernel
theorem dX7_arrange_32 : decode cX7_arrange 32 = .ok (.aload_n 0, 1) := by decide +kernel
theorem dX7_arrange_33 : decode cX7_arrange 33 = .ok (.getfield 65, 3) := by decide +kernel
theorem dX7_arrange_36 : decode cX7_arrange 36 = .ok (.aload_n 0, 1) := by decide +kernel
theorem dX7_arrange_37 : decode cX7_arrange 37 = .ok (.getfield 132, 3) := by decide +kernel
theorem dX7_arrange_40 : decode cX7_arrange 40 = .ok (.iload_n 3, 1) := by decide +kernel
theorem dX7_arrange_41 : decode cX7_arrange 41 = .ok (.iastore, 1) := by decide +kernel
theorem dX7_arrange_42 : decode cX7_arrange 42 = .ok (.aload_n 0, 1) := by decide +kernel
theorem dX7_arrange_43 : decode cX7_arrange 43 = .ok (.dup, 1) := by decide +kernel
theorem dX7_arrange_44 : decode cX7_arrange 44 = .ok (.getfield 132, 3) := by decide +kernel
theorem dX7_arrange_47 : decode cX7_arrange 47 = .ok (.iconst 1, 1) := by decide +kernel
theorem dX7_arrange_48 : decode cX7_arrange 48 = .ok (.iadd, 1) := by decide +kernel
theorem dX7_arrange_49 : decode cX7_arrange 49 = .ok (.putfield 132, 3) := by decide +kernel
theorem dX7_arrange_52 : decode cX7_arrange 52 = .ok (.aload_n 0, 1) := by decide +kernel
theorem dX7_arrange_53 : decode cX7_arrange 53 = .ok (.iload_n 1, 1) := by decide +kernel
theorem dX7_arrange_54 : decode cX7_arrange 54 = .ok (.iload_n 3, 1) := by decide +kernel
theorem dX7_arrange_55 : decode cX7_arrange 55 = .ok (.invokevirtual 116, 3) := by decide +kernel
theorem dX7_arrange_58 : decode cX7_arrange 58 = .ok (.ifCond .eq 23, 3) := by decide +kernel
theorem dX7_arrange_61 : decode cX7_arrange 61 = .ok (.aload_n 0, 1) := by decide +kernel
theorem dX7_arrange_62 : decode cX7_arrange 62 = .ok (.getfield 71, 3) := by decide +kernel
theorem dX7_arrange_65 : decode cX7_arrange 65 = .ok (.aload_n 0, 1) := by decide +kernel
theorem dX7_arrange_66 : decode cX7_arrange 66 = .ok (.getfield 123, 3) := by decide +kernel
theorem dX7_arrange_69 : decode cX7_arrange 69 = .ok (.iload_n 3, 1) := by decide +kernel
theorem dX7_arrange_70 : decode cX7_arrange 70 = .ok (.iastore, 1) := by decide +kernel
theorem dX7_arrange_71 : decode cX7_arrange 71 = .ok (.aload_n 0, 1) := by decide +kernel
theorem dX7_arrange_72 : decode cX7_arrange 72 = .ok (.dup, 1) := by decide +kernel
theorem dX7_arrange_73 : decode cX7_arrange 73 = .ok (.getfield 123, 3) := by decide +kernel
theorem dX7_arrange_76 : decode cX7_arrange 76 = .ok (.iconst 1, 1) := by decide +kernel
theorem dX7_arrange_77 : decode cX7_arrange 77 = .ok (.iadd, 1) := by decide +kernel
theorem dX7_arrange_78 : decode cX7_arrange 78 = .ok (.putfield 123, 3) := by decide +kernel
theorem dX7_arrange_81 : decode cX7_arrange 81 = .ok (.aload_n 0, 1) := by decide +kernel
theorem dX7_arrange_82 : decode cX7_arrange 82 = .ok (.iload_n 1, 1) := by decide +kernel
theorem dX7_arrange_83 : decode cX7_arrange 83 = .ok (.iload_n 3, 1) := by decide +kernel
theorem dX7_arrange_84 : decode cX7_arrange 84 = .ok (.iload_n 2, 1) := by decide +kernel
theorem dX7_arrange_85 : decode cX7_arrange 85 = .ok (.invokevirtual 135, 3) := by decide +kernel
theorem dX7_arrange_88 : decode cX7_arrange 88 = .ok (.istore_n 2, 1) := by decide +kernel
theorem dX7_arrange_89 : decode cX7_arrange 89 = .ok (.goto (-71), 3) := by decide +kernel
theorem dX7_arrange_92 : decode cX7_arrange 92 = .ok (.return_, 1) := by decide +kernel
theorem dX7_placeOf_0 : decode cX7_placeOf 0 = .ok (.aload_n 0, 1) := by decide +kernel
theorem dX7_placeOf_1 : decode cX7_placeOf 1 = .ok (.getfield 38, 3) := by decide +kernel
theorem dX7_placeOf_4 : decode cX7_placeOf 4 = .ok (.iload_n 2, 1) := by decide +kernel
theorem dX7_placeOf_5 : decode cX7_placeOf 5 = .ok (.iaload, 1) := by decide +kernel
theorem dX7_placeOf_6 : decode cX7_placeOf 6 = .ok (.istore_n 3, 1) := by decide +kernel
theorem dX7_placeOf_7 : decode cX7_placeOf 7 = .ok (.iconst 0, 1) := by decide +kernel
theorem dX7_placeOf_8 : decode cX7_placeOf 8 = .ok (.istore 4, 2) := by decide +kernel
theorem dX7_placeOf_10 : decode cX7_placeOf 10 = .ok (.iload 4, 2) := by decide +kernel
theorem dX7_placeOf_12 : decode cX7_placeOf 12 = .ok (.aload_n 0, 1) := by decide +kernel
theorem dX7_placeOf_13 : decode cX7_placeOf 13 = .ok (.getfield 94, 3) := by decide +kernel
theorem dX7_placeOf_16 : decode cX7_placeOf 16 = .ok (.if_icmp .ge 85, 3) := by decide +kernel
theorem dX7_placeOf_19 : decode cX7_placeOf 19 = .ok (.aload_n 0, 1) := by decide +kernel
theorem dX7_placeOf_20 : decode cX7_placeOf 20 = .ok (.getfield 53, 3) := by decide +kernel
theorem dX7_placeOf_23 : decode cX7_placeOf 23 = .ok (.bipush 90, 2) := by decide +kernel
theorem dX7_placeOf_25 : decode cX7_placeOf 25 = .ok (.iload_n 1, 1) := by decide +kernel
theorem dX7_placeOf_26 : decode cX7_placeOf 26 = .ok (.imul, 1) := by decide +kernel
theorem dX7_placeOf_27 : decode cX7_placeOf 27 = .ok (.iload 4, 2) := by decide +kernel
theorem dX7_placeOf_29 : decode cX7_placeOf 29 = .ok (.iadd, 1) := by decide +kernel
theorem dX7_placeOf_30 : decode cX7_placeOf 30 = .ok (.baload, 1) := by decide +kernel
theorem dX7_placeOf_31 : decode cX7_placeOf 31 = .ok (.ifCond .eq 29, 3) := by decide +kernel
theorem dX7_placeOf_34 : decode cX7_placeOf 34 = .ok (.aload_n 0, 1) := by decide +kernel
theorem dX7_placeOf_35 : decode cX7_placeOf 35 = .ok (.getfield 7, 3) := by decide +kernel
theorem dX7_placeOf_38 : decode cX7_placeOf 38 = .ok (.iload 4, 2) := by decide +kernel
theorem dX7_placeOf_40 : decode cX7_placeOf 40 = .ok (.iaload, 1) := by decide +kernel
theorem dX7_placeOf_41 : decode cX7_placeOf 41 = .ok (.iconst 3, 1) := by decide +kernel
theorem dX7_placeOf_42 : decode cX7_placeOf 42 = .ok (.if_icmp .ne 18, 3) := by decide +kernel
theorem dX7_placeOf_45 : decode cX7_placeOf 45 = .ok (.aload_n 0, 1) := by decide +kernel
theorem dX7_placeOf_46 : decode cX7_placeOf 46 = .ok (.getfield 22, 3) := by decide +kernel
theorem dX7_placeOf_49 : decode cX7_placeOf 49 = .ok (.iload 4, 2) := by decide +kernel
theorem dX7_placeOf_51 : decode cX7_placeOf 51 = .ok (.iaload, 1) := by decide +kernel
theorem dX7_placeOf_52 : decode cX7_placeOf 52 = .ok (.iload_n 2, 1) := by decide +kernel
theorem dX7_placeOf_53 : decode cX7_placeOf 53 = .ok (.if_icmp .ne 7, 3) := by decide +kernel
theorem dX7_placeOf_56 : decode cX7_placeOf 56 = .ok (.iconst 1, 1) := by decide +kernel
theorem dX7_placeOf_57 : decode cX7_placeOf 57 = .ok (.goto 4, 3) := by decide +kernel
theorem dX7_placeOf_60 : decode cX7_placeOf 60 = .ok (.iconst 0, 1) := by decide +kernel
theorem dX7_placeOf_61 : decode cX7_placeOf 61 = .ok (.istore 5, 2) := by decide +kernel
theorem dX7_placeOf_63 : decode cX7_placeOf 63 = .ok (.iload 5, 2) := by decide +kernel
theorem dX7_placeOf_65 : decode cX7_placeOf 65 = .ok (.ifCond .eq 28, 3) := by decide +kernel
theorem dX7_placeOf_68 : decode cX7_placeOf 68 = .ok (.aload_n 0, 1) := by decide +kernel
theorem dX7_placeOf_69 : decode cX7_placeOf 69 = .ok (.getfield 7, 3) := by decide +kernel
theorem dX7_placeOf_72 : decode cX7_placeOf 72 = .ok (.iload_n 3, 1) := by decide +kernel
theorem dX7_placeOf_73 : decode cX7_placeOf 73 = .ok (.iaload, 1) := by decide +kernel
theorem dX7_placeOf_74 : decode cX7_placeOf 74 = .ok (.iconst 2, 1) := by decide +kernel
theorem dX7_placeOf_75 : decode cX7_placeOf 75 = .ok (.if_icmp .eq 13, 3) := by decide +kernel
theorem dX7_placeOf_78 : decode cX7_placeOf 78 = .ok (.aload_n 0, 1) := by decide +kernel
theorem dX7_placeOf_79 : decode cX7_placeOf 79 = .ok (.iload 4, 2) := by decide +kernel
theorem dX7_placeOf_81 : decode cX7_placeOf 81 = .ok (.iload_n 3, 1) := by decide +kernel
theorem dX7_placeOf_82 : decode cX7_placeOf 82 = .ok (.invokevirtual 129, 3) := by decide +kernel
theorem dX7_placeOf_85 : decode cX7_placeOf 85 = .ok (.ifCond .eq 8, 3) := by decide +kernel
theorem dX7_placeOf_88 : decode cX7_placeOf 88 = .ok (.iload 4, 2) := by decide +kernel
theorem dX7_placeOf_90 : decode cX7_placeOf 90 = .ok (.goto 4, 3) := by decide +kernel
theorem dX7_placeOf_93 : decode cX7_placeOf 93 = .ok (.iload_n 3, 1) := by decide +kernel
theorem dX7_placeOf_94 : decode cX7_placeOf 94 = .ok (.istore_n 3, 1) := by decide +kernel
theorem dX7_placeOf_95 : decode cX7_placeOf 95 = .ok (.iinc 4 1, 3) := by decide +kernel
theorem dX7_placeOf_98 : decode cX7_placeOf 98 = .ok (.goto (-88), 3) := by decide +kernel
theorem dX7_placeOf_101 : decode cX7_placeOf 101 = .ok (.iconst (-1), 1) := by decide +kernel
theorem dX7_placeOf_102 : decode cX7_placeOf 102 = .ok (.istore 4, 2) := by decide +kernel
theorem dX7_placeOf_104 : decode cX7_placeOf 104 = .ok (.iconst 0, 1) := by decide +kernel
theorem dX7_placeOf_105 : decode cX7_placeOf 105 = .ok (.istore 5, 2) := by decide +kernel
theorem dX7_placeOf_107 : decode cX7_placeOf 107 = .ok (.iload 5, 2) := by decide +kernel
theorem dX7_placeOf_109 : decode cX7_placeOf 109 = .ok (.aload_n 0, 1) := by decide +kernel
theorem dX7_placeOf_110 : decode cX7_placeOf 110 = .ok (.getfield 132, 3) := by decide +kernel
theorem dX7_placeOf_113 : decode cX7_placeOf 113 = .ok (.if_icmp .ge 83, 3) := by decide +kernel
theorem dX7_placeOf_116 : decode cX7_placeOf 116 = .ok (.aload_n 0, 1) := by decide +kernel
theorem dX7_placeOf_117 : decode cX7_placeOf 117 = .ok (.iload_n 1, 1) := by decide +kernel
theorem dX7_placeOf_118 : decode cX7_placeOf 118 = .ok (.aload_n 0, 1) := by decide +kernel
theorem dX7_placeOf_119 : decode cX7_placeOf 119 = .ok (.getfield 65, 3) := by decide +kernel
theorem dX7_placeOf_122 : decode cX7_placeOf 122 = .ok (.iload 5, 2) := by decide +kernel
theorem dX7_placeOf_124 : decode cX7_placeOf 124 = .ok (.iaload, 1) := by decide +kernel
theorem dX7_placeOf_125 : decode cX7_placeOf 125 = .ok (.invokevirtual 116, 3) := by decide +kernel
theorem dX7_placeOf_128 : decode cX7_placeOf 128 = .ok (.ifCond .eq 13, 3) := by decide +kernel
theorem dX7_placeOf_131 : decode cX7_placeOf 131 = .ok (.aload_n 0, 1) := by decide +kernel
theorem dX7_placeOf_132 : decode cX7_placeOf 132 = .ok (.getfield 65, 3) := by decide +kernel
theorem dX7_placeOf_135 : decode cX7_placeOf 135 = .ok (.iload 5, 2) := by decide +kernel
theorem dX7_placeOf_137 : decode cX7_placeOf 137 = .ok (.iaload, 1) := by decide +kernel
theorem dX7_placeOf_138 : decode cX7_placeOf 138 = .ok (.goto 5, 3) := by decide +kernel
theorem dX7_placeOf_141 : decode cX7_placeOf 141 = .ok (.iload 4, 2) := by decide +kernel
theorem dX7_placeOf_143 : decode cX7_placeOf 143 = .ok (.istore 4, 2) := by decide +kernel
theorem dX7_placeOf_145 : decode cX7_placeOf 145 = .ok (.aload_n 0, 1) := by decide +kernel
theorem dX7_placeOf_146 : decode cX7_placeOf 146 = .ok (.getfield 65, 3) := by decide +kernel
theorem dX7_placeOf_149 : decode cX7_placeOf 149 = .ok (.iload 5, 2) := by decide +kernel
theorem dX7_placeOf_151 : decode cX7_placeOf 151 = .ok (.iaload, 1) := by decide +kernel
theorem dX7_placeOf_152 : decode cX7_placeOf 152 = .ok (.aload_n 0, 1) := by decide +kernel
theorem dX7_placeOf_153 : decode cX7_placeOf 153 = .ok (.getfield 19, 3) := by decide +kernel
theorem dX7_placeOf_156 : decode cX7_placeOf 156 = .ok (.iload_n 3, 1) := by decide +kernel
theorem dX7_placeOf_157 : decode cX7_placeOf 157 = .ok (.iaload, 1) := by decide +kernel
theorem dX7_placeOf_158 : decode cX7_placeOf 158 = .ok (.if_icmp .ne 32, 3) := by decide +kernel
theorem dX7_placeOf_161 : decode cX7_placeOf 161 = .ok (.iload 4, 2) := by decide +kernel
theorem dX7_placeOf_163 : decode cX7_placeOf 163 = .ok (.iconst (-1), 1) := by decide +kernel
theorem dX7_placeOf_164 : decode cX7_placeOf 164 = .ok (.if_icmp .eq 8, 3) := by decide +kernel
theorem dX7_placeOf_167 : decode cX7_placeOf 167 = .ok (.iload 4, 2) := by decide +kernel
theorem dX7_placeOf_169 : decode cX7_placeOf 169 = .ok (.goto 20, 3) := by decide +kernel
theorem dX7_placeOf_172 : decode cX7_placeOf 172 = .ok (.aload_n 0, 1) := by decide +kernel
theorem dX7_placeOf_173 : decode cX7_placeOf 173 = .ok (.getfield 123, 3) := by decide +kernel
theorem dX7_placeOf_176 : decode cX7_placeOf 176 = .ok (.ifCond .le 12, 3) := by decide +kernel
theorem dX7_placeOf_179 : decode cX7_placeOf 179 = .ok (.aload_n 0, 1) := by decide +kernel
theorem dX7_placeOf_180 : decode cX7_placeOf 180 = .ok (.getfield 71, 3) := by decide +kernel
theorem dX7_placeOf_183 : decode cX7_placeOf 183 = .ok (.iconst 0, 1) := by decide +kernel
theorem dX7_placeOf_184 : decode cX7_placeOf 184 = .ok (.iaload, 1) := by decide +kernel
theorem dX7_placeOf_185 : decode cX7_placeOf 185 = .ok (.goto 4, 3) := by decide +kernel
theorem dX7_placeOf_188 : decode cX7_placeOf 188 = .ok (.iconst (-1), 1) := by decide +kernel
theorem dX7_placeOf_189 : decode cX7_placeOf 189 = .ok (.ireturn, 1) := by decide +kernel
theorem dX7_placeOf_190 : decode cX7_placeOf 190 = .ok (.iinc 5 1, 3) := by decide +kernel
theorem dX7_placeOf_193 : decode cX7_placeOf 193 = .ok (.goto (-86), 3) := by decide +kernel
theorem dX7_placeOf_196 : decode cX7_placeOf 196 = .ok (.iconst (-1), 1) := by decide +kernel
theorem dX7_placeOf_197 : decode cX7_placeOf 197 = .ok (.ireturn, 1) := by decide +kernel
theorem dX7_layRows_0 : decode cX7_layRows 0 = .ok (.iconst 0, 1) := by decide +kernel
theorem dX7_layRows_1 : decode cX7_layRows 1 = .ok (.istore_n 2, 1) := by decide +kernel
theorem dX7_layRows_2 : decode cX7_layRows 2 = .ok (.iload_n 2, 1) := by decide +kernel
theorem dX7_layRows_3 : decode cX7_layRows 3 = .ok (.aload_n 0, 1) := by decide +kernel
theorem dX7_layRows_4 : decode cX7_layRows 4 = .ok (.getfield 123, 3) := by decide +kernel
theorem dX7_layRows_7 : decode cX7_layRows 7 = .ok (.if_icmp .ge 16, 3) := by decide +kernel
theorem dX7_layRows_10 : decode cX7_layRows 10 = .ok (.aload_n 0, 1) := by decide +kernel
theorem dX7_layRows_11 : decode cX7_layRows 11 = .ok (.getfield 74, 3) := by decide +kernel
theorem dX7_layRows_14 : decode cX7_layRows 14 = .ok (.iload_n 2, 1) := by decide +kernel
theorem dX7_layRows_15 : decode cX7_layRows 15 = .ok (.iconst 1, 1) := by decide +kernel
theorem dX7_layRows_16 : decode cX7_layRows 16 = .ok (.iastore, 1) := by decide +kernel
theorem dX7_layRows_17 : decode cX7_layRows 17 = .ok (.iinc 2 1, 3) := by decide +kernel
theorem dX7_layRows_20 : decode cX7_layRows 20 = .ok (.goto (-18), 3) := by decide +kernel
theorem dX7_layRows_23 : decode cX7_layRows 23 = .ok (.iconst 0, 1) := by decide +kernel
theorem dX7_layRows_24 : decode cX7_layRows 24 = .ok (.istore_n 2, 1) := by decide +kernel
theorem dX7_layRows_25 : decode cX7_layRows 25 = .ok (.iload_n 2, 1) := by decide +kernel
theorem dX7_layRows_26 : decode cX7_layRows 26 = .ok (.aload_n 0, 1) := by decide +kernel
theorem dX7_layRows_27 : decode cX7_layRows 27 = .ok (.getfield 91, 3) := by decide +kernel
theorem dX7_layRows_30 : decode cX7_layRows 30 = .ok (.if_icmp .ge 78, 3) := by decide +kernel
theorem dX7_layRows_33 : decode cX7_layRows 33 = .ok (.aload_n 0, 1) := by decide +kernel
theorem dX7_layRows_34 : decode cX7_layRows 34 = .ok (.iload_n 1, 1) := by decide +kernel
theorem dX7_layRows_35 : decode cX7_layRows 35 = .ok (.iload_n 2, 1) := by decide +kernel
theorem dX7_layRows_36 : decode cX7_layRows 36 = .ok (.invokevirtual 126, 3) := by decide +kernel
theorem dX7_layRows_39 : decode cX7_layRows 39 = .ok (.ifCond .eq 12, 3) := by decide +kernel
theorem dX7_layRows_42 : decode cX7_layRows 42 = .ok (.aload_n 0, 1) := by decide +kernel
theorem dX7_layRows_43 : decode cX7_layRows 43 = .ok (.iload_n 1, 1) := by decide +kernel
theorem dX7_layRows_44 : decode cX7_layRows 44 = .ok (.iload_n 2, 1) := by decide +kernel
theorem dX7_layRows_45 : decode cX7_layRows 45 = .ok (.invokevirtual 139, 3) := by decide +kernel
theorem dX7_layRows_48 : decode cX7_layRows 48 = .ok (.goto 4, 3) := by decide +kernel
