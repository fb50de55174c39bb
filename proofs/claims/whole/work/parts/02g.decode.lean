theorem dX7_layRows_51 : decode cX7_layRows 51 = .ok (.iconst (-1), 1) := by decide +kernel
theorem dX7_layRows_52 : decode cX7_layRows 52 = .ok (.istore_n 3, 1) := by decide +kernel
theorem dX7_layRows_53 : decode cX7_layRows 53 = .ok (.iconst 0, 1) := by decide +kernel
theorem dX7_layRows_54 : decode cX7_layRows 54 = .ok (.istore 4, 2) := by decide +kernel
theorem dX7_layRows_56 : decode cX7_layRows 56 = .ok (.iload 4, 2) := by decide +kernel
theorem dX7_layRows_58 : decode cX7_layRows 58 = .ok (.aload_n 0, 1) := by decide +kernel
theorem dX7_layRows_59 : decode cX7_layRows 59 = .ok (.getfield 123, 3) := by decide +kernel
theorem dX7_layRows_62 : decode cX7_layRows 62 = .ok (.if_icmp .ge 40, 3) := by decide +kernel
theorem dX7_layRows_65 : decode cX7_layRows 65 = .ok (.aload_n 0, 1) := by decide +kernel
theorem dX7_layRows_66 : decode cX7_layRows 66 = .ok (.getfield 74, 3) := by decide +kernel
theorem dX7_layRows_69 : decode cX7_layRows 69 = .ok (.iload 4, 2) := by decide +kernel
theorem dX7_layRows_71 : decode cX7_layRows 71 = .ok (.dup2, 1) := by decide +kernel
theorem dX7_layRows_72 : decode cX7_layRows 72 = .ok (.iaload, 1) := by decide +kernel
theorem dX7_layRows_73 : decode cX7_layRows 73 = .ok (.aload_n 0, 1) := by decide +kernel
theorem dX7_layRows_74 : decode cX7_layRows 74 = .ok (.getfield 71, 3) := by decide +kernel
theorem dX7_layRows_77 : decode cX7_layRows 77 = .ok (.iload 4, 2) := by decide +kernel
theorem dX7_layRows_79 : decode cX7_layRows 79 = .ok (.iaload, 1) := by decide +kernel
theorem dX7_layRows_80 : decode cX7_layRows 80 = .ok (.iload_n 3, 1) := by decide +kernel
theorem dX7_layRows_81 : decode cX7_layRows 81 = .ok (.if_icmp .ne 12, 3) := by decide +kernel
theorem dX7_layRows_84 : decode cX7_layRows 84 = .ok (.aload_n 0, 1) := by decide +kernel
theorem dX7_layRows_85 : decode cX7_layRows 85 = .ok (.getfield 41, 3) := by decide +kernel
theorem dX7_layRows_88 : decode cX7_layRows 88 = .ok (.iload_n 2, 1) := by decide +kernel
theorem dX7_layRows_89 : decode cX7_layRows 89 = .ok (.iaload, 1) := by decide +kernel
theorem dX7_layRows_90 : decode cX7_layRows 90 = .ok (.goto 4, 3) := by decide +kernel
theorem dX7_layRows_93 : decode cX7_layRows 93 = .ok (.iconst 0, 1) := by decide +kernel
theorem dX7_layRows_94 : decode cX7_layRows 94 = .ok (.iadd, 1) := by decide +kernel
theorem dX7_layRows_95 : decode cX7_layRows 95 = .ok (.iastore, 1) := by decide +kernel
theorem dX7_layRows_96 : decode cX7_layRows 96 = .ok (.iinc 4 1, 3) := by decide +kernel
theorem dX7_layRows_99 : decode cX7_layRows 99 = .ok (.goto (-43), 3) := by decide +kernel
theorem dX7_layRows_102 : decode cX7_layRows 102 = .ok (.iinc 2 1, 3) := by decide +kernel
theorem dX7_layRows_105 : decode cX7_layRows 105 = .ok (.goto (-80), 3) := by decide +kernel
theorem dX7_layRows_108 : decode cX7_layRows 108 = .ok (.iconst 0, 1) := by decide +kernel
theorem dX7_layRows_109 : decode cX7_layRows 109 = .ok (.istore_n 2, 1) := by decide +kernel
theorem dX7_layRows_110 : decode cX7_layRows 110 = .ok (.iload_n 2, 1) := by decide +kernel
theorem dX7_layRows_111 : decode cX7_layRows 111 = .ok (.aload_n 0, 1) := by decide +kernel
theorem dX7_layRows_112 : decode cX7_layRows 112 = .ok (.getfield 123, 3) := by decide +kernel
theorem dX7_layRows_115 : decode cX7_layRows 115 = .ok (.if_icmp .ge 37, 3) := by decide +kernel
theorem dX7_layRows_118 : decode cX7_layRows 118 = .ok (.aload_n 0, 1) := by decide +kernel
theorem dX7_layRows_119 : decode cX7_layRows 119 = .ok (.getfield 74, 3) := by decide +kernel
theorem dX7_layRows_122 : decode cX7_layRows 122 = .ok (.iload_n 2, 1) := by decide +kernel
theorem dX7_layRows_123 : decode cX7_layRows 123 = .ok (.aload_n 0, 1) := by decide +kernel
theorem dX7_layRows_124 : decode cX7_layRows 124 = .ok (.getfield 74, 3) := by decide +kernel
theorem dX7_layRows_127 : decode cX7_layRows 127 = .ok (.iload_n 2, 1) := by decide +kernel
theorem dX7_layRows_128 : decode cX7_layRows 128 = .ok (.iaload, 1) := by decide +kernel
theorem dX7_layRows_129 : decode cX7_layRows 129 = .ok (.bipush 6, 2) := by decide +kernel
theorem dX7_layRows_131 : decode cX7_layRows 131 = .ok (.if_icmp .le 8, 3) := by decide +kernel
theorem dX7_layRows_134 : decode cX7_layRows 134 = .ok (.bipush 6, 2) := by decide +kernel
theorem dX7_layRows_136 : decode cX7_layRows 136 = .ok (.goto 9, 3) := by decide +kernel
theorem dX7_layRows_139 : decode cX7_layRows 139 = .ok (.aload_n 0, 1) := by decide +kernel
theorem dX7_layRows_140 : decode cX7_layRows 140 = .ok (.getfield 74, 3) := by decide +kernel
theorem dX7_layRows_143 : decode cX7_layRows 143 = .ok (.iload_n 2, 1) := by decide +kernel
theorem dX7_layRows_144 : decode cX7_layRows 144 = .ok (.iaload, 1) := by decide +kernel
theorem dX7_layRows_145 : decode cX7_layRows 145 = .ok (.iastore, 1) := by decide +kernel
theorem dX7_layRows_146 : decode cX7_layRows 146 = .ok (.iinc 2 1, 3) := by decide +kernel
theorem dX7_layRows_149 : decode cX7_layRows 149 = .ok (.goto (-39), 3) := by decide +kernel
theorem dX7_layRows_152 : decode cX7_layRows 152 = .ok (.return_, 1) := by decide +kernel
theorem dX7_isBegun_0 : decode cX7_isBegun 0 = .ok (.iload_n 1, 1) := by decide +kernel
theorem dX7_isBegun_1 : decode cX7_isBegun 1 = .ok (.ifCond .eq 17, 3) := by decide +kernel
theorem dX7_isBegun_4 : decode cX7_isBegun 4 = .ok (.aload_n 0, 1) := by decide +kernel
theorem dX7_isBegun_5 : decode cX7_isBegun 5 = .ok (.getfield 34, 3) := by decide +kernel
theorem dX7_isBegun_8 : decode cX7_isBegun 8 = .ok (.aload_n 0, 1) := by decide +kernel
theorem dX7_isBegun_9 : decode cX7_isBegun 9 = .ok (.getfield 71, 3) := by decide +kernel
theorem dX7_isBegun_12 : decode cX7_isBegun 12 = .ok (.iload_n 1, 1) := by decide +kernel
theorem dX7_isBegun_13 : decode cX7_isBegun 13 = .ok (.iaload, 1) := by decide +kernel
theorem dX7_isBegun_14 : decode cX7_isBegun 14 = .ok (.baload, 1) := by decide +kernel
theorem dX7_isBegun_15 : decode cX7_isBegun 15 = .ok (.ifCond .eq 7, 3) := by decide +kernel
theorem dX7_isBegun_18 : decode cX7_isBegun 18 = .ok (.iconst 1, 1) := by decide +kernel
theorem dX7_isBegun_19 : decode cX7_isBegun 19 = .ok (.goto 4, 3) := by decide +kernel
theorem dX7_isBegun_22 : decode cX7_isBegun 22 = .ok (.iconst 0, 1) := by decide +kernel
theorem dX7_isBegun_23 : decode cX7_isBegun 23 = .ok (.ireturn, 1) := by decide +kernel
theorem dX7_isBad_0 : decode cX7_isBad 0 = .ok (.iload_n 1, 1) := by decide +kernel
theorem dX7_isBad_1 : decode cX7_isBad 1 = .ok (.aload_n 0, 1) := by decide +kernel
theorem dX7_isBad_2 : decode cX7_isBad 2 = .ok (.getfield 123, 3) := by decide +kernel
theorem dX7_isBad_5 : decode cX7_isBad 5 = .ok (.iconst 1, 1) := by decide +kernel
theorem dX7_isBad_6 : decode cX7_isBad 6 = .ok (.isub, 1) := by decide +kernel
theorem dX7_isBad_7 : decode cX7_isBad 7 = .ok (.if_icmp .eq 27, 3) := by decide +kernel
theorem dX7_isBad_10 : decode cX7_isBad 10 = .ok (.aload_n 0, 1) := by decide +kernel
theorem dX7_isBad_11 : decode cX7_isBad 11 = .ok (.iload_n 1, 1) := by decide +kernel
theorem dX7_isBad_12 : decode cX7_isBad 12 = .ok (.iconst 1, 1) := by decide +kernel
theorem dX7_isBad_13 : decode cX7_isBad 13 = .ok (.iadd, 1) := by decide +kernel
theorem dX7_isBad_14 : decode cX7_isBad 14 = .ok (.aload_n 0, 1) := by decide +kernel
theorem dX7_isBad_15 : decode cX7_isBad 15 = .ok (.getfield 123, 3) := by decide +kernel
theorem dX7_isBad_18 : decode cX7_isBad 18 = .ok (.if_icmp .ge 9, 3) := by decide +kernel
theorem dX7_isBad_21 : decode cX7_isBad 21 = .ok (.iload_n 1, 1) := by decide +kernel
theorem dX7_isBad_22 : decode cX7_isBad 22 = .ok (.iconst 1, 1) := by decide +kernel
theorem dX7_isBad_23 : decode cX7_isBad 23 = .ok (.iadd, 1) := by decide +kernel
theorem dX7_isBad_24 : decode cX7_isBad 24 = .ok (.goto 4, 3) := by decide +kernel
theorem dX7_isBad_27 : decode cX7_isBad 27 = .ok (.iload_n 1, 1) := by decide +kernel
theorem dX7_isBad_28 : decode cX7_isBad 28 = .ok (.invokevirtual 143, 3) := by decide +kernel
theorem dX7_isBad_31 : decode cX7_isBad 31 = .ok (.ifCond .eq 7, 3) := by decide +kernel
theorem dX7_isBad_34 : decode cX7_isBad 34 = .ok (.iconst 1, 1) := by decide +kernel
theorem dX7_isBad_35 : decode cX7_isBad 35 = .ok (.goto 4, 3) := by decide +kernel
theorem dX7_isBad_38 : decode cX7_isBad 38 = .ok (.iconst 0, 1) := by decide +kernel
theorem dX7_isBad_39 : decode cX7_isBad 39 = .ok (.istore_n 2, 1) := by decide +kernel
theorem dX7_isBad_40 : decode cX7_isBad 40 = .ok (.aload_n 0, 1) := by decide +kernel
theorem dX7_isBad_41 : decode cX7_isBad 41 = .ok (.iload_n 1, 1) := by decide +kernel
theorem dX7_isBad_42 : decode cX7_isBad 42 = .ok (.invokevirtual 143, 3) := by decide +kernel
theorem dX7_isBad_45 : decode cX7_isBad 45 = .ok (.ifCond .ne 21, 3) := by decide +kernel
theorem dX7_isBad_48 : decode cX7_isBad 48 = .ok (.aload_n 0, 1) := by decide +kernel
theorem dX7_isBad_49 : decode cX7_isBad 49 = .ok (.iload_n 1, 1) := by decide +kernel
theorem dX7_isBad_50 : decode cX7_isBad 50 = .ok (.iconst 1, 1) := by decide +kernel
theorem dX7_isBad_51 : decode cX7_isBad 51 = .ok (.isub, 1) := by decide +kernel
theorem dX7_isBad_52 : decode cX7_isBad 52 = .ok (.invokevirtual 143, 3) := by decide +kernel
theorem dX7_isBad_55 : decode cX7_isBad 55 = .ok (.ifCond .ne 7, 3) := by decide +kernel
theorem dX7_isBad_58 : decode cX7_isBad 58 = .ok (.iload_n 2, 1) := by decide +kernel
theorem dX7_isBad_59 : decode cX7_isBad 59 = .ok (.ifCond .eq 7, 3) := by decide +kernel
theorem dX7_isBad_62 : decode cX7_isBad 62 = .ok (.iconst 1, 1) := by decide +kernel
theorem dX7_isBad_63 : decode cX7_isBad 63 = .ok (.goto 4, 3) := by decide +kernel
theorem dX7_isBad_66 : decode cX7_isBad 66 = .ok (.iconst 0, 1) := by decide +kernel
theorem dX7_isBad_67 : decode cX7_isBad 67 = .ok (.ireturn, 1) := by decide +kernel
theorem dX7_endOf_0 : decode cX7_endOf 0 = .ok (.iconst 0, 1) := by decide +kernel
theorem dX7_endOf_1 : decode cX7_endOf 1 = .ok (.istore_n 2, 1) := by decide +kernel
theorem dX7_endOf_2 : decode cX7_endOf 2 = .ok (.iload_n 1, 1) := by decide +kernel
theorem dX7_endOf_3 : decode cX7_endOf 3 = .ok (.istore_n 3, 1) := by decide +kernel
theorem dX7_endOf_4 : decode cX7_endOf 4 = .ok (.iload_n 3, 1) := by decide +kernel
theorem dX7_endOf_5 : decode cX7_endOf 5 = .ok (.aload_n 0, 1) := by decide +kernel
theorem dX7_endOf_6 : decode cX7_endOf 6 = .ok (.getfield 123, 3) := by decide +kernel
theorem dX7_endOf_9 : decode cX7_endOf 9 = .ok (.if_icmp .ge 31, 3) := by decide +kernel
theorem dX7_endOf_12 : decode cX7_endOf 12 = .ok (.iload_n 2, 1) := by decide +kernel
theorem dX7_endOf_13 : decode cX7_endOf 13 = .ok (.aload_n 0, 1) := by decide +kernel
theorem dX7_endOf_14 : decode cX7_endOf 14 = .ok (.getfield 74, 3) := by decide +kernel
theorem dX7_endOf_17 : decode cX7_endOf 17 = .ok (.iload_n 3, 1) := by decide +kernel
theorem dX7_endOf_18 : decode cX7_endOf 18 = .ok (.iaload, 1) := by decide +kernel
theorem dX7_endOf_19 : decode cX7_endOf 19 = .ok (.iadd, 1) := by decide +kernel
theorem dX7_endOf_20 : decode cX7_endOf 20 = .ok (.bipush 6, 2) := by decide +kernel
theorem dX7_endOf_22 : decode cX7_endOf 22 = .ok (.if_icmp .gt 18, 3) := by decide +kernel
theorem dX7_endOf_25 : decode cX7_endOf 25 = .ok (.iload_n 2, 1) := by decide +kernel
theorem dX7_endOf_26 : decode cX7_endOf 26 = .ok (.aload_n 0, 1) := by decide +kernel
theorem dX7_endOf_27 : decode cX7_endOf 27 = .ok (.getfield 74, 3) := by decide +kernel
theorem dX7_endOf_30 : decode cX7_endOf 30 = .ok (.iload_n 3, 1) := by decide +kernel
theorem dX7_endOf_31 : decode cX7_endOf 31 = .ok (.iaload, 1) := by decide +kernel
theorem dX7_endOf_32 : decode cX7_endOf 32 = .ok (.iadd, 1) := by decide +kernel
theorem dX7_endOf_33 : decode cX7_endOf 33 = .ok (.istore_n 2, 1) := by decide +kernel
theorem dX7_endOf_34 : decode cX7_endOf 34 = .ok (.iinc 3 1, 3) := by decide +kernel
theorem dX7_endOf_37 : decode cX7_endOf 37 = .ok (.goto (-33), 3) := by decide +kernel
theorem dX7_endOf_40 : decode cX7_endOf 40 = .ok (.iload_n 3, 1) := by decide +kernel
theorem dX7_endOf_41 : decode cX7_endOf 41 = .ok (.aload_n 0, 1) := by decide +kernel
theorem dX7_endOf_42 : decode cX7_endOf 42 = .ok (.getfield 123, 3) := by decide +kernel
theorem dX7_endOf_45 : decode cX7_endOf 45 = .ok (.if_icmp .ne 5, 3) := by decide +kernel
theorem dX7_endOf_48 : decode cX7_endOf 48 = .ok (.iload_n 3, 1) := by decide +kernel
theorem dX7_endOf_49 : decode cX7_endOf 49 = .ok (.ireturn, 1) := by decide +kernel
theorem dX7_endOf_50 : decode cX7_endOf 50 = .ok (.iload_n 3, 1) := by decide +kernel
theorem dX7_endOf_51 : decode cX7_endOf 51 = .ok (.istore 4, 2) := by decide +kernel
theorem dX7_endOf_53 : decode cX7_endOf 53 = .ok (.iload 4, 2) := by decide +kernel
theorem dX7_endOf_55 : decode cX7_endOf 55 = .ok (.iload_n 1, 1) := by decide +kernel
theorem dX7_endOf_56 : decode cX7_endOf 56 = .ok (.if_icmp .le 18, 3) := by decide +kernel
theorem dX7_endOf_59 : decode cX7_endOf 59 = .ok (.aload_n 0, 1) := by decide +kernel
theorem dX7_endOf_60 : decode cX7_endOf 60 = .ok (.iload 4, 2) := by decide +kernel
theorem dX7_endOf_62 : decode cX7_endOf 62 = .ok (.invokevirtual 146, 3) := by decide +kernel
theorem dX7_endOf_65 : decode cX7_endOf 65 = .ok (.ifCond .eq 9, 3) := by decide +kernel
theorem dX7_endOf_68 : decode cX7_endOf 68 = .ok (.iinc 4 (-1), 3) := by decide +kernel
theorem dX7_endOf_71 : decode cX7_endOf 71 = .ok (.goto (-18), 3) := by decide +kernel
theorem dX7_endOf_74 : decode cX7_endOf 74 = .ok (.iload 4, 2) := by decide +kernel
theorem dX7_endOf_76 : decode cX7_endOf 76 = .ok (.iload_n 1, 1) := by decide +kernel
theorem dX7_endOf_77 : decode cX7_endOf 77 = .ok (.if_icmp .le 8, 3) := by decide +kernel
theorem dX7_endOf_80 : decode cX7_endOf 80 = .ok (.iload 4, 2) := by decide +kernel
theorem dX7_endOf_82 : decode cX7_endOf 82 = .ok (.goto 4, 3) := by decide +kernel
theorem dX7_endOf_85 : decode cX7_endOf 85 = .ok (.iload_n 3, 1) := by decide +kernel
theorem dX7_endOf_86 : decode cX7_endOf 86 = .ok (.ireturn, 1) := by decide +kernel
theorem dX7_lay_0 : decode cX7_lay 0 = .ok (.aload_n 0, 1) := by decide +kernel
theorem dX7_lay_1 : decode cX7_lay 1 = .ok (.iload_n 1, 1) := by decide +kernel
theorem dX7_lay_2 : decode cX7_lay 2 = .ok (.invokevirtual 149, 3) := by decide +kernel
theorem dX7_lay_5 : decode cX7_lay 5 = .ok (.aload_n 0, 1) := by decide +kernel
theorem dX7_lay_6 : decode cX7_lay 6 = .ok (.iload_n 1, 1) := by decide +kernel
theorem dX7_lay_7 : decode cX7_lay 7 = .ok (.invokevirtual 152, 3) := by decide +kernel
theorem dX7_lay_10 : decode cX7_lay 10 = .ok (.aload_n 0, 1) := by decide +kernel
theorem dX7_lay_11 : decode cX7_lay 11 = .ok (.iconst 0, 1) := by decide +kernel
theorem dX7_lay_12 : decode cX7_lay 12 = .ok (.putfield 155, 3) := by decide +kernel
theorem dX7_lay_15 : decode cX7_lay 15 = .ok (.iconst 0, 1) := by decide +kernel
theorem dX7_lay_16 : decode cX7_lay 16 = .ok (.istore_n 2, 1) := by decide +kernel
theorem dX7_lay_17 : decode cX7_lay 17 = .ok (.iload_n 2, 1) := by decide +kernel
theorem dX7_lay_18 : decode cX7_lay 18 = .ok (.aload_n 0, 1) := by decide +kernel
theorem dX7_lay_19 : decode cX7_lay 19 = .ok (.getfield 123, 3) := by decide +kernel
theorem dX7_lay_22 : decode cX7_lay 22 = .ok (.if_icmp .ge 50, 3) := by decide +kernel
theorem dX7_lay_25 : decode cX7_lay 25 = .ok (.aload_n 0, 1) := by decide +kernel
theorem dX7_lay_26 : decode cX7_lay 26 = .ok (.iload_n 2, 1) := by decide +kernel
theorem dX7_lay_27 : decode cX7_lay 27 = .ok (.invokevirtual 158, 3) := by decide +kernel
theorem dX7_lay_30 : decode cX7_lay 30 = .ok (.istore_n 3, 1) := by decide +kernel
theorem dX7_lay_31 : decode cX7_lay 31 = .ok (.iload_n 2, 1) := by decide +kernel
theorem dX7_lay_32 : decode cX7_lay 32 = .ok (.istore 4, 2) := by decide +kernel
theorem dX7_lay_34 : decode cX7_lay 34 = .ok (.iload 4, 2) := by decide +kernel
theorem dX7_lay_36 : decode cX7_lay 36 = .ok (.iload_n 3, 1) := by decide +kernel
theorem dX7_lay_37 : decode cX7_lay 37 = .ok (.if_icmp .ge 20, 3) := by decide +kernel
theorem dX7_lay_40 : decode cX7_lay 40 = .ok (.aload_n 0, 1) := by decide +kernel
theorem dX7_lay_41 : decode cX7_lay 41 = .ok (.getfield 77, 3) := by decide +kernel
theorem dX7_lay_44 : decode cX7_lay 44 = .ok (.iload 4, 2) := by decide +kernel
theorem dX7_lay_46 : decode cX7_lay 46 = .ok (.aload_n 0, 1) := by decide +kernel
theorem dX7_lay_47 : decode cX7_lay 47 = .ok (.getfield 155, 3) := by decide +kernel
theorem dX7_lay_50 : decode cX7_lay 50 = .ok (.iastore, 1) := by decide +kernel
theorem dX7_lay_51 : decode cX7_lay 51 = .ok (.iinc 4 1, 3) := by decide +kernel
theorem dX7_lay_54 : decode cX7_lay 54 = .ok (.goto (-20), 3) := by decide +kernel
theorem dX7_lay_57 : decode cX7_lay 57 = .ok (.aload_n 0, 1) := by decide +kernel
theorem dX7_lay_58 : decode cX7_lay 58 = .ok (.dup, 1) := by decide +kernel
theorem dX7_lay_59 : decode cX7_lay 59 = .ok (.getfield 155, 3) := by decide +kernel
theorem dX7_lay_62 : decode cX7_lay 62 = .ok (.iconst 1, 1) := by decide +kernel
theorem dX7_lay_63 : decode cX7_lay 63 = .ok (.iadd, 1) := by decide +kernel
theorem dX7_lay_64 : decode cX7_lay 64 = .ok (.putfield 155, 3) := by decide +kernel
theorem dX7_lay_67 : decode cX7_lay 67 = .ok (.iload_n 3, 1) := by decide +kernel
theorem dX7_lay_68 : decode cX7_lay 68 = .ok (.istore_n 2, 1) := by decide +kernel
theorem dX7_lay_69 : decode cX7_lay 69 = .ok (.goto (-52), 3) := by decide +kernel
theorem dX7_lay_72 : decode cX7_lay 72 = .ok (.return_, 1) := by decide +kernel
theorem dX7_print_0 : decode cX7_print 0 = .ok (.aload_n 0, 1) := by decide +kernel
theorem dX7_print_1 : decode cX7_print 1 = .ok (.iconst 0, 1) := by decide +kernel
theorem dX7_print_2 : decode cX7_print 2 = .ok (.invokevirtual 119, 3) := by decide +kernel
theorem dX7_print_5 : decode cX7_print 5 = .ok (.aload_n 0, 1) := by decide +kernel
theorem dX7_print_6 : decode cX7_print 6 = .ok (.iconst 2, 1) := by decide +kernel
theorem dX7_print_7 : decode cX7_print 7 = .ok (.aload_n 0, 1) := by decide +kernel
theorem dX7_print_8 : decode cX7_print 8 = .ok (.getfield 162, 3) := by decide +kernel
theorem dX7_print_11 : decode cX7_print 11 = .ok (.imul, 1) := by decide +kernel
theorem dX7_print_12 : decode cX7_print 12 = .ok (.aload_n 0, 1) := by decide +kernel
theorem dX7_print_13 : decode cX7_print 13 = .ok (.getfield 155, 3) := by decide +kernel
theorem dX7_print_16 : decode cX7_print 16 = .ok (.if_icmp .lt 7, 3) := by decide +kernel
theorem dX7_print_19 : decode cX7_print 19 = .ok (.iconst 1, 1) := by decide +kernel
theorem dX7_print_20 : decode cX7_print 20 = .ok (.goto 4, 3) := by decide +kernel
theorem dX7_print_23 : decode cX7_print 23 = .ok (.iconst 0, 1) := by decide +kernel
theorem dX7_print_24 : decode cX7_print 24 = .ok (.invokevirtual 109, 3) := by decide +kernel
theorem dX7_print_27 : decode cX7_print 27 = .ok (.ifCond .ne 5, 3) := by decide +kernel
theorem dX7_print_30 : decode cX7_print 30 = .ok (.iconst 0, 1) := by decide +kernel
theorem dX7_print_31 : decode cX7_print 31 = .ok (.ireturn, 1) := by decide +kernel
theorem dX7_print_32 : decode cX7_print 32 = .ok (.iconst 0, 1) := by decide +kernel
theorem dX7_print_33 : decode cX7_print 33 = .ok (.istore_n 1, 1) := by decide +kernel
theorem dX7_print_34 : decode cX7_print 34 = .ok (.iconst 0, 1) := by decide +kernel
theorem dX7_print_35 : decode cX7_print 35 = .ok (.istore_n 2, 1) := by decide +kernel
theorem dX7_print_36 : decode cX7_print 36 = .ok (.iload_n 2, 1) := by decide +kernel
theorem dX7_print_37 : decode cX7_print 37 = .ok (.aload_n 0, 1) := by decide +kernel
theorem dX7_print_38 : decode cX7_print 38 = .ok (.getfield 123, 3) := by decide +kernel
theorem dX7_print_41 : decode cX7_print 41 = .ok (.if_icmp .ge 83, 3) := by decide +kernel
theorem dX7_print_44 : decode cX7_print 44 = .ok (.aload_n 0, 1) := by decide +kernel
theorem dX7_print_45 : decode cX7_print 45 = .ok (.getfield 77, 3) := by decide +kernel
theorem dX7_print_48 : decode cX7_print 48 = .ok (.iload_n 2, 1) := by decide +kernel
theorem dX7_print_49 : decode cX7_print 49 = .ok (.iaload, 1) := by decide +kernel
theorem dX7_print_50 : decode cX7_print 50 = .ok (.istore_n 3, 1) := by decide +kernel
theorem dX7_print_51 : decode cX7_print 51 = .ok (.iload_n 3, 1) := by decide +kernel
theorem dX7_print_52 : decode cX7_print 52 = .ok (.iconst 2, 1) := by decide +kernel
theorem dX7_print_53 : decode cX7_print 53 = .ok (.idiv, 1) := by decide +kernel
theorem dX7_print_54 : decode cX7_print 54 = .ok (.aload_n 0, 1) := by decide +kernel
theorem dX7_print_55 : decode cX7_print 55 = .ok (.getfield 162, 3) := by decide +kernel
theorem dX7_print_58 : decode cX7_print 58 = .ok (.if_icmp .ne 60, 3) := by decide +kernel
theorem dX7_print_61 : decode cX7_print 61 = .ok (.aload_n 0, 1) := by decide +kernel
theorem dX7_print_62 : decode cX7_print 62 = .ok (.getfield 59, 3) := by decide +kernel
theorem dX7_print_65 : decode cX7_print 65 = .ok (.bipush 6, 2) := by decide +kernel
theorem dX7_print_67 : decode cX7_print 67 = .ok (.iload_n 3, 1) := by decide +kernel
theorem dX7_print_68 : decode cX7_print 68 = .ok (.imul, 1) := by decide +kernel
theorem dX7_print_69 : decode cX7_print 69 = .ok (.aload_n 0, 1) := by decide +kernel
theorem dX7_print_70 : decode cX7_print 70 = .ok (.getfield 56, 3) := by decide +kernel
theorem dX7_print_73 : decode cX7_print 73 = .ok (.iload_n 3, 1) := by decide +kernel
theorem dX7_print_74 : decode cX7_print 74 = .ok (.iaload, 1) := by decide +kernel
theorem dX7_print_75 : decode cX7_print 75 = .ok (.iadd, 1) := by decide +kernel
theorem dX7_print_76 : decode cX7_print 76 = .ok (.aload_n 0, 1) := by decide +kernel
theorem dX7_print_77 : decode cX7_print 77 = .ok (.getfield 71, 3) := by decide +kernel
theorem dX7_print_80 : decode cX7_print 80 = .ok (.iload_n 2, 1) := by decide +kernel
theorem dX7_print_81 : decode cX7_print 81 = .ok (.iaload, 1) := by decide +kernel
theorem dX7_print_82 : decode cX7_print 82 = .ok (.iastore, 1) := by decide +kernel
theorem dX7_print_83 : decode cX7_print 83 = .ok (.aload_n 0, 1) := by decide +kernel
theorem dX7_print_84 : decode cX7_print 84 = .ok (.getfield 62, 3) := by decide +kernel
theorem dX7_print_87 : decode cX7_print 87 = .ok (.bipush 6, 2) := by decide +kernel
theorem dX7_print_89 : decode cX7_print 89 = .ok (.iload_n 3, 1) := by decide +kernel
theorem dX7_print_90 : decode cX7_print 90 = .ok (.imul, 1) := by decide +kernel
theorem dX7_print_91 : decode cX7_print 91 = .ok (.aload_n 0, 1) := by decide +kernel
theorem dX7_print_92 : decode cX7_print 92 = .ok (.getfield 56, 3) := by decide +kernel
theorem dX7_print_95 : decode cX7_print 95 = .ok (.iload_n 3, 1) := by decide +kernel
theorem dX7_print_96 : decode cX7_print 96 = .ok (.iaload, 1) := by decide +kernel
theorem dX7_print_97 : decode cX7_print 97 = .ok (.iadd, 1) := by decide +kernel
theorem dX7_print_98 : decode cX7_print 98 = .ok (.aload_n 0, 1) := by decide +kernel
theorem dX7_print_99 : decode cX7_print 99 = .ok (.getfield 74, 3) := by decide +kernel
theorem dX7_print_102 : decode cX7_print 102 = .ok (.iload_n 2, 1) := by decide +kernel
theorem dX7_print_103 : decode cX7_print 103 = .ok (.iaload, 1) := by decide +kernel
theorem dX7_print_104 : decode cX7_print 104 = .ok (.iastore, 1) := by decide +kernel
theorem dX7_print_105 : decode cX7_print 105 = .ok (.aload_n 0, 1) := by decide +kernel
theorem dX7_print_106 : decode cX7_print 106 = .ok (.getfield 56, 3) := by decide +kernel
theorem dX7_print_109 : decode cX7_print 109 = .ok (.iload_n 3, 1) := by decide +kernel
theorem dX7_print_110 : decode cX7_print 110 = .ok (.dup2, 1) := by decide +kernel
theorem dX7_print_111 : decode cX7_print 111 = .ok (.iaload, 1) := by decide +kernel
theorem dX7_print_112 : decode cX7_print 112 = .ok (.iconst 1, 1) := by decide +kernel
theorem dX7_print_113 : decode cX7_print 113 = .ok (.iadd, 1) := by decide +kernel
theorem dX7_print_114 : decode cX7_print 114 = .ok (.iastore, 1) := by decide +kernel
theorem dX7_print_115 : decode cX7_print 115 = .ok (.iinc 1 1, 3) := by decide +kernel
theorem dX7_print_118 : decode cX7_print 118 = .ok (.iinc 2 1, 3) := by decide +kernel
theorem dX7_print_121 : decode cX7_print 121 = .ok (.goto (-85), 3) := by decide +kernel
theorem dX7_print_124 : decode cX7_print 124 = .ok (.aload_n 0, 1) := by decide +kernel
theorem dX7_print_125 : decode cX7_print 125 = .ok (.dup, 1) := by decide +kernel
theorem dX7_print_126 : decode cX7_print 126 = .ok (.getfield 162, 3) := by decide +kernel
theorem dX7_print_129 : decode cX7_print 129 = .ok (.iconst 1, 1) := by decide +kernel
theorem dX7_print_130 : decode cX7_print 130 = .ok (.iadd, 1) := by decide +kernel
theorem dX7_print_131 : decode cX7_print 131 = .ok (.putfield 162, 3) := by decide +kernel
theorem dX7_print_134 : decode cX7_print 134 = .ok (.iload_n 1, 1) := by decide +kernel
theorem dX7_print_135 : decode cX7_print 135 = .ok (.ireturn, 1) := by decide +kernel
theorem dX7_sheets_0 : decode cX7_sheets 0 = .ok (.aload_n 0, 1) := by decide +kernel
theorem dX7_sheets_1 : decode cX7_sheets 1 = .ok (.iconst 0, 1) := by decide +kernel
theorem dX7_sheets_2 : decode cX7_sheets 2 = .ok (.putfield 80, 3) := by decide +kernel
theorem dX7_sheets_5 : decode cX7_sheets 5 = .ok (.aload_n 0, 1) := by decide +kernel
theorem dX7_sheets_6 : decode cX7_sheets 6 = .ok (.getfield 162, 3) := by decide +kernel
theorem dX7_sheets_9 : decode cX7_sheets 9 = .ok (.ireturn, 1) := by decide +kernel
theorem dX7_unlike_0 : decode cX7_unlike 0 = .ok (.iconst 0, 1) := by decide +kernel
theorem dX7_unlike_1 : decode cX7_unlike 1 = .ok (.istore_n 2, 1) := by decide +kernel
theorem dX7_unlike_2 : decode cX7_unlike 2 = .ok (.iconst 0, 1) := by decide +kernel
theorem dX7_unlike_3 : decode cX7_unlike 3 = .ok (.istore_n 3, 1) := by decide +kernel
theorem dX7_unlike_4 : decode cX7_unlike 4 = .ok (.iconst 0, 1) := by decide +kernel
theorem dX7_unlike_5 : decode cX7_unlike 5 = .ok (.istore 4, 2) := by decide +kernel
theorem dX7_unlike_7 : decode cX7_unlike 7 = .ok (.iload 4, 2) := by decide +kernel
theorem dX7_unlike_9 : decode cX7_unlike 9 = .ok (.aload_n 0, 1) := by decide +kernel
theorem dX7_unlike_10 : decode cX7_unlike 10 = .ok (.getfield 123, 3) := by decide +kernel
theorem dX7_unlike_13 : decode cX7_unlike 13 = .ok (.if_icmp .ge 129, 3) := by decide +kernel
theorem dX7_unlike_16 : decode cX7_unlike 16 = .ok (.aload_n 0, 1) := by decide +kernel
theorem dX7_unlike_17 : decode cX7_unlike 17 = .ok (.getfield 77, 3) := by decide +kernel
theorem dX7_unlike_20 : decode cX7_unlike 20 = .ok (.iload 4, 2) := by decide +kernel
theorem dX7_unlike_22 : decode cX7_unlike 22 = .ok (.iaload, 1) := by decide +kernel
theorem dX7_unlike_23 : decode cX7_unlike 23 = .ok (.iload_n 1, 1) := by decide +kernel
theorem dX7_unlike_24 : decode cX7_unlike 24 = .ok (.if_icmp .ne 7, 3) := by decide +kernel
theorem dX7_unlike_27 : decode cX7_unlike 27 = .ok (.iconst 1, 1) := by decide +kernel
theorem dX7_unlike_28 : decode cX7_unlike 28 = .ok (.goto 4, 3) := by decide +kernel
theorem dX7_unlike_31 : decode cX7_unlike 31 = .ok (.iconst 0, 1) := by decide +kernel
theorem dX7_unlike_32 : decode cX7_unlike 32 = .ok (.istore 5, 2) := by decide +kernel
theorem dX7_unlike_34 : decode cX7_unlike 34 = .ok (.iload_n 3, 1) := by decide +kernel
theorem dX7_unlike_35 : decode cX7_unlike 35 = .ok (.iload 5, 2) := by decide +kernel
theorem dX7_unlike_37 : decode cX7_unlike 37 = .ok (.ifCond .eq 7, 3) := by decide +kernel
theorem dX7_unlike_40 : decode cX7_unlike 40 = .ok (.iconst 1, 1) := by decide +kernel
theorem dX7_unlike_41 : decode cX7_unlike 41 = .ok (.goto 4, 3) := by decide +kernel
theorem dX7_unlike_44 : decode cX7_unlike 44 = .ok (.iconst 0, 1) := by decide +kernel
theorem dX7_unlike_45 : decode cX7_unlike 45 = .ok (.iadd, 1) := by decide +kernel
theorem dX7_unlike_46 : decode cX7_unlike 46 = .ok (.istore_n 3, 1) := by decide +kernel
theorem dX7_unlike_47 : decode cX7_unlike 47 = .ok (.iconst 0, 1) := by decide +kernel
theorem dX7_unlike_48 : decode cX7_unlike 48 = .ok (.istore 6, 2) := by decide +kernel
theorem dX7_unlike_50 : decode cX7_unlike 50 = .ok (.iload 6, 2) := by decide +kernel
theorem dX7_unlike_52 : decode cX7_unlike 52 = .ok (.aload_n 0, 1) := by decide +kernel
theorem dX7_unlike_53 : decode cX7_unlike 53 = .ok (.getfield 56, 3) := by decide +kernel
theorem dX7_unlike_56 : decode cX7_unlike 56 = .ok (.iload_n 1, 1) := by decide +kernel
theorem dX7_unlike_57 : decode cX7_unlike 57 = .ok (.iaload, 1) := by decide +kernel
theorem dX7_unlike_58 : decode cX7_unlike 58 = .ok (.if_icmp .ge 78, 3) := by decide +kernel
theorem dX7_unlike_61 : decode cX7_unlike 61 = .ok (.iload 5, 2) := by decide +kernel
theorem dX7_unlike_63 : decode cX7_unlike 63 = .ok (.ifCond .eq 73, 3) := by decide +kernel
theorem dX7_unlike_66 : decode cX7_unlike 66 = .ok (.aload_n 0, 1) := by decide +kernel
theorem dX7_unlike_67 : decode cX7_unlike 67 = .ok (.getfield 59, 3) := by decide +kernel
theorem dX7_unlike_70 : decode cX7_unlike 70 = .ok (.bipush 6, 2) := by decide +kernel
theorem dX7_unlike_72 : decode cX7_unlike 72 = .ok (.iload_n 1, 1) := by decide +kernel
theorem dX7_unlike_73 : decode cX7_unlike 73 = .ok (.imul, 1) := by decide +kernel
theorem dX7_unlike_74 : decode cX7_unlike 74 = .ok (.iload 6, 2) := by decide +kernel
theorem dX7_unlike_76 : decode cX7_unlike 76 = .ok (.iadd, 1) := by decide +kernel
theorem dX7_unlike_77 : decode cX7_unlike 77 = .ok (.iaload, 1) := by decide +kernel
theorem dX7_unlike_78 : decode cX7_unlike 78 = .ok (.aload_n 0, 1) := by decide +kernel
theorem dX7_unlike_79 : decode cX7_unlike 79 = .ok (.getfield 71, 3) := by decide +kernel
theorem dX7_unlike_82 : decode cX7_unlike 82 = .ok (.iload 4, 2) := by decide +kernel
theorem dX7_unlike_84 : decode cX7_unlike 84 = .ok (.iaload, 1) := by decide +kernel
theorem dX7_unlike_85 : decode cX7_unlike 85 = .ok (.if_icmp .ne 29, 3) := by decide +kernel
theorem dX7_unlike_88 : decode cX7_unlike 88 = .ok (.aload_n 0, 1) := by decide +kernel
theorem dX7_unlike_89 : decode cX7_unlike 89 = .ok (.getfield 62, 3) := by decide +kernel
theorem dX7_unlike_92 : decode cX7_unlike 92 = .ok (.bipush 6, 2) := by decide +kernel
theorem dX7_unlike_94 : decode cX7_unlike 94 = .ok (.iload_n 1, 1) := by decide +kernel
theorem dX7_unlike_95 : decode cX7_unlike 95 = .ok (.imul, 1) := by decide +kernel
theorem dX7_unlike_96 : decode cX7_unlike 96 = .ok (.iload 6, 2) := by decide +kernel
theorem dX7_unlike_98 : decode cX7_unlike 98 = .ok (.iadd, 1) := by decide +kernel
theorem dX7_unlike_99 : decode cX7_unlike 99 = .ok (.iaload, 1) := by decide +kernel
theorem dX7_unlike_100 : decode cX7_unlike 100 = .ok (.aload_n 0, 1) := by decide +kernel
theorem dX7_unlike_101 : decode cX7_unlike 101 = .ok (.getfield 74, 3) := by decide +kernel
theorem dX7_unlike_104 : decode cX7_unlike 104 = .ok (.iload 4, 2) := by decide +kernel
theorem dX7_unlike_106 : decode cX7_unlike 106 = .ok (.iaload, 1) := by decide +kernel
theorem dX7_unlike_107 : decode cX7_unlike 107 = .ok (.if_icmp .ne 7, 3) := by decide +kernel
theorem dX7_unlike_110 : decode cX7_unlike 110 = .ok (.iconst 1, 1) := by decide +kernel
theorem dX7_unlike_111 : decode cX7_unlike 111 = .ok (.goto 4, 3) := by decide +kernel
theorem dX7_unlike_114 : decode cX7_unlike 114 = .ok (.iconst 0, 1) := by decide +kernel
theorem dX7_unlike_115 : decode cX7_unlike 115 = .ok (.istore 7, 2) := by decide +kernel
theorem dX7_unlike_117 : decode cX7_unlike 117 = .ok (.iload_n 2, 1) := by decide +kernel
theorem dX7_unlike_118 : decode cX7_unlike 118 = .ok (.iload 7, 2) := by decide +kernel
theorem dX7_unlike_120 : decode cX7_unlike 120 = .ok (.ifCond .eq 7, 3) := by decide +kernel
theorem dX7_unlike_123 : decode cX7_unlike 123 = .ok (.iconst 1, 1) := by decide +kernel
theorem dX7_unlike_124 : decode cX7_unlike 124 = .ok (.goto 4, 3) := by decide +kernel
theorem dX7_unlike_127 : decode cX7_unlike 127 = .ok (.iconst 0, 1) := by decide +kernel
theorem dX7_unlike_128 : decode cX7_unlike 128 = .ok (.iadd, 1) := by decide +kernel
theorem dX7_unlike_129 : decode cX7_unlike 129 = .ok (.istore_n 2, 1) := by decide +kernel
theorem dX7_unlike_130 : decode cX7_unlike 130 = .ok (.iinc 6 1, 3) := by decide +kernel
theorem dX7_unlike_133 : decode cX7_unlike 133 = .ok (.goto (-83), 3) := by decide +kernel
theorem dX7_unlike_136 : decode cX7_unlike 136 = .ok (.iinc 4 1, 3) := by decide +kernel
theorem dX7_unlike_139 : decode cX7_unlike 139 = .ok (.goto (-132), 3) := by decide +kernel
theorem dX7_unlike_142 : decode cX7_unlike 142 = .ok (.aload_n 0, 1) := by decide +kernel
theorem dX7_unlike_143 : decode cX7_unlike 143 = .ok (.getfield 56, 3) := by decide +kernel
theorem dX7_unlike_146 : decode cX7_unlike 146 = .ok (.iload_n 1, 1) := by decide +kernel
theorem dX7_unlike_147 : decode cX7_unlike 147 = .ok (.iaload, 1) := by decide +kernel
theorem dX7_unlike_148 : decode cX7_unlike 148 = .ok (.iload_n 3, 1) := by decide +kernel
theorem dX7_unlike_149 : decode cX7_unlike 149 = .ok (.iadd, 1) := by decide +kernel
theorem dX7_unlike_150 : decode cX7_unlike 150 = .ok (.iconst 2, 1) := by decide +kernel
theorem dX7_unlike_151 : decode cX7_unlike 151 = .ok (.iload_n 2, 1) := by decide +kernel
theorem dX7_unlike_152 : decode cX7_unlike 152 = .ok (.imul, 1) := by decide +kernel
theorem dX7_unlike_153 : decode cX7_unlike 153 = .ok (.isub, 1) := by decide +kernel
theorem dX7_unlike_154 : decode cX7_unlike 154 = .ok (.ireturn, 1) := by decide +kernel
theorem dX7_differs_0 : decode cX7_differs 0 = .ok (.aload_n 0, 1) := by decide +kernel
theorem dX7_differs_1 : decode cX7_differs 1 = .ok (.iload_n 1, 1) := by decide +kernel
theorem dX7_differs_2 : decode cX7_differs 2 = .ok (.iconst 0, 1) := by decide +kernel
theorem dX7_differs_3 : decode cX7_differs 3 = .ok (.iconst 2, 1) := by decide +kernel
theorem dX7_differs_4 : decode cX7_differs 4 = .ok (.aload_n 0, 1) := by decide +kernel
theorem dX7_differs_5 : decode cX7_differs 5 = .ok (.getfield 162, 3) := by decide +kernel
theorem dX7_differs_8 : decode cX7_differs 8 = .ok (.imul, 1) := by decide +kernel
theorem dX7_differs_9 : decode cX7_differs 9 = .ok (.iconst 1, 1) := by decide +kernel
theorem dX7_differs_10 : decode cX7_differs 10 = .ok (.isub, 1) := by decide +kernel
theorem dX7_differs_11 : decode cX7_differs 11 = .ok (.invokestatic 84, 3) := by decide +kernel
theorem dX7_differs_14 : decode cX7_differs 14 = .ok (.ifCond .eq 7, 3) := by decide +kernel
theorem dX7_differs_17 : decode cX7_differs 17 = .ok (.iconst 0, 1) := by decide +kernel
theorem dX7_differs_18 : decode cX7_differs 18 = .ok (.goto 4, 3) := by decide +kernel
theorem dX7_differs_21 : decode cX7_differs 21 = .ok (.iconst 1, 1) := by decide +kernel
theorem dX7_differs_22 : decode cX7_differs 22 = .ok (.invokevirtual 109, 3) := by decide +kernel
theorem dX7_differs_25 : decode cX7_differs 25 = .ok (.ifCond .ne 5, 3) := by decide +kernel
theorem dX7_differs_28 : decode cX7_differs 28 = .ok (.iconst 0, 1) := by decide +kernel
theorem dX7_differs_29 : decode cX7_differs 29 = .ok (.ireturn, 1) := by decide +kernel
theorem dX7_differs_30 : decode cX7_differs 30 = .ok (.aload_n 0, 1) := by decide +kernel
theorem dX7_differs_31 : decode cX7_differs 31 = .ok (.iconst 0, 1) := by decide +kernel
theorem dX7_differs_32 : decode cX7_differs 32 = .ok (.invokevirtual 119, 3) := by decide +kernel
theorem dX7_differs_35 : decode cX7_differs 35 = .ok (.aload_n 0, 1) := by decide +kernel
theorem dX7_differs_36 : decode cX7_differs 36 = .ok (.iload_n 1, 1) := by decide +kernel
theorem dX7_differs_37 : decode cX7_differs 37 = .ok (.invokevirtual 165, 3) := by decide +kernel
theorem dX7_differs_40 : decode cX7_differs 40 = .ok (.ireturn, 1) := by decide +kernel
theorem dX7_cost_0 : decode cX7_cost 0 = .ok (.aload_n 0, 1) := by decide +kernel
theorem dX7_cost_1 : decode cX7_cost 1 = .ok (.iconst 0, 1) := by decide +kernel
theorem dX7_cost_2 : decode cX7_cost 2 = .ok (.putfield 80, 3) := by decide +kernel
theorem dX7_cost_5 : decode cX7_cost 5 = .ok (.aload_n 0, 1) := by decide +kernel
theorem dX7_cost_6 : decode cX7_cost 6 = .ok (.iconst 0, 1) := by decide +kernel
theorem dX7_cost_7 : decode cX7_cost 7 = .ok (.invokevirtual 119, 3) := by decide +kernel
theorem dX7_cost_10 : decode cX7_cost 10 = .ok (.iconst 0, 1) := by decide +kernel
theorem dX7_cost_11 : decode cX7_cost 11 = .ok (.istore_n 1, 1) := by decide +kernel
theorem dX7_cost_12 : decode cX7_cost 12 = .ok (.iconst 0, 1) := by decide +kernel
theorem dX7_cost_13 : decode cX7_cost 13 = .ok (.istore_n 2, 1) := by decide +kernel
theorem dX7_cost_14 : decode cX7_cost 14 = .ok (.iload_n 2, 1) := by decide +kernel
theorem dX7_cost_15 : decode cX7_cost 15 = .ok (.aload_n 0, 1) := by decide +kernel
theorem dX7_cost_16 : decode cX7_cost 16 = .ok (.getfield 162, 3) := by decide +kernel
theorem dX7_cost_19 : decode cX7_cost 19 = .ok (.if_icmp .ge 72, 3) := by decide +kernel
theorem dX7_cost_22 : decode cX7_cost 22 = .ok (.aload_n 0, 1) := by decide +kernel
theorem dX7_cost_23 : decode cX7_cost 23 = .ok (.iconst 2, 1) := by decide +kernel
theorem dX7_cost_24 : decode cX7_cost 24 = .ok (.iload_n 2, 1) := by decide +kernel
theorem dX7_cost_25 : decode cX7_cost 25 = .ok (.imul, 1) := by decide +kernel
theorem dX7_cost_26 : decode cX7_cost 26 = .ok (.invokevirtual 165, 3) := by decide +kernel
theorem dX7_cost_29 : decode cX7_cost 29 = .ok (.istore_n 3, 1) := by decide +kernel
theorem dX7_cost_30 : decode cX7_cost 30 = .ok (.aload_n 0, 1) := by decide +kernel
theorem dX7_cost_31 : decode cX7_cost 31 = .ok (.iconst 2, 1) := by decide +kernel
theorem dX7_cost_32 : decode cX7_cost 32 = .ok (.iload_n 2, 1) := by decide +kernel
theorem dX7_cost_33 : decode cX7_cost 33 = .ok (.imul, 1) := by decide +kernel
theorem dX7_cost_34 : decode cX7_cost 34 = .ok (.iconst 1, 1) := by decide +kernel
theorem dX7_cost_35 : decode cX7_cost 35 = .ok (.iadd, 1) := by decide +kernel
theorem dX7_cost_36 : decode cX7_cost 36 = .ok (.invokevirtual 165, 3) := by decide +kernel
theorem dX7_cost_39 : decode cX7_cost 39 = .ok (.istore 4, 2) := by decide +kernel
theorem dX7_cost_41 : decode cX7_cost 41 = .ok (.iload_n 3, 1) := by decide +kernel
theorem dX7_cost_42 : decode cX7_cost 42 = .ok (.ifCond .le 9, 3) := by decide +kernel
theorem dX7_cost_45 : decode cX7_cost 45 = .ok (.iconst 1, 1) := by decide +kernel
theorem dX7_cost_46 : decode cX7_cost 46 = .ok (.iload_n 3, 1) := by decide +kernel
theorem dX7_cost_47 : decode cX7_cost 47 = .ok (.iadd, 1) := by decide +kernel
theorem dX7_cost_48 : decode cX7_cost 48 = .ok (.goto 4, 3) := by decide +kernel
theorem dX7_cost_51 : decode cX7_cost 51 = .ok (.iconst 0, 1) := by decide +kernel
theorem dX7_cost_52 : decode cX7_cost 52 = .ok (.iload 4, 2) := by decide +kernel
theorem dX7_cost_54 : decode cX7_cost 54 = .ok (.ifCond .le 10, 3) := by decide +kernel
theorem dX7_cost_57 : decode cX7_cost 57 = .ok (.iconst 1, 1) := by decide +kernel
theorem dX7_cost_58 : decode cX7_cost 58 = .ok (.iload 4, 2) := by decide +kernel
theorem dX7_cost_60 : decode cX7_cost 60 = .ok (.iadd, 1) := by decide +kernel
theorem dX7_cost_61 : decode cX7_cost 61 = .ok (.goto 4, 3) := by decide +kernel
theorem dX7_cost_64 : decode cX7_cost 64 = .ok (.iconst 0, 1) := by decide +kernel
theorem dX7_cost_65 : decode cX7_cost 65 = .ok (.iadd, 1) := by decide +kernel
theorem dX7_cost_66 : decode cX7_cost 66 = .ok (.istore 5, 2) := by decide +kernel
theorem dX7_cost_68 : decode cX7_cost 68 = .ok (.iload_n 1, 1) := by decide +kernel
theorem dX7_cost_69 : decode cX7_cost 69 = .ok (.iload 5, 2) := by decide +kernel
theorem dX7_cost_71 : decode cX7_cost 71 = .ok (.bipush 10, 2) := by decide +kernel
theorem dX7_cost_73 : decode cX7_cost 73 = .ok (.if_icmp .ge 8, 3) := by decide +kernel
theorem dX7_cost_76 : decode cX7_cost 76 = .ok (.iload 5, 2) := by decide +kernel
theorem dX7_cost_78 : decode cX7_cost 78 = .ok (.goto 5, 3) := by decide +kernel
theorem dX7_cost_81 : decode cX7_cost 81 = .ok (.bipush 10, 2) := by decide +kernel
theorem dX7_cost_83 : decode cX7_cost 83 = .ok (.iadd, 1) := by decide +kernel
theorem dX7_cost_84 : decode cX7_cost 84 = .ok (.istore_n 1, 1) := by decide +kernel
theorem dX7_cost_85 : decode cX7_cost 85 = .ok (.iinc 2 1, 3) := by decide +kernel
theorem dX7_cost_88 : decode cX7_cost 88 = .ok (.goto (-74), 3) := by decide +kernel
theorem dX7_cost_91 : decode cX7_cost 91 = .ok (.iload_n 1, 1) := by decide +kernel
theorem dX7_cost_92 : decode cX7_cost 92 = .ok (.ireturn, 1) := by decide +kernel
theorem dX7_lines_0 : decode cX7_lines 0 = .ok (.aload_n 0, 1) := by decide +kernel
theorem dX7_lines_1 : decode cX7_lines 1 = .ok (.iload_n 1, 1) := by decide +kernel
theorem dX7_lines_2 : decode cX7_lines 2 = .ok (.invokestatic 101, 3) := by decide +kernel
theorem dX7_lines_5 : decode cX7_lines 5 = .ok (.ifCond .eq 7, 3) := by decide +kernel
theorem dX7_lines_8 : decode cX7_lines 8 = .ok (.iconst 0, 1) := by decide +kernel
theorem dX7_lines_9 : decode cX7_lines 9 = .ok (.goto 4, 3) := by decide +kernel
theorem dX7_lines_12 : decode cX7_lines 12 = .ok (.iconst 1, 1) := by decide +kernel
theorem dX7_lines_13 : decode cX7_lines 13 = .ok (.invokevirtual 109, 3) := by decide +kernel
theorem dX7_lines_16 : decode cX7_lines 16 = .ok (.ifCond .ne 5, 3) := by decide +kernel
theorem dX7_lines_19 : decode cX7_lines 19 = .ok (.iconst 0, 1) := by decide +kernel
theorem dX7_lines_20 : decode cX7_lines 20 = .ok (.ireturn, 1) := by decide +kernel
theorem dX7_lines_21 : decode cX7_lines 21 = .ok (.aload_n 0, 1) := by decide +kernel
theorem dX7_lines_22 : decode cX7_lines 22 = .ok (.iload_n 1, 1) := by decide +kernel
theorem dX7_lines_23 : decode cX7_lines 23 = .ok (.invokevirtual 149, 3) := by decide +kernel
theorem dX7_lines_26 : decode cX7_lines 26 = .ok (.aload_n 0, 1) := by decide +kernel
theorem dX7_lines_27 : decode cX7_lines 27 = .ok (.getfield 123, 3) := by decide +kernel
theorem dX7_lines_30 : decode cX7_lines 30 = .ok (.ireturn, 1) := by decide +kernel
theorem dX7_lineAt_0 : decode cX7_lineAt 0 = .ok (.iload_n 1, 1) := by decide +kernel
theorem dX7_lineAt_1 : decode cX7_lineAt 1 = .ok (.invokestatic 101, 3) := by decide +kernel
theorem dX7_lineAt_4 : decode cX7_lineAt 4 = .ok (.ifCond .eq 11, 3) := by decide +kernel
theorem dX7_lineAt_7 : decode cX7_lineAt 7 = .ok (.iload_n 2, 1) := by decide +kernel
theorem dX7_lineAt_8 : decode cX7_lineAt 8 = .ok (.ifCond .lt 7, 3) := by decide +kernel
theorem dX7_lineAt_11 : decode cX7_lineAt 11 = .ok (.iconst 1, 1) := by decide +kernel
theorem dX7_lineAt_12 : decode cX7_lineAt 12 = .ok (.goto 4, 3) := by decide +kernel
theorem dX7_lineAt_15 : decode cX7_lineAt 15 = .ok (.iconst 0, 1) := by decide +kernel
theorem dX7_lineAt_16 : decode cX7_lineAt 16 = .ok (.istore 4, 2) := by decide +kernel
theorem dX7_lineAt_18 : decode cX7_lineAt 18 = .ok (.aload_n 0, 1) := by decide +kernel
theorem dX7_lineAt_19 : decode cX7_lineAt 19 = .ok (.iload 4, 2) := by decide +kernel
theorem dX7_lineAt_21 : decode cX7_lineAt 21 = .ok (.ifCond .ne 7, 3) := by decide +kernel
theorem dX7_lineAt_24 : decode cX7_lineAt 24 = .ok (.iconst 1, 1) := by decide +kernel
theorem dX7_lineAt_25 : decode cX7_lineAt 25 = .ok (.goto 17, 3) := by decide +kernel
theorem dX7_lineAt_28 : decode cX7_lineAt 28 = .ok (.iload_n 3, 1) := by decide +kernel
theorem dX7_lineAt_29 : decode cX7_lineAt 29 = .ok (.iconst 0, 1) := by decide +kernel
theorem dX7_lineAt_30 : decode cX7_lineAt 30 = .ok (.iconst 4, 1) := by decide +kernel
theorem dX7_lineAt_31 : decode cX7_lineAt 31 = .ok (.invokestatic 84, 3) := by decide +kernel
theorem dX7_lineAt_34 : decode cX7_lineAt 34 = .ok (.ifCond .eq 7, 3) := by decide +kernel
theorem dX7_lineAt_37 : decode cX7_lineAt 37 = .ok (.iconst 0, 1) := by decide +kernel
theorem dX7_lineAt_38 : decode cX7_lineAt 38 = .ok (.goto 4, 3) := by decide +kernel
theorem dX7_lineAt_41 : decode cX7_lineAt 41 = .ok (.iconst 2, 1) := by decide +kernel
theorem dX7_lineAt_42 : decode cX7_lineAt 42 = .ok (.invokevirtual 109, 3) := by decide +kernel
theorem dX7_lineAt_45 : decode cX7_lineAt 45 = .ok (.ifCond .ne 5, 3) := by decide +kernel
theorem dX7_lineAt_48 : decode cX7_lineAt 48 = .ok (.iconst 0, 1) := by decide +kernel
theorem dX7_lineAt_49 : decode cX7_lineAt 49 = .ok (.ireturn, 1) := by decide +kernel
theorem dX7_lineAt_50 : decode cX7_lineAt 50 = .ok (.aload_n 0, 1) := by decide +kernel
theorem dX7_lineAt_51 : decode cX7_lineAt 51 = .ok (.iload_n 1, 1) := by decide +kernel
theorem dX7_lineAt_52 : decode cX7_lineAt 52 = .ok (.invokevirtual 119, 3) := by decide +kernel
theorem dX7_lineAt_55 : decode cX7_lineAt 55 = .ok (.iload_n 2, 1) := by decide +kernel
theorem dX7_lineAt_56 : decode cX7_lineAt 56 = .ok (.aload_n 0, 1) := by decide +kernel
theorem dX7_lineAt_57 : decode cX7_lineAt 57 = .ok (.getfield 123, 3) := by decide +kernel
theorem dX7_lineAt_60 : decode cX7_lineAt 60 = .ok (.if_icmp .lt 5, 3) := by decide +kernel
theorem dX7_lineAt_63 : decode cX7_lineAt 63 = .ok (.iconst (-1), 1) := by decide +kernel
theorem dX7_lineAt_64 : decode cX7_lineAt 64 = .ok (.ireturn, 1) := by decide +kernel
theorem dX7_lineAt_65 : decode cX7_lineAt 65 = .ok (.iload_n 3, 1) := by decide +kernel
theorem dX7_lineAt_66 : decode cX7_lineAt 66 = .ok (.ifCond .ne 12, 3) := by decide +kernel
theorem dX7_lineAt_69 : decode cX7_lineAt 69 = .ok (.aload_n 0, 1) := by decide +kernel
theorem dX7_lineAt_70 : decode cX7_lineAt 70 = .ok (.getfield 71, 3) := by decide +kernel
theorem dX7_lineAt_73 : decode cX7_lineAt 73 = .ok (.iload_n 2, 1) := by decide +kernel
theorem dX7_lineAt_74 : decode cX7_lineAt 74 = .ok (.iaload, 1) := by decide +kernel
theorem dX7_lineAt_75 : decode cX7_lineAt 75 = .ok (.goto 63, 3) := by decide +kernel
theorem dX7_lineAt_78 : decode cX7_lineAt 78 = .ok (.iload_n 3, 1) := by decide +kernel
theorem dX7_lineAt_79 : decode cX7_lineAt 79 = .ok (.iconst 1, 1) := by decide +kernel
theorem dX7_lineAt_80 : decode cX7_lineAt 80 = .ok (.if_icmp .ne 17, 3) := by decide +kernel
theorem dX7_lineAt_83 : decode cX7_lineAt 83 = .ok (.aload_n 0, 1) := by decide +kernel
theorem dX7_lineAt_84 : decode cX7_lineAt 84 = .ok (.getfield 31, 3) := by decide +kernel
theorem dX7_lineAt_87 : decode cX7_lineAt 87 = .ok (.aload_n 0, 1) := by decide +kernel
theorem dX7_lineAt_88 : decode cX7_lineAt 88 = .ok (.getfield 71, 3) := by decide +kernel
theorem dX7_lineAt_91 : decode cX7_lineAt 91 = .ok (.iload_n 2, 1) := by decide +kernel
theorem dX7_lineAt_92 : decode cX7_lineAt 92 = .ok (.iaload, 1) := by decide +kernel
theorem dX7_lineAt_93 : decode cX7_lineAt 93 = .ok (.iaload, 1) := by decide +kernel
theorem dX7_lineAt_94 : decode cX7_lineAt 94 = .ok (.goto 44, 3) := by decide +kernel
theorem dX7_lineAt_97 : decode cX7_lineAt 97 = .ok (.iload_n 3, 1) := by decide +kernel
theorem dX7_lineAt_98 : decode cX7_lineAt 98 = .ok (.iconst 2, 1) := by decide +kernel
theorem dX7_lineAt_99 : decode cX7_lineAt 99 = .ok (.if_icmp .ne 12, 3) := by decide +kernel
theorem dX7_lineAt_102 : decode cX7_lineAt 102 = .ok (.aload_n 0, 1) := by decide +kernel
theorem dX7_lineAt_103 : decode cX7_lineAt 103 = .ok (.getfield 74, 3) := by decide +kernel
theorem dX7_lineAt_106 : decode cX7_lineAt 106 = .ok (.iload_n 2, 1) := by decide +kernel
theorem dX7_lineAt_107 : decode cX7_lineAt 107 = .ok (.iaload, 1) := by decide +kernel
theorem dX7_lineAt_108 : decode cX7_lineAt 108 = .ok (.goto 30, 3) := by decide +kernel
theorem dX7_lineAt_111 : decode cX7_lineAt 111 = .ok (.iload_n 3, 1) := by decide +kernel
theorem dX7_lineAt_112 : decode cX7_lineAt 112 = .ok (.iconst 3, 1) := by decide +kernel
theorem dX7_lineAt_113 : decode cX7_lineAt 113 = .ok (.if_icmp .ne 19, 3) := by decide +kernel
theorem dX7_lineAt_116 : decode cX7_lineAt 116 = .ok (.aload_n 0, 1) := by decide +kernel
theorem dX7_lineAt_117 : decode cX7_lineAt 117 = .ok (.iload_n 2, 1) := by decide +kernel
theorem dX7_lineAt_118 : decode cX7_lineAt 118 = .ok (.invokevirtual 143, 3) := by decide +kernel
theorem dX7_lineAt_121 : decode cX7_lineAt 121 = .ok (.ifCond .eq 7, 3) := by decide +kernel
theorem dX7_lineAt_124 : decode cX7_lineAt 124 = .ok (.iconst 1, 1) := by decide +kernel
theorem dX7_lineAt_125 : decode cX7_lineAt 125 = .ok (.goto 13, 3) := by decide +kernel
theorem dX7_lineAt_128 : decode cX7_lineAt 128 = .ok (.iconst 0, 1) := by decide +kernel
theorem dX7_lineAt_129 : decode cX7_lineAt 129 = .ok (.goto 9, 3) := by decide +kernel
theorem dX7_lineAt_132 : decode cX7_lineAt 132 = .ok (.aload_n 0, 1) := by decide +kernel
theorem dX7_lineAt_133 : decode cX7_lineAt 133 = .ok (.getfield 77, 3) := by decide +kernel
theorem dX7_lineAt_136 : decode cX7_lineAt 136 = .ok (.iload_n 2, 1) := by decide +kernel
theorem dX7_lineAt_137 : decode cX7_lineAt 137 = .ok (.iaload, 1) := by decide +kernel
theorem dX7_lineAt_138 : decode cX7_lineAt 138 = .ok (.ireturn, 1) := by decide +kernel
theorem dX7_lineAnew_0 : decode cX7_lineAnew 0 = .ok (.aload_n 0, 1) := by decide +kernel
theorem dX7_lineAnew_1 : decode cX7_lineAnew 1 = .ok (.iload_n 1, 1) := by decide +kernel
theorem dX7_lineAnew_2 : decode cX7_lineAnew 2 = .ok (.invokestatic 101, 3) := by decide +kernel
theorem dX7_lineAnew_5 : decode cX7_lineAnew 5 = .ok (.ifCond .eq 11, 3) := by decide +kernel
theorem dX7_lineAnew_8 : decode cX7_lineAnew 8 = .ok (.iload_n 2, 1) := by decide +kernel
theorem dX7_lineAnew_9 : decode cX7_lineAnew 9 = .ok (.ifCond .lt 7, 3) := by decide +kernel
theorem dX7_lineAnew_12 : decode cX7_lineAnew 12 = .ok (.iconst 0, 1) := by decide +kernel
theorem dX7_lineAnew_13 : decode cX7_lineAnew 13 = .ok (.goto 4, 3) := by decide +kernel
theorem dX7_lineAnew_16 : decode cX7_lineAnew 16 = .ok (.iconst 1, 1) := by decide +kernel
theorem dX7_lineAnew_17 : decode cX7_lineAnew 17 = .ok (.invokevirtual 109, 3) := by decide +kernel
theorem dX7_lineAnew_20 : decode cX7_lineAnew 20 = .ok (.ifCond .ne 5, 3) := by decide +kernel
theorem dX7_lineAnew_23 : decode cX7_lineAnew 23 = .ok (.iconst 0, 1) := by decide +kernel
theorem dX7_lineAnew_24 : decode cX7_lineAnew 24 = .ok (.ireturn, 1) := by decide +kernel
theorem dX7_lineAnew_25 : decode cX7_lineAnew 25 = .ok (.aload_n 0, 1) := by decide +kernel
theorem dX7_lineAnew_26 : decode cX7_lineAnew 26 = .ok (.iload_n 1, 1) := by decide +kernel
theorem dX7_lineAnew_27 : decode cX7_lineAnew 27 = .ok (.invokevirtual 149, 3) := by decide +kernel
theorem dX7_lineAnew_30 : decode cX7_lineAnew 30 = .ok (.iload_n 2, 1) := by decide +kernel
theorem dX7_lineAnew_31 : decode cX7_lineAnew 31 = .ok (.aload_n 0, 1) := by decide +kernel
theorem dX7_lineAnew_32 : decode cX7_lineAnew 32 = .ok (.getfield 123, 3) := by decide +kernel
theorem dX7_lineAnew_35 : decode cX7_lineAnew 35 = .ok (.if_icmp .ge 12, 3) := by decide +kernel
theorem dX7_lineAnew_38 : decode cX7_lineAnew 38 = .ok (.aload_n 0, 1) := by decide +kernel
theorem dX7_lineAnew_39 : decode cX7_lineAnew 39 = .ok (.getfield 71, 3) := by decide +kernel
theorem dX7_lineAnew_42 : decode cX7_lineAnew 42 = .ok (.iload_n 2, 1) := by decide +kernel
theorem dX7_lineAnew_43 : decode cX7_lineAnew 43 = .ok (.iaload, 1) := by decide +kernel
theorem dX7_lineAnew_44 : decode cX7_lineAnew 44 = .ok (.goto 4, 3) := by decide +kernel
theorem dX7_lineAnew_47 : decode cX7_lineAnew 47 = .ok (.iconst (-1), 1) := by decide +kernel
theorem dX7_lineAnew_48 : decode cX7_lineAnew 48 = .ok (.ireturn, 1) := by decide +kernel
theorem dX7_noteAt_0 : decode cX7_noteAt 0 = .ok (.aload_n 0, 1) := by decide +kernel
theorem dX7_noteAt_1 : decode cX7_noteAt 1 = .ok (.iload_n 1, 1) := by decide +kernel
theorem dX7_noteAt_2 : decode cX7_noteAt 2 = .ok (.invokestatic 101, 3) := by decide +kernel
theorem dX7_noteAt_5 : decode cX7_noteAt 5 = .ok (.ifCond .eq 16, 3) := by decide +kernel
theorem dX7_noteAt_8 : decode cX7_noteAt 8 = .ok (.aload_n 0, 1) := by decide +kernel
theorem dX7_noteAt_9 : decode cX7_noteAt 9 = .ok (.iload_n 1, 1) := by decide +kernel
theorem dX7_noteAt_10 : decode cX7_noteAt 10 = .ok (.iload_n 2, 1) := by decide +kernel
theorem dX7_noteAt_11 : decode cX7_noteAt 11 = .ok (.invokevirtual 126, 3) := by decide +kernel
theorem dX7_noteAt_14 : decode cX7_noteAt 14 = .ok (.ifCond .eq 7, 3) := by decide +kernel
theorem dX7_noteAt_17 : decode cX7_noteAt 17 = .ok (.iconst 0, 1) := by decide +kernel
theorem dX7_noteAt_18 : decode cX7_noteAt 18 = .ok (.goto 4, 3) := by decide +kernel
theorem dX7_noteAt_21 : decode cX7_noteAt 21 = .ok (.iconst 1, 1) := by decide +kernel
theorem dX7_noteAt_22 : decode cX7_noteAt 22 = .ok (.invokevirtual 109, 3) := by decide +kernel
theorem dX7_noteAt_25 : decode cX7_noteAt 25 = .ok (.ifCond .ne 5, 3) := by decide +kernel
theorem dX7_noteAt_28 : decode cX7_noteAt 28 = .ok (.iconst 0, 1) := by decide +kernel
theorem dX7_noteAt_29 : decode cX7_noteAt 29 = .ok (.ireturn, 1) := by decide +kernel
theorem dX7_noteAt_30 : decode cX7_noteAt 30 = .ok (.aload_n 0, 1) := by decide +kernel
theorem dX7_noteAt_31 : decode cX7_noteAt 31 = .ok (.iload_n 1, 1) := by decide +kernel
theorem dX7_noteAt_32 : decode cX7_noteAt 32 = .ok (.invokevirtual 149, 3) := by decide +kernel
theorem dX7_noteAt_35 : decode cX7_noteAt 35 = .ok (.aload_n 0, 1) := by decide +kernel
theorem dX7_noteAt_36 : decode cX7_noteAt 36 = .ok (.iload_n 1, 1) := by decide +kernel
theorem dX7_noteAt_37 : decode cX7_noteAt 37 = .ok (.iload_n 2, 1) := by decide +kernel
theorem dX7_noteAt_38 : decode cX7_noteAt 38 = .ok (.invokevirtual 139, 3) := by decide +kernel
theorem dX7_noteAt_41 : decode cX7_noteAt 41 = .ok (.ireturn, 1) := by decide +kernel
theorem dX7_pages_0 : decode cX7_pages 0 = .ok (.aload_n 0, 1) := by decide +kernel
theorem dX7_pages_1 : decode cX7_pages 1 = .ok (.iload_n 1, 1) := by decide +kernel
theorem dX7_pages_2 : decode cX7_pages 2 = .ok (.invokestatic 101, 3) := by decide +kernel
theorem dX7_pages_5 : decode cX7_pages 5 = .ok (.ifCond .eq 7, 3) := by decide +kernel
theorem dX7_pages_8 : decode cX7_pages 8 = .ok (.iconst 0, 1) := by decide +kernel
theorem dX7_pages_9 : decode cX7_pages 9 = .ok (.goto 4, 3) := by decide +kernel
theorem dX7_pages_12 : decode cX7_pages 12 = .ok (.iconst 1, 1) := by decide +kernel
theorem dX7_pages_13 : decode cX7_pages 13 = .ok (.invokevirtual 109, 3) := by decide +kernel
theorem dX7_pages_16 : decode cX7_pages 16 = .ok (.ifCond .ne 5, 3) := by decide +kernel
theorem dX7_pages_19 : decode cX7_pages 19 = .ok (.iconst 0, 1) := by decide +kernel
theorem dX7_pages_20 : decode cX7_pages 20 = .ok (.ireturn, 1) := by decide +kernel
theorem dX7_pages_21 : decode cX7_pages 21 = .ok (.aload_n 0, 1) := by decide +kernel
theorem dX7_pages_22 : decode cX7_pages 22 = .ok (.iload_n 1, 1) := by decide +kernel
theorem dX7_pages_23 : decode cX7_pages 23 = .ok (.invokevirtual 119, 3) := by decide +kernel
theorem dX7_pages_26 : decode cX7_pages 26 = .ok (.aload_n 0, 1) := by decide +kernel
theorem dX7_pages_27 : decode cX7_pages 27 = .ok (.getfield 155, 3) := by decide +kernel
theorem dX7_pages_30 : decode cX7_pages 30 = .ok (.ireturn, 1) := by decide +kernel
theorem dX7_aheadAnew_0 : decode cX7_aheadAnew 0 = .ok (.aload_n 0, 1) := by decide +kernel
theorem dX7_aheadAnew_1 : decode cX7_aheadAnew 1 = .ok (.iload_n 1, 1) := by decide +kernel
theorem dX7_aheadAnew_2 : decode cX7_aheadAnew 2 = .ok (.invokestatic 101, 3) := by decide +kernel
theorem dX7_aheadAnew_5 : decode cX7_aheadAnew 5 = .ok (.ifCond .eq 11, 3) := by decide +kernel
theorem dX7_aheadAnew_8 : decode cX7_aheadAnew 8 = .ok (.iload_n 2, 1) := by decide +kernel
theorem dX7_aheadAnew_9 : decode cX7_aheadAnew 9 = .ok (.ifCond .lt 7, 3) := by decide +kernel
theorem dX7_aheadAnew_12 : decode cX7_aheadAnew 12 = .ok (.iconst 0, 1) := by decide +kernel
theorem dX7_aheadAnew_13 : decode cX7_aheadAnew 13 = .ok (.goto 4, 3) := by decide +kernel
theorem dX7_aheadAnew_16 : decode cX7_aheadAnew 16 = .ok (.iconst 1, 1) := by decide +kernel
theorem dX7_aheadAnew_17 : decode cX7_aheadAnew 17 = .ok (.invokevirtual 109, 3) := by decide +kernel
theorem dX7_aheadAnew_20 : decode cX7_aheadAnew 20 = .ok (.ifCond .ne 5, 3) := by decide +kernel
theorem dX7_aheadAnew_23 : decode cX7_aheadAnew 23 = .ok (.iconst 0, 1) := by decide +kernel
theorem dX7_aheadAnew_24 : decode cX7_aheadAnew 24 = .ok (.ireturn, 1) := by decide +kernel
theorem dX7_aheadAnew_25 : decode cX7_aheadAnew 25 = .ok (.aload_n 0, 1) := by decide +kernel
theorem dX7_aheadAnew_26 : decode cX7_aheadAnew 26 = .ok (.iload_n 1, 1) := by decide +kernel
theorem dX7_aheadAnew_27 : decode cX7_aheadAnew 27 = .ok (.invokevirtual 119, 3) := by decide +kernel
theorem dX7_aheadAnew_30 : decode cX7_aheadAnew 30 = .ok (.iconst 0, 1) := by decide +kernel
theorem dX7_aheadAnew_31 : decode cX7_aheadAnew 31 = .ok (.istore_n 3, 1) := by decide +kernel
theorem dX7_aheadAnew_32 : decode cX7_aheadAnew 32 = .ok (.iconst 0, 1) := by decide +kernel
theorem dX7_aheadAnew_33 : decode cX7_aheadAnew 33 = .ok (.istore 4, 2) := by decide +kernel
theorem dX7_aheadAnew_35 : decode cX7_aheadAnew 35 = .ok (.iload 4, 2) := by decide +kernel
theorem dX7_aheadAnew_37 : decode cX7_aheadAnew 37 = .ok (.aload_n 0, 1) := by decide +kernel
theorem dX7_aheadAnew_38 : decode cX7_aheadAnew 38 = .ok (.getfield 123, 3) := by decide +kernel
theorem dX7_aheadAnew_41 : decode cX7_aheadAnew 41 = .ok (.if_icmp .ge 28, 3) := by decide +kernel
theorem dX7_aheadAnew_44 : decode cX7_aheadAnew 44 = .ok (.iload_n 3, 1) := by decide +kernel
theorem dX7_aheadAnew_45 : decode cX7_aheadAnew 45 = .ok (.aload_n 0, 1) := by decide +kernel
theorem dX7_aheadAnew_46 : decode cX7_aheadAnew 46 = .ok (.getfield 77, 3) := by decide +kernel
theorem dX7_aheadAnew_49 : decode cX7_aheadAnew 49 = .ok (.iload 4, 2) := by decide +kernel
theorem dX7_aheadAnew_51 : decode cX7_aheadAnew 51 = .ok (.iaload, 1) := by decide +kernel
theorem dX7_aheadAnew_52 : decode cX7_aheadAnew 52 = .ok (.iload_n 2, 1) := by decide +kernel
theorem dX7_aheadAnew_53 : decode cX7_aheadAnew 53 = .ok (.if_icmp .ge 7, 3) := by decide +kernel
theorem dX7_aheadAnew_56 : decode cX7_aheadAnew 56 = .ok (.iconst 1, 1) := by decide +kernel
theorem dX7_aheadAnew_57 : decode cX7_aheadAnew 57 = .ok (.goto 4, 3) := by decide +kernel
theorem dX7_aheadAnew_60 : decode cX7_aheadAnew 60 = .ok (.iconst 0, 1) := by decide +kernel
theorem dX7_aheadAnew_61 : decode cX7_aheadAnew 61 = .ok (.iadd, 1) := by decide +kernel
theorem dX7_aheadAnew_62 : decode cX7_aheadAnew 62 = .ok (.istore_n 3, 1) := by decide +kernel
theorem dX7_aheadAnew_63 : decode cX7_aheadAnew 63 = .ok (.iinc 4 1, 3) := by decide +kernel
theorem dX7_aheadAnew_66 : decode cX7_aheadAnew 66 = .ok (.goto (-31), 3) := by decide +kernel
theorem dX7_aheadAnew_69 : decode cX7_aheadAnew 69 = .ok (.iload_n 3, 1) := by decide +kernel
theorem dX7_aheadAnew_70 : decode cX7_aheadAnew 70 = .ok (.ireturn, 1) := by decide +kernel
theorem dX7_known_0 : decode cX7_known 0 = .ok (.aload_n 0, 1) := by decide +kernel
theorem dX7_known_1 : decode cX7_known 1 = .ok (.iload_n 1, 1) := by decide +kernel
theorem dX7_known_2 : decode cX7_known 2 = .ok (.invokestatic 101, 3) := by decide +kernel
theorem dX7_known_5 : decode cX7_known 5 = .ok (.ifCond .eq 7, 3) := by decide +kernel
theorem dX7_known_8 : decode cX7_known 8 = .ok (.iconst 0, 1) := by decide +kernel
theorem dX7_known_9 : decode cX7_known 9 = .ok (.goto 4, 3) := by decide +kernel
theorem dX7_known_12 : decode cX7_known 12 = .ok (.iconst 1, 1) := by decide +kernel
theorem dX7_known_13 : decode cX7_known 13 = .ok (.invokevirtual 109, 3) := by decide +kernel
theorem dX7_known_16 : decode cX7_known 16 = .ok (.ifCond .eq 12, 3) := by decide +kernel
theorem dX7_known_19 : decode cX7_known 19 = .ok (.aload_n 0, 1) := by decide +kernel
theorem dX7_known_20 : decode cX7_known 20 = .ok (.getfield 47, 3) := by decide +kernel
theorem dX7_known_23 : decode cX7_known 23 = .ok (.iload_n 1, 1) := by decide +kernel
theorem dX7_known_24 : decode cX7_known 24 = .ok (.iaload, 1) := by decide +kernel
theorem dX7_known_25 : decode cX7_known 25 = .ok (.goto 4, 3) := by decide +kernel
theorem dX7_known_28 : decode cX7_known 28 = .ok (.iconst 0, 1) := by decide +kernel
theorem dX7_known_29 : decode cX7_known 29 = .ok (.ireturn, 1) := by decide +kernel
theorem dL_insert_0 : decode cL_insert 0 = .ok (.aload 5, 2) := by decide +kernel
theorem dL_insert_2 : decode cL_insert 2 = .ok (.iconst 0, 1) := by decide +kernel
theorem dL_insert_3 : decode cL_insert 3 = .ok (.aload_n 0, 1) := by decide +kernel
theorem dL_insert_4 : decode cL_insert 4 = .ok (.iload_n 1, 1) := by decide +kernel
theorem dL_insert_5 : decode cL_insert 5 = .ok (.iload_n 2, 1) := by decide +kernel
theorem dL_insert_6 : decode cL_insert 6 = .ok (.iload_n 3, 1) := by decide +kernel
theorem dL_insert_7 : decode cL_insert 7 = .ok (.iload 4, 2) := by decide +kernel
theorem dL_insert_9 : decode cL_insert 9 = .ok (.invokevirtual 7, 3) := by decide +kernel
theorem dL_insert_12 : decode cL_insert 12 = .ok (.i2l, 1) := by decide +kernel
theorem dL_insert_13 : decode cL_insert 13 = .ok (.lastore, 1) := by decide +kernel
theorem dL_insert_14 : decode cL_insert 14 = .ok (.goto 15, 3) := by decide +kernel
theorem dL_insert_17 : decode cL_insert 17 = .ok (.astore 6, 2) := by decide +kernel
theorem dL_insert_19 : decode cL_insert 19 = .ok (.iconst 1, 1) := by decide +kernel
theorem dL_insert_20 : decode cL_insert 20 = .ok (.ireturn, 1) := by decide +kernel
theorem dL_insert_21 : decode cL_insert 21 = .ok (.astore 6, 2) := by decide +kernel
theorem dL_insert_23 : decode cL_insert 23 = .ok (.iconst 2, 1) := by decide +kernel
theorem dL_insert_24 : decode cL_insert 24 = .ok (.ireturn, 1) := by decide +kernel
theorem dL_insert_25 : decode cL_insert 25 = .ok (.astore 6, 2) := by decide +kernel
theorem dL_insert_27 : decode cL_insert 27 = .ok (.iconst 3, 1) := by decide +kernel
theorem dL_insert_28 : decode cL_insert 28 = .ok (.ireturn, 1) := by decide +kernel
theorem dL_insert_29 : decode cL_insert 29 = .ok (.iconst 0, 1) := by decide +kernel
theorem dL_insert_30 : decode cL_insert 30 = .ok (.ireturn, 1) := by decide +kernel
theorem dL_remove_0 : decode cL_remove 0 = .ok (.aload_n 3, 1) := by decide +kernel
theorem dL_remove_1 : decode cL_remove 1 = .ok (.iconst 0, 1) := by decide +kernel
theorem dL_remove_2 : decode cL_remove 2 = .ok (.aload_n 0, 1) := by decide +kernel
theorem dL_remove_3 : decode cL_remove 3 = .ok (.iload_n 1, 1) := by decide +kernel
theorem dL_remove_4 : decode cL_remove 4 = .ok (.iload_n 2, 1) := by decide +kernel
theorem dL_remove_5 : decode cL_remove 5 = .ok (.invokevirtual 19, 3) := by decide +kernel
theorem dL_remove_8 : decode cL_remove 8 = .ok (.i2l, 1) := by decide +kernel
theorem dL_remove_9 : decode cL_remove 9 = .ok (.lastore, 1) := by decide +kernel
theorem dL_remove_10 : decode cL_remove 10 = .ok (.goto 15, 3) := by decide +kernel
theorem dL_remove_13 : decode cL_remove 13 = .ok (.astore 4, 2) := by decide +kernel
theorem dL_remove_15 : decode cL_remove 15 = .ok (.iconst 1, 1) := by decide +kernel
theorem dL_remove_16 : decode cL_remove 16 = .ok (.ireturn, 1) := by decide +kernel
theorem dL_remove_17 : decode cL_remove 17 = .ok (.astore 4, 2) := by decide +kernel
theorem dL_remove_19 : decode cL_remove 19 = .ok (.iconst 2, 1) := by decide +kernel
theorem dL_remove_20 : decode cL_remove 20 = .ok (.ireturn, 1) := by decide +kernel
theorem dL_remove_21 : decode cL_remove 21 = .ok (.astore 4, 2) := by decide +kernel
theorem dL_remove_23 : decode cL_remove 23 = .ok (.iconst 3, 1) := by decide +kernel
theorem dL_remove_24 : decode cL_remove 24 = .ok (.ireturn, 1) := by decide +kernel
theorem dL_remove_25 : decode cL_remove 25 = .ok (.iconst 0, 1) := by decide +kernel
theorem dL_remove_26 : decode cL_remove 26 = .ok (.ireturn, 1) := by decide +kernel
theorem dL_note_0 : decode cL_note 0 = .ok (.aload 4, 2) := by decide +kernel
theorem dL_note_2 : decode cL_note 2 = .ok (.iconst 0, 1) := by decide +kernel
theorem dL_note_3 : decode cL_note 3 = .ok (.aload_n 0, 1) := by decide +kernel
theorem dL_note_4 : decode cL_note 4 = .ok (.iload_n 1, 1) := by decide +kernel
theorem dL_note_5 : decode cL_note 5 = .ok (.iload_n 2, 1) := by decide +kernel
theorem dL_note_6 : decode cL_note 6 = .ok (.iload_n 3, 1) := by decide +kernel
theorem dL_note_7 : decode cL_note 7 = .ok (.invokevirtual 25, 3) := by decide +kernel
theorem dL_note_10 : decode cL_note 10 = .ok (.i2l, 1) := by decide +kernel
theorem dL_note_11 : decode cL_note 11 = .ok (.lastore, 1) := by decide +kernel
theorem dL_note_12 : decode cL_note 12 = .ok (.goto 19, 3) := by decide +kernel
theorem dL_note_15 : decode cL_note 15 = .ok (.astore 5, 2) := by decide +kernel
theorem dL_note_17 : decode cL_note 17 = .ok (.iconst 1, 1) := by decide +kernel
theorem dL_note_18 : decode cL_note 18 = .ok (.ireturn, 1) := by decide +kernel
theorem dL_note_19 : decode cL_note 19 = .ok (.astore 5, 2) := by decide +kernel
theorem dL_note_21 : decode cL_note 21 = .ok (.iconst 2, 1) := by decide +kernel
theorem dL_note_22 : decode cL_note 22 = .ok (.ireturn, 1) := by decide +kernel
theorem dL_note_23 : decode cL_note 23 = .ok (.astore 5, 2) := by decide +kernel
theorem dL_note_25 : decode cL_note 25 = .ok (.iconst 3, 1) := by decide +kernel
theorem dL_note_26 : decode cL_note 26 = .ok (.ireturn, 1) := by decide +kernel
theorem dL_note_27 : decode cL_note 27 = .ok (.astore 5, 2) := by decide +kernel
theorem dL_note_29 : decode cL_note 29 = .ok (.iconst 4, 1) := by decide +kernel
theorem dL_note_30 : decode cL_note 30 = .ok (.ireturn, 1) := by decide +kernel
theorem dL_note_31 : decode cL_note 31 = .ok (.iconst 0, 1) := by decide +kernel
theorem dL_note_32 : decode cL_note 32 = .ok (.ireturn, 1) := by decide +kernel
theorem dL_move_0 : decode cL_move 0 = .ok (.aload_n 0, 1) := by decide +kernel
theorem dL_move_1 : decode cL_move 1 = .ok (.iload_n 1, 1) := by decide +kernel
theorem dL_move_2 : decode cL_move 2 = .ok (.iload_n 2, 1) := by decide +kernel
theorem dL_move_3 : decode cL_move 3 = .ok (.iload_n 3, 1) := by decide +kernel
theorem dL_move_4 : decode cL_move 4 = .ok (.invokevirtual 29, 3) := by decide +kernel
theorem dL_move_7 : decode cL_move 7 = .ok (.goto 15, 3) := by decide +kernel
theorem dL_move_10 : decode cL_move 10 = .ok (.astore 4, 2) := by decide +kernel
theorem dL_move_12 : decode cL_move 12 = .ok (.iconst 1, 1) := by decide +kernel
theorem dL_move_13 : decode cL_move 13 = .ok (.ireturn, 1) := by decide +kernel
theorem dL_move_14 : decode cL_move 14 = .ok (.astore 4, 2) := by decide +kernel
theorem dL_move_16 : decode cL_move 16 = .ok (.iconst 2, 1) := by decide +kernel
theorem dL_move_17 : decode cL_move 17 = .ok (.ireturn, 1) := by decide +kernel
theorem dL_move_18 : decode cL_move 18 = .ok (.astore 4, 2) := by decide +kernel
theorem dL_move_20 : decode cL_move 20 = .ok (.iconst 3, 1) := by decide +kernel
theorem dL_move_21 : decode cL_move 21 = .ok (.ireturn, 1) := by decide +kernel
theorem dL_move_22 : decode cL_move 22 = .ok (.iconst 0, 1) := by decide +kernel
theorem dL_move_23 : decode cL_move 23 = .ok (.ireturn, 1) := by decide +kernel
theorem dL_sync_0 : decode cL_sync 0 = .ok (.aload_n 3, 1) := by decide +kernel
theorem dL_sync_1 : decode cL_sync 1 = .ok (.iconst 0, 1) := by decide +kernel
theorem dL_sync_2 : decode cL_sync 2 = .ok (.aload_n 0, 1) := by decide +kernel
theorem dL_sync_3 : decode cL_sync 3 = .ok (.iload_n 1, 1) := by decide +kernel
theorem dL_sync_4 : decode cL_sync 4 = .ok (.iload_n 2, 1) := by decide +kernel
theorem dL_sync_5 : decode cL_sync 5 = .ok (.invokevirtual 33, 3) := by decide +kernel
theorem dL_sync_8 : decode cL_sync 8 = .ok (.i2l, 1) := by decide +kernel
theorem dL_sync_9 : decode cL_sync 9 = .ok (.lastore, 1) := by decide +kernel
theorem dL_sync_10 : decode cL_sync 10 = .ok (.goto 7, 3) := by decide +kernel
theorem dL_sync_13 : decode cL_sync 13 = .ok (.astore 4, 2) := by decide +kernel
theorem dL_sync_15 : decode cL_sync 15 = .ok (.iconst 1, 1) := by decide +kernel
theorem dL_sync_16 : decode cL_sync 16 = .ok (.ireturn, 1) := by decide +kernel
theorem dL_sync_17 : decode cL_sync 17 = .ok (.iconst 0, 1) := by decide +kernel
theorem dL_sync_18 : decode cL_sync 18 = .ok (.ireturn, 1) := by decide +kernel
theorem dL_print_0 : decode cL_print 0 = .ok (.aload_n 1, 1) := by decide +kernel
theorem dL_print_1 : decode cL_print 1 = .ok (.iconst 0, 1) := by decide +kernel
theorem dL_print_2 : decode cL_print 2 = .ok (.aload_n 0, 1) := by decide +kernel
theorem dL_print_3 : decode cL_print 3 = .ok (.invokevirtual 36, 3) := by decide +kernel
theorem dL_print_6 : decode cL_print 6 = .ok (.i2l, 1) := by decide +kernel
theorem dL_print_7 : decode cL_print 7 = .ok (.lastore, 1) := by decide +kernel
theorem dL_print_8 : decode cL_print 8 = .ok (.goto 6, 3) := by decide +kernel
theorem dL_print_11 : decode cL_print 11 = .ok (.astore_n 2, 1) := by decide +kernel
theorem dL_print_12 : decode cL_print 12 = .ok (.iconst 1, 1) := by decide +kernel
theorem dL_print_13 : decode cL_print 13 = .ok (.ireturn, 1) := by decide +kernel
theorem dL_print_14 : decode cL_print 14 = .ok (.iconst 0, 1) := by decide +kernel
theorem dL_print_15 : decode cL_print 15 = .ok (.ireturn, 1) := by decide +kernel
theorem dL_differs_0 : decode cL_differs 0 = .ok (.aload_n 2, 1) := by decide +kernel
theorem dL_differs_1 : decode cL_differs 1 = .ok (.iconst 0, 1) := by decide +kernel
theorem dL_differs_2 : decode cL_differs 2 = .ok (.aload_n 0, 1) := by decide +kernel
theorem dL_differs_3 : decode cL_differs 3 = .ok (.iload_n 1, 1) := by decide +kernel
theorem dL_differs_4 : decode cL_differs 4 = .ok (.invokevirtual 40, 3) := by decide +kernel
theorem dL_differs_7 : decode cL_differs 7 = .ok (.i2l, 1) := by decide +kernel
theorem dL_differs_8 : decode cL_differs 8 = .ok (.lastore, 1) := by decide +kernel
theorem dL_differs_9 : decode cL_differs 9 = .ok (.goto 6, 3) := by decide +kernel
theorem dL_differs_12 : decode cL_differs 12 = .ok (.astore_n 3, 1) := by decide +kernel
theorem dL_differs_13 : decode cL_differs 13 = .ok (.iconst 1, 1) := by decide +kernel
theorem dL_differs_14 : decode cL_differs 14 = .ok (.ireturn, 1) := by decide +kernel
theorem dL_differs_15 : decode cL_differs 15 = .ok (.iconst 0, 1) := by decide +kernel
theorem dL_differs_16 : decode cL_differs 16 = .ok (.ireturn, 1) := by decide +kernel
theorem dL_lines_0 : decode cL_lines 0 = .ok (.aload_n 2, 1) := by decide +kernel
theorem dL_lines_1 : decode cL_lines 1 = .ok (.iconst 0, 1) := by decide +kernel
theorem dL_lines_2 : decode cL_lines 2 = .ok (.aload_n 0, 1) := by decide +kernel
theorem dL_lines_3 : decode cL_lines 3 = .ok (.iload_n 1, 1) := by decide +kernel
theorem dL_lines_4 : decode cL_lines 4 = .ok (.invokevirtual 44, 3) := by decide +kernel
theorem dL_lines_7 : decode cL_lines 7 = .ok (.i2l, 1) := by decide +kernel
theorem dL_lines_8 : decode cL_lines 8 = .ok (.lastore, 1) := by decide +kernel
theorem dL_lines_9 : decode cL_lines 9 = .ok (.goto 6, 3) := by decide +kernel
theorem dL_lines_12 : decode cL_lines 12 = .ok (.astore_n 3, 1) := by decide +kernel
theorem dL_lines_13 : decode cL_lines 13 = .ok (.iconst 1, 1) := by decide +kernel
theorem dL_lines_14 : decode cL_lines 14 = .ok (.ireturn, 1) := by decide +kernel
theorem dL_lines_15 : decode cL_lines 15 = .ok (.iconst 0, 1) := by decide +kernel
theorem dL_lines_16 : decode cL_lines 16 = .ok (.ireturn, 1) := by decide +kernel
theorem dL_lineAt_0 : decode cL_lineAt 0 = .ok (.aload 4, 2) := by decide +kernel
theorem dL_lineAt_2 : decode cL_lineAt 2 = .ok (.iconst 0, 1) := by decide +kernel
theorem dL_lineAt_3 : decode cL_lineAt 3 = .ok (.aload_n 0, 1) := by decide +kernel
theorem dL_lineAt_4 : decode cL_lineAt 4 = .ok (.iload_n 1, 1) := by decide +kernel
theorem dL_lineAt_5 : decode cL_lineAt 5 = .ok (.iload_n 2, 1) := by decide +kernel
theorem dL_lineAt_6 : decode cL_lineAt 6 = .ok (.iload_n 3, 1) := by decide +kernel
theorem dL_lineAt_7 : decode cL_lineAt 7 = .ok (.invokevirtual 47, 3) := by decide +kernel
theorem dL_lineAt_10 : decode cL_lineAt 10 = .ok (.i2l, 1) := by decide +kernel
theorem dL_lineAt_11 : decode cL_lineAt 11 = .ok (.lastore, 1) := by decide +kernel
theorem dL_lineAt_12 : decode cL_lineAt 12 = .ok (.goto 11, 3) := by decide +kernel
theorem dL_lineAt_15 : decode cL_lineAt 15 = .ok (.astore 5, 2) := by decide +kernel
theorem dL_lineAt_17 : decode cL_lineAt 17 = .ok (.iconst 1, 1) := by decide +kernel
theorem dL_lineAt_18 : decode cL_lineAt 18 = .ok (.ireturn, 1) := by decide +kernel
theorem dL_lineAt_19 : decode cL_lineAt 19 = .ok (.astore 5, 2) := by decide +kernel
theorem dL_lineAt_21 : decode cL_lineAt 21 = .ok (.iconst 2, 1) := by decide +kernel
theorem dL_lineAt_22 : decode cL_lineAt 22 = .ok (.ireturn, 1) := by decide +kernel
theorem dL_lineAt_23 : decode cL_lineAt 23 = .ok (.iconst 0, 1) := by decide +kernel
theorem dL_lineAt_24 : decode cL_lineAt 24 = .ok (.ireturn, 1) := by decide +kernel
theorem dL_lineAnew_0 : decode cL_lineAnew 0 = .ok (.aload_n 3, 1) := by decide +kernel
theorem dL_lineAnew_1 : decode cL_lineAnew 1 = .ok (.iconst 0, 1) := by decide +kernel
theorem dL_lineAnew_2 : decode cL_lineAnew 2 = .ok (.aload_n 0, 1) := by decide +kernel
theorem dL_lineAnew_3 : decode cL_lineAnew 3 = .ok (.iload_n 1, 1) := by decide +kernel
theorem dL_lineAnew_4 : decode cL_lineAnew 4 = .ok (.iload_n 2, 1) := by decide +kernel
theorem dL_lineAnew_5 : decode cL_lineAnew 5 = .ok (.invokevirtual 50, 3) := by decide +kernel
theorem dL_lineAnew_8 : decode cL_lineAnew 8 = .ok (.i2l, 1) := by decide +kernel
theorem dL_lineAnew_9 : decode cL_lineAnew 9 = .ok (.lastore, 1) := by decide +kernel
theorem dL_lineAnew_10 : decode cL_lineAnew 10 = .ok (.goto 7, 3) := by decide +kernel
theorem dL_lineAnew_13 : decode cL_lineAnew 13 = .ok (.astore 4, 2) := by decide +kernel
theorem dL_lineAnew_15 : decode cL_lineAnew 15 = .ok (.iconst 1, 1) := by decide +kernel
theorem dL_lineAnew_16 : decode cL_lineAnew 16 = .ok (.ireturn, 1) := by decide +kernel
theorem dL_lineAnew_17 : decode cL_lineAnew 17 = .ok (.iconst 0, 1) := by decide +kernel
theorem dL_lineAnew_18 : decode cL_lineAnew 18 = .ok (.ireturn, 1) := by decide +kernel
theorem dL_noteAt_0 : decode cL_noteAt 0 = .ok (.aload_n 3, 1) := by decide +kernel
theorem dL_noteAt_1 : decode cL_noteAt 1 = .ok (.iconst 0, 1) := by decide +kernel
theorem dL_noteAt_2 : decode cL_noteAt 2 = .ok (.aload_n 0, 1) := by decide +kernel
theorem dL_noteAt_3 : decode cL_noteAt 3 = .ok (.iload_n 1, 1) := by decide +kernel
theorem dL_noteAt_4 : decode cL_noteAt 4 = .ok (.iload_n 2, 1) := by decide +kernel
theorem dL_noteAt_5 : decode cL_noteAt 5 = .ok (.invokevirtual 53, 3) := by decide +kernel
theorem dL_noteAt_8 : decode cL_noteAt 8 = .ok (.i2l, 1) := by decide +kernel
theorem dL_noteAt_9 : decode cL_noteAt 9 = .ok (.lastore, 1) := by decide +kernel
theorem dL_noteAt_10 : decode cL_noteAt 10 = .ok (.goto 7, 3) := by decide +kernel
theorem dL_noteAt_13 : decode cL_noteAt 13 = .ok (.astore 4, 2) := by decide +kernel
theorem dL_noteAt_15 : decode cL_noteAt 15 = .ok (.iconst 1, 1) := by decide +kernel
theorem dL_noteAt_16 : decode cL_noteAt 16 = .ok (.ireturn, 1) := by decide +kernel
theorem dL_noteAt_17 : decode cL_noteAt 17 = .ok (.iconst 0, 1) := by decide +kernel
theorem dL_noteAt_18 : decode cL_noteAt 18 = .ok (.ireturn, 1) := by decide +kernel
theorem dL_pages_0 : decode cL_pages 0 = .ok (.aload_n 2, 1) := by decide +kernel
theorem dL_pages_1 : decode cL_pages 1 = .ok (.iconst 0, 1) := by decide +kernel
theorem dL_pages_2 : decode cL_pages 2 = .ok (.aload_n 0, 1) := by decide +kernel
theorem dL_pages_3 : decode cL_pages 3 = .ok (.iload_n 1, 1) := by decide +kernel
theorem dL_pages_4 : decode cL_pages 4 = .ok (.invokevirtual 56, 3) := by decide +kernel
theorem dL_pages_7 : decode cL_pages 7 = .ok (.i2l, 1) := by decide +kernel
theorem dL_pages_8 : decode cL_pages 8 = .ok (.lastore, 1) := by decide +kernel
theorem dL_pages_9 : decode cL_pages 9 = .ok (.goto 6, 3) := by decide +kernel
theorem dL_pages_12 : decode cL_pages 12 = .ok (.astore_n 3, 1) := by decide +kernel
theorem dL_pages_13 : decode cL_pages 13 = .ok (.iconst 1, 1) := by decide +kernel
theorem dL_pages_14 : decode cL_pages 14 = .ok (.ireturn, 1) := by decide +kernel
theorem dL_pages_15 : decode cL_pages 15 = .ok (.iconst 0, 1) := by decide +kernel
theorem dL_pages_16 : decode cL_pages 16 = .ok (.ireturn, 1) := by decide +kernel
theorem dL_aheadAnew_0 : decode cL_aheadAnew 0 = .ok (.aload_n 3, 1) := by decide +kernel
theorem dL_aheadAnew_1 : decode cL_aheadAnew 1 = .ok (.iconst 0, 1) := by decide +kernel
theorem dL_aheadAnew_2 : decode cL_aheadAnew 2 = .ok (.aload_n 0, 1) := by decide +kernel
theorem dL_aheadAnew_3 : decode cL_aheadAnew 3 = .ok (.iload_n 1, 1) := by decide +kernel
theorem dL_aheadAnew_4 : decode cL_aheadAnew 4 = .ok (.iload_n 2, 1) := by decide +kernel
theorem dL_aheadAnew_5 : decode cL_aheadAnew 5 = .ok (.invokevirtual 59, 3) := by decide +kernel
theorem dL_aheadAnew_8 : decode cL_aheadAnew 8 = .ok (.i2l, 1) := by decide +kernel
theorem dL_aheadAnew_9 : decode cL_aheadAnew 9 = .ok (.lastore, 1) := by decide +kernel
theorem dL_aheadAnew_10 : decode cL_aheadAnew 10 = .ok (.goto 7, 3) := by decide +kernel
theorem dL_aheadAnew_13 : decode cL_aheadAnew 13 = .ok (.astore 4, 2) := by decide +kernel
theorem dL_aheadAnew_15 : decode cL_aheadAnew 15 = .ok (.iconst 1, 1) := by decide +kernel
theorem dL_aheadAnew_16 : decode cL_aheadAnew 16 = .ok (.ireturn, 1) := by decide +kernel
theorem dL_aheadAnew_17 : decode cL_aheadAnew 17 = .ok (.iconst 0, 1) := by decide +kernel
theorem dL_aheadAnew_18 : decode cL_aheadAnew 18 = .ok (.ireturn, 1) := by decide +kernel
theorem dL_known_0 : decode cL_known 0 = .ok (.aload_n 2, 1) := by decide +kernel
theorem dL_known_1 : decode cL_known 1 = .ok (.iconst 0, 1) := by decide +kernel
theorem dL_known_2 : decode cL_known 2 = .ok (.aload_n 0, 1) := by decide +kernel
theorem dL_known_3 : decode cL_known 3 = .ok (.iload_n 1, 1) := by decide +kernel
theorem dL_known_4 : decode cL_known 4 = .ok (.invokevirtual 62, 3) := by decide +kernel
theorem dL_known_7 : decode cL_known 7 = .ok (.i2l, 1) := by decide +kernel
theorem dL_known_8 : decode cL_known 8 = .ok (.lastore, 1) := by decide +kernel
theorem dL_known_9 : decode cL_known 9 = .ok (.goto 6, 3) := by decide +kernel
