theorem dX0_init_0 : decode cX0_init 0 = .ok (.aload_n 0, 1) := by decide +kernel
theorem dX0_init_1 : decode cX0_init 1 = .ok (.invokespecial 3, 3) := by decide +kernel
theorem dX0_init_4 : decode cX0_init 4 = .ok (.aload_n 0, 1) := by decide +kernel
theorem dX0_init_5 : decode cX0_init 5 = .ok (.new 9, 3) := by decide +kernel
theorem dX0_init_8 : decode cX0_init 8 = .ok (.dup, 1) := by decide +kernel
theorem dX0_init_9 : decode cX0_init 9 = .ok (.bipush 90, 2) := by decide +kernel
theorem dX0_init_11 : decode cX0_init 11 = .ok (.invokespecial 11, 3) := by decide +kernel
theorem dX0_init_14 : decode cX0_init 14 = .ok (.putfield 14, 3) := by decide +kernel
theorem dX0_init_17 : decode cX0_init 17 = .ok (.aload_n 0, 1) := by decide +kernel
theorem dX0_init_18 : decode cX0_init 18 = .ok (.new 9, 3) := by decide +kernel
theorem dX0_init_21 : decode cX0_init 21 = .ok (.dup, 1) := by decide +kernel
theorem dX0_init_22 : decode cX0_init 22 = .ok (.bipush 90, 2) := by decide +kernel
theorem dX0_init_24 : decode cX0_init 24 = .ok (.invokespecial 11, 3) := by decide +kernel
theorem dX0_init_27 : decode cX0_init 27 = .ok (.putfield 20, 3) := by decide +kernel
theorem dX0_init_30 : decode cX0_init 30 = .ok (.aload_n 0, 1) := by decide +kernel
theorem dX0_init_31 : decode cX0_init 31 = .ok (.new 9, 3) := by decide +kernel
theorem dX0_init_34 : decode cX0_init 34 = .ok (.dup, 1) := by decide +kernel
theorem dX0_init_35 : decode cX0_init 35 = .ok (.bipush 90, 2) := by decide +kernel
theorem dX0_init_37 : decode cX0_init 37 = .ok (.invokespecial 11, 3) := by decide +kernel
theorem dX0_init_40 : decode cX0_init 40 = .ok (.putfield 23, 3) := by decide +kernel
theorem dX0_init_43 : decode cX0_init 43 = .ok (.aload_n 0, 1) := by decide +kernel
theorem dX0_init_44 : decode cX0_init 44 = .ok (.new 9, 3) := by decide +kernel
theorem dX0_init_47 : decode cX0_init 47 = .ok (.dup, 1) := by decide +kernel
theorem dX0_init_48 : decode cX0_init 48 = .ok (.bipush 90, 2) := by decide +kernel
theorem dX0_init_50 : decode cX0_init 50 = .ok (.invokespecial 11, 3) := by decide +kernel
theorem dX0_init_53 : decode cX0_init 53 = .ok (.putfield 26, 3) := by decide +kernel
theorem dX0_init_56 : decode cX0_init 56 = .ok (.aload_n 0, 1) := by decide +kernel
theorem dX0_init_57 : decode cX0_init 57 = .ok (.aload_n 1, 1) := by decide +kernel
theorem dX0_init_58 : decode cX0_init 58 = .ok (.putfield 29, 3) := by decide +kernel
theorem dX0_init_61 : decode cX0_init 61 = .ok (.aload_n 0, 1) := by decide +kernel
theorem dX0_init_62 : decode cX0_init 62 = .ok (.aload_n 2, 1) := by decide +kernel
theorem dX0_init_63 : decode cX0_init 63 = .ok (.putfield 33, 3) := by decide +kernel
theorem dX0_init_66 : decode cX0_init 66 = .ok (.return_, 1) := by decide +kernel
theorem dX0_layAnew_0 : decode cX0_layAnew 0 = .ok (.aload_n 0, 1) := by decide +kernel
theorem dX0_layAnew_1 : decode cX0_layAnew 1 = .ok (.invokevirtual 37, 3) := by decide +kernel
theorem dX0_layAnew_4 : decode cX0_layAnew 4 = .ok (.aload_n 0, 1) := by decide +kernel
theorem dX0_layAnew_5 : decode cX0_layAnew 5 = .ok (.invokevirtual 40, 3) := by decide +kernel
theorem dX0_layAnew_8 : decode cX0_layAnew 8 = .ok (.aload_n 0, 1) := by decide +kernel
theorem dX0_layAnew_9 : decode cX0_layAnew 9 = .ok (.invokevirtual 43, 3) := by decide +kernel
theorem dX0_layAnew_12 : decode cX0_layAnew 12 = .ok (.return_, 1) := by decide +kernel
theorem dX0_lineCount_0 : decode cX0_lineCount 0 = .ok (.aload_n 0, 1) := by decide +kernel
theorem dX0_lineCount_1 : decode cX0_lineCount 1 = .ok (.getfield 14, 3) := by decide +kernel
theorem dX0_lineCount_4 : decode cX0_lineCount 4 = .ok (.invokevirtual 46, 3) := by decide +kernel
theorem dX0_lineCount_7 : decode cX0_lineCount 7 = .ok (.ireturn, 1) := by decide +kernel
theorem dX0_line_0 : decode cX0_line 0 = .ok (.aload_n 0, 1) := by decide +kernel
theorem dX0_line_1 : decode cX0_line 1 = .ok (.getfield 14, 3) := by decide +kernel
theorem dX0_line_4 : decode cX0_line 4 = .ok (.iload_n 1, 1) := by decide +kernel
theorem dX0_line_5 : decode cX0_line 5 = .ok (.invokevirtual 50, 3) := by decide +kernel
theorem dX0_line_8 : decode cX0_line 8 = .ok (.ireturn, 1) := by decide +kernel
theorem dX0_rows_0 : decode cX0_rows 0 = .ok (.aload_n 0, 1) := by decide +kernel
theorem dX0_rows_1 : decode cX0_rows 1 = .ok (.getfield 23, 3) := by decide +kernel
theorem dX0_rows_4 : decode cX0_rows 4 = .ok (.aload_n 0, 1) := by decide +kernel
theorem dX0_rows_5 : decode cX0_rows 5 = .ok (.getfield 14, 3) := by decide +kernel
theorem dX0_rows_8 : decode cX0_rows 8 = .ok (.iload_n 1, 1) := by decide +kernel
theorem dX0_rows_9 : decode cX0_rows 9 = .ok (.invokevirtual 50, 3) := by decide +kernel
theorem dX0_rows_12 : decode cX0_rows 12 = .ok (.invokevirtual 50, 3) := by decide +kernel
theorem dX0_rows_15 : decode cX0_rows 15 = .ok (.ireturn, 1) := by decide +kernel
theorem dX0_beginsParagraph_0 : decode cX0_beginsParagraph 0 = .ok (.aload_n 0, 1) := by decide +kernel
theorem dX0_beginsParagraph_1 : decode cX0_beginsParagraph 1 = .ok (.getfield 20, 3) := by decide +kernel
theorem dX0_beginsParagraph_4 : decode cX0_beginsParagraph 4 = .ok (.iload_n 1, 1) := by decide +kernel
theorem dX0_beginsParagraph_5 : decode cX0_beginsParagraph 5 = .ok (.invokevirtual 50, 3) := by decide +kernel
theorem dX0_beginsParagraph_8 : decode cX0_beginsParagraph 8 = .ok (.iconst 1, 1) := by decide +kernel
theorem dX0_beginsParagraph_9 : decode cX0_beginsParagraph 9 = .ok (.if_icmp .ne 7, 3) := by decide +kernel
theorem dX0_beginsParagraph_12 : decode cX0_beginsParagraph 12 = .ok (.iconst 1, 1) := by decide +kernel
theorem dX0_beginsParagraph_13 : decode cX0_beginsParagraph 13 = .ok (.goto 4, 3) := by decide +kernel
theorem dX0_beginsParagraph_16 : decode cX0_beginsParagraph 16 = .ok (.iconst 0, 1) := by decide +kernel
theorem dX0_beginsParagraph_17 : decode cX0_beginsParagraph 17 = .ok (.ireturn, 1) := by decide +kernel
theorem dX0_pageCount_0 : decode cX0_pageCount 0 = .ok (.aload_n 0, 1) := by decide +kernel
theorem dX0_pageCount_1 : decode cX0_pageCount 1 = .ok (.getfield 26, 3) := by decide +kernel
theorem dX0_pageCount_4 : decode cX0_pageCount 4 = .ok (.invokevirtual 46, 3) := by decide +kernel
theorem dX0_pageCount_7 : decode cX0_pageCount 7 = .ok (.ireturn, 1) := by decide +kernel
theorem dX0_pageOf_0 : decode cX0_pageOf 0 = .ok (.iconst (-1), 1) := by decide +kernel
theorem dX0_pageOf_1 : decode cX0_pageOf 1 = .ok (.istore_n 2, 1) := by decide +kernel
theorem dX0_pageOf_2 : decode cX0_pageOf 2 = .ok (.iconst 0, 1) := by decide +kernel
theorem dX0_pageOf_3 : decode cX0_pageOf 3 = .ok (.istore_n 3, 1) := by decide +kernel
theorem dX0_pageOf_4 : decode cX0_pageOf 4 = .ok (.iload_n 3, 1) := by decide +kernel
theorem dX0_pageOf_5 : decode cX0_pageOf 5 = .ok (.aload_n 0, 1) := by decide +kernel
theorem dX0_pageOf_6 : decode cX0_pageOf 6 = .ok (.getfield 26, 3) := by decide +kernel
theorem dX0_pageOf_9 : decode cX0_pageOf 9 = .ok (.invokevirtual 46, 3) := by decide +kernel
theorem dX0_pageOf_12 : decode cX0_pageOf 12 = .ok (.if_icmp .ge 23, 3) := by decide +kernel
theorem dX0_pageOf_15 : decode cX0_pageOf 15 = .ok (.aload_n 0, 1) := by decide +kernel
theorem dX0_pageOf_16 : decode cX0_pageOf 16 = .ok (.getfield 26, 3) := by decide +kernel
theorem dX0_pageOf_19 : decode cX0_pageOf 19 = .ok (.iload_n 3, 1) := by decide +kernel
theorem dX0_pageOf_20 : decode cX0_pageOf 20 = .ok (.invokevirtual 50, 3) := by decide +kernel
theorem dX0_pageOf_23 : decode cX0_pageOf 23 = .ok (.iload_n 1, 1) := by decide +kernel
theorem dX0_pageOf_24 : decode cX0_pageOf 24 = .ok (.if_icmp .gt 11, 3) := by decide +kernel
theorem dX0_pageOf_27 : decode cX0_pageOf 27 = .ok (.iload_n 3, 1) := by decide +kernel
theorem dX0_pageOf_28 : decode cX0_pageOf 28 = .ok (.istore_n 2, 1) := by decide +kernel
theorem dX0_pageOf_29 : decode cX0_pageOf 29 = .ok (.iinc 3 1, 3) := by decide +kernel
theorem dX0_pageOf_32 : decode cX0_pageOf 32 = .ok (.goto (-28), 3) := by decide +kernel
theorem dX0_pageOf_35 : decode cX0_pageOf 35 = .ok (.iload_n 2, 1) := by decide +kernel
theorem dX0_pageOf_36 : decode cX0_pageOf 36 = .ok (.ireturn, 1) := by decide +kernel
theorem dX0_startOf_0 : decode cX0_startOf 0 = .ok (.iload_n 1, 1) := by decide +kernel
theorem dX0_startOf_1 : decode cX0_startOf 1 = .ok (.ifCond .lt 25, 3) := by decide +kernel
theorem dX0_startOf_4 : decode cX0_startOf 4 = .ok (.iload_n 1, 1) := by decide +kernel
theorem dX0_startOf_5 : decode cX0_startOf 5 = .ok (.aload_n 0, 1) := by decide +kernel
theorem dX0_startOf_6 : decode cX0_startOf 6 = .ok (.getfield 26, 3) := by decide +kernel
theorem dX0_startOf_9 : decode cX0_startOf 9 = .ok (.invokevirtual 46, 3) := by decide +kernel
theorem dX0_startOf_12 : decode cX0_startOf 12 = .ok (.if_icmp .ge 14, 3) := by decide +kernel
theorem dX0_startOf_15 : decode cX0_startOf 15 = .ok (.aload_n 0, 1) := by decide +kernel
theorem dX0_startOf_16 : decode cX0_startOf 16 = .ok (.getfield 26, 3) := by decide +kernel
theorem dX0_startOf_19 : decode cX0_startOf 19 = .ok (.iload_n 1, 1) := by decide +kernel
theorem dX0_startOf_20 : decode cX0_startOf 20 = .ok (.invokevirtual 50, 3) := by decide +kernel
theorem dX0_startOf_23 : decode cX0_startOf 23 = .ok (.goto 10, 3) := by decide +kernel
theorem dX0_startOf_26 : decode cX0_startOf 26 = .ok (.aload_n 0, 1) := by decide +kernel
theorem dX0_startOf_27 : decode cX0_startOf 27 = .ok (.getfield 14, 3) := by decide +kernel
theorem dX0_startOf_30 : decode cX0_startOf 30 = .ok (.invokevirtual 46, 3) := by decide +kernel
theorem dX0_startOf_33 : decode cX0_startOf 33 = .ok (.ireturn, 1) := by decide +kernel
theorem dX0_countAheadAnew_0 : decode cX0_countAheadAnew 0 = .ok (.iconst 0, 1) := by decide +kernel
theorem dX0_countAheadAnew_1 : decode cX0_countAheadAnew 1 = .ok (.istore_n 2, 1) := by decide +kernel
theorem dX0_countAheadAnew_2 : decode cX0_countAheadAnew 2 = .ok (.iconst 0, 1) := by decide +kernel
theorem dX0_countAheadAnew_3 : decode cX0_countAheadAnew 3 = .ok (.istore_n 3, 1) := by decide +kernel
theorem dX0_countAheadAnew_4 : decode cX0_countAheadAnew 4 = .ok (.iload_n 3, 1) := by decide +kernel
theorem dX0_countAheadAnew_5 : decode cX0_countAheadAnew 5 = .ok (.iload_n 1, 1) := by decide +kernel
theorem dX0_countAheadAnew_6 : decode cX0_countAheadAnew 6 = .ok (.if_icmp .ge 26, 3) := by decide +kernel
theorem dX0_countAheadAnew_9 : decode cX0_countAheadAnew 9 = .ok (.iload_n 3, 1) := by decide +kernel
theorem dX0_countAheadAnew_10 : decode cX0_countAheadAnew 10 = .ok (.aload_n 0, 1) := by decide +kernel
theorem dX0_countAheadAnew_11 : decode cX0_countAheadAnew 11 = .ok (.getfield 14, 3) := by decide +kernel
theorem dX0_countAheadAnew_14 : decode cX0_countAheadAnew 14 = .ok (.invokevirtual 46, 3) := by decide +kernel
theorem dX0_countAheadAnew_17 : decode cX0_countAheadAnew 17 = .ok (.if_icmp .ge 15, 3) := by decide +kernel
theorem dX0_countAheadAnew_20 : decode cX0_countAheadAnew 20 = .ok (.aload_n 0, 1) := by decide +kernel
theorem dX0_countAheadAnew_21 : decode cX0_countAheadAnew 21 = .ok (.iload_n 2, 1) := by decide +kernel
theorem dX0_countAheadAnew_22 : decode cX0_countAheadAnew 22 = .ok (.invokevirtual 54, 3) := by decide +kernel
theorem dX0_countAheadAnew_25 : decode cX0_countAheadAnew 25 = .ok (.istore_n 2, 1) := by decide +kernel
theorem dX0_countAheadAnew_26 : decode cX0_countAheadAnew 26 = .ok (.iinc 3 1, 3) := by decide +kernel
theorem dX0_countAheadAnew_29 : decode cX0_countAheadAnew 29 = .ok (.goto (-25), 3) := by decide +kernel
theorem dX0_countAheadAnew_32 : decode cX0_countAheadAnew 32 = .ok (.iload_n 2, 1) := by decide +kernel
theorem dX0_countAheadAnew_33 : decode cX0_countAheadAnew 33 = .ok (.ireturn, 1) := by decide +kernel
theorem dX0_gatherLines_0 : decode cX0_gatherLines 0 = .ok (.aload_n 0, 1) := by decide +kernel
theorem dX0_gatherLines_1 : decode cX0_gatherLines 1 = .ok (.getfield 14, 3) := by decide +kernel
theorem dX0_gatherLines_4 : decode cX0_gatherLines 4 = .ok (.invokevirtual 57, 3) := by decide +kernel
theorem dX0_gatherLines_7 : decode cX0_gatherLines 7 = .ok (.aload_n 0, 1) := by decide +kernel
theorem dX0_gatherLines_8 : decode cX0_gatherLines 8 = .ok (.getfield 20, 3) := by decide +kernel
theorem dX0_gatherLines_11 : decode cX0_gatherLines 11 = .ok (.invokevirtual 57, 3) := by decide +kernel
theorem dX0_gatherLines_14 : decode cX0_gatherLines 14 = .ok (.iconst 0, 1) := by decide +kernel
theorem dX0_gatherLines_15 : decode cX0_gatherLines 15 = .ok (.istore_n 1, 1) := by decide +kernel
theorem dX0_gatherLines_16 : decode cX0_gatherLines 16 = .ok (.iload_n 1, 1) := by decide +kernel
theorem dX0_gatherLines_17 : decode cX0_gatherLines 17 = .ok (.aload_n 0, 1) := by decide +kernel
theorem dX0_gatherLines_18 : decode cX0_gatherLines 18 = .ok (.getfield 33, 3) := by decide +kernel
theorem dX0_gatherLines_21 : decode cX0_gatherLines 21 = .ok (.invokevirtual 60, 3) := by decide +kernel
theorem dX0_gatherLines_24 : decode cX0_gatherLines 24 = .ok (.if_icmp .ge 89, 3) := by decide +kernel
theorem dX0_gatherLines_27 : decode cX0_gatherLines 27 = .ok (.aload_n 0, 1) := by decide +kernel
theorem dX0_gatherLines_28 : decode cX0_gatherLines 28 = .ok (.getfield 33, 3) := by decide +kernel
theorem dX0_gatherLines_31 : decode cX0_gatherLines 31 = .ok (.iload_n 1, 1) := by decide +kernel
theorem dX0_gatherLines_32 : decode cX0_gatherLines 32 = .ok (.invokevirtual 65, 3) := by decide +kernel
theorem dX0_gatherLines_35 : decode cX0_gatherLines 35 = .ok (.istore_n 2, 1) := by decide +kernel
theorem dX0_gatherLines_36 : decode cX0_gatherLines 36 = .ok (.aload_n 0, 1) := by decide +kernel
theorem dX0_gatherLines_37 : decode cX0_gatherLines 37 = .ok (.getfield 33, 3) := by decide +kernel
theorem dX0_gatherLines_40 : decode cX0_gatherLines 40 = .ok (.iload_n 2, 1) := by decide +kernel
theorem dX0_gatherLines_41 : decode cX0_gatherLines 41 = .ok (.invokevirtual 68, 3) := by decide +kernel
theorem dX0_gatherLines_44 : decode cX0_gatherLines 44 = .ok (.ifCond .eq 63, 3) := by decide +kernel
theorem dX0_gatherLines_47 : decode cX0_gatherLines 47 = .ok (.aload_n 0, 1) := by decide +kernel
theorem dX0_gatherLines_48 : decode cX0_gatherLines 48 = .ok (.getfield 14, 3) := by decide +kernel
theorem dX0_gatherLines_51 : decode cX0_gatherLines 51 = .ok (.invokevirtual 46, 3) := by decide +kernel
theorem dX0_gatherLines_54 : decode cX0_gatherLines 54 = .ok (.ifCond .eq 14, 3) := by decide +kernel
theorem dX0_gatherLines_57 : decode cX0_gatherLines 57 = .ok (.aload_n 0, 1) := by decide +kernel
theorem dX0_gatherLines_58 : decode cX0_gatherLines 58 = .ok (.getfield 29, 3) := by decide +kernel
theorem dX0_gatherLines_61 : decode cX0_gatherLines 61 = .ok (.iload_n 2, 1) := by decide +kernel
theorem dX0_gatherLines_62 : decode cX0_gatherLines 62 = .ok (.invokevirtual 72, 3) := by decide +kernel
theorem dX0_gatherLines_65 : decode cX0_gatherLines 65 = .ok (.ifCond .eq 7, 3) := by decide +kernel
theorem dX0_gatherLines_68 : decode cX0_gatherLines 68 = .ok (.iconst 1, 1) := by decide +kernel
theorem dX0_gatherLines_69 : decode cX0_gatherLines 69 = .ok (.goto 4, 3) := by decide +kernel
theorem dX0_gatherLines_72 : decode cX0_gatherLines 72 = .ok (.iconst 0, 1) := by decide +kernel
theorem dX0_gatherLines_73 : decode cX0_gatherLines 73 = .ok (.istore_n 3, 1) := by decide +kernel
theorem dX0_gatherLines_74 : decode cX0_gatherLines 74 = .ok (.aload_n 0, 1) := by decide +kernel
theorem dX0_gatherLines_75 : decode cX0_gatherLines 75 = .ok (.getfield 14, 3) := by decide +kernel
theorem dX0_gatherLines_78 : decode cX0_gatherLines 78 = .ok (.iload_n 2, 1) := by decide +kernel
theorem dX0_gatherLines_79 : decode cX0_gatherLines 79 = .ok (.invokevirtual 77, 3) := by decide +kernel
theorem dX0_gatherLines_82 : decode cX0_gatherLines 82 = .ok (.aload_n 0, 1) := by decide +kernel
theorem dX0_gatherLines_83 : decode cX0_gatherLines 83 = .ok (.getfield 20, 3) := by decide +kernel
theorem dX0_gatherLines_86 : decode cX0_gatherLines 86 = .ok (.iload_n 3, 1) := by decide +kernel
theorem dX0_gatherLines_87 : decode cX0_gatherLines 87 = .ok (.ifCond .eq 7, 3) := by decide +kernel
theorem dX0_gatherLines_90 : decode cX0_gatherLines 90 = .ok (.iconst 1, 1) := by decide +kernel
theorem dX0_gatherLines_91 : decode cX0_gatherLines 91 = .ok (.goto 4, 3) := by decide +kernel
theorem dX0_gatherLines_94 : decode cX0_gatherLines 94 = .ok (.iconst 0, 1) := by decide +kernel
theorem dX0_gatherLines_95 : decode cX0_gatherLines 95 = .ok (.invokevirtual 77, 3) := by decide +kernel
theorem dX0_gatherLines_98 : decode cX0_gatherLines 98 = .ok (.aload_n 0, 1) := by decide +kernel
theorem dX0_gatherLines_99 : decode cX0_gatherLines 99 = .ok (.getfield 23, 3) := by decide +kernel
theorem dX0_gatherLines_102 : decode cX0_gatherLines 102 = .ok (.iload_n 2, 1) := by decide +kernel
theorem dX0_gatherLines_103 : decode cX0_gatherLines 103 = .ok (.iconst 1, 1) := by decide +kernel
theorem dX0_gatherLines_104 : decode cX0_gatherLines 104 = .ok (.invokevirtual 80, 3) := by decide +kernel
theorem dX0_gatherLines_107 : decode cX0_gatherLines 107 = .ok (.iinc 1 1, 3) := by decide +kernel
theorem dX0_gatherLines_110 : decode cX0_gatherLines 110 = .ok (.goto (-94), 3) := by decide +kernel
theorem dX0_gatherLines_113 : decode cX0_gatherLines 113 = .ok (.return_, 1) := by decide +kernel
theorem dX0_addNotes_0 : decode cX0_addNotes 0 = .ok (.iconst 0, 1) := by decide +kernel
theorem dX0_addNotes_1 : decode cX0_addNotes 1 = .ok (.istore_n 1, 1) := by decide +kernel
theorem dX0_addNotes_2 : decode cX0_addNotes 2 = .ok (.iload_n 1, 1) := by decide +kernel
theorem dX0_addNotes_3 : decode cX0_addNotes 3 = .ok (.aload_n 0, 1) := by decide +kernel
theorem dX0_addNotes_4 : decode cX0_addNotes 4 = .ok (.getfield 29, 3) := by decide +kernel
theorem dX0_addNotes_7 : decode cX0_addNotes 7 = .ok (.invokevirtual 84, 3) := by decide +kernel
theorem dX0_addNotes_10 : decode cX0_addNotes 10 = .ok (.if_icmp .ge 61, 3) := by decide +kernel
theorem dX0_addNotes_13 : decode cX0_addNotes 13 = .ok (.aload_n 0, 1) := by decide +kernel
theorem dX0_addNotes_14 : decode cX0_addNotes 14 = .ok (.getfield 33, 3) := by decide +kernel
theorem dX0_addNotes_17 : decode cX0_addNotes 17 = .ok (.iload_n 1, 1) := by decide +kernel
theorem dX0_addNotes_18 : decode cX0_addNotes 18 = .ok (.invokevirtual 87, 3) := by decide +kernel
theorem dX0_addNotes_21 : decode cX0_addNotes 21 = .ok (.ifCond .eq 44, 3) := by decide +kernel
theorem dX0_addNotes_24 : decode cX0_addNotes 24 = .ok (.aload_n 0, 1) := by decide +kernel
theorem dX0_addNotes_25 : decode cX0_addNotes 25 = .ok (.getfield 33, 3) := by decide +kernel
theorem dX0_addNotes_28 : decode cX0_addNotes 28 = .ok (.iload_n 1, 1) := by decide +kernel
theorem dX0_addNotes_29 : decode cX0_addNotes 29 = .ok (.invokevirtual 90, 3) := by decide +kernel
theorem dX0_addNotes_32 : decode cX0_addNotes 32 = .ok (.istore_n 2, 1) := by decide +kernel
theorem dX0_addNotes_33 : decode cX0_addNotes 33 = .ok (.aload_n 0, 1) := by decide +kernel
theorem dX0_addNotes_34 : decode cX0_addNotes 34 = .ok (.getfield 23, 3) := by decide +kernel
theorem dX0_addNotes_37 : decode cX0_addNotes 37 = .ok (.iload_n 2, 1) := by decide +kernel
theorem dX0_addNotes_38 : decode cX0_addNotes 38 = .ok (.invokevirtual 50, 3) := by decide +kernel
theorem dX0_addNotes_41 : decode cX0_addNotes 41 = .ok (.aload_n 0, 1) := by decide +kernel
theorem dX0_addNotes_42 : decode cX0_addNotes 42 = .ok (.getfield 29, 3) := by decide +kernel
theorem dX0_addNotes_45 : decode cX0_addNotes 45 = .ok (.iload_n 1, 1) := by decide +kernel
theorem dX0_addNotes_46 : decode cX0_addNotes 46 = .ok (.invokevirtual 93, 3) := by decide +kernel
theorem dX0_addNotes_49 : decode cX0_addNotes 49 = .ok (.iadd, 1) := by decide +kernel
theorem dX0_addNotes_50 : decode cX0_addNotes 50 = .ok (.istore_n 3, 1) := by decide +kernel
theorem dX0_addNotes_51 : decode cX0_addNotes 51 = .ok (.aload_n 0, 1) := by decide +kernel
theorem dX0_addNotes_52 : decode cX0_addNotes 52 = .ok (.getfield 23, 3) := by decide +kernel
theorem dX0_addNotes_55 : decode cX0_addNotes 55 = .ok (.iload_n 2, 1) := by decide +kernel
theorem dX0_addNotes_56 : decode cX0_addNotes 56 = .ok (.iload_n 3, 1) := by decide +kernel
theorem dX0_addNotes_57 : decode cX0_addNotes 57 = .ok (.bipush 6, 2) := by decide +kernel
theorem dX0_addNotes_59 : decode cX0_addNotes 59 = .ok (.invokestatic 96, 3) := by decide +kernel
theorem dX0_addNotes_62 : decode cX0_addNotes 62 = .ok (.invokevirtual 80, 3) := by decide +kernel
theorem dX0_addNotes_65 : decode cX0_addNotes 65 = .ok (.iinc 1 1, 3) := by decide +kernel
theorem dX0_addNotes_68 : decode cX0_addNotes 68 = .ok (.goto (-66), 3) := by decide +kernel
theorem dX0_addNotes_71 : decode cX0_addNotes 71 = .ok (.return_, 1) := by decide +kernel
theorem dX0_cutPages_0 : decode cX0_cutPages 0 = .ok (.aload_n 0, 1) := by decide +kernel
theorem dX0_cutPages_1 : decode cX0_cutPages 1 = .ok (.getfield 26, 3) := by decide +kernel
theorem dX0_cutPages_4 : decode cX0_cutPages 4 = .ok (.invokevirtual 57, 3) := by decide +kernel
theorem dX0_cutPages_7 : decode cX0_cutPages 7 = .ok (.iconst 0, 1) := by decide +kernel
theorem dX0_cutPages_8 : decode cX0_cutPages 8 = .ok (.istore_n 1, 1) := by decide +kernel
theorem dX0_cutPages_9 : decode cX0_cutPages 9 = .ok (.iconst 0, 1) := by decide +kernel
theorem dX0_cutPages_10 : decode cX0_cutPages 10 = .ok (.istore_n 2, 1) := by decide +kernel
theorem dX0_cutPages_11 : decode cX0_cutPages 11 = .ok (.iload_n 2, 1) := by decide +kernel
theorem dX0_cutPages_12 : decode cX0_cutPages 12 = .ok (.aload_n 0, 1) := by decide +kernel
theorem dX0_cutPages_13 : decode cX0_cutPages 13 = .ok (.getfield 14, 3) := by decide +kernel
theorem dX0_cutPages_16 : decode cX0_cutPages 16 = .ok (.invokevirtual 46, 3) := by decide +kernel
theorem dX0_cutPages_19 : decode cX0_cutPages 19 = .ok (.if_icmp .ge 34, 3) := by decide +kernel
theorem dX0_cutPages_22 : decode cX0_cutPages 22 = .ok (.iload_n 1, 1) := by decide +kernel
theorem dX0_cutPages_23 : decode cX0_cutPages 23 = .ok (.aload_n 0, 1) := by decide +kernel
theorem dX0_cutPages_24 : decode cX0_cutPages 24 = .ok (.getfield 14, 3) := by decide +kernel
theorem dX0_cutPages_27 : decode cX0_cutPages 27 = .ok (.invokevirtual 46, 3) := by decide +kernel
theorem dX0_cutPages_30 : decode cX0_cutPages 30 = .ok (.if_icmp .ge 23, 3) := by decide +kernel
theorem dX0_cutPages_33 : decode cX0_cutPages 33 = .ok (.aload_n 0, 1) := by decide +kernel
theorem dX0_cutPages_34 : decode cX0_cutPages 34 = .ok (.getfield 26, 3) := by decide +kernel
theorem dX0_cutPages_37 : decode cX0_cutPages 37 = .ok (.iload_n 1, 1) := by decide +kernel
theorem dX0_cutPages_38 : decode cX0_cutPages 38 = .ok (.invokevirtual 77, 3) := by decide +kernel
theorem dX0_cutPages_41 : decode cX0_cutPages 41 = .ok (.aload_n 0, 1) := by decide +kernel
theorem dX0_cutPages_42 : decode cX0_cutPages 42 = .ok (.iload_n 1, 1) := by decide +kernel
theorem dX0_cutPages_43 : decode cX0_cutPages 43 = .ok (.invokevirtual 102, 3) := by decide +kernel
theorem dX0_cutPages_46 : decode cX0_cutPages 46 = .ok (.istore_n 1, 1) := by decide +kernel
theorem dX0_cutPages_47 : decode cX0_cutPages 47 = .ok (.iinc 2 1, 3) := by decide +kernel
theorem dX0_cutPages_50 : decode cX0_cutPages 50 = .ok (.goto (-39), 3) := by decide +kernel
theorem dX0_cutPages_53 : decode cX0_cutPages 53 = .ok (.return_, 1) := by decide +kernel
theorem dX0_endOfPage_0 : decode cX0_endOfPage 0 = .ok (.bipush 6, 2) := by decide +kernel
theorem dX0_endOfPage_2 : decode cX0_endOfPage 2 = .ok (.istore_n 2, 1) := by decide +kernel
theorem dX0_endOfPage_3 : decode cX0_endOfPage 3 = .ok (.iload_n 1, 1) := by decide +kernel
theorem dX0_endOfPage_4 : decode cX0_endOfPage 4 = .ok (.istore_n 3, 1) := by decide +kernel
theorem dX0_endOfPage_5 : decode cX0_endOfPage 5 = .ok (.iconst (-1), 1) := by decide +kernel
theorem dX0_endOfPage_6 : decode cX0_endOfPage 6 = .ok (.istore 4, 2) := by decide +kernel
theorem dX0_endOfPage_8 : decode cX0_endOfPage 8 = .ok (.iload_n 3, 1) := by decide +kernel
theorem dX0_endOfPage_9 : decode cX0_endOfPage 9 = .ok (.aload_n 0, 1) := by decide +kernel
theorem dX0_endOfPage_10 : decode cX0_endOfPage 10 = .ok (.getfield 14, 3) := by decide +kernel
theorem dX0_endOfPage_13 : decode cX0_endOfPage 13 = .ok (.invokevirtual 46, 3) := by decide +kernel
theorem dX0_endOfPage_16 : decode cX0_endOfPage 16 = .ok (.if_icmp .ge 37, 3) := by decide +kernel
theorem dX0_endOfPage_19 : decode cX0_endOfPage 19 = .ok (.aload_n 0, 1) := by decide +kernel
theorem dX0_endOfPage_20 : decode cX0_endOfPage 20 = .ok (.iload_n 3, 1) := by decide +kernel
theorem dX0_endOfPage_21 : decode cX0_endOfPage 21 = .ok (.invokevirtual 105, 3) := by decide +kernel
theorem dX0_endOfPage_24 : decode cX0_endOfPage 24 = .ok (.iload_n 2, 1) := by decide +kernel
theorem dX0_endOfPage_25 : decode cX0_endOfPage 25 = .ok (.if_icmp .gt 28, 3) := by decide +kernel
theorem dX0_endOfPage_28 : decode cX0_endOfPage 28 = .ok (.iload_n 2, 1) := by decide +kernel
theorem dX0_endOfPage_29 : decode cX0_endOfPage 29 = .ok (.aload_n 0, 1) := by decide +kernel
theorem dX0_endOfPage_30 : decode cX0_endOfPage 30 = .ok (.iload_n 3, 1) := by decide +kernel
theorem dX0_endOfPage_31 : decode cX0_endOfPage 31 = .ok (.invokevirtual 105, 3) := by decide +kernel
theorem dX0_endOfPage_34 : decode cX0_endOfPage 34 = .ok (.isub, 1) := by decide +kernel
theorem dX0_endOfPage_35 : decode cX0_endOfPage 35 = .ok (.istore_n 2, 1) := by decide +kernel
theorem dX0_endOfPage_36 : decode cX0_endOfPage 36 = .ok (.iinc 3 1, 3) := by decide +kernel
theorem dX0_endOfPage_39 : decode cX0_endOfPage 39 = .ok (.aload_n 0, 1) := by decide +kernel
theorem dX0_endOfPage_40 : decode cX0_endOfPage 40 = .ok (.iload_n 3, 1) := by decide +kernel
theorem dX0_endOfPage_41 : decode cX0_endOfPage 41 = .ok (.invokevirtual 108, 3) := by decide +kernel
theorem dX0_endOfPage_44 : decode cX0_endOfPage 44 = .ok (.ifCond .ne (-36), 3) := by decide +kernel
theorem dX0_endOfPage_47 : decode cX0_endOfPage 47 = .ok (.iload_n 3, 1) := by decide +kernel
theorem dX0_endOfPage_48 : decode cX0_endOfPage 48 = .ok (.istore 4, 2) := by decide +kernel
theorem dX0_endOfPage_50 : decode cX0_endOfPage 50 = .ok (.goto (-42), 3) := by decide +kernel
theorem dX0_endOfPage_53 : decode cX0_endOfPage 53 = .ok (.iload 4, 2) := by decide +kernel
theorem dX0_endOfPage_55 : decode cX0_endOfPage 55 = .ok (.iconst (-1), 1) := by decide +kernel
theorem dX0_endOfPage_56 : decode cX0_endOfPage 56 = .ok (.if_icmp .ne 7, 3) := by decide +kernel
theorem dX0_endOfPage_59 : decode cX0_endOfPage 59 = .ok (.iload_n 3, 1) := by decide +kernel
theorem dX0_endOfPage_60 : decode cX0_endOfPage 60 = .ok (.goto 5, 3) := by decide +kernel
theorem dX0_endOfPage_63 : decode cX0_endOfPage 63 = .ok (.iload 4, 2) := by decide +kernel
theorem dX0_endOfPage_65 : decode cX0_endOfPage 65 = .ok (.ireturn, 1) := by decide +kernel
theorem dX0_endByTrying_0 : decode cX0_endByTrying 0 = .ok (.aload_n 0, 1) := by decide +kernel
theorem dX0_endByTrying_1 : decode cX0_endByTrying 1 = .ok (.iload_n 1, 1) := by decide +kernel
theorem dX0_endByTrying_2 : decode cX0_endByTrying 2 = .ok (.invokevirtual 111, 3) := by decide +kernel
theorem dX0_endByTrying_5 : decode cX0_endByTrying 5 = .ok (.istore_n 2, 1) := by decide +kernel
theorem dX0_endByTrying_6 : decode cX0_endByTrying 6 = .ok (.iload_n 2, 1) := by decide +kernel
theorem dX0_endByTrying_7 : decode cX0_endByTrying 7 = .ok (.istore_n 3, 1) := by decide +kernel
theorem dX0_endByTrying_8 : decode cX0_endByTrying 8 = .ok (.iload_n 3, 1) := by decide +kernel
theorem dX0_endByTrying_9 : decode cX0_endByTrying 9 = .ok (.iload_n 1, 1) := by decide +kernel
theorem dX0_endByTrying_10 : decode cX0_endByTrying 10 = .ok (.if_icmp .le 19, 3) := by decide +kernel
theorem dX0_endByTrying_13 : decode cX0_endByTrying 13 = .ok (.aload_n 0, 1) := by decide +kernel
theorem dX0_endByTrying_14 : decode cX0_endByTrying 14 = .ok (.iload_n 3, 1) := by decide +kernel
theorem dX0_endByTrying_15 : decode cX0_endByTrying 15 = .ok (.invokevirtual 108, 3) := by decide +kernel
theorem dX0_endByTrying_18 : decode cX0_endByTrying 18 = .ok (.ifCond .ne 5, 3) := by decide +kernel
theorem dX0_endByTrying_21 : decode cX0_endByTrying 21 = .ok (.iload_n 3, 1) := by decide +kernel
theorem dX0_endByTrying_22 : decode cX0_endByTrying 22 = .ok (.ireturn, 1) := by decide +kernel
theorem dX0_endByTrying_23 : decode cX0_endByTrying 23 = .ok (.iinc 3 (-1), 3) := by decide +kernel
theorem dX0_endByTrying_26 : decode cX0_endByTrying 26 = .ok (.goto (-18), 3) := by decide +kernel
theorem dX0_endByTrying_29 : decode cX0_endByTrying 29 = .ok (.iload_n 2, 1) := by decide +kernel
theorem dX0_endByTrying_30 : decode cX0_endByTrying 30 = .ok (.ireturn, 1) := by decide +kernel
theorem dX0_endWithRoom_0 : decode cX0_endWithRoom 0 = .ok (.iconst 0, 1) := by decide +kernel
theorem dX0_endWithRoom_1 : decode cX0_endWithRoom 1 = .ok (.istore_n 2, 1) := by decide +kernel
theorem dX0_endWithRoom_2 : decode cX0_endWithRoom 2 = .ok (.iload_n 1, 1) := by decide +kernel
theorem dX0_endWithRoom_3 : decode cX0_endWithRoom 3 = .ok (.istore_n 3, 1) := by decide +kernel
theorem dX0_endWithRoom_4 : decode cX0_endWithRoom 4 = .ok (.iload_n 3, 1) := by decide +kernel
theorem dX0_endWithRoom_5 : decode cX0_endWithRoom 5 = .ok (.aload_n 0, 1) := by decide +kernel
theorem dX0_endWithRoom_6 : decode cX0_endWithRoom 6 = .ok (.getfield 14, 3) := by decide +kernel
theorem dX0_endWithRoom_9 : decode cX0_endWithRoom 9 = .ok (.invokevirtual 46, 3) := by decide +kernel
theorem dX0_endWithRoom_12 : decode cX0_endWithRoom 12 = .ok (.if_icmp .ge 25, 3) := by decide +kernel
theorem dX0_endWithRoom_15 : decode cX0_endWithRoom 15 = .ok (.iload_n 2, 1) := by decide +kernel
theorem dX0_endWithRoom_16 : decode cX0_endWithRoom 16 = .ok (.aload_n 0, 1) := by decide +kernel
theorem dX0_endWithRoom_17 : decode cX0_endWithRoom 17 = .ok (.iload_n 3, 1) := by decide +kernel
theorem dX0_endWithRoom_18 : decode cX0_endWithRoom 18 = .ok (.invokevirtual 105, 3) := by decide +kernel
theorem dX0_endWithRoom_21 : decode cX0_endWithRoom 21 = .ok (.iadd, 1) := by decide +kernel
theorem dX0_endWithRoom_22 : decode cX0_endWithRoom 22 = .ok (.istore_n 2, 1) := by decide +kernel
theorem dX0_endWithRoom_23 : decode cX0_endWithRoom 23 = .ok (.iload_n 2, 1) := by decide +kernel
theorem dX0_endWithRoom_24 : decode cX0_endWithRoom 24 = .ok (.bipush 6, 2) := by decide +kernel
theorem dX0_endWithRoom_26 : decode cX0_endWithRoom 26 = .ok (.if_icmp .le 5, 3) := by decide +kernel
theorem dX0_endWithRoom_29 : decode cX0_endWithRoom 29 = .ok (.iload_n 3, 1) := by decide +kernel
theorem dX0_endWithRoom_30 : decode cX0_endWithRoom 30 = .ok (.ireturn, 1) := by decide +kernel
theorem dX0_endWithRoom_31 : decode cX0_endWithRoom 31 = .ok (.iinc 3 1, 3) := by decide +kernel
theorem dX0_endWithRoom_34 : decode cX0_endWithRoom 34 = .ok (.goto (-30), 3) := by decide +kernel
theorem dX0_endWithRoom_37 : decode cX0_endWithRoom 37 = .ok (.aload_n 0, 1) := by decide +kernel
theorem dX0_endWithRoom_38 : decode cX0_endWithRoom 38 = .ok (.getfield 14, 3) := by decide +kernel
theorem dX0_endWithRoom_41 : decode cX0_endWithRoom 41 = .ok (.invokevirtual 46, 3) := by decide +kernel
theorem dX0_endWithRoom_44 : decode cX0_endWithRoom 44 = .ok (.ireturn, 1) := by decide +kernel
theorem dX0_isBadCut_0 : decode cX0_isBadCut 0 = .ok (.iload_n 1, 1) := by decide +kernel
theorem dX0_isBadCut_1 : decode cX0_isBadCut 1 = .ok (.aload_n 0, 1) := by decide +kernel
theorem dX0_isBadCut_2 : decode cX0_isBadCut 2 = .ok (.getfield 14, 3) := by decide +kernel
theorem dX0_isBadCut_5 : decode cX0_isBadCut 5 = .ok (.invokevirtual 46, 3) := by decide +kernel
theorem dX0_isBadCut_8 : decode cX0_isBadCut 8 = .ok (.if_icmp .ge 15, 3) := by decide +kernel
theorem dX0_isBadCut_11 : decode cX0_isBadCut 11 = .ok (.aload_n 0, 1) := by decide +kernel
theorem dX0_isBadCut_12 : decode cX0_isBadCut 12 = .ok (.getfield 20, 3) := by decide +kernel
theorem dX0_isBadCut_15 : decode cX0_isBadCut 15 = .ok (.iload_n 1, 1) := by decide +kernel
theorem dX0_isBadCut_16 : decode cX0_isBadCut 16 = .ok (.invokevirtual 50, 3) := by decide +kernel
theorem dX0_isBadCut_19 : decode cX0_isBadCut 19 = .ok (.iconst 1, 1) := by decide +kernel
theorem dX0_isBadCut_20 : decode cX0_isBadCut 20 = .ok (.if_icmp .ne 5, 3) := by decide +kernel
theorem dX0_isBadCut_23 : decode cX0_isBadCut 23 = .ok (.iconst 0, 1) := by decide +kernel
theorem dX0_isBadCut_24 : decode cX0_isBadCut 24 = .ok (.ireturn, 1) := by decide +kernel
theorem dX0_isBadCut_25 : decode cX0_isBadCut 25 = .ok (.aload_n 0, 1) := by decide +kernel
theorem dX0_isBadCut_26 : decode cX0_isBadCut 26 = .ok (.getfield 20, 3) := by decide +kernel
theorem dX0_isBadCut_29 : decode cX0_isBadCut 29 = .ok (.iload_n 1, 1) := by decide +kernel
theorem dX0_isBadCut_30 : decode cX0_isBadCut 30 = .ok (.iconst 1, 1) := by decide +kernel
theorem dX0_isBadCut_31 : decode cX0_isBadCut 31 = .ok (.isub, 1) := by decide +kernel
theorem dX0_isBadCut_32 : decode cX0_isBadCut 32 = .ok (.invokevirtual 50, 3) := by decide +kernel
theorem dX0_isBadCut_35 : decode cX0_isBadCut 35 = .ok (.iconst 1, 1) := by decide +kernel
theorem dX0_isBadCut_36 : decode cX0_isBadCut 36 = .ok (.if_icmp .ne 7, 3) := by decide +kernel
theorem dX0_isBadCut_39 : decode cX0_isBadCut 39 = .ok (.iconst 1, 1) := by decide +kernel
theorem dX0_isBadCut_40 : decode cX0_isBadCut 40 = .ok (.goto 4, 3) := by decide +kernel
theorem dX0_isBadCut_43 : decode cX0_isBadCut 43 = .ok (.iconst 0, 1) := by decide +kernel
theorem dX0_isBadCut_44 : decode cX0_isBadCut 44 = .ok (.istore_n 2, 1) := by decide +kernel
theorem dX0_isBadCut_45 : decode cX0_isBadCut 45 = .ok (.iload_n 1, 1) := by decide +kernel
theorem dX0_isBadCut_46 : decode cX0_isBadCut 46 = .ok (.iconst 1, 1) := by decide +kernel
theorem dX0_isBadCut_47 : decode cX0_isBadCut 47 = .ok (.iadd, 1) := by decide +kernel
theorem dX0_isBadCut_48 : decode cX0_isBadCut 48 = .ok (.aload_n 0, 1) := by decide +kernel
theorem dX0_isBadCut_49 : decode cX0_isBadCut 49 = .ok (.getfield 14, 3) := by decide +kernel
theorem dX0_isBadCut_52 : decode cX0_isBadCut 52 = .ok (.invokevirtual 46, 3) := by decide +kernel
theorem dX0_isBadCut_55 : decode cX0_isBadCut 55 = .ok (.if_icmp .eq 17, 3) := by decide +kernel
theorem dX0_isBadCut_58 : decode cX0_isBadCut 58 = .ok (.aload_n 0, 1) := by decide +kernel
theorem dX0_isBadCut_59 : decode cX0_isBadCut 59 = .ok (.getfield 20, 3) := by decide +kernel
theorem dX0_isBadCut_62 : decode cX0_isBadCut 62 = .ok (.iload_n 1, 1) := by decide +kernel
theorem dX0_isBadCut_63 : decode cX0_isBadCut 63 = .ok (.iconst 1, 1) := by decide +kernel
theorem dX0_isBadCut_64 : decode cX0_isBadCut 64 = .ok (.iadd, 1) := by decide +kernel
theorem dX0_isBadCut_65 : decode cX0_isBadCut 65 = .ok (.invokevirtual 50, 3) := by decide +kernel
theorem dX0_isBadCut_68 : decode cX0_isBadCut 68 = .ok (.iconst 1, 1) := by decide +kernel
theorem dX0_isBadCut_69 : decode cX0_isBadCut 69 = .ok (.if_icmp .ne 7, 3) := by decide +kernel
theorem dX0_isBadCut_72 : decode cX0_isBadCut 72 = .ok (.iconst 1, 1) := by decide +kernel
theorem dX0_isBadCut_73 : decode cX0_isBadCut 73 = .ok (.goto 4, 3) := by decide +kernel
theorem dX0_isBadCut_76 : decode cX0_isBadCut 76 = .ok (.iconst 0, 1) := by decide +kernel
theorem dX0_isBadCut_77 : decode cX0_isBadCut 77 = .ok (.istore_n 3, 1) := by decide +kernel
theorem dX0_isBadCut_78 : decode cX0_isBadCut 78 = .ok (.iload_n 2, 1) := by decide +kernel
theorem dX0_isBadCut_79 : decode cX0_isBadCut 79 = .ok (.ifCond .ne 7, 3) := by decide +kernel
theorem dX0_isBadCut_82 : decode cX0_isBadCut 82 = .ok (.iload_n 3, 1) := by decide +kernel
theorem dX0_isBadCut_83 : decode cX0_isBadCut 83 = .ok (.ifCond .eq 7, 3) := by decide +kernel
theorem dX0_isBadCut_86 : decode cX0_isBadCut 86 = .ok (.iconst 1, 1) := by decide +kernel
theorem dX0_isBadCut_87 : decode cX0_isBadCut 87 = .ok (.goto 4, 3) := by decide +kernel
theorem dX0_isBadCut_90 : decode cX0_isBadCut 90 = .ok (.iconst 0, 1) := by decide +kernel
theorem dX0_isBadCut_91 : decode cX0_isBadCut 91 = .ok (.ireturn, 1) := by decide +kernel
theorem dX1_init_0 : decode cX1_init 0 = .ok (.aload_n 0, 1) := by decide +kernel
theorem dX1_init_1 : decode cX1_init 1 = .ok (.invokespecial 3, 3) := by decide +kernel
theorem dX1_init_4 : decode cX1_init 4 = .ok (.aload_n 0, 1) := by decide +kernel
theorem dX1_init_5 : decode cX1_init 5 = .ok (.new 9, 3) := by decide +kernel
theorem dX1_init_8 : decode cX1_init 8 = .ok (.dup, 1) := by decide +kernel
theorem dX1_init_9 : decode cX1_init 9 = .ok (.bipush 90, 2) := by decide +kernel
theorem dX1_init_11 : decode cX1_init 11 = .ok (.invokespecial 11, 3) := by decide +kernel
theorem dX1_init_14 : decode cX1_init 14 = .ok (.putfield 14, 3) := by decide +kernel
theorem dX1_init_17 : decode cX1_init 17 = .ok (.aload_n 0, 1) := by decide +kernel
theorem dX1_init_18 : decode cX1_init 18 = .ok (.new 9, 3) := by decide +kernel
theorem dX1_init_21 : decode cX1_init 21 = .ok (.dup, 1) := by decide +kernel
theorem dX1_init_22 : decode cX1_init 22 = .ok (.bipush 90, 2) := by decide +kernel
theorem dX1_init_24 : decode cX1_init 24 = .ok (.invokespecial 11, 3) := by decide +kernel
theorem dX1_init_27 : decode cX1_init 27 = .ok (.putfield 20, 3) := by decide +kernel
theorem dX1_init_30 : decode cX1_init 30 = .ok (.aload_n 0, 1) := by decide +kernel
theorem dX1_init_31 : decode cX1_init 31 = .ok (.new 9, 3) := by decide +kernel
theorem dX1_init_34 : decode cX1_init 34 = .ok (.dup, 1) := by decide +kernel
theorem dX1_init_35 : decode cX1_init 35 = .ok (.bipush 90, 2) := by decide +kernel
theorem dX1_init_37 : decode cX1_init 37 = .ok (.invokespecial 11, 3) := by decide +kernel
theorem dX1_init_40 : decode cX1_init 40 = .ok (.putfield 23, 3) := by decide +kernel
theorem dX1_init_43 : decode cX1_init 43 = .ok (.aload_n 0, 1) := by decide +kernel
theorem dX1_init_44 : decode cX1_init 44 = .ok (.new 9, 3) := by decide +kernel
theorem dX1_init_47 : decode cX1_init 47 = .ok (.dup, 1) := by decide +kernel
theorem dX1_init_48 : decode cX1_init 48 = .ok (.bipush 90, 2) := by decide +kernel
theorem dX1_init_50 : decode cX1_init 50 = .ok (.invokespecial 11, 3) := by decide +kernel
theorem dX1_init_53 : decode cX1_init 53 = .ok (.putfield 26, 3) := by decide +kernel
theorem dX1_init_56 : decode cX1_init 56 = .ok (.aload_n 0, 1) := by decide +kernel
theorem dX1_init_57 : decode cX1_init 57 = .ok (.new 9, 3) := by decide +kernel
theorem dX1_init_60 : decode cX1_init 60 = .ok (.dup, 1) := by decide +kernel
theorem dX1_init_61 : decode cX1_init 61 = .ok (.bipush 90, 2) := by decide +kernel
theorem dX1_init_63 : decode cX1_init 63 = .ok (.invokespecial 11, 3) := by decide +kernel
theorem dX1_init_66 : decode cX1_init 66 = .ok (.putfield 29, 3) := by decide +kernel
theorem dX1_init_69 : decode cX1_init 69 = .ok (.aload_n 0, 1) := by decide +kernel
theorem dX1_init_70 : decode cX1_init 70 = .ok (.new 9, 3) := by decide +kernel
theorem dX1_init_73 : decode cX1_init 73 = .ok (.dup, 1) := by decide +kernel
theorem dX1_init_74 : decode cX1_init 74 = .ok (.bipush 90, 2) := by decide +kernel
theorem dX1_init_76 : decode cX1_init 76 = .ok (.invokespecial 11, 3) := by decide +kernel
theorem dX1_init_79 : decode cX1_init 79 = .ok (.putfield 32, 3) := by decide +kernel
theorem dX1_init_82 : decode cX1_init 82 = .ok (.aload_n 0, 1) := by decide +kernel
theorem dX1_init_83 : decode cX1_init 83 = .ok (.new 9, 3) := by decide +kernel
theorem dX1_init_86 : decode cX1_init 86 = .ok (.dup, 1) := by decide +kernel
theorem dX1_init_87 : decode cX1_init 87 = .ok (.bipush 90, 2) := by decide +kernel
theorem dX1_init_89 : decode cX1_init 89 = .ok (.invokespecial 11, 3) := by decide +kernel
theorem dX1_init_92 : decode cX1_init 92 = .ok (.putfield 35, 3) := by decide +kernel
theorem dX1_init_95 : decode cX1_init 95 = .ok (.aload_n 0, 1) := by decide +kernel
theorem dX1_init_96 : decode cX1_init 96 = .ok (.new 9, 3) := by decide +kernel
theorem dX1_init_99 : decode cX1_init 99 = .ok (.dup, 1) := by decide +kernel
theorem dX1_init_100 : decode cX1_init 100 = .ok (.bipush 90, 2) := by decide +kernel
theorem dX1_init_102 : decode cX1_init 102 = .ok (.invokespecial 11, 3) := by decide +kernel
theorem dX1_init_105 : decode cX1_init 105 = .ok (.putfield 38, 3) := by decide +kernel
theorem dX1_init_108 : decode cX1_init 108 = .ok (.aload_n 0, 1) := by decide +kernel
theorem dX1_init_109 : decode cX1_init 109 = .ok (.new 9, 3) := by decide +kernel
theorem dX1_init_112 : decode cX1_init 112 = .ok (.dup, 1) := by decide +kernel
theorem dX1_init_113 : decode cX1_init 113 = .ok (.bipush 90, 2) := by decide +kernel
theorem dX1_init_115 : decode cX1_init 115 = .ok (.invokespecial 11, 3) := by decide +kernel
theorem dX1_init_118 : decode cX1_init 118 = .ok (.putfield 41, 3) := by decide +kernel
theorem dX1_init_121 : decode cX1_init 121 = .ok (.return_, 1) := by decide +kernel
theorem dX1_addDeed_0 : decode cX1_addDeed 0 = .ok (.aload_n 0, 1) := by decide +kernel
theorem dX1_addDeed_1 : decode cX1_addDeed 1 = .ok (.getfield 14, 3) := by decide +kernel
theorem dX1_addDeed_4 : decode cX1_addDeed 4 = .ok (.iload_n 1, 1) := by decide +kernel
theorem dX1_addDeed_5 : decode cX1_addDeed 5 = .ok (.invokevirtual 44, 3) := by decide +kernel
theorem dX1_addDeed_8 : decode cX1_addDeed 8 = .ok (.aload_n 0, 1) := by decide +kernel
theorem dX1_addDeed_9 : decode cX1_addDeed 9 = .ok (.getfield 20, 3) := by decide +kernel
theorem dX1_addDeed_12 : decode cX1_addDeed 12 = .ok (.iload_n 2, 1) := by decide +kernel
theorem dX1_addDeed_13 : decode cX1_addDeed 13 = .ok (.invokevirtual 44, 3) := by decide +kernel
theorem dX1_addDeed_16 : decode cX1_addDeed 16 = .ok (.aload_n 0, 1) := by decide +kernel
theorem dX1_addDeed_17 : decode cX1_addDeed 17 = .ok (.getfield 23, 3) := by decide +kernel
theorem dX1_addDeed_20 : decode cX1_addDeed 20 = .ok (.iload_n 3, 1) := by decide +kernel
theorem dX1_addDeed_21 : decode cX1_addDeed 21 = .ok (.invokevirtual 44, 3) := by decide +kernel
theorem dX1_addDeed_24 : decode cX1_addDeed 24 = .ok (.aload_n 0, 1) := by decide +kernel
theorem dX1_addDeed_25 : decode cX1_addDeed 25 = .ok (.getfield 26, 3) := by decide +kernel
theorem dX1_addDeed_28 : decode cX1_addDeed 28 = .ok (.iload 4, 2) := by decide +kernel
theorem dX1_addDeed_30 : decode cX1_addDeed 30 = .ok (.invokevirtual 44, 3) := by decide +kernel
theorem dX1_addDeed_33 : decode cX1_addDeed 33 = .ok (.aload_n 0, 1) := by decide +kernel
theorem dX1_addDeed_34 : decode cX1_addDeed 34 = .ok (.getfield 14, 3) := by decide +kernel
theorem dX1_addDeed_37 : decode cX1_addDeed 37 = .ok (.invokevirtual 47, 3) := by decide +kernel
theorem dX1_addDeed_40 : decode cX1_addDeed 40 = .ok (.iconst 1, 1) := by decide +kernel
theorem dX1_addDeed_41 : decode cX1_addDeed 41 = .ok (.isub, 1) := by decide +kernel
theorem dX1_addDeed_42 : decode cX1_addDeed 42 = .ok (.ireturn, 1) := by decide +kernel
theorem dX1_addLine_0 : decode cX1_addLine 0 = .ok (.aload_n 0, 1) := by decide +kernel
theorem dX1_addLine_1 : decode cX1_addLine 1 = .ok (.getfield 29, 3) := by decide +kernel
theorem dX1_addLine_4 : decode cX1_addLine 4 = .ok (.iload_n 1, 1) := by decide +kernel
theorem dX1_addLine_5 : decode cX1_addLine 5 = .ok (.invokevirtual 44, 3) := by decide +kernel
theorem dX1_addLine_8 : decode cX1_addLine 8 = .ok (.aload_n 0, 1) := by decide +kernel
theorem dX1_addLine_9 : decode cX1_addLine 9 = .ok (.getfield 32, 3) := by decide +kernel
theorem dX1_addLine_12 : decode cX1_addLine 12 = .ok (.iload_n 2, 1) := by decide +kernel
theorem dX1_addLine_13 : decode cX1_addLine 13 = .ok (.invokevirtual 44, 3) := by decide +kernel
theorem dX1_addLine_16 : decode cX1_addLine 16 = .ok (.aload_n 0, 1) := by decide +kernel
theorem dX1_addLine_17 : decode cX1_addLine 17 = .ok (.getfield 35, 3) := by decide +kernel
theorem dX1_addLine_20 : decode cX1_addLine 20 = .ok (.iload_n 3, 1) := by decide +kernel
theorem dX1_addLine_21 : decode cX1_addLine 21 = .ok (.invokevirtual 44, 3) := by decide +kernel
theorem dX1_addLine_24 : decode cX1_addLine 24 = .ok (.aload_n 0, 1) := by decide +kernel
theorem dX1_addLine_25 : decode cX1_addLine 25 = .ok (.getfield 38, 3) := by decide +kernel
theorem dX1_addLine_28 : decode cX1_addLine 28 = .ok (.iload 4, 2) := by decide +kernel
theorem dX1_addLine_30 : decode cX1_addLine 30 = .ok (.ifCond .eq 7, 3) := by decide +kernel
theorem dX1_addLine_33 : decode cX1_addLine 33 = .ok (.iconst 1, 1) := by decide +kernel
theorem dX1_addLine_34 : decode cX1_addLine 34 = .ok (.goto 4, 3) := by decide +kernel
theorem dX1_addLine_37 : decode cX1_addLine 37 = .ok (.iconst 0, 1) := by decide +kernel
theorem dX1_addLine_38 : decode cX1_addLine 38 = .ok (.invokevirtual 44, 3) := by decide +kernel
theorem dX1_addLine_41 : decode cX1_addLine 41 = .ok (.aload_n 0, 1) := by decide +kernel
theorem dX1_addLine_42 : decode cX1_addLine 42 = .ok (.getfield 29, 3) := by decide +kernel
theorem dX1_addLine_45 : decode cX1_addLine 45 = .ok (.invokevirtual 47, 3) := by decide +kernel
theorem dX1_addLine_48 : decode cX1_addLine 48 = .ok (.iconst 1, 1) := by decide +kernel
theorem dX1_addLine_49 : decode cX1_addLine 49 = .ok (.isub, 1) := by decide +kernel
theorem dX1_addLine_50 : decode cX1_addLine 50 = .ok (.ireturn, 1) := by decide +kernel
theorem dX1_addNote_0 : decode cX1_addNote 0 = .ok (.aload_n 0, 1) := by decide +kernel
theorem dX1_addNote_1 : decode cX1_addNote 1 = .ok (.getfield 41, 3) := by decide +kernel
theorem dX1_addNote_4 : decode cX1_addNote 4 = .ok (.iload_n 1, 1) := by decide +kernel
theorem dX1_addNote_5 : decode cX1_addNote 5 = .ok (.invokevirtual 44, 3) := by decide +kernel
theorem dX1_addNote_8 : decode cX1_addNote 8 = .ok (.aload_n 0, 1) := by decide +kernel
theorem dX1_addNote_9 : decode cX1_addNote 9 = .ok (.getfield 41, 3) := by decide +kernel
theorem dX1_addNote_12 : decode cX1_addNote 12 = .ok (.invokevirtual 47, 3) := by decide +kernel
theorem dX1_addNote_15 : decode cX1_addNote 15 = .ok (.iconst 1, 1) := by decide +kernel
theorem dX1_addNote_16 : decode cX1_addNote 16 = .ok (.isub, 1) := by decide +kernel
theorem dX1_addNote_17 : decode cX1_addNote 17 = .ok (.ireturn, 1) := by decide +kernel
theorem dX1_deedCount_0 : decode cX1_deedCount 0 = .ok (.aload_n 0, 1) := by decide +kernel
theorem dX1_deedCount_1 : decode cX1_deedCount 1 = .ok (.getfield 14, 3) := by decide +kernel
theorem dX1_deedCount_4 : decode cX1_deedCount 4 = .ok (.invokevirtual 47, 3) := by decide +kernel
theorem dX1_deedCount_7 : decode cX1_deedCount 7 = .ok (.ireturn, 1) := by decide +kernel
theorem dX1_lineCount_0 : decode cX1_lineCount 0 = .ok (.aload_n 0, 1) := by decide +kernel
theorem dX1_lineCount_1 : decode cX1_lineCount 1 = .ok (.getfield 29, 3) := by decide +kernel
theorem dX1_lineCount_4 : decode cX1_lineCount 4 = .ok (.invokevirtual 47, 3) := by decide +kernel
theorem dX1_lineCount_7 : decode cX1_lineCount 7 = .ok (.ireturn, 1) := by decide +kernel
theorem dX1_noteCount_0 : decode cX1_noteCount 0 = .ok (.aload_n 0, 1) := by decide +kernel
theorem dX1_noteCount_1 : decode cX1_noteCount 1 = .ok (.getfield 41, 3) := by decide +kernel
theorem dX1_noteCount_4 : decode cX1_noteCount 4 = .ok (.invokevirtual 47, 3) := by decide +kernel
theorem dX1_noteCount_7 : decode cX1_noteCount 7 = .ok (.ireturn, 1) := by decide +kernel
theorem dX1_kindOf_0 : decode cX1_kindOf 0 = .ok (.aload_n 0, 1) := by decide +kernel
theorem dX1_kindOf_1 : decode cX1_kindOf 1 = .ok (.getfield 14, 3) := by decide +kernel
theorem dX1_kindOf_4 : decode cX1_kindOf 4 = .ok (.iload_n 1, 1) := by decide +kernel
theorem dX1_kindOf_5 : decode cX1_kindOf 5 = .ok (.invokevirtual 51, 3) := by decide +kernel
theorem dX1_kindOf_8 : decode cX1_kindOf 8 = .ok (.ireturn, 1) := by decide +kernel
theorem dX1_stampOf_0 : decode cX1_stampOf 0 = .ok (.aload_n 0, 1) := by decide +kernel
theorem dX1_stampOf_1 : decode cX1_stampOf 1 = .ok (.getfield 20, 3) := by decide +kernel
theorem dX1_stampOf_4 : decode cX1_stampOf 4 = .ok (.iload_n 1, 1) := by decide +kernel
theorem dX1_stampOf_5 : decode cX1_stampOf 5 = .ok (.invokevirtual 51, 3) := by decide +kernel
theorem dX1_stampOf_8 : decode cX1_stampOf 8 = .ok (.ireturn, 1) := by decide +kernel
theorem dX1_subjectOf_0 : decode cX1_subjectOf 0 = .ok (.aload_n 0, 1) := by decide +kernel
theorem dX1_subjectOf_1 : decode cX1_subjectOf 1 = .ok (.getfield 23, 3) := by decide +kernel
theorem dX1_subjectOf_4 : decode cX1_subjectOf 4 = .ok (.iload_n 1, 1) := by decide +kernel
theorem dX1_subjectOf_5 : decode cX1_subjectOf 5 = .ok (.invokevirtual 51, 3) := by decide +kernel
theorem dX1_subjectOf_8 : decode cX1_subjectOf 8 = .ok (.ireturn, 1) := by decide +kernel
theorem dX1_targetOf_0 : decode cX1_targetOf 0 = .ok (.aload_n 0, 1) := by decide +kernel
theorem dX1_targetOf_1 : decode cX1_targetOf 1 = .ok (.getfield 26, 3) := by decide +kernel
theorem dX1_targetOf_4 : decode cX1_targetOf 4 = .ok (.iload_n 1, 1) := by decide +kernel
theorem dX1_targetOf_5 : decode cX1_targetOf 5 = .ok (.invokevirtual 51, 3) := by decide +kernel
theorem dX1_targetOf_8 : decode cX1_targetOf 8 = .ok (.ireturn, 1) := by decide +kernel
theorem dX1_stampOfLine_0 : decode cX1_stampOfLine 0 = .ok (.aload_n 0, 1) := by decide +kernel
theorem dX1_stampOfLine_1 : decode cX1_stampOfLine 1 = .ok (.getfield 29, 3) := by decide +kernel
theorem dX1_stampOfLine_4 : decode cX1_stampOfLine 4 = .ok (.iload_n 1, 1) := by decide +kernel
theorem dX1_stampOfLine_5 : decode cX1_stampOfLine 5 = .ok (.invokevirtual 51, 3) := by decide +kernel
theorem dX1_stampOfLine_8 : decode cX1_stampOfLine 8 = .ok (.ireturn, 1) := by decide +kernel
theorem dX1_behindOf_0 : decode cX1_behindOf 0 = .ok (.aload_n 0, 1) := by decide +kernel
theorem dX1_behindOf_1 : decode cX1_behindOf 1 = .ok (.getfield 32, 3) := by decide +kernel
theorem dX1_behindOf_4 : decode cX1_behindOf 4 = .ok (.iload_n 1, 1) := by decide +kernel
theorem dX1_behindOf_5 : decode cX1_behindOf 5 = .ok (.invokevirtual 51, 3) := by decide +kernel
theorem dX1_behindOf_8 : decode cX1_behindOf 8 = .ok (.ireturn, 1) := by decide +kernel
theorem dX1_valueOf_0 : decode cX1_valueOf 0 = .ok (.aload_n 0, 1) := by decide +kernel
theorem dX1_valueOf_1 : decode cX1_valueOf 1 = .ok (.getfield 35, 3) := by decide +kernel
theorem dX1_valueOf_4 : decode cX1_valueOf 4 = .ok (.iload_n 1, 1) := by decide +kernel
theorem dX1_valueOf_5 : decode cX1_valueOf 5 = .ok (.invokevirtual 51, 3) := by decide +kernel
theorem dX1_valueOf_8 : decode cX1_valueOf 8 = .ok (.ireturn, 1) := by decide +kernel
theorem dX1_beginsParagraph_0 : decode cX1_beginsParagraph 0 = .ok (.aload_n 0, 1) := by decide +kernel
theorem dX1_beginsParagraph_1 : decode cX1_beginsParagraph 1 = .ok (.getfield 38, 3) := by decide +kernel
theorem dX1_beginsParagraph_4 : decode cX1_beginsParagraph 4 = .ok (.iload_n 1, 1) := by decide +kernel
theorem dX1_beginsParagraph_5 : decode cX1_beginsParagraph 5 = .ok (.invokevirtual 51, 3) := by decide +kernel
theorem dX1_beginsParagraph_8 : decode cX1_beginsParagraph 8 = .ok (.iconst 1, 1) := by decide +kernel
theorem dX1_beginsParagraph_9 : decode cX1_beginsParagraph 9 = .ok (.if_icmp .ne 7, 3) := by decide +kernel
theorem dX1_beginsParagraph_12 : decode cX1_beginsParagraph 12 = .ok (.iconst 1, 1) := by decide +kernel
theorem dX1_beginsParagraph_13 : decode cX1_beginsParagraph 13 = .ok (.goto 4, 3) := by decide +kernel
theorem dX1_beginsParagraph_16 : decode cX1_beginsParagraph 16 = .ok (.iconst 0, 1) := by decide +kernel
theorem dX1_beginsParagraph_17 : decode cX1_beginsParagraph 17 = .ok (.ireturn, 1) := by decide +kernel
theorem dX1_rowsOfNote_0 : decode cX1_rowsOfNote 0 = .ok (.aload_n 0, 1) := by decide +kernel
theorem dX1_rowsOfNote_1 : decode cX1_rowsOfNote 1 = .ok (.getfield 41, 3) := by decide +kernel
theorem dX1_rowsOfNote_4 : decode cX1_rowsOfNote 4 = .ok (.iload_n 1, 1) := by decide +kernel
theorem dX1_rowsOfNote_5 : decode cX1_rowsOfNote 5 = .ok (.invokevirtual 51, 3) := by decide +kernel
theorem dX1_rowsOfNote_8 : decode cX1_rowsOfNote 8 = .ok (.ireturn, 1) := by decide +kernel
theorem dX2_init_0 : decode cX2_init 0 = .ok (.aload_n 0, 1) := by decide +kernel
theorem dX2_init_1 : decode cX2_init 1 = .ok (.invokespecial 3, 3) := by decide +kernel
theorem dX2_init_4 : decode cX2_init 4 = .ok (.aload_n 0, 1) := by decide +kernel
theorem dX2_init_5 : decode cX2_init 5 = .ok (.iload_n 1, 1) := by decide +kernel
theorem dX2_init_6 : decode cX2_init 6 = .ok (.iconst 0, 1) := by decide +kernel
theorem dX2_init_7 : decode cX2_init 7 = .ok (.invokestatic 9, 3) := by decide +kernel
theorem dX2_init_10 : decode cX2_init 10 = .ok (.newarray .int, 2) := by decide +kernel
theorem dX2_init_12 : decode cX2_init 12 = .ok (.putfield 15, 3) := by decide +kernel
theorem dX2_init_15 : decode cX2_init 15 = .ok (.iconst 0, 1) := by decide +kernel
theorem dX2_init_16 : decode cX2_init 16 = .ok (.istore_n 2, 1) := by decide +kernel
theorem dX2_init_17 : decode cX2_init 17 = .ok (.iload_n 2, 1) := by decide +kernel
theorem dX2_init_18 : decode cX2_init 18 = .ok (.aload_n 0, 1) := by decide +kernel
theorem dX2_init_19 : decode cX2_init 19 = .ok (.getfield 15, 3) := by decide +kernel
theorem dX2_init_22 : decode cX2_init 22 = .ok (.arraylength, 1) := by decide +kernel
theorem dX2_init_23 : decode cX2_init 23 = .ok (.if_icmp .ge 16, 3) := by decide +kernel
theorem dX2_init_26 : decode cX2_init 26 = .ok (.aload_n 0, 1) := by decide +kernel
theorem dX2_init_27 : decode cX2_init 27 = .ok (.getfield 15, 3) := by decide +kernel
theorem dX2_init_30 : decode cX2_init 30 = .ok (.iload_n 2, 1) := by decide +kernel
theorem dX2_init_31 : decode cX2_init 31 = .ok (.iconst (-1), 1) := by decide +kernel
theorem dX2_init_32 : decode cX2_init 32 = .ok (.iastore, 1) := by decide +kernel
theorem dX2_init_33 : decode cX2_init 33 = .ok (.iinc 2 1, 3) := by decide +kernel
theorem dX2_init_36 : decode cX2_init 36 = .ok (.goto (-19), 3) := by decide +kernel
theorem dX2_init_39 : decode cX2_init 39 = .ok (.return_, 1) := by decide +kernel
theorem dX2_size_0 : decode cX2_size 0 = .ok (.aload_n 0, 1) := by decide +kernel
theorem dX2_size_1 : decode cX2_size 1 = .ok (.getfield 21, 3) := by decide +kernel
theorem dX2_size_4 : decode cX2_size 4 = .ok (.ireturn, 1) := by decide +kernel
theorem dX2_at_0 : decode cX2_at 0 = .ok (.iload_n 1, 1) := by decide +kernel
theorem dX2_at_1 : decode cX2_at 1 = .ok (.ifCond .lt 21, 3) := by decide +kernel
theorem dX2_at_4 : decode cX2_at 4 = .ok (.iload_n 1, 1) := by decide +kernel
theorem dX2_at_5 : decode cX2_at 5 = .ok (.aload_n 0, 1) := by decide +kernel
theorem dX2_at_6 : decode cX2_at 6 = .ok (.getfield 15, 3) := by decide +kernel
theorem dX2_at_9 : decode cX2_at 9 = .ok (.arraylength, 1) := by decide +kernel
theorem dX2_at_10 : decode cX2_at 10 = .ok (.if_icmp .ge 12, 3) := by decide +kernel
theorem dX2_at_13 : decode cX2_at 13 = .ok (.aload_n 0, 1) := by decide +kernel
theorem dX2_at_14 : decode cX2_at 14 = .ok (.getfield 15, 3) := by decide +kernel
theorem dX2_at_17 : decode cX2_at 17 = .ok (.iload_n 1, 1) := by decide +kernel
theorem dX2_at_18 : decode cX2_at 18 = .ok (.iaload, 1) := by decide +kernel
theorem dX2_at_19 : decode cX2_at 19 = .ok (.goto 4, 3) := by decide +kernel
theorem dX2_at_22 : decode cX2_at 22 = .ok (.iconst (-1), 1) := by decide +kernel
theorem dX2_at_23 : decode cX2_at 23 = .ok (.ireturn, 1) := by decide +kernel
theorem dX2_put_0 : decode cX2_put 0 = .ok (.iload_n 1, 1) := by decide +kernel
theorem dX2_put_1 : decode cX2_put 1 = .ok (.ifCond .lt 19, 3) := by decide +kernel
theorem dX2_put_4 : decode cX2_put 4 = .ok (.iload_n 1, 1) := by decide +kernel
theorem dX2_put_5 : decode cX2_put 5 = .ok (.aload_n 0, 1) := by decide +kernel
theorem dX2_put_6 : decode cX2_put 6 = .ok (.getfield 15, 3) := by decide +kernel
theorem dX2_put_9 : decode cX2_put 9 = .ok (.arraylength, 1) := by decide +kernel
theorem dX2_put_10 : decode cX2_put 10 = .ok (.if_icmp .ge 10, 3) := by decide +kernel
theorem dX2_put_13 : decode cX2_put 13 = .ok (.aload_n 0, 1) := by decide +kernel
theorem dX2_put_14 : decode cX2_put 14 = .ok (.getfield 15, 3) := by decide +kernel
theorem dX2_put_17 : decode cX2_put 17 = .ok (.iload_n 1, 1) := by decide +kernel
theorem dX2_put_18 : decode cX2_put 18 = .ok (.iload_n 2, 1) := by decide +kernel
theorem dX2_put_19 : decode cX2_put 19 = .ok (.iastore, 1) := by decide +kernel
theorem dX2_put_20 : decode cX2_put 20 = .ok (.return_, 1) := by decide +kernel
theorem dX2_add_0 : decode cX2_add 0 = .ok (.aload_n 0, 1) := by decide +kernel
theorem dX2_add_1 : decode cX2_add 1 = .ok (.aload_n 0, 1) := by decide +kernel
theorem dX2_add_2 : decode cX2_add 2 = .ok (.getfield 21, 3) := by decide +kernel
theorem dX2_add_5 : decode cX2_add 5 = .ok (.iload_n 1, 1) := by decide +kernel
theorem dX2_add_6 : decode cX2_add 6 = .ok (.invokevirtual 25, 3) := by decide +kernel
theorem dX2_add_9 : decode cX2_add 9 = .ok (.return_, 1) := by decide +kernel
theorem dX2_putBetween_0 : decode cX2_putBetween 0 = .ok (.iload_n 1, 1) := by decide +kernel
theorem dX2_putBetween_1 : decode cX2_putBetween 1 = .ok (.ifCond .lt 23, 3) := by decide +kernel
theorem dX2_putBetween_4 : decode cX2_putBetween 4 = .ok (.iload_n 1, 1) := by decide +kernel
theorem dX2_putBetween_5 : decode cX2_putBetween 5 = .ok (.aload_n 0, 1) := by decide +kernel
theorem dX2_putBetween_6 : decode cX2_putBetween 6 = .ok (.getfield 21, 3) := by decide +kernel
theorem dX2_putBetween_9 : decode cX2_putBetween 9 = .ok (.if_icmp .gt 15, 3) := by decide +kernel
theorem dX2_putBetween_12 : decode cX2_putBetween 12 = .ok (.aload_n 0, 1) := by decide +kernel
theorem dX2_putBetween_13 : decode cX2_putBetween 13 = .ok (.getfield 21, 3) := by decide +kernel
theorem dX2_putBetween_16 : decode cX2_putBetween 16 = .ok (.aload_n 0, 1) := by decide +kernel
theorem dX2_putBetween_17 : decode cX2_putBetween 17 = .ok (.getfield 15, 3) := by decide +kernel
theorem dX2_putBetween_20 : decode cX2_putBetween 20 = .ok (.arraylength, 1) := by decide +kernel
theorem dX2_putBetween_21 : decode cX2_putBetween 21 = .ok (.if_icmp .lt 4, 3) := by decide +kernel
theorem dX2_putBetween_24 : decode cX2_putBetween 24 = .ok (.return_, 1) := by decide +kernel
theorem dX2_putBetween_25 : decode cX2_putBetween 25 = .ok (.aload_n 0, 1) := by decide +kernel
theorem dX2_putBetween_26 : decode cX2_putBetween 26 = .ok (.getfield 21, 3) := by decide +kernel
theorem dX2_putBetween_29 : decode cX2_putBetween 29 = .ok (.istore_n 3, 1) := by decide +kernel
theorem dX2_putBetween_30 : decode cX2_putBetween 30 = .ok (.iload_n 3, 1) := by decide +kernel
theorem dX2_putBetween_31 : decode cX2_putBetween 31 = .ok (.iload_n 1, 1) := by decide +kernel
theorem dX2_putBetween_32 : decode cX2_putBetween 32 = .ok (.if_icmp .le 21, 3) := by decide +kernel
theorem dX2_putBetween_35 : decode cX2_putBetween 35 = .ok (.aload_n 0, 1) := by decide +kernel
theorem dX2_putBetween_36 : decode cX2_putBetween 36 = .ok (.iload_n 3, 1) := by decide +kernel
theorem dX2_putBetween_37 : decode cX2_putBetween 37 = .ok (.aload_n 0, 1) := by decide +kernel
theorem dX2_putBetween_38 : decode cX2_putBetween 38 = .ok (.iload_n 3, 1) := by decide +kernel
theorem dX2_putBetween_39 : decode cX2_putBetween 39 = .ok (.iconst 1, 1) := by decide +kernel
theorem dX2_putBetween_40 : decode cX2_putBetween 40 = .ok (.isub, 1) := by decide +kernel
theorem dX2_putBetween_41 : decode cX2_putBetween 41 = .ok (.invokevirtual 29, 3) := by decide +kernel
theorem dX2_putBetween_44 : decode cX2_putBetween 44 = .ok (.invokevirtual 33, 3) := by decide +kernel
theorem dX2_putBetween_47 : decode cX2_putBetween 47 = .ok (.iinc 3 (-1), 3) := by decide +kernel
theorem dX2_putBetween_50 : decode cX2_putBetween 50 = .ok (.goto (-20), 3) := by decide +kernel
theorem dX2_putBetween_53 : decode cX2_putBetween 53 = .ok (.aload_n 0, 1) := by decide +kernel
theorem dX2_putBetween_54 : decode cX2_putBetween 54 = .ok (.iload_n 1, 1) := by decide +kernel
theorem dX2_putBetween_55 : decode cX2_putBetween 55 = .ok (.iload_n 2, 1) := by decide +kernel
theorem dX2_putBetween_56 : decode cX2_putBetween 56 = .ok (.invokevirtual 33, 3) := by decide +kernel
theorem dX2_putBetween_59 : decode cX2_putBetween 59 = .ok (.aload_n 0, 1) := by decide +kernel
theorem dX2_putBetween_60 : decode cX2_putBetween 60 = .ok (.dup, 1) := by decide +kernel
theorem dX2_putBetween_61 : decode cX2_putBetween 61 = .ok (.getfield 21, 3) := by decide +kernel
theorem dX2_putBetween_64 : decode cX2_putBetween 64 = .ok (.iconst 1, 1) := by decide +kernel
theorem dX2_putBetween_65 : decode cX2_putBetween 65 = .ok (.iadd, 1) := by decide +kernel
theorem dX2_putBetween_66 : decode cX2_putBetween 66 = .ok (.putfield 21, 3) := by decide +kernel
theorem dX2_putBetween_69 : decode cX2_putBetween 69 = .ok (.return_, 1) := by decide +kernel
theorem dX2_clear_0 : decode cX2_clear 0 = .ok (.aload_n 0, 1) := by decide +kernel
theorem dX2_clear_1 : decode cX2_clear 1 = .ok (.iconst 0, 1) := by decide +kernel
theorem dX2_clear_2 : decode cX2_clear 2 = .ok (.putfield 21, 3) := by decide +kernel
theorem dX2_clear_5 : decode cX2_clear 5 = .ok (.return_, 1) := by decide +kernel
theorem dX2_placeOf_0 : decode cX2_placeOf 0 = .ok (.iconst 0, 1) := by decide +kernel
theorem dX2_placeOf_1 : decode cX2_placeOf 1 = .ok (.istore_n 2, 1) := by decide +kernel
theorem dX2_placeOf_2 : decode cX2_placeOf 2 = .ok (.iload_n 2, 1) := by decide +kernel
theorem dX2_placeOf_3 : decode cX2_placeOf 3 = .ok (.aload_n 0, 1) := by decide +kernel
theorem dX2_placeOf_4 : decode cX2_placeOf 4 = .ok (.getfield 21, 3) := by decide +kernel
theorem dX2_placeOf_7 : decode cX2_placeOf 7 = .ok (.if_icmp .ge 20, 3) := by decide +kernel
theorem dX2_placeOf_10 : decode cX2_placeOf 10 = .ok (.aload_n 0, 1) := by decide +kernel
theorem dX2_placeOf_11 : decode cX2_placeOf 11 = .ok (.iload_n 2, 1) := by decide +kernel
theorem dX2_placeOf_12 : decode cX2_placeOf 12 = .ok (.invokevirtual 29, 3) := by decide +kernel
theorem dX2_placeOf_15 : decode cX2_placeOf 15 = .ok (.iload_n 1, 1) := by decide +kernel
theorem dX2_placeOf_16 : decode cX2_placeOf 16 = .ok (.if_icmp .ne 5, 3) := by decide +kernel
theorem dX2_placeOf_19 : decode cX2_placeOf 19 = .ok (.iload_n 2, 1) := by decide +kernel
theorem dX2_placeOf_20 : decode cX2_placeOf 20 = .ok (.ireturn, 1) := by decide +kernel
theorem dX2_placeOf_21 : decode cX2_placeOf 21 = .ok (.iinc 2 1, 3) := by decide +kernel
theorem dX2_placeOf_24 : decode cX2_placeOf 24 = .ok (.goto (-22), 3) := by decide +kernel
theorem dX2_placeOf_27 : decode cX2_placeOf 27 = .ok (.iconst (-1), 1) := by decide +kernel
theorem dX2_placeOf_28 : decode cX2_placeOf 28 = .ok (.ireturn, 1) := by decide +kernel
theorem dX3_init_0 : decode cX3_init 0 = .ok (.aload_n 0, 1) := by decide +kernel
theorem dX3_init_1 : decode cX3_init 1 = .ok (.invokespecial 3, 3) := by decide +kernel
theorem dX3_init_4 : decode cX3_init 4 = .ok (.aload_n 0, 1) := by decide +kernel
theorem dX3_init_5 : decode cX3_init 5 = .ok (.new 9, 3) := by decide +kernel
theorem dX3_init_8 : decode cX3_init 8 = .ok (.dup, 1) := by decide +kernel
theorem dX3_init_9 : decode cX3_init 9 = .ok (.bipush 90, 2) := by decide +kernel
theorem dX3_init_11 : decode cX3_init 11 = .ok (.invokespecial 11, 3) := by decide +kernel
theorem dX3_init_14 : decode cX3_init 14 = .ok (.putfield 14, 3) := by decide +kernel
theorem dX3_init_17 : decode cX3_init 17 = .ok (.aload_n 0, 1) := by decide +kernel
theorem dX3_init_18 : decode cX3_init 18 = .ok (.new 9, 3) := by decide +kernel
theorem dX3_init_21 : decode cX3_init 21 = .ok (.dup, 1) := by decide +kernel
theorem dX3_init_22 : decode cX3_init 22 = .ok (.sipush 540, 3) := by decide +kernel
theorem dX3_init_25 : decode cX3_init 25 = .ok (.invokespecial 11, 3) := by decide +kernel
theorem dX3_init_28 : decode cX3_init 28 = .ok (.putfield 20, 3) := by decide +kernel
theorem dX3_init_31 : decode cX3_init 31 = .ok (.aload_n 0, 1) := by decide +kernel
theorem dX3_init_32 : decode cX3_init 32 = .ok (.new 9, 3) := by decide +kernel
theorem dX3_init_35 : decode cX3_init 35 = .ok (.dup, 1) := by decide +kernel
theorem dX3_init_36 : decode cX3_init 36 = .ok (.sipush 540, 3) := by decide +kernel
theorem dX3_init_39 : decode cX3_init 39 = .ok (.invokespecial 11, 3) := by decide +kernel
theorem dX3_init_42 : decode cX3_init 42 = .ok (.putfield 23, 3) := by decide +kernel
theorem dX3_init_45 : decode cX3_init 45 = .ok (.aload_n 0, 1) := by decide +kernel
theorem dX3_init_46 : decode cX3_init 46 = .ok (.aload_n 1, 1) := by decide +kernel
theorem dX3_init_47 : decode cX3_init 47 = .ok (.putfield 26, 3) := by decide +kernel
theorem dX3_init_50 : decode cX3_init 50 = .ok (.return_, 1) := by decide +kernel
theorem dX3_hasPageToPrint_0 : decode cX3_hasPageToPrint 0 = .ok (.aload_n 0, 1) := by decide +kernel
theorem dX3_hasPageToPrint_1 : decode cX3_hasPageToPrint 1 = .ok (.getfield 14, 3) := by decide +kernel
theorem dX3_hasPageToPrint_4 : decode cX3_hasPageToPrint 4 = .ok (.invokevirtual 30, 3) := by decide +kernel
theorem dX3_hasPageToPrint_7 : decode cX3_hasPageToPrint 7 = .ok (.aload_n 0, 1) := by decide +kernel
theorem dX3_hasPageToPrint_8 : decode cX3_hasPageToPrint 8 = .ok (.getfield 26, 3) := by decide +kernel
theorem dX3_hasPageToPrint_11 : decode cX3_hasPageToPrint 11 = .ok (.invokevirtual 34, 3) := by decide +kernel
theorem dX3_hasPageToPrint_14 : decode cX3_hasPageToPrint 14 = .ok (.if_icmp .ge 7, 3) := by decide +kernel
theorem dX3_hasPageToPrint_17 : decode cX3_hasPageToPrint 17 = .ok (.iconst 1, 1) := by decide +kernel
theorem dX3_hasPageToPrint_18 : decode cX3_hasPageToPrint 18 = .ok (.goto 4, 3) := by decide +kernel
theorem dX3_hasPageToPrint_21 : decode cX3_hasPageToPrint 21 = .ok (.iconst 0, 1) := by decide +kernel
theorem dX3_hasPageToPrint_22 : decode cX3_hasPageToPrint 22 = .ok (.ireturn, 1) := by decide +kernel
theorem dX3_pageCount_0 : decode cX3_pageCount 0 = .ok (.aload_n 0, 1) := by decide +kernel
theorem dX3_pageCount_1 : decode cX3_pageCount 1 = .ok (.getfield 14, 3) := by decide +kernel
theorem dX3_pageCount_4 : decode cX3_pageCount 4 = .ok (.invokevirtual 30, 3) := by decide +kernel
theorem dX3_pageCount_7 : decode cX3_pageCount 7 = .ok (.ireturn, 1) := by decide +kernel
theorem dX3_sheetCount_0 : decode cX3_sheetCount 0 = .ok (.aload_n 0, 1) := by decide +kernel
theorem dX3_sheetCount_1 : decode cX3_sheetCount 1 = .ok (.getfield 14, 3) := by decide +kernel
theorem dX3_sheetCount_4 : decode cX3_sheetCount 4 = .ok (.invokevirtual 30, 3) := by decide +kernel
theorem dX3_sheetCount_7 : decode cX3_sheetCount 7 = .ok (.iconst 2, 1) := by decide +kernel
theorem dX3_sheetCount_8 : decode cX3_sheetCount 8 = .ok (.idiv, 1) := by decide +kernel
theorem dX3_sheetCount_9 : decode cX3_sheetCount 9 = .ok (.ireturn, 1) := by decide +kernel
theorem dX3_printSheet_0 : decode cX3_printSheet 0 = .ok (.iconst 0, 1) := by decide +kernel
theorem dX3_printSheet_1 : decode cX3_printSheet 1 = .ok (.istore_n 1, 1) := by decide +kernel
theorem dX3_printSheet_2 : decode cX3_printSheet 2 = .ok (.iconst 0, 1) := by decide +kernel
theorem dX3_printSheet_3 : decode cX3_printSheet 3 = .ok (.istore_n 2, 1) := by decide +kernel
theorem dX3_printSheet_4 : decode cX3_printSheet 4 = .ok (.iload_n 2, 1) := by decide +kernel
theorem dX3_printSheet_5 : decode cX3_printSheet 5 = .ok (.iconst 2, 1) := by decide +kernel
theorem dX3_printSheet_6 : decode cX3_printSheet 6 = .ok (.if_icmp .ge 16, 3) := by decide +kernel
theorem dX3_printSheet_9 : decode cX3_printSheet 9 = .ok (.iload_n 1, 1) := by decide +kernel
theorem dX3_printSheet_10 : decode cX3_printSheet 10 = .ok (.aload_n 0, 1) := by decide +kernel
theorem dX3_printSheet_11 : decode cX3_printSheet 11 = .ok (.invokevirtual 39, 3) := by decide +kernel
theorem dX3_printSheet_14 : decode cX3_printSheet 14 = .ok (.iadd, 1) := by decide +kernel
theorem dX3_printSheet_15 : decode cX3_printSheet 15 = .ok (.istore_n 1, 1) := by decide +kernel
theorem dX3_printSheet_16 : decode cX3_printSheet 16 = .ok (.iinc 2 1, 3) := by decide +kernel
theorem dX3_printSheet_19 : decode cX3_printSheet 19 = .ok (.goto (-15), 3) := by decide +kernel
theorem dX3_printSheet_22 : decode cX3_printSheet 22 = .ok (.iload_n 1, 1) := by decide +kernel
theorem dX3_printSheet_23 : decode cX3_printSheet 23 = .ok (.ireturn, 1) := by decide +kernel
theorem dX3_difference_0 : decode cX3_difference 0 = .ok (.aload_n 0, 1) := by decide +kernel
theorem dX3_difference_1 : decode cX3_difference 1 = .ok (.getfield 26, 3) := by decide +kernel
theorem dX3_difference_4 : decode cX3_difference 4 = .ok (.iload_n 1, 1) := by decide +kernel
theorem dX3_difference_5 : decode cX3_difference 5 = .ok (.invokevirtual 42, 3) := by decide +kernel
theorem dX3_difference_8 : decode cX3_difference 8 = .ok (.istore_n 2, 1) := by decide +kernel
theorem dX3_difference_9 : decode cX3_difference 9 = .ok (.aload_n 0, 1) := by decide +kernel
theorem dX3_difference_10 : decode cX3_difference 10 = .ok (.getfield 26, 3) := by decide +kernel
theorem dX3_difference_13 : decode cX3_difference 13 = .ok (.iload_n 1, 1) := by decide +kernel
theorem dX3_difference_14 : decode cX3_difference 14 = .ok (.iconst 1, 1) := by decide +kernel
theorem dX3_difference_15 : decode cX3_difference 15 = .ok (.iadd, 1) := by decide +kernel
theorem dX3_difference_16 : decode cX3_difference 16 = .ok (.invokevirtual 42, 3) := by decide +kernel
theorem dX3_difference_19 : decode cX3_difference 19 = .ok (.istore_n 3, 1) := by decide +kernel
theorem dX3_difference_20 : decode cX3_difference 20 = .ok (.iconst 0, 1) := by decide +kernel
theorem dX3_difference_21 : decode cX3_difference 21 = .ok (.istore 4, 2) := by decide +kernel
theorem dX3_difference_23 : decode cX3_difference 23 = .ok (.iload_n 2, 1) := by decide +kernel
theorem dX3_difference_24 : decode cX3_difference 24 = .ok (.istore 5, 2) := by decide +kernel
theorem dX3_difference_26 : decode cX3_difference 26 = .ok (.iload 5, 2) := by decide +kernel
theorem dX3_difference_28 : decode cX3_difference 28 = .ok (.iload_n 3, 1) := by decide +kernel
theorem dX3_difference_29 : decode cX3_difference 29 = .ok (.if_icmp .ge 38, 3) := by decide +kernel
theorem dX3_difference_32 : decode cX3_difference 32 = .ok (.aload_n 0, 1) := by decide +kernel
theorem dX3_difference_33 : decode cX3_difference 33 = .ok (.iload_n 1, 1) := by decide +kernel
theorem dX3_difference_34 : decode cX3_difference 34 = .ok (.aload_n 0, 1) := by decide +kernel
theorem dX3_difference_35 : decode cX3_difference 35 = .ok (.getfield 26, 3) := by decide +kernel
theorem dX3_difference_38 : decode cX3_difference 38 = .ok (.iload 5, 2) := by decide +kernel
theorem dX3_difference_40 : decode cX3_difference 40 = .ok (.invokevirtual 46, 3) := by decide +kernel
theorem dX3_difference_43 : decode cX3_difference 43 = .ok (.aload_n 0, 1) := by decide +kernel
theorem dX3_difference_44 : decode cX3_difference 44 = .ok (.getfield 26, 3) := by decide +kernel
theorem dX3_difference_47 : decode cX3_difference 47 = .ok (.iload 5, 2) := by decide +kernel
theorem dX3_difference_49 : decode cX3_difference 49 = .ok (.invokevirtual 49, 3) := by decide +kernel
theorem dX3_difference_52 : decode cX3_difference 52 = .ok (.invokevirtual 52, 3) := by decide +kernel
theorem dX3_difference_55 : decode cX3_difference 55 = .ok (.ifCond .eq 6, 3) := by decide +kernel
theorem dX3_difference_58 : decode cX3_difference 58 = .ok (.iinc 4 1, 3) := by decide +kernel
theorem dX3_difference_61 : decode cX3_difference 61 = .ok (.iinc 5 1, 3) := by decide +kernel
theorem dX3_difference_64 : decode cX3_difference 64 = .ok (.goto (-38), 3) := by decide +kernel
theorem dX3_difference_67 : decode cX3_difference 67 = .ok (.aload_n 0, 1) := by decide +kernel
theorem dX3_difference_68 : decode cX3_difference 68 = .ok (.getfield 14, 3) := by decide +kernel
theorem dX3_difference_71 : decode cX3_difference 71 = .ok (.iload_n 1, 1) := by decide +kernel
theorem dX3_difference_72 : decode cX3_difference 72 = .ok (.invokevirtual 56, 3) := by decide +kernel
theorem dX3_difference_75 : decode cX3_difference 75 = .ok (.iload 4, 2) := by decide +kernel
theorem dX3_difference_77 : decode cX3_difference 77 = .ok (.isub, 1) := by decide +kernel
theorem dX3_difference_78 : decode cX3_difference 78 = .ok (.iload_n 3, 1) := by decide +kernel
theorem dX3_difference_79 : decode cX3_difference 79 = .ok (.iadd, 1) := by decide +kernel
theorem dX3_difference_80 : decode cX3_difference 80 = .ok (.iload_n 2, 1) := by decide +kernel
theorem dX3_difference_81 : decode cX3_difference 81 = .ok (.isub, 1) := by decide +kernel
theorem dX3_difference_82 : decode cX3_difference 82 = .ok (.iload 4, 2) := by decide +kernel
theorem dX3_difference_84 : decode cX3_difference 84 = .ok (.isub, 1) := by decide +kernel
theorem dX3_difference_85 : decode cX3_difference 85 = .ok (.ireturn, 1) := by decide +kernel
theorem dX3_bill_0 : decode cX3_bill 0 = .ok (.iconst 0, 1) := by decide +kernel
theorem dX3_bill_1 : decode cX3_bill 1 = .ok (.istore_n 1, 1) := by decide +kernel
theorem dX3_bill_2 : decode cX3_bill 2 = .ok (.iconst 0, 1) := by decide +kernel
theorem dX3_bill_3 : decode cX3_bill 3 = .ok (.istore_n 2, 1) := by decide +kernel
theorem dX3_bill_4 : decode cX3_bill 4 = .ok (.iload_n 2, 1) := by decide +kernel
theorem dX3_bill_5 : decode cX3_bill 5 = .ok (.aload_n 0, 1) := by decide +kernel
theorem dX3_bill_6 : decode cX3_bill 6 = .ok (.invokevirtual 59, 3) := by decide +kernel
theorem dX3_bill_9 : decode cX3_bill 9 = .ok (.if_icmp .ge 22, 3) := by decide +kernel
theorem dX3_bill_12 : decode cX3_bill 12 = .ok (.iload_n 1, 1) := by decide +kernel
theorem dX3_bill_13 : decode cX3_bill 13 = .ok (.bipush 10, 2) := by decide +kernel
theorem dX3_bill_15 : decode cX3_bill 15 = .ok (.aload_n 0, 1) := by decide +kernel
theorem dX3_bill_16 : decode cX3_bill 16 = .ok (.iload_n 2, 1) := by decide +kernel
theorem dX3_bill_17 : decode cX3_bill 17 = .ok (.invokevirtual 60, 3) := by decide +kernel
theorem dX3_bill_20 : decode cX3_bill 20 = .ok (.invokestatic 63, 3) := by decide +kernel
theorem dX3_bill_23 : decode cX3_bill 23 = .ok (.iadd, 1) := by decide +kernel
theorem dX3_bill_24 : decode cX3_bill 24 = .ok (.istore_n 1, 1) := by decide +kernel
theorem dX3_bill_25 : decode cX3_bill 25 = .ok (.iinc 2 2, 3) := by decide +kernel
theorem dX3_bill_28 : decode cX3_bill 28 = .ok (.goto (-24), 3) := by decide +kernel
theorem dX3_bill_31 : decode cX3_bill 31 = .ok (.iload_n 1, 1) := by decide +kernel
theorem dX3_bill_32 : decode cX3_bill 32 = .ok (.ireturn, 1) := by decide +kernel
theorem dX3_printPage_0 : decode cX3_printPage 0 = .ok (.aload_n 0, 1) := by decide +kernel
theorem dX3_printPage_1 : decode cX3_printPage 1 = .ok (.getfield 14, 3) := by decide +kernel
theorem dX3_printPage_4 : decode cX3_printPage 4 = .ok (.invokevirtual 30, 3) := by decide +kernel
theorem dX3_printPage_7 : decode cX3_printPage 7 = .ok (.istore_n 1, 1) := by decide +kernel
theorem dX3_printPage_8 : decode cX3_printPage 8 = .ok (.aload_n 0, 1) := by decide +kernel
theorem dX3_printPage_9 : decode cX3_printPage 9 = .ok (.getfield 26, 3) := by decide +kernel
theorem dX3_printPage_12 : decode cX3_printPage 12 = .ok (.iload_n 1, 1) := by decide +kernel
theorem dX3_printPage_13 : decode cX3_printPage 13 = .ok (.invokevirtual 42, 3) := by decide +kernel
theorem dX3_printPage_16 : decode cX3_printPage 16 = .ok (.istore_n 2, 1) := by decide +kernel
theorem dX3_printPage_17 : decode cX3_printPage 17 = .ok (.aload_n 0, 1) := by decide +kernel
theorem dX3_printPage_18 : decode cX3_printPage 18 = .ok (.getfield 26, 3) := by decide +kernel
theorem dX3_printPage_21 : decode cX3_printPage 21 = .ok (.iload_n 1, 1) := by decide +kernel
theorem dX3_printPage_22 : decode cX3_printPage 22 = .ok (.iconst 1, 1) := by decide +kernel
theorem dX3_printPage_23 : decode cX3_printPage 23 = .ok (.iadd, 1) := by decide +kernel
theorem dX3_printPage_24 : decode cX3_printPage 24 = .ok (.invokevirtual 42, 3) := by decide +kernel
theorem dX3_printPage_27 : decode cX3_printPage 27 = .ok (.iload_n 2, 1) := by decide +kernel
theorem dX3_printPage_28 : decode cX3_printPage 28 = .ok (.isub, 1) := by decide +kernel
theorem dX3_printPage_29 : decode cX3_printPage 29 = .ok (.istore_n 3, 1) := by decide +kernel
theorem dX3_printPage_30 : decode cX3_printPage 30 = .ok (.iconst 0, 1) := by decide +kernel
theorem dX3_printPage_31 : decode cX3_printPage 31 = .ok (.istore 4, 2) := by decide +kernel
theorem dX3_printPage_33 : decode cX3_printPage 33 = .ok (.iload 4, 2) := by decide +kernel
theorem dX3_printPage_35 : decode cX3_printPage 35 = .ok (.iload_n 3, 1) := by decide +kernel
theorem dX3_printPage_36 : decode cX3_printPage 36 = .ok (.if_icmp .ge 59, 3) := by decide +kernel
theorem dX3_printPage_39 : decode cX3_printPage 39 = .ok (.aload_n 0, 1) := by decide +kernel
theorem dX3_printPage_40 : decode cX3_printPage 40 = .ok (.getfield 20, 3) := by decide +kernel
theorem dX3_printPage_43 : decode cX3_printPage 43 = .ok (.iload_n 1, 1) := by decide +kernel
theorem dX3_printPage_44 : decode cX3_printPage 44 = .ok (.bipush 6, 2) := by decide +kernel
theorem dX3_printPage_46 : decode cX3_printPage 46 = .ok (.imul, 1) := by decide +kernel
theorem dX3_printPage_47 : decode cX3_printPage 47 = .ok (.iload 4, 2) := by decide +kernel
theorem dX3_printPage_49 : decode cX3_printPage 49 = .ok (.iadd, 1) := by decide +kernel
theorem dX3_printPage_50 : decode cX3_printPage 50 = .ok (.aload_n 0, 1) := by decide +kernel
theorem dX3_printPage_51 : decode cX3_printPage 51 = .ok (.getfield 26, 3) := by decide +kernel
theorem dX3_printPage_54 : decode cX3_printPage 54 = .ok (.iload_n 2, 1) := by decide +kernel
theorem dX3_printPage_55 : decode cX3_printPage 55 = .ok (.iload 4, 2) := by decide +kernel
theorem dX3_printPage_57 : decode cX3_printPage 57 = .ok (.iadd, 1) := by decide +kernel
theorem dX3_printPage_58 : decode cX3_printPage 58 = .ok (.invokevirtual 46, 3) := by decide +kernel
theorem dX3_printPage_61 : decode cX3_printPage 61 = .ok (.invokevirtual 69, 3) := by decide +kernel
theorem dX3_printPage_64 : decode cX3_printPage 64 = .ok (.aload_n 0, 1) := by decide +kernel
theorem dX3_printPage_65 : decode cX3_printPage 65 = .ok (.getfield 23, 3) := by decide +kernel
theorem dX3_printPage_68 : decode cX3_printPage 68 = .ok (.iload_n 1, 1) := by decide +kernel
theorem dX3_printPage_69 : decode cX3_printPage 69 = .ok (.bipush 6, 2) := by decide +kernel
theorem dX3_printPage_71 : decode cX3_printPage 71 = .ok (.imul, 1) := by decide +kernel
theorem dX3_printPage_72 : decode cX3_printPage 72 = .ok (.iload 4, 2) := by decide +kernel
theorem dX3_printPage_74 : decode cX3_printPage 74 = .ok (.iadd, 1) := by decide +kernel
theorem dX3_printPage_75 : decode cX3_printPage 75 = .ok (.aload_n 0, 1) := by decide +kernel
theorem dX3_printPage_76 : decode cX3_printPage 76 = .ok (.getfield 26, 3) := by decide +kernel
theorem dX3_printPage_79 : decode cX3_printPage 79 = .ok (.iload_n 2, 1) := by decide +kernel
theorem dX3_printPage_80 : decode cX3_printPage 80 = .ok (.iload 4, 2) := by decide +kernel
theorem dX3_printPage_82 : decode cX3_printPage 82 = .ok (.iadd, 1) := by decide +kernel
theorem dX3_printPage_83 : decode cX3_printPage 83 = .ok (.invokevirtual 49, 3) := by decide +kernel
theorem dX3_printPage_86 : decode cX3_printPage 86 = .ok (.invokevirtual 69, 3) := by decide +kernel
theorem dX3_printPage_89 : decode cX3_printPage 89 = .ok (.iinc 4 1, 3) := by decide +kernel
theorem dX3_printPage_92 : decode cX3_printPage 92 = .ok (.goto (-59), 3) := by decide +kernel
theorem dX3_printPage_95 : decode cX3_printPage 95 = .ok (.aload_n 0, 1) := by decide +kernel
theorem dX3_printPage_96 : decode cX3_printPage 96 = .ok (.getfield 14, 3) := by decide +kernel
theorem dX3_printPage_99 : decode cX3_printPage 99 = .ok (.iload_n 3, 1) := by decide +kernel
theorem dX3_printPage_100 : decode cX3_printPage 100 = .ok (.invokevirtual 73, 3) := by decide +kernel
theorem dX3_printPage_103 : decode cX3_printPage 103 = .ok (.iload_n 3, 1) := by decide +kernel
theorem dX3_printPage_104 : decode cX3_printPage 104 = .ok (.ireturn, 1) := by decide +kernel
theorem dX3_isPrinted_0 : decode cX3_isPrinted 0 = .ok (.iconst 0, 1) := by decide +kernel
theorem dX3_isPrinted_1 : decode cX3_isPrinted 1 = .ok (.istore 4, 2) := by decide +kernel
theorem dX3_isPrinted_3 : decode cX3_isPrinted 3 = .ok (.iload 4, 2) := by decide +kernel
theorem dX3_isPrinted_5 : decode cX3_isPrinted 5 = .ok (.aload_n 0, 1) := by decide +kernel
theorem dX3_isPrinted_6 : decode cX3_isPrinted 6 = .ok (.getfield 14, 3) := by decide +kernel
theorem dX3_isPrinted_9 : decode cX3_isPrinted 9 = .ok (.iload_n 1, 1) := by decide +kernel
theorem dX3_isPrinted_10 : decode cX3_isPrinted 10 = .ok (.invokevirtual 56, 3) := by decide +kernel
theorem dX3_isPrinted_13 : decode cX3_isPrinted 13 = .ok (.if_icmp .ge 46, 3) := by decide +kernel
theorem dX3_isPrinted_16 : decode cX3_isPrinted 16 = .ok (.iload_n 1, 1) := by decide +kernel
theorem dX3_isPrinted_17 : decode cX3_isPrinted 17 = .ok (.bipush 6, 2) := by decide +kernel
theorem dX3_isPrinted_19 : decode cX3_isPrinted 19 = .ok (.imul, 1) := by decide +kernel
theorem dX3_isPrinted_20 : decode cX3_isPrinted 20 = .ok (.iload 4, 2) := by decide +kernel
theorem dX3_isPrinted_22 : decode cX3_isPrinted 22 = .ok (.iadd, 1) := by decide +kernel
theorem dX3_isPrinted_23 : decode cX3_isPrinted 23 = .ok (.istore 5, 2) := by decide +kernel
theorem dX3_isPrinted_25 : decode cX3_isPrinted 25 = .ok (.aload_n 0, 1) := by decide +kernel
theorem dX3_isPrinted_26 : decode cX3_isPrinted 26 = .ok (.getfield 20, 3) := by decide +kernel
theorem dX3_isPrinted_29 : decode cX3_isPrinted 29 = .ok (.iload 5, 2) := by decide +kernel
theorem dX3_isPrinted_31 : decode cX3_isPrinted 31 = .ok (.invokevirtual 56, 3) := by decide +kernel
theorem dX3_isPrinted_34 : decode cX3_isPrinted 34 = .ok (.iload_n 2, 1) := by decide +kernel
theorem dX3_isPrinted_35 : decode cX3_isPrinted 35 = .ok (.if_icmp .ne 18, 3) := by decide +kernel
theorem dX3_isPrinted_38 : decode cX3_isPrinted 38 = .ok (.aload_n 0, 1) := by decide +kernel
theorem dX3_isPrinted_39 : decode cX3_isPrinted 39 = .ok (.getfield 23, 3) := by decide +kernel
theorem dX3_isPrinted_42 : decode cX3_isPrinted 42 = .ok (.iload 5, 2) := by decide +kernel
theorem dX3_isPrinted_44 : decode cX3_isPrinted 44 = .ok (.invokevirtual 56, 3) := by decide +kernel
theorem dX3_isPrinted_47 : decode cX3_isPrinted 47 = .ok (.iload_n 3, 1) := by decide +kernel
theorem dX3_isPrinted_48 : decode cX3_isPrinted 48 = .ok (.if_icmp .ne 5, 3) := by decide +kernel
theorem dX3_isPrinted_51 : decode cX3_isPrinted 51 = .ok (.iconst 1, 1) := by decide +kernel
theorem dX3_isPrinted_52 : decode cX3_isPrinted 52 = .ok (.ireturn, 1) := by decide +kernel
theorem dX3_isPrinted_53 : decode cX3_isPrinted 53 = .ok (.iinc 4 1, 3) := by decide +kernel
theorem dX3_isPrinted_56 : decode cX3_isPrinted 56 = .ok (.goto (-53), 3) := by decide +kernel
theorem dX3_isPrinted_59 : decode cX3_isPrinted 59 = .ok (.iconst 0, 1) := by decide +kernel
theorem dX3_isPrinted_60 : decode cX3_isPrinted 60 = .ok (.ireturn, 1) := by decide +kernel
theorem dX3_slips_0 : decode cX3_slips 0 = .ok (.iconst 0, 1) := by decide +kernel
