theorem dX3_slips_1 : decode cX3_slips 1 = .ok (.istore_n 2, 1) := by decide +kernel
theorem dX3_slips_2 : decode cX3_slips 2 = .ok (.iload_n 1, 1) := by decide +kernel
theorem dX3_slips_3 : decode cX3_slips 3 = .ok (.istore_n 3, 1) := by decide +kernel
theorem dX3_slips_4 : decode cX3_slips 4 = .ok (.iload_n 3, 1) := by decide +kernel
theorem dX3_slips_5 : decode cX3_slips 5 = .ok (.iload_n 1, 1) := by decide +kernel
theorem dX3_slips_6 : decode cX3_slips 6 = .ok (.iconst 2, 1) := by decide +kernel
theorem dX3_slips_7 : decode cX3_slips 7 = .ok (.iadd, 1) := by decide +kernel
theorem dX3_slips_8 : decode cX3_slips 8 = .ok (.if_icmp .ge 32, 3) := by decide +kernel
theorem dX3_slips_11 : decode cX3_slips 11 = .ok (.aload_n 0, 1) := by decide +kernel
theorem dX3_slips_12 : decode cX3_slips 12 = .ok (.iload_n 3, 1) := by decide +kernel
theorem dX3_slips_13 : decode cX3_slips 13 = .ok (.invokevirtual 76, 3) := by decide +kernel
theorem dX3_slips_16 : decode cX3_slips 16 = .ok (.istore 4, 2) := by decide +kernel
theorem dX3_slips_18 : decode cX3_slips 18 = .ok (.iload_n 2, 1) := by decide +kernel
theorem dX3_slips_19 : decode cX3_slips 19 = .ok (.iload 4, 2) := by decide +kernel
theorem dX3_slips_21 : decode cX3_slips 21 = .ok (.ifCond .ne 7, 3) := by decide +kernel
theorem dX3_slips_24 : decode cX3_slips 24 = .ok (.iconst 0, 1) := by decide +kernel
theorem dX3_slips_25 : decode cX3_slips 25 = .ok (.goto 7, 3) := by decide +kernel
theorem dX3_slips_28 : decode cX3_slips 28 = .ok (.iconst 1, 1) := by decide +kernel
theorem dX3_slips_29 : decode cX3_slips 29 = .ok (.iload 4, 2) := by decide +kernel
theorem dX3_slips_31 : decode cX3_slips 31 = .ok (.iadd, 1) := by decide +kernel
theorem dX3_slips_32 : decode cX3_slips 32 = .ok (.iadd, 1) := by decide +kernel
theorem dX3_slips_33 : decode cX3_slips 33 = .ok (.istore_n 2, 1) := by decide +kernel
theorem dX3_slips_34 : decode cX3_slips 34 = .ok (.iinc 3 1, 3) := by decide +kernel
theorem dX3_slips_37 : decode cX3_slips 37 = .ok (.goto (-33), 3) := by decide +kernel
theorem dX3_slips_40 : decode cX3_slips 40 = .ok (.iload_n 2, 1) := by decide +kernel
theorem dX3_slips_41 : decode cX3_slips 41 = .ok (.ireturn, 1) := by decide +kernel
theorem dX4_init_0 : decode cX4_init 0 = .ok (.aload_n 0, 1) := by decide +kernel
theorem dX4_init_1 : decode cX4_init 1 = .ok (.invokespecial 3, 3) := by decide +kernel
theorem dX4_init_4 : decode cX4_init 4 = .ok (.aload_n 0, 1) := by decide +kernel
theorem dX4_init_5 : decode cX4_init 5 = .ok (.new 9, 3) := by decide +kernel
theorem dX4_init_8 : decode cX4_init 8 = .ok (.dup, 1) := by decide +kernel
theorem dX4_init_9 : decode cX4_init 9 = .ok (.bipush 90, 2) := by decide +kernel
theorem dX4_init_11 : decode cX4_init 11 = .ok (.invokespecial 11, 3) := by decide +kernel
theorem dX4_init_14 : decode cX4_init 14 = .ok (.putfield 14, 3) := by decide +kernel
theorem dX4_init_17 : decode cX4_init 17 = .ok (.aload_n 0, 1) := by decide +kernel
theorem dX4_init_18 : decode cX4_init 18 = .ok (.new 9, 3) := by decide +kernel
theorem dX4_init_21 : decode cX4_init 21 = .ok (.dup, 1) := by decide +kernel
theorem dX4_init_22 : decode cX4_init 22 = .ok (.bipush 90, 2) := by decide +kernel
theorem dX4_init_24 : decode cX4_init 24 = .ok (.invokespecial 11, 3) := by decide +kernel
theorem dX4_init_27 : decode cX4_init 27 = .ok (.putfield 20, 3) := by decide +kernel
theorem dX4_init_30 : decode cX4_init 30 = .ok (.aload_n 0, 1) := by decide +kernel
theorem dX4_init_31 : decode cX4_init 31 = .ok (.iload_n 1, 1) := by decide +kernel
theorem dX4_init_32 : decode cX4_init 32 = .ok (.putfield 23, 3) := by decide +kernel
theorem dX4_init_35 : decode cX4_init 35 = .ok (.aload_n 0, 1) := by decide +kernel
theorem dX4_init_36 : decode cX4_init 36 = .ok (.new 27, 3) := by decide +kernel
theorem dX4_init_39 : decode cX4_init 39 = .ok (.dup, 1) := by decide +kernel
theorem dX4_init_40 : decode cX4_init 40 = .ok (.aload_n 2, 1) := by decide +kernel
theorem dX4_init_41 : decode cX4_init 41 = .ok (.invokespecial 29, 3) := by decide +kernel
theorem dX4_init_44 : decode cX4_init 44 = .ok (.putfield 32, 3) := by decide +kernel
theorem dX4_init_47 : decode cX4_init 47 = .ok (.aload_n 0, 1) := by decide +kernel
theorem dX4_init_48 : decode cX4_init 48 = .ok (.new 36, 3) := by decide +kernel
theorem dX4_init_51 : decode cX4_init 51 = .ok (.dup, 1) := by decide +kernel
theorem dX4_init_52 : decode cX4_init 52 = .ok (.aload_n 2, 1) := by decide +kernel
theorem dX4_init_53 : decode cX4_init 53 = .ok (.aload_n 0, 1) := by decide +kernel
theorem dX4_init_54 : decode cX4_init 54 = .ok (.getfield 32, 3) := by decide +kernel
theorem dX4_init_57 : decode cX4_init 57 = .ok (.invokespecial 38, 3) := by decide +kernel
theorem dX4_init_60 : decode cX4_init 60 = .ok (.putfield 41, 3) := by decide +kernel
theorem dX4_init_63 : decode cX4_init 63 = .ok (.return_, 1) := by decide +kernel
theorem dX4_nextStamp_0 : decode cX4_nextStamp 0 = .ok (.aload_n 0, 1) := by decide +kernel
theorem dX4_nextStamp_1 : decode cX4_nextStamp 1 = .ok (.dup, 1) := by decide +kernel
theorem dX4_nextStamp_2 : decode cX4_nextStamp 2 = .ok (.getfield 45, 3) := by decide +kernel
theorem dX4_nextStamp_5 : decode cX4_nextStamp 5 = .ok (.iconst 1, 1) := by decide +kernel
theorem dX4_nextStamp_6 : decode cX4_nextStamp 6 = .ok (.iadd, 1) := by decide +kernel
theorem dX4_nextStamp_7 : decode cX4_nextStamp 7 = .ok (.putfield 45, 3) := by decide +kernel
theorem dX4_nextStamp_10 : decode cX4_nextStamp 10 = .ok (.aload_n 0, 1) := by decide +kernel
theorem dX4_nextStamp_11 : decode cX4_nextStamp 11 = .ok (.getfield 45, 3) := by decide +kernel
theorem dX4_nextStamp_14 : decode cX4_nextStamp 14 = .ok (.iconst 4, 1) := by decide +kernel
theorem dX4_nextStamp_15 : decode cX4_nextStamp 15 = .ok (.imul, 1) := by decide +kernel
theorem dX4_nextStamp_16 : decode cX4_nextStamp 16 = .ok (.aload_n 0, 1) := by decide +kernel
theorem dX4_nextStamp_17 : decode cX4_nextStamp 17 = .ok (.getfield 23, 3) := by decide +kernel
theorem dX4_nextStamp_20 : decode cX4_nextStamp 20 = .ok (.iadd, 1) := by decide +kernel
theorem dX4_nextStamp_21 : decode cX4_nextStamp 21 = .ok (.ireturn, 1) := by decide +kernel
theorem dX4_take_0 : decode cX4_take 0 = .ok (.aload_n 0, 1) := by decide +kernel
theorem dX4_take_1 : decode cX4_take 1 = .ok (.iload_n 1, 1) := by decide +kernel
theorem dX4_take_2 : decode cX4_take 2 = .ok (.invokevirtual 48, 3) := by decide +kernel
theorem dX4_take_5 : decode cX4_take 5 = .ok (.aload_n 0, 1) := by decide +kernel
theorem dX4_take_6 : decode cX4_take 6 = .ok (.getfield 41, 3) := by decide +kernel
theorem dX4_take_9 : decode cX4_take 9 = .ok (.invokevirtual 51, 3) := by decide +kernel
theorem dX4_take_12 : decode cX4_take 12 = .ok (.return_, 1) := by decide +kernel
theorem dX4_takeAllOf_0 : decode cX4_takeAllOf 0 = .ok (.aload_n 0, 1) := by decide +kernel
theorem dX4_takeAllOf_1 : decode cX4_takeAllOf 1 = .ok (.getfield 14, 3) := by decide +kernel
theorem dX4_takeAllOf_4 : decode cX4_takeAllOf 4 = .ok (.invokevirtual 54, 3) := by decide +kernel
theorem dX4_takeAllOf_7 : decode cX4_takeAllOf 7 = .ok (.istore_n 2, 1) := by decide +kernel
theorem dX4_takeAllOf_8 : decode cX4_takeAllOf 8 = .ok (.iconst 0, 1) := by decide +kernel
theorem dX4_takeAllOf_9 : decode cX4_takeAllOf 9 = .ok (.istore_n 3, 1) := by decide +kernel
theorem dX4_takeAllOf_10 : decode cX4_takeAllOf 10 = .ok (.iload_n 3, 1) := by decide +kernel
theorem dX4_takeAllOf_11 : decode cX4_takeAllOf 11 = .ok (.aload_n 1, 1) := by decide +kernel
theorem dX4_takeAllOf_12 : decode cX4_takeAllOf 12 = .ok (.getfield 14, 3) := by decide +kernel
theorem dX4_takeAllOf_15 : decode cX4_takeAllOf 15 = .ok (.invokevirtual 54, 3) := by decide +kernel
theorem dX4_takeAllOf_18 : decode cX4_takeAllOf 18 = .ok (.if_icmp .ge 38, 3) := by decide +kernel
theorem dX4_takeAllOf_21 : decode cX4_takeAllOf 21 = .ok (.aload_n 1, 1) := by decide +kernel
theorem dX4_takeAllOf_22 : decode cX4_takeAllOf 22 = .ok (.getfield 14, 3) := by decide +kernel
theorem dX4_takeAllOf_25 : decode cX4_takeAllOf 25 = .ok (.iload_n 3, 1) := by decide +kernel
theorem dX4_takeAllOf_26 : decode cX4_takeAllOf 26 = .ok (.invokevirtual 58, 3) := by decide +kernel
theorem dX4_takeAllOf_29 : decode cX4_takeAllOf 29 = .ok (.istore 4, 2) := by decide +kernel
theorem dX4_takeAllOf_31 : decode cX4_takeAllOf 31 = .ok (.aload_n 0, 1) := by decide +kernel
theorem dX4_takeAllOf_32 : decode cX4_takeAllOf 32 = .ok (.getfield 20, 3) := by decide +kernel
theorem dX4_takeAllOf_35 : decode cX4_takeAllOf 35 = .ok (.iload 4, 2) := by decide +kernel
theorem dX4_takeAllOf_37 : decode cX4_takeAllOf 37 = .ok (.invokevirtual 58, 3) := by decide +kernel
theorem dX4_takeAllOf_40 : decode cX4_takeAllOf 40 = .ok (.iconst (-1), 1) := by decide +kernel
theorem dX4_takeAllOf_41 : decode cX4_takeAllOf 41 = .ok (.if_icmp .ne 9, 3) := by decide +kernel
theorem dX4_takeAllOf_44 : decode cX4_takeAllOf 44 = .ok (.aload_n 0, 1) := by decide +kernel
theorem dX4_takeAllOf_45 : decode cX4_takeAllOf 45 = .ok (.iload 4, 2) := by decide +kernel
theorem dX4_takeAllOf_47 : decode cX4_takeAllOf 47 = .ok (.invokevirtual 48, 3) := by decide +kernel
theorem dX4_takeAllOf_50 : decode cX4_takeAllOf 50 = .ok (.iinc 3 1, 3) := by decide +kernel
theorem dX4_takeAllOf_53 : decode cX4_takeAllOf 53 = .ok (.goto (-43), 3) := by decide +kernel
theorem dX4_takeAllOf_56 : decode cX4_takeAllOf 56 = .ok (.aload_n 0, 1) := by decide +kernel
theorem dX4_takeAllOf_57 : decode cX4_takeAllOf 57 = .ok (.aload_n 0, 1) := by decide +kernel
theorem dX4_takeAllOf_58 : decode cX4_takeAllOf 58 = .ok (.getfield 45, 3) := by decide +kernel
theorem dX4_takeAllOf_61 : decode cX4_takeAllOf 61 = .ok (.aload_n 1, 1) := by decide +kernel
theorem dX4_takeAllOf_62 : decode cX4_takeAllOf 62 = .ok (.getfield 45, 3) := by decide +kernel
theorem dX4_takeAllOf_65 : decode cX4_takeAllOf 65 = .ok (.invokestatic 62, 3) := by decide +kernel
theorem dX4_takeAllOf_68 : decode cX4_takeAllOf 68 = .ok (.putfield 45, 3) := by decide +kernel
theorem dX4_takeAllOf_71 : decode cX4_takeAllOf 71 = .ok (.aload_n 0, 1) := by decide +kernel
theorem dX4_takeAllOf_72 : decode cX4_takeAllOf 72 = .ok (.getfield 41, 3) := by decide +kernel
theorem dX4_takeAllOf_75 : decode cX4_takeAllOf 75 = .ok (.invokevirtual 51, 3) := by decide +kernel
theorem dX4_takeAllOf_78 : decode cX4_takeAllOf 78 = .ok (.aload_n 0, 1) := by decide +kernel
theorem dX4_takeAllOf_79 : decode cX4_takeAllOf 79 = .ok (.getfield 14, 3) := by decide +kernel
theorem dX4_takeAllOf_82 : decode cX4_takeAllOf 82 = .ok (.invokevirtual 54, 3) := by decide +kernel
theorem dX4_takeAllOf_85 : decode cX4_takeAllOf 85 = .ok (.iload_n 2, 1) := by decide +kernel
theorem dX4_takeAllOf_86 : decode cX4_takeAllOf 86 = .ok (.isub, 1) := by decide +kernel
theorem dX4_takeAllOf_87 : decode cX4_takeAllOf 87 = .ok (.ireturn, 1) := by decide +kernel
theorem dX4_deedCount_0 : decode cX4_deedCount 0 = .ok (.aload_n 0, 1) := by decide +kernel
theorem dX4_deedCount_1 : decode cX4_deedCount 1 = .ok (.getfield 14, 3) := by decide +kernel
theorem dX4_deedCount_4 : decode cX4_deedCount 4 = .ok (.invokevirtual 54, 3) := by decide +kernel
theorem dX4_deedCount_7 : decode cX4_deedCount 7 = .ok (.ireturn, 1) := by decide +kernel
theorem dX4_learn_0 : decode cX4_learn 0 = .ok (.aload_n 0, 1) := by decide +kernel
theorem dX4_learn_1 : decode cX4_learn 1 = .ok (.getfield 20, 3) := by decide +kernel
theorem dX4_learn_4 : decode cX4_learn 4 = .ok (.iload_n 1, 1) := by decide +kernel
theorem dX4_learn_5 : decode cX4_learn 5 = .ok (.aload_n 0, 1) := by decide +kernel
theorem dX4_learn_6 : decode cX4_learn 6 = .ok (.getfield 14, 3) := by decide +kernel
theorem dX4_learn_9 : decode cX4_learn 9 = .ok (.invokevirtual 54, 3) := by decide +kernel
theorem dX4_learn_12 : decode cX4_learn 12 = .ok (.invokevirtual 68, 3) := by decide +kernel
theorem dX4_learn_15 : decode cX4_learn 15 = .ok (.aload_n 0, 1) := by decide +kernel
theorem dX4_learn_16 : decode cX4_learn 16 = .ok (.getfield 14, 3) := by decide +kernel
theorem dX4_learn_19 : decode cX4_learn 19 = .ok (.iload_n 1, 1) := by decide +kernel
theorem dX4_learn_20 : decode cX4_learn 20 = .ok (.invokevirtual 72, 3) := by decide +kernel
theorem dX4_learn_23 : decode cX4_learn 23 = .ok (.aload_n 0, 1) := by decide +kernel
theorem dX4_learn_24 : decode cX4_learn 24 = .ok (.getfield 32, 3) := by decide +kernel
theorem dX4_learn_27 : decode cX4_learn 27 = .ok (.iload_n 1, 1) := by decide +kernel
theorem dX4_learn_28 : decode cX4_learn 28 = .ok (.invokevirtual 75, 3) := by decide +kernel
theorem dX4_learn_31 : decode cX4_learn 31 = .ok (.return_, 1) := by decide +kernel
theorem dX5_init_0 : decode cX5_init 0 = .ok (.aload_n 0, 1) := by decide +kernel
theorem dX5_init_1 : decode cX5_init 1 = .ok (.invokespecial 3, 3) := by decide +kernel
theorem dX5_init_4 : decode cX5_init 4 = .ok (.aload_n 0, 1) := by decide +kernel
theorem dX5_init_5 : decode cX5_init 5 = .ok (.new 9, 3) := by decide +kernel
theorem dX5_init_8 : decode cX5_init 8 = .ok (.dup, 1) := by decide +kernel
theorem dX5_init_9 : decode cX5_init 9 = .ok (.bipush 90, 2) := by decide +kernel
theorem dX5_init_11 : decode cX5_init 11 = .ok (.invokespecial 11, 3) := by decide +kernel
theorem dX5_init_14 : decode cX5_init 14 = .ok (.putfield 14, 3) := by decide +kernel
theorem dX5_init_17 : decode cX5_init 17 = .ok (.aload_n 0, 1) := by decide +kernel
theorem dX5_init_18 : decode cX5_init 18 = .ok (.new 9, 3) := by decide +kernel
theorem dX5_init_21 : decode cX5_init 21 = .ok (.dup, 1) := by decide +kernel
theorem dX5_init_22 : decode cX5_init 22 = .ok (.bipush 90, 2) := by decide +kernel
theorem dX5_init_24 : decode cX5_init 24 = .ok (.invokespecial 11, 3) := by decide +kernel
theorem dX5_init_27 : decode cX5_init 27 = .ok (.putfield 20, 3) := by decide +kernel
theorem dX5_init_30 : decode cX5_init 30 = .ok (.aload_n 0, 1) := by decide +kernel
theorem dX5_init_31 : decode cX5_init 31 = .ok (.new 9, 3) := by decide +kernel
theorem dX5_init_34 : decode cX5_init 34 = .ok (.dup, 1) := by decide +kernel
theorem dX5_init_35 : decode cX5_init 35 = .ok (.bipush 90, 2) := by decide +kernel
theorem dX5_init_37 : decode cX5_init 37 = .ok (.invokespecial 11, 3) := by decide +kernel
theorem dX5_init_40 : decode cX5_init 40 = .ok (.putfield 23, 3) := by decide +kernel
theorem dX5_init_43 : decode cX5_init 43 = .ok (.aload_n 0, 1) := by decide +kernel
theorem dX5_init_44 : decode cX5_init 44 = .ok (.new 9, 3) := by decide +kernel
theorem dX5_init_47 : decode cX5_init 47 = .ok (.dup, 1) := by decide +kernel
theorem dX5_init_48 : decode cX5_init 48 = .ok (.bipush 90, 2) := by decide +kernel
theorem dX5_init_50 : decode cX5_init 50 = .ok (.invokespecial 11, 3) := by decide +kernel
theorem dX5_init_53 : decode cX5_init 53 = .ok (.putfield 26, 3) := by decide +kernel
theorem dX5_init_56 : decode cX5_init 56 = .ok (.aload_n 0, 1) := by decide +kernel
theorem dX5_init_57 : decode cX5_init 57 = .ok (.new 9, 3) := by decide +kernel
theorem dX5_init_60 : decode cX5_init 60 = .ok (.dup, 1) := by decide +kernel
theorem dX5_init_61 : decode cX5_init 61 = .ok (.bipush 90, 2) := by decide +kernel
theorem dX5_init_63 : decode cX5_init 63 = .ok (.invokespecial 11, 3) := by decide +kernel
theorem dX5_init_66 : decode cX5_init 66 = .ok (.putfield 29, 3) := by decide +kernel
theorem dX5_init_69 : decode cX5_init 69 = .ok (.aload_n 0, 1) := by decide +kernel
theorem dX5_init_70 : decode cX5_init 70 = .ok (.new 9, 3) := by decide +kernel
theorem dX5_init_73 : decode cX5_init 73 = .ok (.dup, 1) := by decide +kernel
theorem dX5_init_74 : decode cX5_init 74 = .ok (.bipush 90, 2) := by decide +kernel
theorem dX5_init_76 : decode cX5_init 76 = .ok (.invokespecial 11, 3) := by decide +kernel
theorem dX5_init_79 : decode cX5_init 79 = .ok (.putfield 32, 3) := by decide +kernel
theorem dX5_init_82 : decode cX5_init 82 = .ok (.aload_n 0, 1) := by decide +kernel
theorem dX5_init_83 : decode cX5_init 83 = .ok (.aload_n 1, 1) := by decide +kernel
theorem dX5_init_84 : decode cX5_init 84 = .ok (.putfield 35, 3) := by decide +kernel
theorem dX5_init_87 : decode cX5_init 87 = .ok (.return_, 1) := by decide +kernel
theorem dX5_change_0 : decode cX5_change 0 = .ok (.aload_n 0, 1) := by decide +kernel
theorem dX5_change_1 : decode cX5_change 1 = .ok (.getfield 35, 3) := by decide +kernel
theorem dX5_change_4 : decode cX5_change 4 = .ok (.iload_n 1, 1) := by decide +kernel
theorem dX5_change_5 : decode cX5_change 5 = .ok (.invokevirtual 39, 3) := by decide +kernel
theorem dX5_change_8 : decode cX5_change 8 = .ok (.istore_n 2, 1) := by decide +kernel
theorem dX5_change_9 : decode cX5_change 9 = .ok (.aload_n 0, 1) := by decide +kernel
theorem dX5_change_10 : decode cX5_change 10 = .ok (.getfield 35, 3) := by decide +kernel
theorem dX5_change_13 : decode cX5_change 13 = .ok (.iload_n 1, 1) := by decide +kernel
theorem dX5_change_14 : decode cX5_change 14 = .ok (.invokevirtual 45, 3) := by decide +kernel
theorem dX5_change_17 : decode cX5_change 17 = .ok (.tableswitch 75 0 3 #[31, 39, 51, 51], 31) := by decide +kernel
theorem dX5_change_48 : decode cX5_change 48 = .ok (.aload_n 0, 1) := by decide +kernel
theorem dX5_change_49 : decode cX5_change 49 = .ok (.iload_n 2, 1) := by decide +kernel
theorem dX5_change_50 : decode cX5_change 50 = .ok (.invokevirtual 48, 3) := by decide +kernel
theorem dX5_change_53 : decode cX5_change 53 = .ok (.goto 39, 3) := by decide +kernel
theorem dX5_change_56 : decode cX5_change 56 = .ok (.aload_n 0, 1) := by decide +kernel
theorem dX5_change_57 : decode cX5_change 57 = .ok (.getfield 26, 3) := by decide +kernel
theorem dX5_change_60 : decode cX5_change 60 = .ok (.iload_n 2, 1) := by decide +kernel
theorem dX5_change_61 : decode cX5_change 61 = .ok (.iconst 0, 1) := by decide +kernel
theorem dX5_change_62 : decode cX5_change 62 = .ok (.invokevirtual 51, 3) := by decide +kernel
theorem dX5_change_65 : decode cX5_change 65 = .ok (.goto 27, 3) := by decide +kernel
theorem dX5_change_68 : decode cX5_change 68 = .ok (.aload_n 0, 1) := by decide +kernel
theorem dX5_change_69 : decode cX5_change 69 = .ok (.iload_n 2, 1) := by decide +kernel
theorem dX5_change_70 : decode cX5_change 70 = .ok (.aload_n 0, 1) := by decide +kernel
theorem dX5_change_71 : decode cX5_change 71 = .ok (.getfield 35, 3) := by decide +kernel
theorem dX5_change_74 : decode cX5_change 74 = .ok (.iload_n 1, 1) := by decide +kernel
theorem dX5_change_75 : decode cX5_change 75 = .ok (.invokevirtual 55, 3) := by decide +kernel
theorem dX5_change_78 : decode cX5_change 78 = .ok (.aload_n 0, 1) := by decide +kernel
theorem dX5_change_79 : decode cX5_change 79 = .ok (.getfield 35, 3) := by decide +kernel
theorem dX5_change_82 : decode cX5_change 82 = .ok (.iload_n 1, 1) := by decide +kernel
theorem dX5_change_83 : decode cX5_change 83 = .ok (.invokevirtual 58, 3) := by decide +kernel
theorem dX5_change_86 : decode cX5_change 86 = .ok (.invokevirtual 61, 3) := by decide +kernel
theorem dX5_change_89 : decode cX5_change 89 = .ok (.goto 3, 3) := by decide +kernel
theorem dX5_change_92 : decode cX5_change 92 = .ok (.return_, 1) := by decide +kernel
theorem dX5_knowsLine_0 : decode cX5_knowsLine 0 = .ok (.aload_n 0, 1) := by decide +kernel
theorem dX5_knowsLine_1 : decode cX5_knowsLine 1 = .ok (.getfield 26, 3) := by decide +kernel
theorem dX5_knowsLine_4 : decode cX5_knowsLine 4 = .ok (.iload_n 1, 1) := by decide +kernel
theorem dX5_knowsLine_5 : decode cX5_knowsLine 5 = .ok (.invokevirtual 65, 3) := by decide +kernel
theorem dX5_knowsLine_8 : decode cX5_knowsLine 8 = .ok (.iconst (-1), 1) := by decide +kernel
theorem dX5_knowsLine_9 : decode cX5_knowsLine 9 = .ok (.if_icmp .eq 7, 3) := by decide +kernel
theorem dX5_knowsLine_12 : decode cX5_knowsLine 12 = .ok (.iconst 1, 1) := by decide +kernel
theorem dX5_knowsLine_13 : decode cX5_knowsLine 13 = .ok (.goto 4, 3) := by decide +kernel
theorem dX5_knowsLine_16 : decode cX5_knowsLine 16 = .ok (.iconst 0, 1) := by decide +kernel
theorem dX5_knowsLine_17 : decode cX5_knowsLine 17 = .ok (.ireturn, 1) := by decide +kernel
theorem dX5_hasThere_0 : decode cX5_hasThere 0 = .ok (.aload_n 0, 1) := by decide +kernel
theorem dX5_hasThere_1 : decode cX5_hasThere 1 = .ok (.getfield 26, 3) := by decide +kernel
theorem dX5_hasThere_4 : decode cX5_hasThere 4 = .ok (.iload_n 1, 1) := by decide +kernel
theorem dX5_hasThere_5 : decode cX5_hasThere 5 = .ok (.invokevirtual 65, 3) := by decide +kernel
theorem dX5_hasThere_8 : decode cX5_hasThere 8 = .ok (.iconst 1, 1) := by decide +kernel
theorem dX5_hasThere_9 : decode cX5_hasThere 9 = .ok (.if_icmp .ne 7, 3) := by decide +kernel
theorem dX5_hasThere_12 : decode cX5_hasThere 12 = .ok (.iconst 1, 1) := by decide +kernel
theorem dX5_hasThere_13 : decode cX5_hasThere 13 = .ok (.goto 4, 3) := by decide +kernel
theorem dX5_hasThere_16 : decode cX5_hasThere 16 = .ok (.iconst 0, 1) := by decide +kernel
theorem dX5_hasThere_17 : decode cX5_hasThere 17 = .ok (.ireturn, 1) := by decide +kernel
theorem dX5_knowsNote_0 : decode cX5_knowsNote 0 = .ok (.aload_n 0, 1) := by decide +kernel
theorem dX5_knowsNote_1 : decode cX5_knowsNote 1 = .ok (.getfield 29, 3) := by decide +kernel
theorem dX5_knowsNote_4 : decode cX5_knowsNote 4 = .ok (.iload_n 1, 1) := by decide +kernel
theorem dX5_knowsNote_5 : decode cX5_knowsNote 5 = .ok (.invokevirtual 65, 3) := by decide +kernel
theorem dX5_knowsNote_8 : decode cX5_knowsNote 8 = .ok (.iconst (-1), 1) := by decide +kernel
theorem dX5_knowsNote_9 : decode cX5_knowsNote 9 = .ok (.if_icmp .eq 7, 3) := by decide +kernel
theorem dX5_knowsNote_12 : decode cX5_knowsNote 12 = .ok (.iconst 1, 1) := by decide +kernel
theorem dX5_knowsNote_13 : decode cX5_knowsNote 13 = .ok (.goto 4, 3) := by decide +kernel
theorem dX5_knowsNote_16 : decode cX5_knowsNote 16 = .ok (.iconst 0, 1) := by decide +kernel
theorem dX5_knowsNote_17 : decode cX5_knowsNote 17 = .ok (.ireturn, 1) := by decide +kernel
theorem dX5_lineCount_0 : decode cX5_lineCount 0 = .ok (.aload_n 0, 1) := by decide +kernel
theorem dX5_lineCount_1 : decode cX5_lineCount 1 = .ok (.getfield 14, 3) := by decide +kernel
theorem dX5_lineCount_4 : decode cX5_lineCount 4 = .ok (.invokevirtual 68, 3) := by decide +kernel
theorem dX5_lineCount_7 : decode cX5_lineCount 7 = .ok (.ireturn, 1) := by decide +kernel
theorem dX5_line_0 : decode cX5_line 0 = .ok (.aload_n 0, 1) := by decide +kernel
theorem dX5_line_1 : decode cX5_line 1 = .ok (.getfield 14, 3) := by decide +kernel
theorem dX5_line_4 : decode cX5_line 4 = .ok (.iload_n 1, 1) := by decide +kernel
theorem dX5_line_5 : decode cX5_line 5 = .ok (.invokevirtual 65, 3) := by decide +kernel
theorem dX5_line_8 : decode cX5_line 8 = .ok (.ireturn, 1) := by decide +kernel
theorem dX5_lineOfNote_0 : decode cX5_lineOfNote 0 = .ok (.aload_n 0, 1) := by decide +kernel
theorem dX5_lineOfNote_1 : decode cX5_lineOfNote 1 = .ok (.getfield 14, 3) := by decide +kernel
theorem dX5_lineOfNote_4 : decode cX5_lineOfNote 4 = .ok (.aload_n 0, 1) := by decide +kernel
theorem dX5_lineOfNote_5 : decode cX5_lineOfNote 5 = .ok (.getfield 29, 3) := by decide +kernel
theorem dX5_lineOfNote_8 : decode cX5_lineOfNote 8 = .ok (.iload_n 1, 1) := by decide +kernel
theorem dX5_lineOfNote_9 : decode cX5_lineOfNote 9 = .ok (.invokevirtual 65, 3) := by decide +kernel
theorem dX5_lineOfNote_12 : decode cX5_lineOfNote 12 = .ok (.invokevirtual 72, 3) := by decide +kernel
theorem dX5_lineOfNote_15 : decode cX5_lineOfNote 15 = .ok (.istore_n 2, 1) := by decide +kernel
theorem dX5_lineOfNote_16 : decode cX5_lineOfNote 16 = .ok (.iconst (-1), 1) := by decide +kernel
theorem dX5_lineOfNote_17 : decode cX5_lineOfNote 17 = .ok (.istore_n 3, 1) := by decide +kernel
theorem dX5_lineOfNote_18 : decode cX5_lineOfNote 18 = .ok (.iconst 0, 1) := by decide +kernel
theorem dX5_lineOfNote_19 : decode cX5_lineOfNote 19 = .ok (.istore 4, 2) := by decide +kernel
theorem dX5_lineOfNote_21 : decode cX5_lineOfNote 21 = .ok (.iload 4, 2) := by decide +kernel
theorem dX5_lineOfNote_23 : decode cX5_lineOfNote 23 = .ok (.aload_n 0, 1) := by decide +kernel
theorem dX5_lineOfNote_24 : decode cX5_lineOfNote 24 = .ok (.getfield 14, 3) := by decide +kernel
theorem dX5_lineOfNote_27 : decode cX5_lineOfNote 27 = .ok (.invokevirtual 68, 3) := by decide +kernel
theorem dX5_lineOfNote_30 : decode cX5_lineOfNote 30 = .ok (.if_icmp .ge 46, 3) := by decide +kernel
theorem dX5_lineOfNote_33 : decode cX5_lineOfNote 33 = .ok (.iload 4, 2) := by decide +kernel
theorem dX5_lineOfNote_35 : decode cX5_lineOfNote 35 = .ok (.iload_n 2, 1) := by decide +kernel
theorem dX5_lineOfNote_36 : decode cX5_lineOfNote 36 = .ok (.if_icmp .le 8, 3) := by decide +kernel
theorem dX5_lineOfNote_39 : decode cX5_lineOfNote 39 = .ok (.iload_n 3, 1) := by decide +kernel
theorem dX5_lineOfNote_40 : decode cX5_lineOfNote 40 = .ok (.iconst (-1), 1) := by decide +kernel
theorem dX5_lineOfNote_41 : decode cX5_lineOfNote 41 = .ok (.if_icmp .ne 35, 3) := by decide +kernel
theorem dX5_lineOfNote_44 : decode cX5_lineOfNote 44 = .ok (.aload_n 0, 1) := by decide +kernel
theorem dX5_lineOfNote_45 : decode cX5_lineOfNote 45 = .ok (.aload_n 0, 1) := by decide +kernel
theorem dX5_lineOfNote_46 : decode cX5_lineOfNote 46 = .ok (.getfield 14, 3) := by decide +kernel
theorem dX5_lineOfNote_49 : decode cX5_lineOfNote 49 = .ok (.iload 4, 2) := by decide +kernel
theorem dX5_lineOfNote_51 : decode cX5_lineOfNote 51 = .ok (.invokevirtual 65, 3) := by decide +kernel
theorem dX5_lineOfNote_54 : decode cX5_lineOfNote 54 = .ok (.invokevirtual 75, 3) := by decide +kernel
theorem dX5_lineOfNote_57 : decode cX5_lineOfNote 57 = .ok (.ifCond .eq 13, 3) := by decide +kernel
theorem dX5_lineOfNote_60 : decode cX5_lineOfNote 60 = .ok (.aload_n 0, 1) := by decide +kernel
theorem dX5_lineOfNote_61 : decode cX5_lineOfNote 61 = .ok (.getfield 14, 3) := by decide +kernel
theorem dX5_lineOfNote_64 : decode cX5_lineOfNote 64 = .ok (.iload 4, 2) := by decide +kernel
theorem dX5_lineOfNote_66 : decode cX5_lineOfNote 66 = .ok (.invokevirtual 65, 3) := by decide +kernel
theorem dX5_lineOfNote_69 : decode cX5_lineOfNote 69 = .ok (.istore_n 3, 1) := by decide +kernel
theorem dX5_lineOfNote_70 : decode cX5_lineOfNote 70 = .ok (.iinc 4 1, 3) := by decide +kernel
theorem dX5_lineOfNote_73 : decode cX5_lineOfNote 73 = .ok (.goto (-52), 3) := by decide +kernel
theorem dX5_lineOfNote_76 : decode cX5_lineOfNote 76 = .ok (.iload_n 3, 1) := by decide +kernel
theorem dX5_lineOfNote_77 : decode cX5_lineOfNote 77 = .ok (.ireturn, 1) := by decide +kernel
theorem dX5_findAnew_0 : decode cX5_findAnew 0 = .ok (.aload_n 0, 1) := by decide +kernel
theorem dX5_findAnew_1 : decode cX5_findAnew 1 = .ok (.invokevirtual 79, 3) := by decide +kernel
theorem dX5_findAnew_4 : decode cX5_findAnew 4 = .ok (.iconst 0, 1) := by decide +kernel
theorem dX5_findAnew_5 : decode cX5_findAnew 5 = .ok (.istore_n 2, 1) := by decide +kernel
theorem dX5_findAnew_6 : decode cX5_findAnew 6 = .ok (.iconst 0, 1) := by decide +kernel
theorem dX5_findAnew_7 : decode cX5_findAnew 7 = .ok (.istore_n 3, 1) := by decide +kernel
theorem dX5_findAnew_8 : decode cX5_findAnew 8 = .ok (.iload_n 3, 1) := by decide +kernel
theorem dX5_findAnew_9 : decode cX5_findAnew 9 = .ok (.aload_n 0, 1) := by decide +kernel
theorem dX5_findAnew_10 : decode cX5_findAnew 10 = .ok (.getfield 20, 3) := by decide +kernel
theorem dX5_findAnew_13 : decode cX5_findAnew 13 = .ok (.invokevirtual 68, 3) := by decide +kernel
theorem dX5_findAnew_16 : decode cX5_findAnew 16 = .ok (.if_icmp .ge 39, 3) := by decide +kernel
theorem dX5_findAnew_19 : decode cX5_findAnew 19 = .ok (.aload_n 0, 1) := by decide +kernel
theorem dX5_findAnew_20 : decode cX5_findAnew 20 = .ok (.getfield 20, 3) := by decide +kernel
theorem dX5_findAnew_23 : decode cX5_findAnew 23 = .ok (.iload_n 3, 1) := by decide +kernel
theorem dX5_findAnew_24 : decode cX5_findAnew 24 = .ok (.invokevirtual 65, 3) := by decide +kernel
theorem dX5_findAnew_27 : decode cX5_findAnew 27 = .ok (.istore 4, 2) := by decide +kernel
theorem dX5_findAnew_29 : decode cX5_findAnew 29 = .ok (.aload_n 0, 1) := by decide +kernel
theorem dX5_findAnew_30 : decode cX5_findAnew 30 = .ok (.iload 4, 2) := by decide +kernel
theorem dX5_findAnew_32 : decode cX5_findAnew 32 = .ok (.invokevirtual 75, 3) := by decide +kernel
theorem dX5_findAnew_35 : decode cX5_findAnew 35 = .ok (.ifCond .eq 14, 3) := by decide +kernel
theorem dX5_findAnew_38 : decode cX5_findAnew 38 = .ok (.iload_n 2, 1) := by decide +kernel
theorem dX5_findAnew_39 : decode cX5_findAnew 39 = .ok (.iload_n 1, 1) := by decide +kernel
theorem dX5_findAnew_40 : decode cX5_findAnew 40 = .ok (.if_icmp .ne 6, 3) := by decide +kernel
theorem dX5_findAnew_43 : decode cX5_findAnew 43 = .ok (.iload 4, 2) := by decide +kernel
theorem dX5_findAnew_45 : decode cX5_findAnew 45 = .ok (.ireturn, 1) := by decide +kernel
theorem dX5_findAnew_46 : decode cX5_findAnew 46 = .ok (.iinc 2 1, 3) := by decide +kernel
theorem dX5_findAnew_49 : decode cX5_findAnew 49 = .ok (.iinc 3 1, 3) := by decide +kernel
theorem dX5_findAnew_52 : decode cX5_findAnew 52 = .ok (.goto (-44), 3) := by decide +kernel
theorem dX5_findAnew_55 : decode cX5_findAnew 55 = .ok (.iconst (-1), 1) := by decide +kernel
theorem dX5_findAnew_56 : decode cX5_findAnew 56 = .ok (.ireturn, 1) := by decide +kernel
theorem dX5_putIn_0 : decode cX5_putIn 0 = .ok (.aload_n 0, 1) := by decide +kernel
theorem dX5_putIn_1 : decode cX5_putIn 1 = .ok (.getfield 35, 3) := by decide +kernel
theorem dX5_putIn_4 : decode cX5_putIn 4 = .ok (.iload_n 1, 1) := by decide +kernel
theorem dX5_putIn_5 : decode cX5_putIn 5 = .ok (.invokevirtual 82, 3) := by decide +kernel
theorem dX5_putIn_8 : decode cX5_putIn 8 = .ok (.istore_n 2, 1) := by decide +kernel
theorem dX5_putIn_9 : decode cX5_putIn 9 = .ok (.aload_n 0, 1) := by decide +kernel
theorem dX5_putIn_10 : decode cX5_putIn 10 = .ok (.getfield 14, 3) := by decide +kernel
theorem dX5_putIn_13 : decode cX5_putIn 13 = .ok (.aload_n 0, 1) := by decide +kernel
theorem dX5_putIn_14 : decode cX5_putIn 14 = .ok (.getfield 35, 3) := by decide +kernel
theorem dX5_putIn_17 : decode cX5_putIn 17 = .ok (.iload_n 1, 1) := by decide +kernel
theorem dX5_putIn_18 : decode cX5_putIn 18 = .ok (.invokevirtual 85, 3) := by decide +kernel
theorem dX5_putIn_21 : decode cX5_putIn 21 = .ok (.invokevirtual 72, 3) := by decide +kernel
theorem dX5_putIn_24 : decode cX5_putIn 24 = .ok (.iconst 1, 1) := by decide +kernel
theorem dX5_putIn_25 : decode cX5_putIn 25 = .ok (.iadd, 1) := by decide +kernel
theorem dX5_putIn_26 : decode cX5_putIn 26 = .ok (.istore_n 3, 1) := by decide +kernel
theorem dX5_putIn_27 : decode cX5_putIn 27 = .ok (.iload_n 3, 1) := by decide +kernel
theorem dX5_putIn_28 : decode cX5_putIn 28 = .ok (.aload_n 0, 1) := by decide +kernel
theorem dX5_putIn_29 : decode cX5_putIn 29 = .ok (.getfield 14, 3) := by decide +kernel
theorem dX5_putIn_32 : decode cX5_putIn 32 = .ok (.invokevirtual 68, 3) := by decide +kernel
theorem dX5_putIn_35 : decode cX5_putIn 35 = .ok (.if_icmp .ge 28, 3) := by decide +kernel
theorem dX5_putIn_38 : decode cX5_putIn 38 = .ok (.aload_n 0, 1) := by decide +kernel
theorem dX5_putIn_39 : decode cX5_putIn 39 = .ok (.getfield 35, 3) := by decide +kernel
theorem dX5_putIn_42 : decode cX5_putIn 42 = .ok (.aload_n 0, 1) := by decide +kernel
theorem dX5_putIn_43 : decode cX5_putIn 43 = .ok (.getfield 14, 3) := by decide +kernel
theorem dX5_putIn_46 : decode cX5_putIn 46 = .ok (.iload_n 3, 1) := by decide +kernel
theorem dX5_putIn_47 : decode cX5_putIn 47 = .ok (.invokevirtual 65, 3) := by decide +kernel
theorem dX5_putIn_50 : decode cX5_putIn 50 = .ok (.invokevirtual 82, 3) := by decide +kernel
theorem dX5_putIn_53 : decode cX5_putIn 53 = .ok (.iload_n 2, 1) := by decide +kernel
theorem dX5_putIn_54 : decode cX5_putIn 54 = .ok (.if_icmp .le 9, 3) := by decide +kernel
theorem dX5_putIn_57 : decode cX5_putIn 57 = .ok (.iinc 3 1, 3) := by decide +kernel
theorem dX5_putIn_60 : decode cX5_putIn 60 = .ok (.goto (-33), 3) := by decide +kernel
theorem dX5_putIn_63 : decode cX5_putIn 63 = .ok (.aload_n 0, 1) := by decide +kernel
theorem dX5_putIn_64 : decode cX5_putIn 64 = .ok (.getfield 14, 3) := by decide +kernel
theorem dX5_putIn_67 : decode cX5_putIn 67 = .ok (.iload_n 3, 1) := by decide +kernel
theorem dX5_putIn_68 : decode cX5_putIn 68 = .ok (.iload_n 1, 1) := by decide +kernel
theorem dX5_putIn_69 : decode cX5_putIn 69 = .ok (.invokevirtual 88, 3) := by decide +kernel
theorem dX5_putIn_72 : decode cX5_putIn 72 = .ok (.aload_n 0, 1) := by decide +kernel
theorem dX5_putIn_73 : decode cX5_putIn 73 = .ok (.getfield 26, 3) := by decide +kernel
theorem dX5_putIn_76 : decode cX5_putIn 76 = .ok (.iload_n 1, 1) := by decide +kernel
theorem dX5_putIn_77 : decode cX5_putIn 77 = .ok (.iconst 1, 1) := by decide +kernel
theorem dX5_putIn_78 : decode cX5_putIn 78 = .ok (.invokevirtual 51, 3) := by decide +kernel
theorem dX5_putIn_81 : decode cX5_putIn 81 = .ok (.return_, 1) := by decide +kernel
theorem dX5_bringNote_0 : decode cX5_bringNote 0 = .ok (.iload_n 3, 1) := by decide +kernel
theorem dX5_bringNote_1 : decode cX5_bringNote 1 = .ok (.aload_n 0, 1) := by decide +kernel
theorem dX5_bringNote_2 : decode cX5_bringNote 2 = .ok (.getfield 32, 3) := by decide +kernel
theorem dX5_bringNote_5 : decode cX5_bringNote 5 = .ok (.iload_n 1, 1) := by decide +kernel
theorem dX5_bringNote_6 : decode cX5_bringNote 6 = .ok (.invokevirtual 65, 3) := by decide +kernel
theorem dX5_bringNote_9 : decode cX5_bringNote 9 = .ok (.if_icmp .le 21, 3) := by decide +kernel
theorem dX5_bringNote_12 : decode cX5_bringNote 12 = .ok (.aload_n 0, 1) := by decide +kernel
theorem dX5_bringNote_13 : decode cX5_bringNote 13 = .ok (.getfield 29, 3) := by decide +kernel
theorem dX5_bringNote_16 : decode cX5_bringNote 16 = .ok (.iload_n 1, 1) := by decide +kernel
theorem dX5_bringNote_17 : decode cX5_bringNote 17 = .ok (.iload_n 2, 1) := by decide +kernel
theorem dX5_bringNote_18 : decode cX5_bringNote 18 = .ok (.invokevirtual 51, 3) := by decide +kernel
theorem dX5_bringNote_21 : decode cX5_bringNote 21 = .ok (.aload_n 0, 1) := by decide +kernel
theorem dX5_bringNote_22 : decode cX5_bringNote 22 = .ok (.getfield 32, 3) := by decide +kernel
theorem dX5_bringNote_25 : decode cX5_bringNote 25 = .ok (.iload_n 1, 1) := by decide +kernel
theorem dX5_bringNote_26 : decode cX5_bringNote 26 = .ok (.iload_n 3, 1) := by decide +kernel
theorem dX5_bringNote_27 : decode cX5_bringNote 27 = .ok (.invokevirtual 51, 3) := by decide +kernel
theorem dX5_bringNote_30 : decode cX5_bringNote 30 = .ok (.return_, 1) := by decide +kernel
theorem dX5_putAllAnew_0 : decode cX5_putAllAnew 0 = .ok (.aload_n 0, 1) := by decide +kernel
theorem dX5_putAllAnew_1 : decode cX5_putAllAnew 1 = .ok (.invokevirtual 91, 3) := by decide +kernel
theorem dX5_putAllAnew_4 : decode cX5_putAllAnew 4 = .ok (.aload_n 0, 1) := by decide +kernel
theorem dX5_putAllAnew_5 : decode cX5_putAllAnew 5 = .ok (.getfield 20, 3) := by decide +kernel
theorem dX5_putAllAnew_8 : decode cX5_putAllAnew 8 = .ok (.invokevirtual 94, 3) := by decide +kernel
theorem dX5_putAllAnew_11 : decode cX5_putAllAnew 11 = .ok (.iconst 0, 1) := by decide +kernel
theorem dX5_putAllAnew_12 : decode cX5_putAllAnew 12 = .ok (.istore_n 1, 1) := by decide +kernel
theorem dX5_putAllAnew_13 : decode cX5_putAllAnew 13 = .ok (.iload_n 1, 1) := by decide +kernel
theorem dX5_putAllAnew_14 : decode cX5_putAllAnew 14 = .ok (.aload_n 0, 1) := by decide +kernel
theorem dX5_putAllAnew_15 : decode cX5_putAllAnew 15 = .ok (.getfield 23, 3) := by decide +kernel
theorem dX5_putAllAnew_18 : decode cX5_putAllAnew 18 = .ok (.invokevirtual 68, 3) := by decide +kernel
theorem dX5_putAllAnew_21 : decode cX5_putAllAnew 21 = .ok (.if_icmp .ge 43, 3) := by decide +kernel
theorem dX5_putAllAnew_24 : decode cX5_putAllAnew 24 = .ok (.aload_n 0, 1) := by decide +kernel
theorem dX5_putAllAnew_25 : decode cX5_putAllAnew 25 = .ok (.getfield 23, 3) := by decide +kernel
theorem dX5_putAllAnew_28 : decode cX5_putAllAnew 28 = .ok (.iload_n 1, 1) := by decide +kernel
theorem dX5_putAllAnew_29 : decode cX5_putAllAnew 29 = .ok (.invokevirtual 65, 3) := by decide +kernel
theorem dX5_putAllAnew_32 : decode cX5_putAllAnew 32 = .ok (.istore_n 2, 1) := by decide +kernel
theorem dX5_putAllAnew_33 : decode cX5_putAllAnew 33 = .ok (.aload_n 0, 1) := by decide +kernel
theorem dX5_putAllAnew_34 : decode cX5_putAllAnew 34 = .ok (.getfield 20, 3) := by decide +kernel
theorem dX5_putAllAnew_37 : decode cX5_putAllAnew 37 = .ok (.aload_n 0, 1) := by decide +kernel
theorem dX5_putAllAnew_38 : decode cX5_putAllAnew 38 = .ok (.getfield 20, 3) := by decide +kernel
theorem dX5_putAllAnew_41 : decode cX5_putAllAnew 41 = .ok (.aload_n 0, 1) := by decide +kernel
theorem dX5_putAllAnew_42 : decode cX5_putAllAnew 42 = .ok (.getfield 35, 3) := by decide +kernel
theorem dX5_putAllAnew_45 : decode cX5_putAllAnew 45 = .ok (.iload_n 2, 1) := by decide +kernel
theorem dX5_putAllAnew_46 : decode cX5_putAllAnew 46 = .ok (.invokevirtual 85, 3) := by decide +kernel
theorem dX5_putAllAnew_49 : decode cX5_putAllAnew 49 = .ok (.invokevirtual 72, 3) := by decide +kernel
theorem dX5_putAllAnew_52 : decode cX5_putAllAnew 52 = .ok (.iconst 1, 1) := by decide +kernel
theorem dX5_putAllAnew_53 : decode cX5_putAllAnew 53 = .ok (.iadd, 1) := by decide +kernel
theorem dX5_putAllAnew_54 : decode cX5_putAllAnew 54 = .ok (.iload_n 2, 1) := by decide +kernel
theorem dX5_putAllAnew_55 : decode cX5_putAllAnew 55 = .ok (.invokevirtual 88, 3) := by decide +kernel
theorem dX5_putAllAnew_58 : decode cX5_putAllAnew 58 = .ok (.iinc 1 1, 3) := by decide +kernel
theorem dX5_putAllAnew_61 : decode cX5_putAllAnew 61 = .ok (.goto (-48), 3) := by decide +kernel
theorem dX5_putAllAnew_64 : decode cX5_putAllAnew 64 = .ok (.return_, 1) := by decide +kernel
theorem dX5_sortByStamps_0 : decode cX5_sortByStamps 0 = .ok (.aload_n 0, 1) := by decide +kernel
theorem dX5_sortByStamps_1 : decode cX5_sortByStamps 1 = .ok (.getfield 23, 3) := by decide +kernel
theorem dX5_sortByStamps_4 : decode cX5_sortByStamps 4 = .ok (.invokevirtual 94, 3) := by decide +kernel
theorem dX5_sortByStamps_7 : decode cX5_sortByStamps 7 = .ok (.iconst 0, 1) := by decide +kernel
theorem dX5_sortByStamps_8 : decode cX5_sortByStamps 8 = .ok (.istore_n 1, 1) := by decide +kernel
theorem dX5_sortByStamps_9 : decode cX5_sortByStamps 9 = .ok (.iload_n 1, 1) := by decide +kernel
theorem dX5_sortByStamps_10 : decode cX5_sortByStamps 10 = .ok (.aload_n 0, 1) := by decide +kernel
theorem dX5_sortByStamps_11 : decode cX5_sortByStamps 11 = .ok (.getfield 35, 3) := by decide +kernel
theorem dX5_sortByStamps_14 : decode cX5_sortByStamps 14 = .ok (.invokevirtual 97, 3) := by decide +kernel
theorem dX5_sortByStamps_17 : decode cX5_sortByStamps 17 = .ok (.if_icmp .ge 37, 3) := by decide +kernel
theorem dX5_sortByStamps_20 : decode cX5_sortByStamps 20 = .ok (.aload_n 0, 1) := by decide +kernel
theorem dX5_sortByStamps_21 : decode cX5_sortByStamps 21 = .ok (.iload_n 1, 1) := by decide +kernel
theorem dX5_sortByStamps_22 : decode cX5_sortByStamps 22 = .ok (.invokevirtual 100, 3) := by decide +kernel
theorem dX5_sortByStamps_25 : decode cX5_sortByStamps 25 = .ok (.ifCond .eq 23, 3) := by decide +kernel
theorem dX5_sortByStamps_28 : decode cX5_sortByStamps 28 = .ok (.aload_n 0, 1) := by decide +kernel
theorem dX5_sortByStamps_29 : decode cX5_sortByStamps 29 = .ok (.getfield 23, 3) := by decide +kernel
theorem dX5_sortByStamps_32 : decode cX5_sortByStamps 32 = .ok (.aload_n 0, 1) := by decide +kernel
theorem dX5_sortByStamps_33 : decode cX5_sortByStamps 33 = .ok (.aload_n 0, 1) := by decide +kernel
theorem dX5_sortByStamps_34 : decode cX5_sortByStamps 34 = .ok (.getfield 35, 3) := by decide +kernel
theorem dX5_sortByStamps_37 : decode cX5_sortByStamps 37 = .ok (.iload_n 1, 1) := by decide +kernel
theorem dX5_sortByStamps_38 : decode cX5_sortByStamps 38 = .ok (.invokevirtual 82, 3) := by decide +kernel
theorem dX5_sortByStamps_41 : decode cX5_sortByStamps 41 = .ok (.invokevirtual 103, 3) := by decide +kernel
theorem dX5_sortByStamps_44 : decode cX5_sortByStamps 44 = .ok (.iload_n 1, 1) := by decide +kernel
theorem dX5_sortByStamps_45 : decode cX5_sortByStamps 45 = .ok (.invokevirtual 88, 3) := by decide +kernel
theorem dX5_sortByStamps_48 : decode cX5_sortByStamps 48 = .ok (.iinc 1 1, 3) := by decide +kernel
theorem dX5_sortByStamps_51 : decode cX5_sortByStamps 51 = .ok (.goto (-42), 3) := by decide +kernel
theorem dX5_sortByStamps_54 : decode cX5_sortByStamps 54 = .ok (.return_, 1) := by decide +kernel
theorem dX5_placeByStamp_0 : decode cX5_placeByStamp 0 = .ok (.aload_n 0, 1) := by decide +kernel
theorem dX5_placeByStamp_1 : decode cX5_placeByStamp 1 = .ok (.getfield 23, 3) := by decide +kernel
theorem dX5_placeByStamp_4 : decode cX5_placeByStamp 4 = .ok (.invokevirtual 68, 3) := by decide +kernel
theorem dX5_placeByStamp_7 : decode cX5_placeByStamp 7 = .ok (.istore_n 2, 1) := by decide +kernel
theorem dX5_placeByStamp_8 : decode cX5_placeByStamp 8 = .ok (.iload_n 2, 1) := by decide +kernel
theorem dX5_placeByStamp_9 : decode cX5_placeByStamp 9 = .ok (.ifCond .le 30, 3) := by decide +kernel
theorem dX5_placeByStamp_12 : decode cX5_placeByStamp 12 = .ok (.aload_n 0, 1) := by decide +kernel
theorem dX5_placeByStamp_13 : decode cX5_placeByStamp 13 = .ok (.getfield 35, 3) := by decide +kernel
theorem dX5_placeByStamp_16 : decode cX5_placeByStamp 16 = .ok (.aload_n 0, 1) := by decide +kernel
theorem dX5_placeByStamp_17 : decode cX5_placeByStamp 17 = .ok (.getfield 23, 3) := by decide +kernel
theorem dX5_placeByStamp_20 : decode cX5_placeByStamp 20 = .ok (.iload_n 2, 1) := by decide +kernel
theorem dX5_placeByStamp_21 : decode cX5_placeByStamp 21 = .ok (.iconst 1, 1) := by decide +kernel
theorem dX5_placeByStamp_22 : decode cX5_placeByStamp 22 = .ok (.isub, 1) := by decide +kernel
theorem dX5_placeByStamp_23 : decode cX5_placeByStamp 23 = .ok (.invokevirtual 65, 3) := by decide +kernel
theorem dX5_placeByStamp_26 : decode cX5_placeByStamp 26 = .ok (.invokevirtual 82, 3) := by decide +kernel
theorem dX5_placeByStamp_29 : decode cX5_placeByStamp 29 = .ok (.iload_n 1, 1) := by decide +kernel
theorem dX5_placeByStamp_30 : decode cX5_placeByStamp 30 = .ok (.if_icmp .le 9, 3) := by decide +kernel
theorem dX5_placeByStamp_33 : decode cX5_placeByStamp 33 = .ok (.iinc 2 (-1), 3) := by decide +kernel
theorem dX5_placeByStamp_36 : decode cX5_placeByStamp 36 = .ok (.goto (-28), 3) := by decide +kernel
theorem dX5_placeByStamp_39 : decode cX5_placeByStamp 39 = .ok (.iload_n 2, 1) := by decide +kernel
theorem dX5_placeByStamp_40 : decode cX5_placeByStamp 40 = .ok (.ireturn, 1) := by decide +kernel
theorem dX6_init_0 : decode cX6_init 0 = .ok (.aload_n 0, 1) := by decide +kernel
theorem dX6_init_1 : decode cX6_init 1 = .ok (.invokespecial 1, 3) := by decide +kernel
theorem dX6_init_4 : decode cX6_init 4 = .ok (.aload_n 0, 1) := by decide +kernel
theorem dX6_init_5 : decode cX6_init 5 = .ok (.new 7, 3) := by decide +kernel
theorem dX6_init_8 : decode cX6_init 8 = .ok (.dup, 1) := by decide +kernel
theorem dX6_init_9 : decode cX6_init 9 = .ok (.invokespecial 9, 3) := by decide +kernel
theorem dX6_init_12 : decode cX6_init 12 = .ok (.putfield 10, 3) := by decide +kernel
theorem dX6_init_15 : decode cX6_init 15 = .ok (.aload_n 0, 1) := by decide +kernel
theorem dX6_init_16 : decode cX6_init 16 = .ok (.iconst 4, 1) := by decide +kernel
theorem dX6_init_17 : decode cX6_init 17 = .ok (.anewarray 16, 3) := by decide +kernel
theorem dX6_init_20 : decode cX6_init 20 = .ok (.putfield 18, 3) := by decide +kernel
theorem dX6_init_23 : decode cX6_init 23 = .ok (.iconst 0, 1) := by decide +kernel
theorem dX6_init_24 : decode cX6_init 24 = .ok (.istore_n 1, 1) := by decide +kernel
theorem dX6_init_25 : decode cX6_init 25 = .ok (.iload_n 1, 1) := by decide +kernel
theorem dX6_init_26 : decode cX6_init 26 = .ok (.iconst 4, 1) := by decide +kernel
theorem dX6_init_27 : decode cX6_init 27 = .ok (.if_icmp .ge 27, 3) := by decide +kernel
theorem dX6_init_30 : decode cX6_init 30 = .ok (.aload_n 0, 1) := by decide +kernel
theorem dX6_init_31 : decode cX6_init 31 = .ok (.getfield 18, 3) := by decide +kernel
theorem dX6_init_34 : decode cX6_init 34 = .ok (.iload_n 1, 1) := by decide +kernel
theorem dX6_init_35 : decode cX6_init 35 = .ok (.new 16, 3) := by decide +kernel
theorem dX6_init_38 : decode cX6_init 38 = .ok (.dup, 1) := by decide +kernel
theorem dX6_init_39 : decode cX6_init 39 = .ok (.iload_n 1, 1) := by decide +kernel
theorem dX6_init_40 : decode cX6_init 40 = .ok (.aload_n 0, 1) := by decide +kernel
theorem dX6_init_41 : decode cX6_init 41 = .ok (.getfield 10, 3) := by decide +kernel
theorem dX6_init_44 : decode cX6_init 44 = .ok (.invokespecial 22, 3) := by decide +kernel
theorem dX6_init_47 : decode cX6_init 47 = .ok (.aastore, 1) := by decide +kernel
theorem dX6_init_48 : decode cX6_init 48 = .ok (.iinc 1 1, 3) := by decide +kernel
theorem dX6_init_51 : decode cX6_init 51 = .ok (.goto (-26), 3) := by decide +kernel
theorem dX6_init_54 : decode cX6_init 54 = .ok (.aload_n 0, 1) := by decide +kernel
theorem dX6_init_55 : decode cX6_init 55 = .ok (.new 25, 3) := by decide +kernel
theorem dX6_init_58 : decode cX6_init 58 = .ok (.dup, 1) := by decide +kernel
theorem dX6_init_59 : decode cX6_init 59 = .ok (.aload_n 0, 1) := by decide +kernel
theorem dX6_init_60 : decode cX6_init 60 = .ok (.getfield 18, 3) := by decide +kernel
theorem dX6_init_63 : decode cX6_init 63 = .ok (.iconst 0, 1) := by decide +kernel
theorem dX6_init_64 : decode cX6_init 64 = .ok (.aaload, 1) := by decide +kernel
theorem dX6_init_65 : decode cX6_init 65 = .ok (.getfield 27, 3) := by decide +kernel
theorem dX6_init_68 : decode cX6_init 68 = .ok (.invokespecial 31, 3) := by decide +kernel
theorem dX6_init_71 : decode cX6_init 71 = .ok (.putfield 34, 3) := by decide +kernel
theorem dX6_init_74 : decode cX6_init 74 = .ok (.return_, 1) := by decide +kernel
theorem dX6_insert_0 : decode cX6_insert 0 = .ok (.aload_n 0, 1) := by decide +kernel
theorem dX6_insert_1 : decode cX6_insert 1 = .ok (.iload_n 1, 1) := by decide +kernel
theorem dX6_insert_2 : decode cX6_insert 2 = .ok (.invokevirtual 38, 3) := by decide +kernel
theorem dX6_insert_5 : decode cX6_insert 5 = .ok (.astore 5, 2) := by decide +kernel
theorem dX6_insert_7 : decode cX6_insert 7 = .ok (.iload_n 2, 1) := by decide +kernel
theorem dX6_insert_8 : decode cX6_insert 8 = .ok (.iconst (-1), 1) := by decide +kernel
theorem dX6_insert_9 : decode cX6_insert 9 = .ok (.if_icmp .eq 10, 3) := by decide +kernel
theorem dX6_insert_12 : decode cX6_insert 12 = .ok (.aload_n 0, 1) := by decide +kernel
theorem dX6_insert_13 : decode cX6_insert 13 = .ok (.aload 5, 2) := by decide +kernel
theorem dX6_insert_15 : decode cX6_insert 15 = .ok (.iload_n 2, 1) := by decide +kernel
theorem dX6_insert_16 : decode cX6_insert 16 = .ok (.invokevirtual 42, 3) := by decide +kernel
theorem dX6_insert_19 : decode cX6_insert 19 = .ok (.iload_n 3, 1) := by decide +kernel
theorem dX6_insert_20 : decode cX6_insert 20 = .ok (.ifCond .lt 9, 3) := by decide +kernel
theorem dX6_insert_23 : decode cX6_insert 23 = .ok (.iload_n 3, 1) := by decide +kernel
theorem dX6_insert_24 : decode cX6_insert 24 = .ok (.bipush 99, 2) := by decide +kernel
theorem dX6_insert_26 : decode cX6_insert 26 = .ok (.if_icmp .le 13, 3) := by decide +kernel
theorem dX6_insert_29 : decode cX6_insert 29 = .ok (.new 46, 3) := by decide +kernel
theorem dX6_insert_32 : decode cX6_insert 32 = .ok (.dup, 1) := by decide +kernel
theorem dX6_insert_33 : decode cX6_insert 33 = .ok (.ldc 48, 2) := by decide +kernel
theorem dX6_insert_35 : decode cX6_insert 35 = .ok (.invokespecial 50, 3) := by decide +kernel
theorem dX6_insert_38 : decode cX6_insert 38 = .ok (.athrow, 1) := by decide +kernel
theorem dX6_insert_39 : decode cX6_insert 39 = .ok (.aload_n 0, 1) := by decide +kernel
theorem dX6_insert_40 : decode cX6_insert 40 = .ok (.invokevirtual 53, 3) := by decide +kernel
theorem dX6_insert_43 : decode cX6_insert 43 = .ok (.aload 5, 2) := by decide +kernel
theorem dX6_insert_45 : decode cX6_insert 45 = .ok (.invokevirtual 56, 3) := by decide +kernel
theorem dX6_insert_48 : decode cX6_insert 48 = .ok (.istore 6, 2) := by decide +kernel
theorem dX6_insert_50 : decode cX6_insert 50 = .ok (.aload_n 0, 1) := by decide +kernel
theorem dX6_insert_51 : decode cX6_insert 51 = .ok (.getfield 10, 3) := by decide +kernel
theorem dX6_insert_54 : decode cX6_insert 54 = .ok (.iload 6, 2) := by decide +kernel
theorem dX6_insert_56 : decode cX6_insert 56 = .ok (.iload_n 2, 1) := by decide +kernel
theorem dX6_insert_57 : decode cX6_insert 57 = .ok (.iload_n 3, 1) := by decide +kernel
theorem dX6_insert_58 : decode cX6_insert 58 = .ok (.iload 4, 2) := by decide +kernel
theorem dX6_insert_60 : decode cX6_insert 60 = .ok (.invokevirtual 60, 3) := by decide +kernel
theorem dX6_insert_63 : decode cX6_insert 63 = .ok (.istore 7, 2) := by decide +kernel
theorem dX6_insert_65 : decode cX6_insert 65 = .ok (.aload 5, 2) := by decide +kernel
theorem dX6_insert_67 : decode cX6_insert 67 = .ok (.aload_n 0, 1) := by decide +kernel
theorem dX6_insert_68 : decode cX6_insert 68 = .ok (.getfield 10, 3) := by decide +kernel
theorem dX6_insert_71 : decode cX6_insert 71 = .ok (.iconst 0, 1) := by decide +kernel
theorem dX6_insert_72 : decode cX6_insert 72 = .ok (.iload 6, 2) := by decide +kernel
theorem dX6_insert_74 : decode cX6_insert 74 = .ok (.iload 7, 2) := by decide +kernel
theorem dX6_insert_76 : decode cX6_insert 76 = .ok (.iload_n 2, 1) := by decide +kernel
theorem dX6_insert_77 : decode cX6_insert 77 = .ok (.invokevirtual 64, 3) := by decide +kernel
theorem dX6_insert_80 : decode cX6_insert 80 = .ok (.invokevirtual 68, 3) := by decide +kernel
theorem dX6_insert_83 : decode cX6_insert 83 = .ok (.iload 7, 2) := by decide +kernel
theorem dX6_insert_85 : decode cX6_insert 85 = .ok (.ireturn, 1) := by decide +kernel
theorem dX6_remove_0 : decode cX6_remove 0 = .ok (.aload_n 0, 1) := by decide +kernel
theorem dX6_remove_1 : decode cX6_remove 1 = .ok (.iload_n 1, 1) := by decide +kernel
theorem dX6_remove_2 : decode cX6_remove 2 = .ok (.invokevirtual 38, 3) := by decide +kernel
theorem dX6_remove_5 : decode cX6_remove 5 = .ok (.astore_n 3, 1) := by decide +kernel
theorem dX6_remove_6 : decode cX6_remove 6 = .ok (.aload_n 0, 1) := by decide +kernel
theorem dX6_remove_7 : decode cX6_remove 7 = .ok (.aload_n 3, 1) := by decide +kernel
theorem dX6_remove_8 : decode cX6_remove 8 = .ok (.iload_n 2, 1) := by decide +kernel
theorem dX6_remove_9 : decode cX6_remove 9 = .ok (.invokevirtual 42, 3) := by decide +kernel
theorem dX6_remove_12 : decode cX6_remove 12 = .ok (.aload_n 0, 1) := by decide +kernel
theorem dX6_remove_13 : decode cX6_remove 13 = .ok (.aload_n 3, 1) := by decide +kernel
theorem dX6_remove_14 : decode cX6_remove 14 = .ok (.iload_n 2, 1) := by decide +kernel
theorem dX6_remove_15 : decode cX6_remove 15 = .ok (.invokevirtual 72, 3) := by decide +kernel
theorem dX6_remove_18 : decode cX6_remove 18 = .ok (.aload_n 0, 1) := by decide +kernel
theorem dX6_remove_19 : decode cX6_remove 19 = .ok (.invokevirtual 53, 3) := by decide +kernel
theorem dX6_remove_22 : decode cX6_remove 22 = .ok (.aload_n 3, 1) := by decide +kernel
theorem dX6_remove_23 : decode cX6_remove 23 = .ok (.aload_n 0, 1) := by decide +kernel
theorem dX6_remove_24 : decode cX6_remove 24 = .ok (.getfield 10, 3) := by decide +kernel
theorem dX6_remove_27 : decode cX6_remove 27 = .ok (.iconst 1, 1) := by decide +kernel
theorem dX6_remove_28 : decode cX6_remove 28 = .ok (.aload_n 3, 1) := by decide +kernel
theorem dX6_remove_29 : decode cX6_remove 29 = .ok (.invokevirtual 56, 3) := by decide +kernel
theorem dX6_remove_32 : decode cX6_remove 32 = .ok (.iload_n 2, 1) := by decide +kernel
theorem dX6_remove_33 : decode cX6_remove 33 = .ok (.iconst (-1), 1) := by decide +kernel
theorem dX6_remove_34 : decode cX6_remove 34 = .ok (.invokevirtual 64, 3) := by decide +kernel
theorem dX6_remove_37 : decode cX6_remove 37 = .ok (.invokevirtual 68, 3) := by decide +kernel
theorem dX6_remove_40 : decode cX6_remove 40 = .ok (.aload_n 3, 1) := by decide +kernel
theorem dX6_remove_41 : decode cX6_remove 41 = .ok (.getfield 27, 3) := by decide +kernel
theorem dX6_remove_44 : decode cX6_remove 44 = .ok (.invokevirtual 75, 3) := by decide +kernel
theorem dX6_remove_47 : decode cX6_remove 47 = .ok (.ireturn, 1) := by decide +kernel
theorem dX6_note_0 : decode cX6_note 0 = .ok (.aload_n 0, 1) := by decide +kernel
theorem dX6_note_1 : decode cX6_note 1 = .ok (.iload_n 1, 1) := by decide +kernel
theorem dX6_note_2 : decode cX6_note 2 = .ok (.invokevirtual 38, 3) := by decide +kernel
theorem dX6_note_5 : decode cX6_note 5 = .ok (.astore 4, 2) := by decide +kernel
theorem dX6_note_7 : decode cX6_note 7 = .ok (.aload_n 0, 1) := by decide +kernel
theorem dX6_note_8 : decode cX6_note 8 = .ok (.aload 4, 2) := by decide +kernel
theorem dX6_note_10 : decode cX6_note 10 = .ok (.iload_n 2, 1) := by decide +kernel
theorem dX6_note_11 : decode cX6_note 11 = .ok (.invokevirtual 42, 3) := by decide +kernel
theorem dX6_note_14 : decode cX6_note 14 = .ok (.iload_n 3, 1) := by decide +kernel
theorem dX6_note_15 : decode cX6_note 15 = .ok (.iconst 1, 1) := by decide +kernel
theorem dX6_note_16 : decode cX6_note 16 = .ok (.if_icmp .lt 8, 3) := by decide +kernel
theorem dX6_note_19 : decode cX6_note 19 = .ok (.iload_n 3, 1) := by decide +kernel
theorem dX6_note_20 : decode cX6_note 20 = .ok (.iconst 3, 1) := by decide +kernel
theorem dX6_note_21 : decode cX6_note 21 = .ok (.if_icmp .le 13, 3) := by decide +kernel
theorem dX6_note_24 : decode cX6_note 24 = .ok (.new 46, 3) := by decide +kernel
theorem dX6_note_27 : decode cX6_note 27 = .ok (.dup, 1) := by decide +kernel
theorem dX6_note_28 : decode cX6_note 28 = .ok (.ldc 80, 2) := by decide +kernel
theorem dX6_note_30 : decode cX6_note 30 = .ok (.invokespecial 50, 3) := by decide +kernel
theorem dX6_note_33 : decode cX6_note 33 = .ok (.athrow, 1) := by decide +kernel
theorem dX6_note_34 : decode cX6_note 34 = .ok (.aload_n 0, 1) := by decide +kernel
theorem dX6_note_35 : decode cX6_note 35 = .ok (.aload 4, 2) := by decide +kernel
theorem dX6_note_37 : decode cX6_note 37 = .ok (.iload_n 2, 1) := by decide +kernel
theorem dX6_note_38 : decode cX6_note 38 = .ok (.invokevirtual 72, 3) := by decide +kernel
theorem dX6_note_41 : decode cX6_note 41 = .ok (.aload_n 0, 1) := by decide +kernel
theorem dX6_note_42 : decode cX6_note 42 = .ok (.invokevirtual 53, 3) := by decide +kernel
theorem dX6_note_45 : decode cX6_note 45 = .ok (.aload_n 0, 1) := by decide +kernel
theorem dX6_note_46 : decode cX6_note 46 = .ok (.getfield 10, 3) := by decide +kernel
theorem dX6_note_49 : decode cX6_note 49 = .ok (.iload_n 3, 1) := by decide +kernel
theorem dX6_note_50 : decode cX6_note 50 = .ok (.invokevirtual 82, 3) := by decide +kernel
theorem dX6_note_53 : decode cX6_note 53 = .ok (.istore 5, 2) := by decide +kernel
theorem dX6_note_55 : decode cX6_note 55 = .ok (.aload 4, 2) := by decide +kernel
theorem dX6_note_57 : decode cX6_note 57 = .ok (.aload_n 0, 1) := by decide +kernel
theorem dX6_note_58 : decode cX6_note 58 = .ok (.getfield 10, 3) := by decide +kernel
theorem dX6_note_61 : decode cX6_note 61 = .ok (.iconst 2, 1) := by decide +kernel
theorem dX6_note_62 : decode cX6_note 62 = .ok (.aload 4, 2) := by decide +kernel
theorem dX6_note_64 : decode cX6_note 64 = .ok (.invokevirtual 56, 3) := by decide +kernel
theorem dX6_note_67 : decode cX6_note 67 = .ok (.iload 5, 2) := by decide +kernel
theorem dX6_note_69 : decode cX6_note 69 = .ok (.iload_n 2, 1) := by decide +kernel
theorem dX6_note_70 : decode cX6_note 70 = .ok (.invokevirtual 64, 3) := by decide +kernel
theorem dX6_note_73 : decode cX6_note 73 = .ok (.invokevirtual 68, 3) := by decide +kernel
theorem dX6_note_76 : decode cX6_note 76 = .ok (.iload 5, 2) := by decide +kernel
theorem dX6_note_78 : decode cX6_note 78 = .ok (.ireturn, 1) := by decide +kernel
theorem dX6_move_0 : decode cX6_move 0 = .ok (.aload_n 0, 1) := by decide +kernel
theorem dX6_move_1 : decode cX6_move 1 = .ok (.iload_n 1, 1) := by decide +kernel
theorem dX6_move_2 : decode cX6_move 2 = .ok (.invokevirtual 38, 3) := by decide +kernel
theorem dX6_move_5 : decode cX6_move 5 = .ok (.astore 4, 2) := by decide +kernel
theorem dX6_move_7 : decode cX6_move 7 = .ok (.aload_n 0, 1) := by decide +kernel
theorem dX6_move_8 : decode cX6_move 8 = .ok (.aload 4, 2) := by decide +kernel
theorem dX6_move_10 : decode cX6_move 10 = .ok (.iload_n 2, 1) := by decide +kernel
theorem dX6_move_11 : decode cX6_move 11 = .ok (.invokevirtual 86, 3) := by decide +kernel
theorem dX6_move_14 : decode cX6_move 14 = .ok (.aload_n 0, 1) := by decide +kernel
theorem dX6_move_15 : decode cX6_move 15 = .ok (.aload 4, 2) := by decide +kernel
theorem dX6_move_17 : decode cX6_move 17 = .ok (.iload_n 3, 1) := by decide +kernel
theorem dX6_move_18 : decode cX6_move 18 = .ok (.invokevirtual 42, 3) := by decide +kernel
theorem dX6_move_21 : decode cX6_move 21 = .ok (.aload_n 0, 1) := by decide +kernel
theorem dX6_move_22 : decode cX6_move 22 = .ok (.aload 4, 2) := by decide +kernel
theorem dX6_move_24 : decode cX6_move 24 = .ok (.iload_n 3, 1) := by decide +kernel
theorem dX6_move_25 : decode cX6_move 25 = .ok (.invokevirtual 72, 3) := by decide +kernel
theorem dX6_move_28 : decode cX6_move 28 = .ok (.aload_n 0, 1) := by decide +kernel
theorem dX6_move_29 : decode cX6_move 29 = .ok (.invokevirtual 53, 3) := by decide +kernel
theorem dX6_move_32 : decode cX6_move 32 = .ok (.aload 4, 2) := by decide +kernel
theorem dX6_move_34 : decode cX6_move 34 = .ok (.aload_n 0, 1) := by decide +kernel
theorem dX6_move_35 : decode cX6_move 35 = .ok (.getfield 10, 3) := by decide +kernel
theorem dX6_move_38 : decode cX6_move 38 = .ok (.iconst 3, 1) := by decide +kernel
theorem dX6_move_39 : decode cX6_move 39 = .ok (.aload 4, 2) := by decide +kernel
theorem dX6_move_41 : decode cX6_move 41 = .ok (.invokevirtual 56, 3) := by decide +kernel
theorem dX6_move_44 : decode cX6_move 44 = .ok (.iload_n 2, 1) := by decide +kernel
theorem dX6_move_45 : decode cX6_move 45 = .ok (.iload_n 3, 1) := by decide +kernel
theorem dX6_move_46 : decode cX6_move 46 = .ok (.invokevirtual 64, 3) := by decide +kernel
theorem dX6_move_49 : decode cX6_move 49 = .ok (.invokevirtual 68, 3) := by decide +kernel
theorem dX6_move_52 : decode cX6_move 52 = .ok (.return_, 1) := by decide +kernel
theorem dX6_sync_0 : decode cX6_sync 0 = .ok (.aload_n 0, 1) := by decide +kernel
theorem dX6_sync_1 : decode cX6_sync 1 = .ok (.iload_n 1, 1) := by decide +kernel
theorem dX6_sync_2 : decode cX6_sync 2 = .ok (.invokevirtual 38, 3) := by decide +kernel
theorem dX6_sync_5 : decode cX6_sync 5 = .ok (.astore_n 3, 1) := by decide +kernel
theorem dX6_sync_6 : decode cX6_sync 6 = .ok (.aload_n 0, 1) := by decide +kernel
theorem dX6_sync_7 : decode cX6_sync 7 = .ok (.iload_n 2, 1) := by decide +kernel
theorem dX6_sync_8 : decode cX6_sync 8 = .ok (.invokevirtual 38, 3) := by decide +kernel
theorem dX6_sync_11 : decode cX6_sync 11 = .ok (.astore 4, 2) := by decide +kernel
theorem dX6_sync_13 : decode cX6_sync 13 = .ok (.aload 4, 2) := by decide +kernel
theorem dX6_sync_15 : decode cX6_sync 15 = .ok (.aload_n 3, 1) := by decide +kernel
theorem dX6_sync_16 : decode cX6_sync 16 = .ok (.invokevirtual 89, 3) := by decide +kernel
theorem dX6_sync_19 : decode cX6_sync 19 = .ok (.ireturn, 1) := by decide +kernel
theorem dX6_print_0 : decode cX6_print 0 = .ok (.aload_n 0, 1) := by decide +kernel
theorem dX6_print_1 : decode cX6_print 1 = .ok (.getfield 34, 3) := by decide +kernel
theorem dX6_print_4 : decode cX6_print 4 = .ok (.invokevirtual 93, 3) := by decide +kernel
theorem dX6_print_7 : decode cX6_print 7 = .ok (.ifCond .ne 13, 3) := by decide +kernel
theorem dX6_print_10 : decode cX6_print 10 = .ok (.new 97, 3) := by decide +kernel
theorem dX6_print_13 : decode cX6_print 13 = .ok (.dup, 1) := by decide +kernel
theorem dX6_print_14 : decode cX6_print 14 = .ok (.ldc 99, 2) := by decide +kernel
theorem dX6_print_16 : decode cX6_print 16 = .ok (.invokespecial 101, 3) := by decide +kernel
theorem dX6_print_19 : decode cX6_print 19 = .ok (.athrow, 1) := by decide +kernel
theorem dX6_print_20 : decode cX6_print 20 = .ok (.aload_n 0, 1) := by decide +kernel
theorem dX6_print_21 : decode cX6_print 21 = .ok (.getfield 34, 3) := by decide +kernel
theorem dX6_print_24 : decode cX6_print 24 = .ok (.invokevirtual 102, 3) := by decide +kernel
theorem dX6_print_27 : decode cX6_print 27 = .ok (.ireturn, 1) := by decide +kernel
theorem dX6_sheets_0 : decode cX6_sheets 0 = .ok (.aload_n 0, 1) := by decide +kernel
theorem dX6_sheets_1 : decode cX6_sheets 1 = .ok (.getfield 34, 3) := by decide +kernel
theorem dX6_sheets_4 : decode cX6_sheets 4 = .ok (.invokevirtual 105, 3) := by decide +kernel
theorem dX6_sheets_7 : decode cX6_sheets 7 = .ok (.ireturn, 1) := by decide +kernel
theorem dX6_differs_0 : decode cX6_differs 0 = .ok (.iload_n 1, 1) := by decide +kernel
theorem dX6_differs_1 : decode cX6_differs 1 = .ok (.ifCond .lt 14, 3) := by decide +kernel
theorem dX6_differs_4 : decode cX6_differs 4 = .ok (.iload_n 1, 1) := by decide +kernel
theorem dX6_differs_5 : decode cX6_differs 5 = .ok (.aload_n 0, 1) := by decide +kernel
theorem dX6_differs_6 : decode cX6_differs 6 = .ok (.getfield 34, 3) := by decide +kernel
theorem dX6_differs_9 : decode cX6_differs 9 = .ok (.invokevirtual 108, 3) := by decide +kernel
theorem dX6_differs_12 : decode cX6_differs 12 = .ok (.if_icmp .lt 13, 3) := by decide +kernel
theorem dX6_differs_15 : decode cX6_differs 15 = .ok (.new 111, 3) := by decide +kernel
theorem dX6_differs_18 : decode cX6_differs 18 = .ok (.dup, 1) := by decide +kernel
theorem dX6_differs_19 : decode cX6_differs 19 = .ok (.ldc 113, 2) := by decide +kernel
theorem dX6_differs_21 : decode cX6_differs 21 = .ok (.invokespecial 115, 3) := by decide +kernel
theorem dX6_differs_24 : decode cX6_differs 24 = .ok (.athrow, 1) := by decide +kernel
theorem dX6_differs_25 : decode cX6_differs 25 = .ok (.aload_n 0, 1) := by decide +kernel
theorem dX6_differs_26 : decode cX6_differs 26 = .ok (.getfield 34, 3) := by decide +kernel
theorem dX6_differs_29 : decode cX6_differs 29 = .ok (.iload_n 1, 1) := by decide +kernel
theorem dX6_differs_30 : decode cX6_differs 30 = .ok (.invokevirtual 116, 3) := by decide +kernel
theorem dX6_differs_33 : decode cX6_differs 33 = .ok (.ireturn, 1) := by decide +kernel
theorem dX6_cost_0 : decode cX6_cost 0 = .ok (.aload_n 0, 1) := by decide +kernel
theorem dX6_cost_1 : decode cX6_cost 1 = .ok (.getfield 34, 3) := by decide +kernel
theorem dX6_cost_4 : decode cX6_cost 4 = .ok (.invokevirtual 119, 3) := by decide +kernel
theorem dX6_cost_7 : decode cX6_cost 7 = .ok (.ireturn, 1) := by decide +kernel
theorem dX6_lines_0 : decode cX6_lines 0 = .ok (.aload_n 0, 1) := by decide +kernel
theorem dX6_lines_1 : decode cX6_lines 1 = .ok (.iload_n 1, 1) := by decide +kernel
theorem dX6_lines_2 : decode cX6_lines 2 = .ok (.invokevirtual 38, 3) := by decide +kernel
theorem dX6_lines_5 : decode cX6_lines 5 = .ok (.getfield 27, 3) := by decide +kernel
theorem dX6_lines_8 : decode cX6_lines 8 = .ok (.invokevirtual 75, 3) := by decide +kernel
theorem dX6_lines_11 : decode cX6_lines 11 = .ok (.ireturn, 1) := by decide +kernel
theorem dX6_lineAt_0 : decode cX6_lineAt 0 = .ok (.aload_n 0, 1) := by decide +kernel
theorem dX6_lineAt_1 : decode cX6_lineAt 1 = .ok (.iload_n 1, 1) := by decide +kernel
theorem dX6_lineAt_2 : decode cX6_lineAt 2 = .ok (.invokevirtual 38, 3) := by decide +kernel
theorem dX6_lineAt_5 : decode cX6_lineAt 5 = .ok (.getfield 27, 3) := by decide +kernel
theorem dX6_lineAt_8 : decode cX6_lineAt 8 = .ok (.astore 4, 2) := by decide +kernel
theorem dX6_lineAt_10 : decode cX6_lineAt 10 = .ok (.aload_n 0, 1) := by decide +kernel
theorem dX6_lineAt_11 : decode cX6_lineAt 11 = .ok (.iload_n 2, 1) := by decide +kernel
theorem dX6_lineAt_12 : decode cX6_lineAt 12 = .ok (.invokevirtual 122, 3) := by decide +kernel
theorem dX6_lineAt_15 : decode cX6_lineAt 15 = .ok (.iload_n 3, 1) := by decide +kernel
theorem dX6_lineAt_16 : decode cX6_lineAt 16 = .ok (.ifCond .lt 8, 3) := by decide +kernel
theorem dX6_lineAt_19 : decode cX6_lineAt 19 = .ok (.iload_n 3, 1) := by decide +kernel
theorem dX6_lineAt_20 : decode cX6_lineAt 20 = .ok (.iconst 4, 1) := by decide +kernel
theorem dX6_lineAt_21 : decode cX6_lineAt 21 = .ok (.if_icmp .le 13, 3) := by decide +kernel
theorem dX6_lineAt_24 : decode cX6_lineAt 24 = .ok (.new 46, 3) := by decide +kernel
theorem dX6_lineAt_27 : decode cX6_lineAt 27 = .ok (.dup, 1) := by decide +kernel
theorem dX6_lineAt_28 : decode cX6_lineAt 28 = .ok (.ldc 125, 2) := by decide +kernel
theorem dX6_lineAt_30 : decode cX6_lineAt 30 = .ok (.invokespecial 50, 3) := by decide +kernel
theorem dX6_lineAt_33 : decode cX6_lineAt 33 = .ok (.athrow, 1) := by decide +kernel
theorem dX6_lineAt_34 : decode cX6_lineAt 34 = .ok (.iload_n 2, 1) := by decide +kernel
theorem dX6_lineAt_35 : decode cX6_lineAt 35 = .ok (.aload 4, 2) := by decide +kernel
theorem dX6_lineAt_37 : decode cX6_lineAt 37 = .ok (.invokevirtual 75, 3) := by decide +kernel
theorem dX6_lineAt_40 : decode cX6_lineAt 40 = .ok (.if_icmp .lt 5, 3) := by decide +kernel
theorem dX6_lineAt_43 : decode cX6_lineAt 43 = .ok (.iconst (-1), 1) := by decide +kernel
theorem dX6_lineAt_44 : decode cX6_lineAt 44 = .ok (.ireturn, 1) := by decide +kernel
theorem dX6_lineAt_45 : decode cX6_lineAt 45 = .ok (.iload_n 3, 1) := by decide +kernel
theorem dX6_lineAt_46 : decode cX6_lineAt 46 = .ok (.tableswitch 73 0 3 #[30, 37, 51, 58], 30) := by decide +kernel
theorem dX6_lineAt_76 : decode cX6_lineAt 76 = .ok (.aload 4, 2) := by decide +kernel
theorem dX6_lineAt_78 : decode cX6_lineAt 78 = .ok (.iload_n 2, 1) := by decide +kernel
theorem dX6_lineAt_79 : decode cX6_lineAt 79 = .ok (.invokevirtual 127, 3) := by decide +kernel
theorem dX6_lineAt_82 : decode cX6_lineAt 82 = .ok (.ireturn, 1) := by decide +kernel
theorem dX6_lineAt_83 : decode cX6_lineAt 83 = .ok (.aload_n 0, 1) := by decide +kernel
theorem dX6_lineAt_84 : decode cX6_lineAt 84 = .ok (.getfield 10, 3) := by decide +kernel
theorem dX6_lineAt_87 : decode cX6_lineAt 87 = .ok (.aload 4, 2) := by decide +kernel
theorem dX6_lineAt_89 : decode cX6_lineAt 89 = .ok (.iload_n 2, 1) := by decide +kernel
theorem dX6_lineAt_90 : decode cX6_lineAt 90 = .ok (.invokevirtual 127, 3) := by decide +kernel
theorem dX6_lineAt_93 : decode cX6_lineAt 93 = .ok (.invokevirtual 130, 3) := by decide +kernel
theorem dX6_lineAt_96 : decode cX6_lineAt 96 = .ok (.ireturn, 1) := by decide +kernel
theorem dX6_lineAt_97 : decode cX6_lineAt 97 = .ok (.aload 4, 2) := by decide +kernel
theorem dX6_lineAt_99 : decode cX6_lineAt 99 = .ok (.iload_n 2, 1) := by decide +kernel
theorem dX6_lineAt_100 : decode cX6_lineAt 100 = .ok (.invokevirtual 133, 3) := by decide +kernel
theorem dX6_lineAt_103 : decode cX6_lineAt 103 = .ok (.ireturn, 1) := by decide +kernel
theorem dX6_lineAt_104 : decode cX6_lineAt 104 = .ok (.aload 4, 2) := by decide +kernel
theorem dX6_lineAt_106 : decode cX6_lineAt 106 = .ok (.iload_n 2, 1) := by decide +kernel
theorem dX6_lineAt_107 : decode cX6_lineAt 107 = .ok (.invokevirtual 136, 3) := by decide +kernel
theorem dX6_lineAt_110 : decode cX6_lineAt 110 = .ok (.ifCond .eq 7, 3) := by decide +kernel
theorem dX6_lineAt_113 : decode cX6_lineAt 113 = .ok (.iconst 1, 1) := by decide +kernel
theorem dX6_lineAt_114 : decode cX6_lineAt 114 = .ok (.goto 4, 3) := by decide +kernel
theorem dX6_lineAt_117 : decode cX6_lineAt 117 = .ok (.iconst 0, 1) := by decide +kernel
theorem dX6_lineAt_118 : decode cX6_lineAt 118 = .ok (.ireturn, 1) := by decide +kernel
theorem dX6_lineAt_119 : decode cX6_lineAt 119 = .ok (.aload 4, 2) := by decide +kernel
theorem dX6_lineAt_121 : decode cX6_lineAt 121 = .ok (.iload_n 2, 1) := by decide +kernel
theorem dX6_lineAt_122 : decode cX6_lineAt 122 = .ok (.invokevirtual 140, 3) := by decide +kernel
theorem dX6_lineAt_125 : decode cX6_lineAt 125 = .ok (.ireturn, 1) := by decide +kernel
theorem dX6_lineAnew_0 : decode cX6_lineAnew 0 = .ok (.aload_n 0, 1) := by decide +kernel
theorem dX6_lineAnew_1 : decode cX6_lineAnew 1 = .ok (.iload_n 1, 1) := by decide +kernel
theorem dX6_lineAnew_2 : decode cX6_lineAnew 2 = .ok (.invokevirtual 38, 3) := by decide +kernel
theorem dX6_lineAnew_5 : decode cX6_lineAnew 5 = .ok (.astore_n 3, 1) := by decide +kernel
theorem dX6_lineAnew_6 : decode cX6_lineAnew 6 = .ok (.aload_n 0, 1) := by decide +kernel
theorem dX6_lineAnew_7 : decode cX6_lineAnew 7 = .ok (.iload_n 2, 1) := by decide +kernel
theorem dX6_lineAnew_8 : decode cX6_lineAnew 8 = .ok (.invokevirtual 122, 3) := by decide +kernel
theorem dX6_lineAnew_11 : decode cX6_lineAnew 11 = .ok (.aload_n 3, 1) := by decide +kernel
theorem dX6_lineAnew_12 : decode cX6_lineAnew 12 = .ok (.getfield 143, 3) := by decide +kernel
theorem dX6_lineAnew_15 : decode cX6_lineAnew 15 = .ok (.iload_n 2, 1) := by decide +kernel
theorem dX6_lineAnew_16 : decode cX6_lineAnew 16 = .ok (.invokevirtual 147, 3) := by decide +kernel
theorem dX6_lineAnew_19 : decode cX6_lineAnew 19 = .ok (.ireturn, 1) := by decide +kernel
theorem dX6_noteAt_0 : decode cX6_noteAt 0 = .ok (.aload_n 0, 1) := by decide +kernel
theorem dX6_noteAt_1 : decode cX6_noteAt 1 = .ok (.iload_n 1, 1) := by decide +kernel
theorem dX6_noteAt_2 : decode cX6_noteAt 2 = .ok (.invokevirtual 38, 3) := by decide +kernel
theorem dX6_noteAt_5 : decode cX6_noteAt 5 = .ok (.astore_n 3, 1) := by decide +kernel
theorem dX6_noteAt_6 : decode cX6_noteAt 6 = .ok (.aload_n 0, 1) := by decide +kernel
theorem dX6_noteAt_7 : decode cX6_noteAt 7 = .ok (.aload_n 3, 1) := by decide +kernel
theorem dX6_noteAt_8 : decode cX6_noteAt 8 = .ok (.iload_n 2, 1) := by decide +kernel
theorem dX6_noteAt_9 : decode cX6_noteAt 9 = .ok (.invokevirtual 86, 3) := by decide +kernel
theorem dX6_noteAt_12 : decode cX6_noteAt 12 = .ok (.aload_n 3, 1) := by decide +kernel
theorem dX6_noteAt_13 : decode cX6_noteAt 13 = .ok (.getfield 143, 3) := by decide +kernel
theorem dX6_noteAt_16 : decode cX6_noteAt 16 = .ok (.iload_n 2, 1) := by decide +kernel
theorem dX6_noteAt_17 : decode cX6_noteAt 17 = .ok (.invokevirtual 152, 3) := by decide +kernel
theorem dX6_noteAt_20 : decode cX6_noteAt 20 = .ok (.ireturn, 1) := by decide +kernel
theorem dX6_pages_0 : decode cX6_pages 0 = .ok (.aload_n 0, 1) := by decide +kernel
theorem dX6_pages_1 : decode cX6_pages 1 = .ok (.iload_n 1, 1) := by decide +kernel
theorem dX6_pages_2 : decode cX6_pages 2 = .ok (.invokevirtual 38, 3) := by decide +kernel
theorem dX6_pages_5 : decode cX6_pages 5 = .ok (.getfield 27, 3) := by decide +kernel
theorem dX6_pages_8 : decode cX6_pages 8 = .ok (.invokevirtual 155, 3) := by decide +kernel
theorem dX6_pages_11 : decode cX6_pages 11 = .ok (.ireturn, 1) := by decide +kernel
theorem dX6_aheadAnew_0 : decode cX6_aheadAnew 0 = .ok (.aload_n 0, 1) := by decide +kernel
theorem dX6_aheadAnew_1 : decode cX6_aheadAnew 1 = .ok (.iload_n 1, 1) := by decide +kernel
theorem dX6_aheadAnew_2 : decode cX6_aheadAnew 2 = .ok (.invokevirtual 38, 3) := by decide +kernel
theorem dX6_aheadAnew_5 : decode cX6_aheadAnew 5 = .ok (.astore_n 3, 1) := by decide +kernel
theorem dX6_aheadAnew_6 : decode cX6_aheadAnew 6 = .ok (.aload_n 0, 1) := by decide +kernel
theorem dX6_aheadAnew_7 : decode cX6_aheadAnew 7 = .ok (.iload_n 2, 1) := by decide +kernel
theorem dX6_aheadAnew_8 : decode cX6_aheadAnew 8 = .ok (.invokevirtual 122, 3) := by decide +kernel
theorem dX6_aheadAnew_11 : decode cX6_aheadAnew 11 = .ok (.aload_n 3, 1) := by decide +kernel
theorem dX6_aheadAnew_12 : decode cX6_aheadAnew 12 = .ok (.getfield 27, 3) := by decide +kernel
theorem dX6_aheadAnew_15 : decode cX6_aheadAnew 15 = .ok (.iload_n 2, 1) := by decide +kernel
theorem dX6_aheadAnew_16 : decode cX6_aheadAnew 16 = .ok (.invokevirtual 156, 3) := by decide +kernel
theorem dX6_aheadAnew_19 : decode cX6_aheadAnew 19 = .ok (.ireturn, 1) := by decide +kernel
theorem dX6_known_0 : decode cX6_known 0 = .ok (.aload_n 0, 1) := by decide +kernel
theorem dX6_known_1 : decode cX6_known 1 = .ok (.iload_n 1, 1) := by decide +kernel
theorem dX6_known_2 : decode cX6_known 2 = .ok (.invokevirtual 38, 3) := by decide +kernel
theorem dX6_known_5 : decode cX6_known 5 = .ok (.invokevirtual 159, 3) := by decide +kernel
theorem dX6_known_8 : decode cX6_known 8 = .ok (.ireturn, 1) := by decide +kernel
theorem dX6_siteOf_0 : decode cX6_siteOf 0 = .ok (.iload_n 1, 1) := by decide +kernel
theorem dX6_siteOf_1 : decode cX6_siteOf 1 = .ok (.ifCond .lt 12, 3) := by decide +kernel
theorem dX6_siteOf_4 : decode cX6_siteOf 4 = .ok (.iload_n 1, 1) := by decide +kernel
theorem dX6_siteOf_5 : decode cX6_siteOf 5 = .ok (.aload_n 0, 1) := by decide +kernel
theorem dX6_siteOf_6 : decode cX6_siteOf 6 = .ok (.getfield 18, 3) := by decide +kernel
theorem dX6_siteOf_9 : decode cX6_siteOf 9 = .ok (.arraylength, 1) := by decide +kernel
theorem dX6_siteOf_10 : decode cX6_siteOf 10 = .ok (.if_icmp .lt 13, 3) := by decide +kernel
theorem dX6_siteOf_13 : decode cX6_siteOf 13 = .ok (.new 111, 3) := by decide +kernel
theorem dX6_siteOf_16 : decode cX6_siteOf 16 = .ok (.dup, 1) := by decide +kernel
theorem dX6_siteOf_17 : decode cX6_siteOf 17 = .ok (.ldc 162, 2) := by decide +kernel
theorem dX6_siteOf_19 : decode cX6_siteOf 19 = .ok (.invokespecial 115, 3) := by decide +kernel
theorem dX6_siteOf_22 : decode cX6_siteOf 22 = .ok (.athrow, 1) := by decide +kernel
theorem dX6_siteOf_23 : decode cX6_siteOf 23 = .ok (.aload_n 0, 1) := by decide +kernel
theorem dX6_siteOf_24 : decode cX6_siteOf 24 = .ok (.getfield 18, 3) := by decide +kernel
theorem dX6_siteOf_27 : decode cX6_siteOf 27 = .ok (.iload_n 1, 1) := by decide +kernel
theorem dX6_siteOf_28 : decode cX6_siteOf 28 = .ok (.aaload, 1) := by decide +kernel
theorem dX6_siteOf_29 : decode cX6_siteOf 29 = .ok (.areturn, 1) := by decide +kernel
theorem dX6_checkLineIsKnown_0 : decode cX6_checkLineIsKnown 0 = .ok (.aload_n 1, 1) := by decide +kernel
theorem dX6_checkLineIsKnown_1 : decode cX6_checkLineIsKnown 1 = .ok (.getfield 143, 3) := by decide +kernel
theorem dX6_checkLineIsKnown_4 : decode cX6_checkLineIsKnown 4 = .ok (.iload_n 2, 1) := by decide +kernel
theorem dX6_checkLineIsKnown_5 : decode cX6_checkLineIsKnown 5 = .ok (.invokevirtual 164, 3) := by decide +kernel
theorem dX6_checkLineIsKnown_8 : decode cX6_checkLineIsKnown 8 = .ok (.ifCond .ne 13, 3) := by decide +kernel
theorem dX6_checkLineIsKnown_11 : decode cX6_checkLineIsKnown 11 = .ok (.new 111, 3) := by decide +kernel
theorem dX6_checkLineIsKnown_14 : decode cX6_checkLineIsKnown 14 = .ok (.dup, 1) := by decide +kernel
theorem dX6_checkLineIsKnown_15 : decode cX6_checkLineIsKnown 15 = .ok (.ldc 167, 2) := by decide +kernel
theorem dX6_checkLineIsKnown_17 : decode cX6_checkLineIsKnown 17 = .ok (.invokespecial 115, 3) := by decide +kernel
theorem dX6_checkLineIsKnown_20 : decode cX6_checkLineIsKnown 20 = .ok (.athrow, 1) := by decide +kernel
theorem dX6_checkLineIsKnown_21 : decode cX6_checkLineIsKnown 21 = .ok (.return_, 1) := by decide +kernel
theorem dX6_checkLineIsThere_0 : decode cX6_checkLineIsThere 0 = .ok (.aload_n 1, 1) := by decide +kernel
theorem dX6_checkLineIsThere_1 : decode cX6_checkLineIsThere 1 = .ok (.getfield 143, 3) := by decide +kernel
theorem dX6_checkLineIsThere_4 : decode cX6_checkLineIsThere 4 = .ok (.iload_n 2, 1) := by decide +kernel
theorem dX6_checkLineIsThere_5 : decode cX6_checkLineIsThere 5 = .ok (.invokevirtual 169, 3) := by decide +kernel
theorem dX6_checkLineIsThere_8 : decode cX6_checkLineIsThere 8 = .ok (.ifCond .ne 13, 3) := by decide +kernel
theorem dX6_checkLineIsThere_11 : decode cX6_checkLineIsThere 11 = .ok (.new 172, 3) := by decide +kernel
theorem dX6_checkLineIsThere_14 : decode cX6_checkLineIsThere 14 = .ok (.dup, 1) := by decide +kernel
theorem dX6_checkLineIsThere_15 : decode cX6_checkLineIsThere 15 = .ok (.ldc 174, 2) := by decide +kernel
theorem dX6_checkLineIsThere_17 : decode cX6_checkLineIsThere 17 = .ok (.invokespecial 176, 3) := by decide +kernel
theorem dX6_checkLineIsThere_20 : decode cX6_checkLineIsThere 20 = .ok (.athrow, 1) := by decide +kernel
theorem dX6_checkLineIsThere_21 : decode cX6_checkLineIsThere 21 = .ok (.return_, 1) := by decide +kernel
theorem dX6_checkNoteIsKnown_0 : decode cX6_checkNoteIsKnown 0 = .ok (.aload_n 1, 1) := by decide +kernel
theorem dX6_checkNoteIsKnown_1 : decode cX6_checkNoteIsKnown 1 = .ok (.getfield 143, 3) := by decide +kernel
theorem dX6_checkNoteIsKnown_4 : decode cX6_checkNoteIsKnown 4 = .ok (.iload_n 2, 1) := by decide +kernel
theorem dX6_checkNoteIsKnown_5 : decode cX6_checkNoteIsKnown 5 = .ok (.invokevirtual 177, 3) := by decide +kernel
theorem dX6_checkNoteIsKnown_8 : decode cX6_checkNoteIsKnown 8 = .ok (.ifCond .ne 13, 3) := by decide +kernel
theorem dX6_checkNoteIsKnown_11 : decode cX6_checkNoteIsKnown 11 = .ok (.new 111, 3) := by decide +kernel
theorem dX6_checkNoteIsKnown_14 : decode cX6_checkNoteIsKnown 14 = .ok (.dup, 1) := by decide +kernel
theorem dX6_checkNoteIsKnown_15 : decode cX6_checkNoteIsKnown 15 = .ok (.ldc 180, 2) := by decide +kernel
theorem dX6_checkNoteIsKnown_17 : decode cX6_checkNoteIsKnown 17 = .ok (.invokespecial 115, 3) := by decide +kernel
theorem dX6_checkNoteIsKnown_20 : decode cX6_checkNoteIsKnown 20 = .ok (.athrow, 1) := by decide +kernel
theorem dX6_checkNoteIsKnown_21 : decode cX6_checkNoteIsKnown 21 = .ok (.return_, 1) := by decide +kernel
theorem dX6_checkRoomForDeed_0 : decode cX6_checkRoomForDeed 0 = .ok (.aload_n 0, 1) := by decide +kernel
theorem dX6_checkRoomForDeed_1 : decode cX6_checkRoomForDeed 1 = .ok (.getfield 10, 3) := by decide +kernel
theorem dX6_checkRoomForDeed_4 : decode cX6_checkRoomForDeed 4 = .ok (.invokevirtual 182, 3) := by decide +kernel
theorem dX6_checkRoomForDeed_7 : decode cX6_checkRoomForDeed 7 = .ok (.bipush 90, 2) := by decide +kernel
theorem dX6_checkRoomForDeed_9 : decode cX6_checkRoomForDeed 9 = .ok (.if_icmp .lt 13, 3) := by decide +kernel
theorem dX6_checkRoomForDeed_12 : decode cX6_checkRoomForDeed 12 = .ok (.new 97, 3) := by decide +kernel
theorem dX6_checkRoomForDeed_15 : decode cX6_checkRoomForDeed 15 = .ok (.dup, 1) := by decide +kernel
theorem dX6_checkRoomForDeed_16 : decode cX6_checkRoomForDeed 16 = .ok (.ldc 183, 2) := by decide +kernel
theorem dX6_checkRoomForDeed_18 : decode cX6_checkRoomForDeed 18 = .ok (.invokespecial 101, 3) := by decide +kernel
theorem dX6_checkRoomForDeed_21 : decode cX6_checkRoomForDeed 21 = .ok (.athrow, 1) := by decide +kernel
theorem dX6_checkRoomForDeed_22 : decode cX6_checkRoomForDeed 22 = .ok (.return_, 1) := by decide +kernel
theorem dX6_checkFromNought_0 : decode cX6_checkFromNought 0 = .ok (.iload_n 1, 1) := by decide +kernel
theorem dX6_checkFromNought_1 : decode cX6_checkFromNought 1 = .ok (.ifCond .ge 13, 3) := by decide +kernel
theorem dX6_checkFromNought_4 : decode cX6_checkFromNought 4 = .ok (.new 111, 3) := by decide +kernel
theorem dX6_checkFromNought_7 : decode cX6_checkFromNought 7 = .ok (.dup, 1) := by decide +kernel
theorem dX6_checkFromNought_8 : decode cX6_checkFromNought 8 = .ok (.ldc 185, 2) := by decide +kernel
theorem dX6_checkFromNought_10 : decode cX6_checkFromNought 10 = .ok (.invokespecial 115, 3) := by decide +kernel
theorem dX6_checkFromNought_13 : decode cX6_checkFromNought 13 = .ok (.athrow, 1) := by decide +kernel
theorem dX6_checkFromNought_14 : decode cX6_checkFromNought 14 = .ok (.return_, 1) := by decide +kernel
theorem dX7_init_0 : decode cX7_init 0 = .ok (.aload_n 0, 1) := by decide +kernel
theorem dX7_init_1 : decode cX7_init 1 = .ok (.invokespecial 1, 3) := by decide +kernel
theorem dX7_init_4 : decode cX7_init 4 = .ok (.aload_n 0, 1) := by decide +kernel
theorem dX7_init_5 : decode cX7_init 5 = .ok (.bipush 90, 2) := by decide +kernel
theorem dX7_init_7 : decode cX7_init 7 = .ok (.newarray .int, 2) := by decide +kernel
theorem dX7_init_9 : decode cX7_init 9 = .ok (.putfield 7, 3) := by decide +kernel
theorem dX7_init_12 : decode cX7_init 12 = .ok (.aload_n 0, 1) := by decide +kernel
theorem dX7_init_13 : decode cX7_init 13 = .ok (.bipush 90, 2) := by decide +kernel
theorem dX7_init_15 : decode cX7_init 15 = .ok (.newarray .int, 2) := by decide +kernel
theorem dX7_init_17 : decode cX7_init 17 = .ok (.putfield 13, 3) := by decide +kernel
theorem dX7_init_20 : decode cX7_init 20 = .ok (.aload_n 0, 1) := by decide +kernel
theorem dX7_init_21 : decode cX7_init 21 = .ok (.bipush 90, 2) := by decide +kernel
theorem dX7_init_23 : decode cX7_init 23 = .ok (.newarray .int, 2) := by decide +kernel
theorem dX7_init_25 : decode cX7_init 25 = .ok (.putfield 16, 3) := by decide +kernel
theorem dX7_init_28 : decode cX7_init 28 = .ok (.aload_n 0, 1) := by decide +kernel
theorem dX7_init_29 : decode cX7_init 29 = .ok (.bipush 90, 2) := by decide +kernel
theorem dX7_init_31 : decode cX7_init 31 = .ok (.newarray .int, 2) := by decide +kernel
theorem dX7_init_33 : decode cX7_init 33 = .ok (.putfield 19, 3) := by decide +kernel
theorem dX7_init_36 : decode cX7_init 36 = .ok (.aload_n 0, 1) := by decide +kernel
theorem dX7_init_37 : decode cX7_init 37 = .ok (.bipush 90, 2) := by decide +kernel
theorem dX7_init_39 : decode cX7_init 39 = .ok (.newarray .int, 2) := by decide +kernel
theorem dX7_init_41 : decode cX7_init 41 = .ok (.putfield 22, 3) := by decide +kernel
theorem dX7_init_44 : decode cX7_init 44 = .ok (.aload_n 0, 1) := by decide +kernel
theorem dX7_init_45 : decode cX7_init 45 = .ok (.bipush 90, 2) := by decide +kernel
theorem dX7_init_47 : decode cX7_init 47 = .ok (.newarray .int, 2) := by decide +kernel
theorem dX7_init_49 : decode cX7_init 49 = .ok (.putfield 25, 3) := by decide +kernel
