theorem dX7_init_0 : decode cX7_init 0 = .ok (.aload_n 0, 1) := by decide +kernel
theorem dX7_init_1 : decode cX7_init 1 = .ok (.invokespecial 1, 3) := by decide +kernel
theorem dX7_init_4 : decode cX7_init 4 = .ok (.aload_n 0, 1) := by decide +kernel
theorem dX7_init_5 : decode cX7_init 5 = .ok (.sipush 168, 3) := by decide +kernel
theorem dX7_init_8 : decode cX7_init 8 = .ok (.newarray .int, 2) := by decide +kernel
theorem dX7_init_10 : decode cX7_init 10 = .ok (.putfield 7, 3) := by decide +kernel
theorem dX7_init_13 : decode cX7_init 13 = .ok (.aload_n 0, 1) := by decide +kernel
theorem dX7_init_14 : decode cX7_init 14 = .ok (.bipush 56, 2) := by decide +kernel
theorem dX7_init_16 : decode cX7_init 16 = .ok (.newarray .int, 2) := by decide +kernel
theorem dX7_init_18 : decode cX7_init 18 = .ok (.putfield 13, 3) := by decide +kernel
theorem dX7_init_21 : decode cX7_init 21 = .ok (.aload_n 0, 1) := by decide +kernel
theorem dX7_init_22 : decode cX7_init 22 = .ok (.iconst 2, 1) := by decide +kernel
theorem dX7_init_23 : decode cX7_init 23 = .ok (.newarray .boolean, 2) := by decide +kernel
theorem dX7_init_25 : decode cX7_init 25 = .ok (.putfield 16, 3) := by decide +kernel
theorem dX7_init_28 : decode cX7_init 28 = .ok (.aload_n 0, 1) := by decide +kernel
theorem dX7_init_29 : decode cX7_init 29 = .ok (.bipush 56, 2) := by decide +kernel
theorem dX7_init_31 : decode cX7_init 31 = .ok (.newarray .int, 2) := by decide +kernel
theorem dX7_init_33 : decode cX7_init 33 = .ok (.putfield 20, 3) := by decide +kernel
theorem dX7_init_36 : decode cX7_init 36 = .ok (.aload_n 0, 1) := by decide +kernel
theorem dX7_init_37 : decode cX7_init 37 = .ok (.sipush 160, 3) := by decide +kernel
theorem dX7_init_40 : decode cX7_init 40 = .ok (.newarray .int, 2) := by decide +kernel
theorem dX7_init_42 : decode cX7_init 42 = .ok (.putfield 23, 3) := by decide +kernel
theorem dX7_init_45 : decode cX7_init 45 = .ok (.aload_n 0, 1) := by decide +kernel
theorem dX7_init_46 : decode cX7_init 46 = .ok (.sipush 164, 3) := by decide +kernel
theorem dX7_init_49 : decode cX7_init 49 = .ok (.newarray .int, 2) := by decide +kernel
theorem dX7_init_51 : decode cX7_init 51 = .ok (.putfield 26, 3) := by decide +kernel
theorem dX7_init_54 : decode cX7_init 54 = .ok (.aload_n 0, 1) := by decide +kernel
theorem dX7_init_55 : decode cX7_init 55 = .ok (.sipush 328, 3) := by decide +kernel
theorem dX7_init_58 : decode cX7_init 58 = .ok (.newarray .int, 2) := by decide +kernel
theorem dX7_init_60 : decode cX7_init 60 = .ok (.putfield 29, 3) := by decide +kernel
theorem dX7_init_63 : decode cX7_init 63 = .ok (.aload_n 0, 1) := by decide +kernel
theorem dX7_init_64 : decode cX7_init 64 = .ok (.iconst 4, 1) := by decide +kernel
theorem dX7_init_65 : decode cX7_init 65 = .ok (.newarray .int, 2) := by decide +kernel
theorem dX7_init_67 : decode cX7_init 67 = .ok (.putfield 32, 3) := by decide +kernel
theorem dX7_init_70 : decode cX7_init 70 = .ok (.aload_n 0, 1) := by decide +kernel
theorem dX7_init_71 : decode cX7_init 71 = .ok (.iconst 4, 1) := by decide +kernel
theorem dX7_init_72 : decode cX7_init 72 = .ok (.newarray .int, 2) := by decide +kernel
theorem dX7_init_74 : decode cX7_init 74 = .ok (.putfield 35, 3) := by decide +kernel
theorem dX7_init_77 : decode cX7_init 77 = .ok (.aload_n 0, 1) := by decide +kernel
theorem dX7_init_78 : decode cX7_init 78 = .ok (.sipush 160, 3) := by decide +kernel
theorem dX7_init_81 : decode cX7_init 81 = .ok (.newarray .int, 2) := by decide +kernel
theorem dX7_init_83 : decode cX7_init 83 = .ok (.putfield 38, 3) := by decide +kernel
theorem dX7_init_86 : decode cX7_init 86 = .ok (.aload_n 0, 1) := by decide +kernel
theorem dX7_init_87 : decode cX7_init 87 = .ok (.bipush 56, 2) := by decide +kernel
theorem dX7_init_89 : decode cX7_init 89 = .ok (.newarray .int, 2) := by decide +kernel
theorem dX7_init_91 : decode cX7_init 91 = .ok (.putfield 41, 3) := by decide +kernel
theorem dX7_init_94 : decode cX7_init 94 = .ok (.iconst 0, 1) := by decide +kernel
theorem dX7_init_95 : decode cX7_init 95 = .ok (.istore_n 1, 1) := by decide +kernel
theorem dX7_init_96 : decode cX7_init 96 = .ok (.iload_n 1, 1) := by decide +kernel
theorem dX7_init_97 : decode cX7_init 97 = .ok (.iconst 4, 1) := by decide +kernel
theorem dX7_init_98 : decode cX7_init 98 = .ok (.if_icmp .ge 17, 3) := by decide +kernel
theorem dX7_init_101 : decode cX7_init 101 = .ok (.aload_n 0, 1) := by decide +kernel
theorem dX7_init_102 : decode cX7_init 102 = .ok (.getfield 32, 3) := by decide +kernel
theorem dX7_init_105 : decode cX7_init 105 = .ok (.iload_n 1, 1) := by decide +kernel
theorem dX7_init_106 : decode cX7_init 106 = .ok (.bipush (-4), 2) := by decide +kernel
theorem dX7_init_108 : decode cX7_init 108 = .ok (.iastore, 1) := by decide +kernel
theorem dX7_init_109 : decode cX7_init 109 = .ok (.iinc 1 1, 3) := by decide +kernel
theorem dX7_init_112 : decode cX7_init 112 = .ok (.goto (-16), 3) := by decide +kernel
theorem dX7_init_115 : decode cX7_init 115 = .ok (.aload_n 0, 1) := by decide +kernel
theorem dX7_init_116 : decode cX7_init 116 = .ok (.invokevirtual 44, 3) := by decide +kernel
theorem dX7_init_119 : decode cX7_init 119 = .ok (.aload_n 0, 1) := by decide +kernel
theorem dX7_init_120 : decode cX7_init 120 = .ok (.invokevirtual 47, 3) := by decide +kernel
theorem dX7_init_123 : decode cX7_init 123 = .ok (.return_, 1) := by decide +kernel
theorem dX7_in_0 : decode cX7_in 0 = .ok (.lload_n 0, 1) := by decide +kernel
theorem dX7_in_1 : decode cX7_in 1 = .ok (.lload_n 2, 1) := by decide +kernel
theorem dX7_in_2 : decode cX7_in 2 = .ok (.lcmp, 1) := by decide +kernel
theorem dX7_in_3 : decode cX7_in 3 = .ok (.ifCond .lt 14, 3) := by decide +kernel
theorem dX7_in_6 : decode cX7_in 6 = .ok (.lload_n 0, 1) := by decide +kernel
theorem dX7_in_7 : decode cX7_in 7 = .ok (.lload 4, 2) := by decide +kernel
theorem dX7_in_9 : decode cX7_in 9 = .ok (.lcmp, 1) := by decide +kernel
theorem dX7_in_10 : decode cX7_in 10 = .ok (.ifCond .gt 7, 3) := by decide +kernel
theorem dX7_in_13 : decode cX7_in 13 = .ok (.iconst 1, 1) := by decide +kernel
theorem dX7_in_14 : decode cX7_in 14 = .ok (.goto 4, 3) := by decide +kernel
theorem dX7_in_17 : decode cX7_in 17 = .ok (.iconst 0, 1) := by decide +kernel
theorem dX7_in_18 : decode cX7_in 18 = .ok (.ireturn, 1) := by decide +kernel
theorem dX7_flag_0 : decode cX7_flag 0 = .ok (.iload_n 0, 1) := by decide +kernel
theorem dX7_flag_1 : decode cX7_flag 1 = .ok (.ifCond .eq 7, 3) := by decide +kernel
theorem dX7_flag_4 : decode cX7_flag 4 = .ok (.iconst 1, 1) := by decide +kernel
theorem dX7_flag_5 : decode cX7_flag 5 = .ok (.goto 4, 3) := by decide +kernel
theorem dX7_flag_8 : decode cX7_flag 8 = .ok (.iconst 0, 1) := by decide +kernel
theorem dX7_flag_9 : decode cX7_flag 9 = .ok (.ireturn, 1) := by decide +kernel
theorem dX7_amount_0 : decode cX7_amount 0 = .ok (.iload_n 0, 1) := by decide +kernel
theorem dX7_amount_1 : decode cX7_amount 1 = .ok (.ifCond .ge 8, 3) := by decide +kernel
theorem dX7_amount_4 : decode cX7_amount 4 = .ok (.iload_n 0, 1) := by decide +kernel
theorem dX7_amount_5 : decode cX7_amount 5 = .ok (.ineg, 1) := by decide +kernel
theorem dX7_amount_6 : decode cX7_amount 6 = .ok (.goto 4, 3) := by decide +kernel
theorem dX7_amount_9 : decode cX7_amount 9 = .ok (.iload_n 0, 1) := by decide +kernel
theorem dX7_amount_10 : decode cX7_amount 10 = .ok (.ireturn, 1) := by decide +kernel
theorem dX7_byEight_0 : decode cX7_byEight 0 = .ok (.iload_n 0, 1) := by decide +kernel
theorem dX7_byEight_1 : decode cX7_byEight 1 = .ok (.bipush 8, 2) := by decide +kernel
theorem dX7_byEight_3 : decode cX7_byEight 3 = .ok (.irem, 1) := by decide +kernel
theorem dX7_byEight_4 : decode cX7_byEight 4 = .ok (.istore_n 1, 1) := by decide +kernel
theorem dX7_byEight_5 : decode cX7_byEight 5 = .ok (.iload_n 1, 1) := by decide +kernel
theorem dX7_byEight_6 : decode cX7_byEight 6 = .ok (.ifCond .ge 10, 3) := by decide +kernel
theorem dX7_byEight_9 : decode cX7_byEight 9 = .ok (.iload_n 1, 1) := by decide +kernel
theorem dX7_byEight_10 : decode cX7_byEight 10 = .ok (.bipush 8, 2) := by decide +kernel
theorem dX7_byEight_12 : decode cX7_byEight 12 = .ok (.iadd, 1) := by decide +kernel
theorem dX7_byEight_13 : decode cX7_byEight 13 = .ok (.goto 4, 3) := by decide +kernel
theorem dX7_byEight_16 : decode cX7_byEight 16 = .ok (.iload_n 1, 1) := by decide +kernel
theorem dX7_byEight_17 : decode cX7_byEight 17 = .ok (.ireturn, 1) := by decide +kernel
theorem dX7_firstDraft_0 : decode cX7_firstDraft 0 = .ok (.iconst 0, 1) := by decide +kernel
theorem dX7_firstDraft_1 : decode cX7_firstDraft 1 = .ok (.istore_n 1, 1) := by decide +kernel
theorem dX7_firstDraft_2 : decode cX7_firstDraft 2 = .ok (.iload_n 1, 1) := by decide +kernel
theorem dX7_firstDraft_3 : decode cX7_firstDraft 3 = .ok (.bipush 56, 2) := by decide +kernel
theorem dX7_firstDraft_5 : decode cX7_firstDraft 5 = .ok (.if_icmp .ge 16, 3) := by decide +kernel
theorem dX7_firstDraft_8 : decode cX7_firstDraft 8 = .ok (.aload_n 0, 1) := by decide +kernel
theorem dX7_firstDraft_9 : decode cX7_firstDraft 9 = .ok (.getfield 20, 3) := by decide +kernel
theorem dX7_firstDraft_12 : decode cX7_firstDraft 12 = .ok (.iload_n 1, 1) := by decide +kernel
theorem dX7_firstDraft_13 : decode cX7_firstDraft 13 = .ok (.iconst 0, 1) := by decide +kernel
theorem dX7_firstDraft_14 : decode cX7_firstDraft 14 = .ok (.iastore, 1) := by decide +kernel
theorem dX7_firstDraft_15 : decode cX7_firstDraft 15 = .ok (.iinc 1 1, 3) := by decide +kernel
theorem dX7_firstDraft_18 : decode cX7_firstDraft 18 = .ok (.goto (-16), 3) := by decide +kernel
theorem dX7_firstDraft_21 : decode cX7_firstDraft 21 = .ok (.aload_n 0, 1) := by decide +kernel
theorem dX7_firstDraft_22 : decode cX7_firstDraft 22 = .ok (.getfield 20, 3) := by decide +kernel
theorem dX7_firstDraft_25 : decode cX7_firstDraft 25 = .ok (.bipush 18, 2) := by decide +kernel
theorem dX7_firstDraft_27 : decode cX7_firstDraft 27 = .ok (.iconst 1, 1) := by decide +kernel
theorem dX7_firstDraft_28 : decode cX7_firstDraft 28 = .ok (.iastore, 1) := by decide +kernel
theorem dX7_firstDraft_29 : decode cX7_firstDraft 29 = .ok (.aload_n 0, 1) := by decide +kernel
theorem dX7_firstDraft_30 : decode cX7_firstDraft 30 = .ok (.iconst 0, 1) := by decide +kernel
theorem dX7_firstDraft_31 : decode cX7_firstDraft 31 = .ok (.putfield 50, 3) := by decide +kernel
theorem dX7_firstDraft_34 : decode cX7_firstDraft 34 = .ok (.aload_n 0, 1) := by decide +kernel
theorem dX7_firstDraft_35 : decode cX7_firstDraft 35 = .ok (.iconst 0, 1) := by decide +kernel
theorem dX7_firstDraft_36 : decode cX7_firstDraft 36 = .ok (.putfield 54, 3) := by decide +kernel
theorem dX7_firstDraft_39 : decode cX7_firstDraft 39 = .ok (.return_, 1) := by decide +kernel
theorem dX7_keepDraft_0 : decode cX7_keepDraft 0 = .ok (.iconst 0, 1) := by decide +kernel
theorem dX7_keepDraft_1 : decode cX7_keepDraft 1 = .ok (.istore_n 1, 1) := by decide +kernel
theorem dX7_keepDraft_2 : decode cX7_keepDraft 2 = .ok (.iload_n 1, 1) := by decide +kernel
theorem dX7_keepDraft_3 : decode cX7_keepDraft 3 = .ok (.bipush 56, 2) := by decide +kernel
theorem dX7_keepDraft_5 : decode cX7_keepDraft 5 = .ok (.if_icmp .ge 21, 3) := by decide +kernel
theorem dX7_keepDraft_8 : decode cX7_keepDraft 8 = .ok (.aload_n 0, 1) := by decide +kernel
theorem dX7_keepDraft_9 : decode cX7_keepDraft 9 = .ok (.getfield 7, 3) := by decide +kernel
theorem dX7_keepDraft_12 : decode cX7_keepDraft 12 = .ok (.iload_n 1, 1) := by decide +kernel
theorem dX7_keepDraft_13 : decode cX7_keepDraft 13 = .ok (.aload_n 0, 1) := by decide +kernel
theorem dX7_keepDraft_14 : decode cX7_keepDraft 14 = .ok (.getfield 20, 3) := by decide +kernel
theorem dX7_keepDraft_17 : decode cX7_keepDraft 17 = .ok (.iload_n 1, 1) := by decide +kernel
theorem dX7_keepDraft_18 : decode cX7_keepDraft 18 = .ok (.iaload, 1) := by decide +kernel
theorem dX7_keepDraft_19 : decode cX7_keepDraft 19 = .ok (.iastore, 1) := by decide +kernel
theorem dX7_keepDraft_20 : decode cX7_keepDraft 20 = .ok (.iinc 1 1, 3) := by decide +kernel
theorem dX7_keepDraft_23 : decode cX7_keepDraft 23 = .ok (.goto (-21), 3) := by decide +kernel
theorem dX7_keepDraft_26 : decode cX7_keepDraft 26 = .ok (.aload_n 0, 1) := by decide +kernel
theorem dX7_keepDraft_27 : decode cX7_keepDraft 27 = .ok (.getfield 16, 3) := by decide +kernel
theorem dX7_keepDraft_30 : decode cX7_keepDraft 30 = .ok (.iconst 0, 1) := by decide +kernel
theorem dX7_keepDraft_31 : decode cX7_keepDraft 31 = .ok (.iconst 0, 1) := by decide +kernel
theorem dX7_keepDraft_32 : decode cX7_keepDraft 32 = .ok (.bastore, 1) := by decide +kernel
theorem dX7_keepDraft_33 : decode cX7_keepDraft 33 = .ok (.aload_n 0, 1) := by decide +kernel
theorem dX7_keepDraft_34 : decode cX7_keepDraft 34 = .ok (.getfield 16, 3) := by decide +kernel
theorem dX7_keepDraft_37 : decode cX7_keepDraft 37 = .ok (.iconst 1, 1) := by decide +kernel
theorem dX7_keepDraft_38 : decode cX7_keepDraft 38 = .ok (.iconst 0, 1) := by decide +kernel
theorem dX7_keepDraft_39 : decode cX7_keepDraft 39 = .ok (.bastore, 1) := by decide +kernel
theorem dX7_keepDraft_40 : decode cX7_keepDraft 40 = .ok (.return_, 1) := by decide +kernel
theorem dX7_feed_0 : decode cX7_feed 0 = .ok (.iload_n 1, 1) := by decide +kernel
theorem dX7_feed_1 : decode cX7_feed 1 = .ok (.i2l, 1) := by decide +kernel
theorem dX7_feed_2 : decode cX7_feed 2 = .ok (.lconst 0, 1) := by decide +kernel
theorem dX7_feed_3 : decode cX7_feed 3 = .ok (.ldc2_w 57, 3) := by decide +kernel
theorem dX7_feed_6 : decode cX7_feed 6 = .ok (.invokestatic 59, 3) := by decide +kernel
theorem dX7_feed_9 : decode cX7_feed 9 = .ok (.ifCond .ne 5, 3) := by decide +kernel
theorem dX7_feed_12 : decode cX7_feed 12 = .ok (.iconst (-1), 1) := by decide +kernel
theorem dX7_feed_13 : decode cX7_feed 13 = .ok (.ireturn, 1) := by decide +kernel
theorem dX7_feed_14 : decode cX7_feed 14 = .ok (.aload_n 0, 1) := by decide +kernel
theorem dX7_feed_15 : decode cX7_feed 15 = .ok (.getfield 63, 3) := by decide +kernel
theorem dX7_feed_18 : decode cX7_feed 18 = .ok (.sipush 160, 3) := by decide +kernel
theorem dX7_feed_21 : decode cX7_feed 21 = .ok (.if_icmp .ne 6, 3) := by decide +kernel
theorem dX7_feed_24 : decode cX7_feed 24 = .ok (.bipush (-3), 2) := by decide +kernel
theorem dX7_feed_26 : decode cX7_feed 26 = .ok (.ireturn, 1) := by decide +kernel
theorem dX7_feed_27 : decode cX7_feed 27 = .ok (.aload_n 0, 1) := by decide +kernel
theorem dX7_feed_28 : decode cX7_feed 28 = .ok (.getfield 23, 3) := by decide +kernel
theorem dX7_feed_31 : decode cX7_feed 31 = .ok (.aload_n 0, 1) := by decide +kernel
theorem dX7_feed_32 : decode cX7_feed 32 = .ok (.getfield 63, 3) := by decide +kernel
theorem dX7_feed_35 : decode cX7_feed 35 = .ok (.iload_n 1, 1) := by decide +kernel
theorem dX7_feed_36 : decode cX7_feed 36 = .ok (.iastore, 1) := by decide +kernel
theorem dX7_feed_37 : decode cX7_feed 37 = .ok (.aload_n 0, 1) := by decide +kernel
theorem dX7_feed_38 : decode cX7_feed 38 = .ok (.dup, 1) := by decide +kernel
theorem dX7_feed_39 : decode cX7_feed 39 = .ok (.getfield 63, 3) := by decide +kernel
theorem dX7_feed_42 : decode cX7_feed 42 = .ok (.iconst 1, 1) := by decide +kernel
theorem dX7_feed_43 : decode cX7_feed 43 = .ok (.iadd, 1) := by decide +kernel
theorem dX7_feed_44 : decode cX7_feed 44 = .ok (.putfield 63, 3) := by decide +kernel
theorem dX7_feed_47 : decode cX7_feed 47 = .ok (.aload_n 0, 1) := by decide +kernel
theorem dX7_feed_48 : decode cX7_feed 48 = .ok (.getfield 63, 3) := by decide +kernel
theorem dX7_feed_51 : decode cX7_feed 51 = .ok (.ireturn, 1) := by decide +kernel
theorem dX7_end_0 : decode cX7_end 0 = .ok (.iload_n 1, 1) := by decide +kernel
theorem dX7_end_1 : decode cX7_end 1 = .ok (.i2l, 1) := by decide +kernel
theorem dX7_end_2 : decode cX7_end 2 = .ok (.lconst 0, 1) := by decide +kernel
theorem dX7_end_3 : decode cX7_end 3 = .ok (.aload_n 0, 1) := by decide +kernel
theorem dX7_end_4 : decode cX7_end 4 = .ok (.getfield 63, 3) := by decide +kernel
theorem dX7_end_7 : decode cX7_end 7 = .ok (.i2l, 1) := by decide +kernel
theorem dX7_end_8 : decode cX7_end 8 = .ok (.invokestatic 59, 3) := by decide +kernel
theorem dX7_end_11 : decode cX7_end 11 = .ok (.ifCond .ne 5, 3) := by decide +kernel
theorem dX7_end_14 : decode cX7_end 14 = .ok (.iconst (-1), 1) := by decide +kernel
theorem dX7_end_15 : decode cX7_end 15 = .ok (.ireturn, 1) := by decide +kernel
theorem dX7_end_16 : decode cX7_end 16 = .ok (.aload_n 0, 1) := by decide +kernel
theorem dX7_end_17 : decode cX7_end 17 = .ok (.getfield 63, 3) := by decide +kernel
theorem dX7_end_20 : decode cX7_end 20 = .ok (.istore_n 2, 1) := by decide +kernel
theorem dX7_end_21 : decode cX7_end 21 = .ok (.aload_n 0, 1) := by decide +kernel
theorem dX7_end_22 : decode cX7_end 22 = .ok (.iload_n 1, 1) := by decide +kernel
theorem dX7_end_23 : decode cX7_end 23 = .ok (.putfield 63, 3) := by decide +kernel
theorem dX7_end_26 : decode cX7_end 26 = .ok (.iload_n 2, 1) := by decide +kernel
theorem dX7_end_27 : decode cX7_end 27 = .ok (.ireturn, 1) := by decide +kernel
theorem dX7_requires_0 : decode cX7_requires 0 = .ok (.iload_n 1, 1) := by decide +kernel
theorem dX7_requires_1 : decode cX7_requires 1 = .ok (.ifCond .ne 23, 3) := by decide +kernel
theorem dX7_requires_4 : decode cX7_requires 4 = .ok (.aload_n 0, 1) := by decide +kernel
theorem dX7_requires_5 : decode cX7_requires 5 = .ok (.getfield 67, 3) := by decide +kernel
theorem dX7_requires_8 : decode cX7_requires 8 = .ok (.ifCond .ne 16, 3) := by decide +kernel
theorem dX7_requires_11 : decode cX7_requires 11 = .ok (.aload_n 0, 1) := by decide +kernel
theorem dX7_requires_12 : decode cX7_requires 12 = .ok (.iload_n 2, 1) := by decide +kernel
theorem dX7_requires_13 : decode cX7_requires 13 = .ok (.putfield 67, 3) := by decide +kernel
theorem dX7_requires_16 : decode cX7_requires 16 = .ok (.aload_n 0, 1) := by decide +kernel
theorem dX7_requires_17 : decode cX7_requires 17 = .ok (.aload_n 0, 1) := by decide +kernel
theorem dX7_requires_18 : decode cX7_requires 18 = .ok (.getfield 70, 3) := by decide +kernel
theorem dX7_requires_21 : decode cX7_requires 21 = .ok (.putfield 73, 3) := by decide +kernel
theorem dX7_requires_24 : decode cX7_requires 24 = .ok (.return_, 1) := by decide +kernel
theorem dX7_byteAt_0 : decode cX7_byteAt 0 = .ok (.iload_n 1, 1) := by decide +kernel
theorem dX7_byteAt_1 : decode cX7_byteAt 1 = .ok (.aload_n 0, 1) := by decide +kernel
theorem dX7_byteAt_2 : decode cX7_byteAt 2 = .ok (.getfield 63, 3) := by decide +kernel
theorem dX7_byteAt_5 : decode cX7_byteAt 5 = .ok (.if_icmp .ge 12, 3) := by decide +kernel
theorem dX7_byteAt_8 : decode cX7_byteAt 8 = .ok (.aload_n 0, 1) := by decide +kernel
theorem dX7_byteAt_9 : decode cX7_byteAt 9 = .ok (.getfield 23, 3) := by decide +kernel
theorem dX7_byteAt_12 : decode cX7_byteAt 12 = .ok (.iload_n 1, 1) := by decide +kernel
theorem dX7_byteAt_13 : decode cX7_byteAt 13 = .ok (.iaload, 1) := by decide +kernel
theorem dX7_byteAt_14 : decode cX7_byteAt 14 = .ok (.goto 4, 3) := by decide +kernel
theorem dX7_byteAt_17 : decode cX7_byteAt 17 = .ok (.iconst (-1), 1) := by decide +kernel
theorem dX7_byteAt_18 : decode cX7_byteAt 18 = .ok (.ireturn, 1) := by decide +kernel
theorem dX7_is_0 : decode cX7_is 0 = .ok (.aload_n 0, 1) := by decide +kernel
theorem dX7_is_1 : decode cX7_is 1 = .ok (.getfield 76, 3) := by decide +kernel
theorem dX7_is_4 : decode cX7_is 4 = .ok (.aload_n 0, 1) := by decide +kernel
theorem dX7_is_5 : decode cX7_is 5 = .ok (.getfield 70, 3) := by decide +kernel
theorem dX7_is_8 : decode cX7_is 8 = .ok (.isub, 1) := by decide +kernel
theorem dX7_is_9 : decode cX7_is 9 = .ok (.iconst 5, 1) := by decide +kernel
theorem dX7_is_10 : decode cX7_is 10 = .ok (.if_icmp .ne 77, 3) := by decide +kernel
theorem dX7_is_13 : decode cX7_is 13 = .ok (.aload_n 0, 1) := by decide +kernel
theorem dX7_is_14 : decode cX7_is 14 = .ok (.aload_n 0, 1) := by decide +kernel
theorem dX7_is_15 : decode cX7_is 15 = .ok (.getfield 70, 3) := by decide +kernel
theorem dX7_is_18 : decode cX7_is 18 = .ok (.invokevirtual 79, 3) := by decide +kernel
theorem dX7_is_21 : decode cX7_is 21 = .ok (.iload_n 1, 1) := by decide +kernel
theorem dX7_is_22 : decode cX7_is 22 = .ok (.if_icmp .ne 65, 3) := by decide +kernel
theorem dX7_is_25 : decode cX7_is 25 = .ok (.aload_n 0, 1) := by decide +kernel
theorem dX7_is_26 : decode cX7_is 26 = .ok (.aload_n 0, 1) := by decide +kernel
theorem dX7_is_27 : decode cX7_is 27 = .ok (.getfield 70, 3) := by decide +kernel
theorem dX7_is_30 : decode cX7_is 30 = .ok (.iconst 1, 1) := by decide +kernel
theorem dX7_is_31 : decode cX7_is 31 = .ok (.iadd, 1) := by decide +kernel
theorem dX7_is_32 : decode cX7_is 32 = .ok (.invokevirtual 79, 3) := by decide +kernel
theorem dX7_is_35 : decode cX7_is 35 = .ok (.iload_n 2, 1) := by decide +kernel
theorem dX7_is_36 : decode cX7_is 36 = .ok (.if_icmp .ne 51, 3) := by decide +kernel
theorem dX7_is_39 : decode cX7_is 39 = .ok (.aload_n 0, 1) := by decide +kernel
theorem dX7_is_40 : decode cX7_is 40 = .ok (.aload_n 0, 1) := by decide +kernel
theorem dX7_is_41 : decode cX7_is 41 = .ok (.getfield 70, 3) := by decide +kernel
theorem dX7_is_44 : decode cX7_is 44 = .ok (.iconst 2, 1) := by decide +kernel
theorem dX7_is_45 : decode cX7_is 45 = .ok (.iadd, 1) := by decide +kernel
theorem dX7_is_46 : decode cX7_is 46 = .ok (.invokevirtual 79, 3) := by decide +kernel
theorem dX7_is_49 : decode cX7_is 49 = .ok (.iload_n 3, 1) := by decide +kernel
theorem dX7_is_50 : decode cX7_is 50 = .ok (.if_icmp .ne 37, 3) := by decide +kernel
theorem dX7_is_53 : decode cX7_is 53 = .ok (.aload_n 0, 1) := by decide +kernel
theorem dX7_is_54 : decode cX7_is 54 = .ok (.aload_n 0, 1) := by decide +kernel
theorem dX7_is_55 : decode cX7_is 55 = .ok (.getfield 70, 3) := by decide +kernel
theorem dX7_is_58 : decode cX7_is 58 = .ok (.iconst 3, 1) := by decide +kernel
theorem dX7_is_59 : decode cX7_is 59 = .ok (.iadd, 1) := by decide +kernel
theorem dX7_is_60 : decode cX7_is 60 = .ok (.invokevirtual 79, 3) := by decide +kernel
theorem dX7_is_63 : decode cX7_is 63 = .ok (.iload 4, 2) := by decide +kernel
theorem dX7_is_65 : decode cX7_is 65 = .ok (.if_icmp .ne 22, 3) := by decide +kernel
theorem dX7_is_68 : decode cX7_is 68 = .ok (.aload_n 0, 1) := by decide +kernel
theorem dX7_is_69 : decode cX7_is 69 = .ok (.aload_n 0, 1) := by decide +kernel
theorem dX7_is_70 : decode cX7_is 70 = .ok (.getfield 70, 3) := by decide +kernel
theorem dX7_is_73 : decode cX7_is 73 = .ok (.iconst 4, 1) := by decide +kernel
theorem dX7_is_74 : decode cX7_is 74 = .ok (.iadd, 1) := by decide +kernel
theorem dX7_is_75 : decode cX7_is 75 = .ok (.invokevirtual 79, 3) := by decide +kernel
theorem dX7_is_78 : decode cX7_is 78 = .ok (.iload 5, 2) := by decide +kernel
theorem dX7_is_80 : decode cX7_is 80 = .ok (.if_icmp .ne 7, 3) := by decide +kernel
theorem dX7_is_83 : decode cX7_is 83 = .ok (.iconst 1, 1) := by decide +kernel
theorem dX7_is_84 : decode cX7_is 84 = .ok (.goto 4, 3) := by decide +kernel
theorem dX7_is_87 : decode cX7_is 87 = .ok (.iconst 0, 1) := by decide +kernel
theorem dX7_is_88 : decode cX7_is 88 = .ok (.ireturn, 1) := by decide +kernel
theorem dX7_lineNow_0 : decode cX7_lineNow 0 = .ok (.aload_n 0, 1) := by decide +kernel
theorem dX7_lineNow_1 : decode cX7_lineNow 1 = .ok (.bipush 112, 2) := by decide +kernel
theorem dX7_lineNow_3 : decode cX7_lineNow 3 = .ok (.bipush 108, 2) := by decide +kernel
theorem dX7_lineNow_5 : decode cX7_lineNow 5 = .ok (.bipush 97, 2) := by decide +kernel
theorem dX7_lineNow_7 : decode cX7_lineNow 7 = .ok (.bipush 105, 2) := by decide +kernel
theorem dX7_lineNow_9 : decode cX7_lineNow 9 = .ok (.bipush 110, 2) := by decide +kernel
theorem dX7_lineNow_11 : decode cX7_lineNow 11 = .ok (.invokevirtual 83, 3) := by decide +kernel
theorem dX7_lineNow_14 : decode cX7_lineNow 14 = .ok (.ifCond .eq 5, 3) := by decide +kernel
theorem dX7_lineNow_17 : decode cX7_lineNow 17 = .ok (.iconst 0, 1) := by decide +kernel
theorem dX7_lineNow_18 : decode cX7_lineNow 18 = .ok (.ireturn, 1) := by decide +kernel
theorem dX7_lineNow_19 : decode cX7_lineNow 19 = .ok (.aload_n 0, 1) := by decide +kernel
theorem dX7_lineNow_20 : decode cX7_lineNow 20 = .ok (.bipush 113, 2) := by decide +kernel
theorem dX7_lineNow_22 : decode cX7_lineNow 22 = .ok (.bipush 117, 2) := by decide +kernel
theorem dX7_lineNow_24 : decode cX7_lineNow 24 = .ok (.bipush 105, 2) := by decide +kernel
theorem dX7_lineNow_26 : decode cX7_lineNow 26 = .ok (.bipush 99, 2) := by decide +kernel
theorem dX7_lineNow_28 : decode cX7_lineNow 28 = .ok (.bipush 107, 2) := by decide +kernel
theorem dX7_lineNow_30 : decode cX7_lineNow 30 = .ok (.invokevirtual 83, 3) := by decide +kernel
theorem dX7_lineNow_33 : decode cX7_lineNow 33 = .ok (.ifCond .eq 5, 3) := by decide +kernel
theorem dX7_lineNow_36 : decode cX7_lineNow 36 = .ok (.iconst 1, 1) := by decide +kernel
theorem dX7_lineNow_37 : decode cX7_lineNow 37 = .ok (.ireturn, 1) := by decide +kernel
theorem dX7_lineNow_38 : decode cX7_lineNow 38 = .ok (.aload_n 0, 1) := by decide +kernel
theorem dX7_lineNow_39 : decode cX7_lineNow 39 = .ok (.bipush 104, 2) := by decide +kernel
theorem dX7_lineNow_41 : decode cX7_lineNow 41 = .ok (.bipush 101, 2) := by decide +kernel
theorem dX7_lineNow_43 : decode cX7_lineNow 43 = .ok (.bipush 97, 2) := by decide +kernel
theorem dX7_lineNow_45 : decode cX7_lineNow 45 = .ok (.bipush 118, 2) := by decide +kernel
theorem dX7_lineNow_47 : decode cX7_lineNow 47 = .ok (.bipush 121, 2) := by decide +kernel
theorem dX7_lineNow_49 : decode cX7_lineNow 49 = .ok (.invokevirtual 83, 3) := by decide +kernel
theorem dX7_lineNow_52 : decode cX7_lineNow 52 = .ok (.ifCond .eq 5, 3) := by decide +kernel
theorem dX7_lineNow_55 : decode cX7_lineNow 55 = .ok (.iconst 2, 1) := by decide +kernel
theorem dX7_lineNow_56 : decode cX7_lineNow 56 = .ok (.ireturn, 1) := by decide +kernel
theorem dX7_lineNow_57 : decode cX7_lineNow 57 = .ok (.aload_n 0, 1) := by decide +kernel
theorem dX7_lineNow_58 : decode cX7_lineNow 58 = .ok (.bipush 115, 2) := by decide +kernel
theorem dX7_lineNow_60 : decode cX7_lineNow 60 = .ok (.bipush 116, 2) := by decide +kernel
theorem dX7_lineNow_62 : decode cX7_lineNow 62 = .ok (.bipush 105, 2) := by decide +kernel
theorem dX7_lineNow_64 : decode cX7_lineNow 64 = .ok (.bipush 102, 2) := by decide +kernel
theorem dX7_lineNow_66 : decode cX7_lineNow 66 = .ok (.bipush 102, 2) := by decide +kernel
theorem dX7_lineNow_68 : decode cX7_lineNow 68 = .ok (.invokevirtual 83, 3) := by decide +kernel
theorem dX7_lineNow_71 : decode cX7_lineNow 71 = .ok (.ifCond .eq 5, 3) := by decide +kernel
theorem dX7_lineNow_74 : decode cX7_lineNow 74 = .ok (.iconst 3, 1) := by decide +kernel
theorem dX7_lineNow_75 : decode cX7_lineNow 75 = .ok (.ireturn, 1) := by decide +kernel
theorem dX7_lineNow_76 : decode cX7_lineNow 76 = .ok (.aload_n 0, 1) := by decide +kernel
theorem dX7_lineNow_77 : decode cX7_lineNow 77 = .ok (.bipush 115, 2) := by decide +kernel
theorem dX7_lineNow_79 : decode cX7_lineNow 79 = .ok (.bipush 105, 2) := by decide +kernel
theorem dX7_lineNow_81 : decode cX7_lineNow 81 = .ok (.bipush 103, 2) := by decide +kernel
theorem dX7_lineNow_83 : decode cX7_lineNow 83 = .ok (.bipush 110, 2) := by decide +kernel
theorem dX7_lineNow_85 : decode cX7_lineNow 85 = .ok (.bipush 115, 2) := by decide +kernel
theorem dX7_lineNow_87 : decode cX7_lineNow 87 = .ok (.invokevirtual 83, 3) := by decide +kernel
theorem dX7_lineNow_90 : decode cX7_lineNow 90 = .ok (.ifCond .eq 7, 3) := by decide +kernel
theorem dX7_lineNow_93 : decode cX7_lineNow 93 = .ok (.iconst 4, 1) := by decide +kernel
theorem dX7_lineNow_94 : decode cX7_lineNow 94 = .ok (.goto 26, 3) := by decide +kernel
theorem dX7_lineNow_97 : decode cX7_lineNow 97 = .ok (.aload_n 0, 1) := by decide +kernel
theorem dX7_lineNow_98 : decode cX7_lineNow 98 = .ok (.bipush 101, 2) := by decide +kernel
theorem dX7_lineNow_100 : decode cX7_lineNow 100 = .ok (.bipush 118, 2) := by decide +kernel
theorem dX7_lineNow_102 : decode cX7_lineNow 102 = .ok (.bipush 101, 2) := by decide +kernel
theorem dX7_lineNow_104 : decode cX7_lineNow 104 = .ok (.bipush 114, 2) := by decide +kernel
theorem dX7_lineNow_106 : decode cX7_lineNow 106 = .ok (.bipush 121, 2) := by decide +kernel
theorem dX7_lineNow_108 : decode cX7_lineNow 108 = .ok (.invokevirtual 83, 3) := by decide +kernel
theorem dX7_lineNow_111 : decode cX7_lineNow 111 = .ok (.ifCond .eq 7, 3) := by decide +kernel
theorem dX7_lineNow_114 : decode cX7_lineNow 114 = .ok (.iconst 5, 1) := by decide +kernel
theorem dX7_lineNow_115 : decode cX7_lineNow 115 = .ok (.goto 5, 3) := by decide +kernel
theorem dX7_lineNow_118 : decode cX7_lineNow 118 = .ok (.bipush (-4), 2) := by decide +kernel
theorem dX7_lineNow_120 : decode cX7_lineNow 120 = .ok (.ireturn, 1) := by decide +kernel
theorem dX7_reads_0 : decode cX7_reads 0 = .ok (.aload_n 0, 1) := by decide +kernel
theorem dX7_reads_1 : decode cX7_reads 1 = .ok (.getfield 67, 3) := by decide +kernel
theorem dX7_reads_4 : decode cX7_reads 4 = .ok (.ifCond .le 4, 3) := by decide +kernel
theorem dX7_reads_7 : decode cX7_reads 7 = .ok (.return_, 1) := by decide +kernel
theorem dX7_reads_8 : decode cX7_reads 8 = .ok (.aload_n 0, 1) := by decide +kernel
theorem dX7_reads_9 : decode cX7_reads 9 = .ok (.aload_n 0, 1) := by decide +kernel
theorem dX7_reads_10 : decode cX7_reads 10 = .ok (.getfield 76, 3) := by decide +kernel
theorem dX7_reads_13 : decode cX7_reads 13 = .ok (.invokevirtual 79, 3) := by decide +kernel
theorem dX7_reads_16 : decode cX7_reads 16 = .ok (.bipush 32, 2) := by decide +kernel
theorem dX7_reads_18 : decode cX7_reads 18 = .ok (.if_icmp .ne 16, 3) := by decide +kernel
theorem dX7_reads_21 : decode cX7_reads 21 = .ok (.aload_n 0, 1) := by decide +kernel
theorem dX7_reads_22 : decode cX7_reads 22 = .ok (.dup, 1) := by decide +kernel
theorem dX7_reads_23 : decode cX7_reads 23 = .ok (.getfield 76, 3) := by decide +kernel
theorem dX7_reads_26 : decode cX7_reads 26 = .ok (.iconst 1, 1) := by decide +kernel
theorem dX7_reads_27 : decode cX7_reads 27 = .ok (.iadd, 1) := by decide +kernel
theorem dX7_reads_28 : decode cX7_reads 28 = .ok (.putfield 76, 3) := by decide +kernel
theorem dX7_reads_31 : decode cX7_reads 31 = .ok (.goto (-23), 3) := by decide +kernel
theorem dX7_reads_34 : decode cX7_reads 34 = .ok (.aload_n 0, 1) := by decide +kernel
theorem dX7_reads_35 : decode cX7_reads 35 = .ok (.aload_n 0, 1) := by decide +kernel
theorem dX7_reads_36 : decode cX7_reads 36 = .ok (.getfield 76, 3) := by decide +kernel
theorem dX7_reads_39 : decode cX7_reads 39 = .ok (.putfield 70, 3) := by decide +kernel
theorem dX7_reads_42 : decode cX7_reads 42 = .ok (.aload_n 0, 1) := by decide +kernel
theorem dX7_reads_43 : decode cX7_reads 43 = .ok (.aload_n 0, 1) := by decide +kernel
theorem dX7_reads_44 : decode cX7_reads 44 = .ok (.getfield 76, 3) := by decide +kernel
theorem dX7_reads_47 : decode cX7_reads 47 = .ok (.invokevirtual 79, 3) := by decide +kernel
theorem dX7_reads_50 : decode cX7_reads 50 = .ok (.istore_n 1, 1) := by decide +kernel
theorem dX7_reads_51 : decode cX7_reads 51 = .ok (.iload_n 1, 1) := by decide +kernel
theorem dX7_reads_52 : decode cX7_reads 52 = .ok (.ifCond .ge 11, 3) := by decide +kernel
theorem dX7_reads_55 : decode cX7_reads 55 = .ok (.aload_n 0, 1) := by decide +kernel
theorem dX7_reads_56 : decode cX7_reads 56 = .ok (.iconst 0, 1) := by decide +kernel
theorem dX7_reads_57 : decode cX7_reads 57 = .ok (.putfield 87, 3) := by decide +kernel
theorem dX7_reads_60 : decode cX7_reads 60 = .ok (.goto 214, 3) := by decide +kernel
theorem dX7_reads_63 : decode cX7_reads 63 = .ok (.iload_n 1, 1) := by decide +kernel
theorem dX7_reads_64 : decode cX7_reads 64 = .ok (.i2l, 1) := by decide +kernel
theorem dX7_reads_65 : decode cX7_reads 65 = .ok (.ldc2_w 90, 3) := by decide +kernel
theorem dX7_reads_68 : decode cX7_reads 68 = .ok (.ldc2_w 92, 3) := by decide +kernel
theorem dX7_reads_71 : decode cX7_reads 71 = .ok (.invokestatic 59, 3) := by decide +kernel
theorem dX7_reads_74 : decode cX7_reads 74 = .ok (.ifCond .eq 42, 3) := by decide +kernel
theorem dX7_reads_77 : decode cX7_reads 77 = .ok (.aload_n 0, 1) := by decide +kernel
theorem dX7_reads_78 : decode cX7_reads 78 = .ok (.iconst 1, 1) := by decide +kernel
theorem dX7_reads_79 : decode cX7_reads 79 = .ok (.putfield 87, 3) := by decide +kernel
theorem dX7_reads_82 : decode cX7_reads 82 = .ok (.aload_n 0, 1) := by decide +kernel
theorem dX7_reads_83 : decode cX7_reads 83 = .ok (.aload_n 0, 1) := by decide +kernel
theorem dX7_reads_84 : decode cX7_reads 84 = .ok (.getfield 76, 3) := by decide +kernel
theorem dX7_reads_87 : decode cX7_reads 87 = .ok (.invokevirtual 79, 3) := by decide +kernel
theorem dX7_reads_90 : decode cX7_reads 90 = .ok (.i2l, 1) := by decide +kernel
theorem dX7_reads_91 : decode cX7_reads 91 = .ok (.ldc2_w 90, 3) := by decide +kernel
theorem dX7_reads_94 : decode cX7_reads 94 = .ok (.ldc2_w 92, 3) := by decide +kernel
theorem dX7_reads_97 : decode cX7_reads 97 = .ok (.invokestatic 59, 3) := by decide +kernel
theorem dX7_reads_100 : decode cX7_reads 100 = .ok (.ifCond .eq 174, 3) := by decide +kernel
theorem dX7_reads_103 : decode cX7_reads 103 = .ok (.aload_n 0, 1) := by decide +kernel
theorem dX7_reads_104 : decode cX7_reads 104 = .ok (.dup, 1) := by decide +kernel
theorem dX7_reads_105 : decode cX7_reads 105 = .ok (.getfield 76, 3) := by decide +kernel
theorem dX7_reads_108 : decode cX7_reads 108 = .ok (.iconst 1, 1) := by decide +kernel
theorem dX7_reads_109 : decode cX7_reads 109 = .ok (.iadd, 1) := by decide +kernel
theorem dX7_reads_110 : decode cX7_reads 110 = .ok (.putfield 76, 3) := by decide +kernel
theorem dX7_reads_113 : decode cX7_reads 113 = .ok (.goto (-31), 3) := by decide +kernel
theorem dX7_reads_116 : decode cX7_reads 116 = .ok (.iload_n 1, 1) := by decide +kernel
theorem dX7_reads_117 : decode cX7_reads 117 = .ok (.i2l, 1) := by decide +kernel
theorem dX7_reads_118 : decode cX7_reads 118 = .ok (.ldc2_w 94, 3) := by decide +kernel
theorem dX7_reads_121 : decode cX7_reads 121 = .ok (.ldc2_w 96, 3) := by decide +kernel
theorem dX7_reads_124 : decode cX7_reads 124 = .ok (.invokestatic 59, 3) := by decide +kernel
theorem dX7_reads_127 : decode cX7_reads 127 = .ok (.ifCond .eq 116, 3) := by decide +kernel
theorem dX7_reads_130 : decode cX7_reads 130 = .ok (.aload_n 0, 1) := by decide +kernel
theorem dX7_reads_131 : decode cX7_reads 131 = .ok (.iconst 2, 1) := by decide +kernel
theorem dX7_reads_132 : decode cX7_reads 132 = .ok (.putfield 87, 3) := by decide +kernel
theorem dX7_reads_135 : decode cX7_reads 135 = .ok (.aload_n 0, 1) := by decide +kernel
theorem dX7_reads_136 : decode cX7_reads 136 = .ok (.iconst 0, 1) := by decide +kernel
theorem dX7_reads_137 : decode cX7_reads 137 = .ok (.putfield 98, 3) := by decide +kernel
theorem dX7_reads_140 : decode cX7_reads 140 = .ok (.aload_n 0, 1) := by decide +kernel
theorem dX7_reads_141 : decode cX7_reads 141 = .ok (.aload_n 0, 1) := by decide +kernel
theorem dX7_reads_142 : decode cX7_reads 142 = .ok (.getfield 76, 3) := by decide +kernel
theorem dX7_reads_145 : decode cX7_reads 145 = .ok (.invokevirtual 79, 3) := by decide +kernel
theorem dX7_reads_148 : decode cX7_reads 148 = .ok (.i2l, 1) := by decide +kernel
theorem dX7_reads_149 : decode cX7_reads 149 = .ok (.ldc2_w 94, 3) := by decide +kernel
theorem dX7_reads_152 : decode cX7_reads 152 = .ok (.ldc2_w 96, 3) := by decide +kernel
theorem dX7_reads_155 : decode cX7_reads 155 = .ok (.invokestatic 59, 3) := by decide +kernel
theorem dX7_reads_158 : decode cX7_reads 158 = .ok (.ifCond .eq 59, 3) := by decide +kernel
theorem dX7_reads_161 : decode cX7_reads 161 = .ok (.aload_n 0, 1) := by decide +kernel
theorem dX7_reads_162 : decode cX7_reads 162 = .ok (.aload_n 0, 1) := by decide +kernel
theorem dX7_reads_163 : decode cX7_reads 163 = .ok (.getfield 76, 3) := by decide +kernel
theorem dX7_reads_166 : decode cX7_reads 166 = .ok (.aload_n 0, 1) := by decide +kernel
theorem dX7_reads_167 : decode cX7_reads 167 = .ok (.getfield 70, 3) := by decide +kernel
theorem dX7_reads_170 : decode cX7_reads 170 = .ok (.isub, 1) := by decide +kernel
theorem dX7_reads_171 : decode cX7_reads 171 = .ok (.iconst 2, 1) := by decide +kernel
theorem dX7_reads_172 : decode cX7_reads 172 = .ok (.if_icmp .ge 25, 3) := by decide +kernel
theorem dX7_reads_175 : decode cX7_reads 175 = .ok (.bipush 10, 2) := by decide +kernel
theorem dX7_reads_177 : decode cX7_reads 177 = .ok (.aload_n 0, 1) := by decide +kernel
theorem dX7_reads_178 : decode cX7_reads 178 = .ok (.getfield 98, 3) := by decide +kernel
theorem dX7_reads_181 : decode cX7_reads 181 = .ok (.imul, 1) := by decide +kernel
theorem dX7_reads_182 : decode cX7_reads 182 = .ok (.aload_n 0, 1) := by decide +kernel
theorem dX7_reads_183 : decode cX7_reads 183 = .ok (.aload_n 0, 1) := by decide +kernel
theorem dX7_reads_184 : decode cX7_reads 184 = .ok (.getfield 76, 3) := by decide +kernel
theorem dX7_reads_187 : decode cX7_reads 187 = .ok (.invokevirtual 79, 3) := by decide +kernel
theorem dX7_reads_190 : decode cX7_reads 190 = .ok (.iadd, 1) := by decide +kernel
theorem dX7_reads_191 : decode cX7_reads 191 = .ok (.bipush 48, 2) := by decide +kernel
theorem dX7_reads_193 : decode cX7_reads 193 = .ok (.isub, 1) := by decide +kernel
theorem dX7_reads_194 : decode cX7_reads 194 = .ok (.goto 7, 3) := by decide +kernel
theorem dX7_reads_197 : decode cX7_reads 197 = .ok (.aload_n 0, 1) := by decide +kernel
theorem dX7_reads_198 : decode cX7_reads 198 = .ok (.getfield 98, 3) := by decide +kernel
theorem dX7_reads_201 : decode cX7_reads 201 = .ok (.putfield 98, 3) := by decide +kernel
theorem dX7_reads_204 : decode cX7_reads 204 = .ok (.aload_n 0, 1) := by decide +kernel
theorem dX7_reads_205 : decode cX7_reads 205 = .ok (.dup, 1) := by decide +kernel
theorem dX7_reads_206 : decode cX7_reads 206 = .ok (.getfield 76, 3) := by decide +kernel
theorem dX7_reads_209 : decode cX7_reads 209 = .ok (.iconst 1, 1) := by decide +kernel
theorem dX7_reads_210 : decode cX7_reads 210 = .ok (.iadd, 1) := by decide +kernel
theorem dX7_reads_211 : decode cX7_reads 211 = .ok (.putfield 76, 3) := by decide +kernel
theorem dX7_reads_214 : decode cX7_reads 214 = .ok (.goto (-74), 3) := by decide +kernel
theorem dX7_reads_217 : decode cX7_reads 217 = .ok (.aload_n 0, 1) := by decide +kernel
theorem dX7_reads_218 : decode cX7_reads 218 = .ok (.aload_n 0, 1) := by decide +kernel
theorem dX7_reads_219 : decode cX7_reads 219 = .ok (.getfield 76, 3) := by decide +kernel
theorem dX7_reads_222 : decode cX7_reads 222 = .ok (.aload_n 0, 1) := by decide +kernel
theorem dX7_reads_223 : decode cX7_reads 223 = .ok (.getfield 70, 3) := by decide +kernel
theorem dX7_reads_226 : decode cX7_reads 226 = .ok (.isub, 1) := by decide +kernel
theorem dX7_reads_227 : decode cX7_reads 227 = .ok (.iconst 2, 1) := by decide +kernel
theorem dX7_reads_228 : decode cX7_reads 228 = .ok (.if_icmp .gt 7, 3) := by decide +kernel
theorem dX7_reads_231 : decode cX7_reads 231 = .ok (.iconst 1, 1) := by decide +kernel
theorem dX7_reads_232 : decode cX7_reads 232 = .ok (.goto 4, 3) := by decide +kernel
theorem dX7_reads_235 : decode cX7_reads 235 = .ok (.iconst 0, 1) := by decide +kernel
theorem dX7_reads_236 : decode cX7_reads 236 = .ok (.iconst 1, 1) := by decide +kernel
theorem dX7_reads_237 : decode cX7_reads 237 = .ok (.invokevirtual 101, 3) := by decide +kernel
theorem dX7_reads_240 : decode cX7_reads 240 = .ok (.goto 34, 3) := by decide +kernel
theorem dX7_reads_243 : decode cX7_reads 243 = .ok (.aload_n 0, 1) := by decide +kernel
theorem dX7_reads_244 : decode cX7_reads 244 = .ok (.iconst 3, 1) := by decide +kernel
theorem dX7_reads_245 : decode cX7_reads 245 = .ok (.putfield 87, 3) := by decide +kernel
theorem dX7_reads_248 : decode cX7_reads 248 = .ok (.aload_n 0, 1) := by decide +kernel
theorem dX7_reads_249 : decode cX7_reads 249 = .ok (.iload_n 1, 1) := by decide +kernel
theorem dX7_reads_250 : decode cX7_reads 250 = .ok (.bipush 59, 2) := by decide +kernel
theorem dX7_reads_252 : decode cX7_reads 252 = .ok (.if_icmp .ne 7, 3) := by decide +kernel
theorem dX7_reads_255 : decode cX7_reads 255 = .ok (.iconst 1, 1) := by decide +kernel
theorem dX7_reads_256 : decode cX7_reads 256 = .ok (.goto 4, 3) := by decide +kernel
theorem dX7_reads_259 : decode cX7_reads 259 = .ok (.iconst 0, 1) := by decide +kernel
theorem dX7_reads_260 : decode cX7_reads 260 = .ok (.iconst 1, 1) := by decide +kernel
theorem dX7_reads_261 : decode cX7_reads 261 = .ok (.invokevirtual 101, 3) := by decide +kernel
theorem dX7_reads_264 : decode cX7_reads 264 = .ok (.aload_n 0, 1) := by decide +kernel
theorem dX7_reads_265 : decode cX7_reads 265 = .ok (.dup, 1) := by decide +kernel
theorem dX7_reads_266 : decode cX7_reads 266 = .ok (.getfield 76, 3) := by decide +kernel
theorem dX7_reads_269 : decode cX7_reads 269 = .ok (.iconst 1, 1) := by decide +kernel
theorem dX7_reads_270 : decode cX7_reads 270 = .ok (.iadd, 1) := by decide +kernel
theorem dX7_reads_271 : decode cX7_reads 271 = .ok (.putfield 76, 3) := by decide +kernel
theorem dX7_reads_274 : decode cX7_reads 274 = .ok (.return_, 1) := by decide +kernel
theorem dX7_readNumber_0 : decode cX7_readNumber 0 = .ok (.aload_n 0, 1) := by decide +kernel
theorem dX7_readNumber_1 : decode cX7_readNumber 1 = .ok (.getfield 67, 3) := by decide +kernel
theorem dX7_readNumber_4 : decode cX7_readNumber 4 = .ok (.ifCond .ne 21, 3) := by decide +kernel
theorem dX7_readNumber_7 : decode cX7_readNumber 7 = .ok (.aload_n 0, 1) := by decide +kernel
theorem dX7_readNumber_8 : decode cX7_readNumber 8 = .ok (.aload_n 0, 1) := by decide +kernel
theorem dX7_readNumber_9 : decode cX7_readNumber 9 = .ok (.getfield 87, 3) := by decide +kernel
theorem dX7_readNumber_12 : decode cX7_readNumber 12 = .ok (.iconst 2, 1) := by decide +kernel
theorem dX7_readNumber_13 : decode cX7_readNumber 13 = .ok (.if_icmp .ne 7, 3) := by decide +kernel
theorem dX7_readNumber_16 : decode cX7_readNumber 16 = .ok (.iconst 1, 1) := by decide +kernel
theorem dX7_readNumber_17 : decode cX7_readNumber 17 = .ok (.goto 4, 3) := by decide +kernel
theorem dX7_readNumber_20 : decode cX7_readNumber 20 = .ok (.iconst 0, 1) := by decide +kernel
theorem dX7_readNumber_21 : decode cX7_readNumber 21 = .ok (.iconst 2, 1) := by decide +kernel
theorem dX7_readNumber_22 : decode cX7_readNumber 22 = .ok (.invokevirtual 101, 3) := by decide +kernel
theorem dX7_readNumber_25 : decode cX7_readNumber 25 = .ok (.aload_n 0, 1) := by decide +kernel
theorem dX7_readNumber_26 : decode cX7_readNumber 26 = .ok (.getfield 67, 3) := by decide +kernel
theorem dX7_readNumber_29 : decode cX7_readNumber 29 = .ok (.ifCond .ne 20, 3) := by decide +kernel
theorem dX7_readNumber_32 : decode cX7_readNumber 32 = .ok (.aload_n 0, 1) := by decide +kernel
theorem dX7_readNumber_33 : decode cX7_readNumber 33 = .ok (.aload_n 0, 1) := by decide +kernel
theorem dX7_readNumber_34 : decode cX7_readNumber 34 = .ok (.getfield 98, 3) := by decide +kernel
theorem dX7_readNumber_37 : decode cX7_readNumber 37 = .ok (.i2l, 1) := by decide +kernel
theorem dX7_readNumber_38 : decode cX7_readNumber 38 = .ok (.iload_n 1, 1) := by decide +kernel
theorem dX7_readNumber_39 : decode cX7_readNumber 39 = .ok (.i2l, 1) := by decide +kernel
theorem dX7_readNumber_40 : decode cX7_readNumber 40 = .ok (.iload_n 2, 1) := by decide +kernel
theorem dX7_readNumber_41 : decode cX7_readNumber 41 = .ok (.i2l, 1) := by decide +kernel
theorem dX7_readNumber_42 : decode cX7_readNumber 42 = .ok (.invokestatic 59, 3) := by decide +kernel
theorem dX7_readNumber_45 : decode cX7_readNumber 45 = .ok (.iconst 3, 1) := by decide +kernel
theorem dX7_readNumber_46 : decode cX7_readNumber 46 = .ok (.invokevirtual 101, 3) := by decide +kernel
theorem dX7_readNumber_49 : decode cX7_readNumber 49 = .ok (.aload_n 0, 1) := by decide +kernel
theorem dX7_readNumber_50 : decode cX7_readNumber 50 = .ok (.getfield 67, 3) := by decide +kernel
theorem dX7_readNumber_53 : decode cX7_readNumber 53 = .ok (.ifCond .ne 10, 3) := by decide +kernel
theorem dX7_readNumber_56 : decode cX7_readNumber 56 = .ok (.aload_n 0, 1) := by decide +kernel
theorem dX7_readNumber_57 : decode cX7_readNumber 57 = .ok (.getfield 98, 3) := by decide +kernel
theorem dX7_readNumber_60 : decode cX7_readNumber 60 = .ok (.goto 4, 3) := by decide +kernel
theorem dX7_readNumber_63 : decode cX7_readNumber 63 = .ok (.iconst 0, 1) := by decide +kernel
theorem dX7_readNumber_64 : decode cX7_readNumber 64 = .ok (.istore_n 3, 1) := by decide +kernel
theorem dX7_readNumber_65 : decode cX7_readNumber 65 = .ok (.aload_n 0, 1) := by decide +kernel
theorem dX7_readNumber_66 : decode cX7_readNumber 66 = .ok (.invokevirtual 105, 3) := by decide +kernel
theorem dX7_readNumber_69 : decode cX7_readNumber 69 = .ok (.iload_n 3, 1) := by decide +kernel
theorem dX7_readNumber_70 : decode cX7_readNumber 70 = .ok (.ireturn, 1) := by decide +kernel
theorem dX7_readSigns_0 : decode cX7_readSigns 0 = .ok (.aload_n 0, 1) := by decide +kernel
theorem dX7_readSigns_1 : decode cX7_readSigns 1 = .ok (.getfield 20, 3) := by decide +kernel
theorem dX7_readSigns_4 : decode cX7_readSigns 4 = .ok (.iconst 1, 1) := by decide +kernel
theorem dX7_readSigns_5 : decode cX7_readSigns 5 = .ok (.aload_n 0, 1) := by decide +kernel
theorem dX7_readSigns_6 : decode cX7_readSigns 6 = .ok (.iconst 0, 1) := by decide +kernel
theorem dX7_readSigns_7 : decode cX7_readSigns 7 = .ok (.iconst 3, 1) := by decide +kernel
theorem dX7_readSigns_8 : decode cX7_readSigns 8 = .ok (.invokevirtual 108, 3) := by decide +kernel
theorem dX7_readSigns_11 : decode cX7_readSigns 11 = .ok (.iastore, 1) := by decide +kernel
theorem dX7_readSigns_12 : decode cX7_readSigns 12 = .ok (.aload_n 0, 1) := by decide +kernel
theorem dX7_readSigns_13 : decode cX7_readSigns 13 = .ok (.getfield 20, 3) := by decide +kernel
theorem dX7_readSigns_16 : decode cX7_readSigns 16 = .ok (.bipush 17, 2) := by decide +kernel
theorem dX7_readSigns_18 : decode cX7_readSigns 18 = .ok (.iconst 1, 1) := by decide +kernel
theorem dX7_readSigns_19 : decode cX7_readSigns 19 = .ok (.iastore, 1) := by decide +kernel
theorem dX7_readSigns_20 : decode cX7_readSigns 20 = .ok (.aload_n 0, 1) := by decide +kernel
theorem dX7_readSigns_21 : decode cX7_readSigns 21 = .ok (.getfield 67, 3) := by decide +kernel
theorem dX7_readSigns_24 : decode cX7_readSigns 24 = .ok (.ifCond .ne 74, 3) := by decide +kernel
theorem dX7_readSigns_27 : decode cX7_readSigns 27 = .ok (.aload_n 0, 1) := by decide +kernel
theorem dX7_readSigns_28 : decode cX7_readSigns 28 = .ok (.getfield 87, 3) := by decide +kernel
theorem dX7_readSigns_31 : decode cX7_readSigns 31 = .ok (.iconst 2, 1) := by decide +kernel
theorem dX7_readSigns_32 : decode cX7_readSigns 32 = .ok (.if_icmp .ne 66, 3) := by decide +kernel
theorem dX7_readSigns_35 : decode cX7_readSigns 35 = .ok (.aload_n 0, 1) := by decide +kernel
theorem dX7_readSigns_36 : decode cX7_readSigns 36 = .ok (.aload_n 0, 1) := by decide +kernel
theorem dX7_readSigns_37 : decode cX7_readSigns 37 = .ok (.getfield 20, 3) := by decide +kernel
theorem dX7_readSigns_40 : decode cX7_readSigns 40 = .ok (.bipush 17, 2) := by decide +kernel
theorem dX7_readSigns_42 : decode cX7_readSigns 42 = .ok (.iaload, 1) := by decide +kernel
theorem dX7_readSigns_43 : decode cX7_readSigns 43 = .ok (.bipush 16, 2) := by decide +kernel
theorem dX7_readSigns_45 : decode cX7_readSigns 45 = .ok (.if_icmp .ge 7, 3) := by decide +kernel
theorem dX7_readSigns_48 : decode cX7_readSigns 48 = .ok (.iconst 1, 1) := by decide +kernel
theorem dX7_readSigns_49 : decode cX7_readSigns 49 = .ok (.goto 4, 3) := by decide +kernel
theorem dX7_readSigns_52 : decode cX7_readSigns 52 = .ok (.iconst 0, 1) := by decide +kernel
theorem dX7_readSigns_53 : decode cX7_readSigns 53 = .ok (.iconst 5, 1) := by decide +kernel
theorem dX7_readSigns_54 : decode cX7_readSigns 54 = .ok (.invokevirtual 101, 3) := by decide +kernel
theorem dX7_readSigns_57 : decode cX7_readSigns 57 = .ok (.aload_n 0, 1) := by decide +kernel
theorem dX7_readSigns_58 : decode cX7_readSigns 58 = .ok (.getfield 67, 3) := by decide +kernel
theorem dX7_readSigns_61 : decode cX7_readSigns 61 = .ok (.ifCond .ne (-41), 3) := by decide +kernel
theorem dX7_readSigns_64 : decode cX7_readSigns 64 = .ok (.aload_n 0, 1) := by decide +kernel
theorem dX7_readSigns_65 : decode cX7_readSigns 65 = .ok (.getfield 20, 3) := by decide +kernel
theorem dX7_readSigns_68 : decode cX7_readSigns 68 = .ok (.iconst 1, 1) := by decide +kernel
theorem dX7_readSigns_69 : decode cX7_readSigns 69 = .ok (.aload_n 0, 1) := by decide +kernel
theorem dX7_readSigns_70 : decode cX7_readSigns 70 = .ok (.getfield 20, 3) := by decide +kernel
theorem dX7_readSigns_73 : decode cX7_readSigns 73 = .ok (.bipush 17, 2) := by decide +kernel
theorem dX7_readSigns_75 : decode cX7_readSigns 75 = .ok (.iaload, 1) := by decide +kernel
theorem dX7_readSigns_76 : decode cX7_readSigns 76 = .ok (.iadd, 1) := by decide +kernel
theorem dX7_readSigns_77 : decode cX7_readSigns 77 = .ok (.aload_n 0, 1) := by decide +kernel
theorem dX7_readSigns_78 : decode cX7_readSigns 78 = .ok (.iconst 0, 1) := by decide +kernel
theorem dX7_readSigns_79 : decode cX7_readSigns 79 = .ok (.iconst 3, 1) := by decide +kernel
theorem dX7_readSigns_80 : decode cX7_readSigns 80 = .ok (.invokevirtual 108, 3) := by decide +kernel
theorem dX7_readSigns_83 : decode cX7_readSigns 83 = .ok (.iastore, 1) := by decide +kernel
theorem dX7_readSigns_84 : decode cX7_readSigns 84 = .ok (.aload_n 0, 1) := by decide +kernel
theorem dX7_readSigns_85 : decode cX7_readSigns 85 = .ok (.getfield 20, 3) := by decide +kernel
theorem dX7_readSigns_88 : decode cX7_readSigns 88 = .ok (.bipush 17, 2) := by decide +kernel
theorem dX7_readSigns_90 : decode cX7_readSigns 90 = .ok (.dup2, 1) := by decide +kernel
theorem dX7_readSigns_91 : decode cX7_readSigns 91 = .ok (.iaload, 1) := by decide +kernel
theorem dX7_readSigns_92 : decode cX7_readSigns 92 = .ok (.iconst 1, 1) := by decide +kernel
theorem dX7_readSigns_93 : decode cX7_readSigns 93 = .ok (.iadd, 1) := by decide +kernel
theorem dX7_readSigns_94 : decode cX7_readSigns 94 = .ok (.iastore, 1) := by decide +kernel
theorem dX7_readSigns_95 : decode cX7_readSigns 95 = .ok (.goto (-75), 3) := by decide +kernel
theorem dX7_readSigns_98 : decode cX7_readSigns 98 = .ok (.return_, 1) := by decide +kernel
theorem dX7_readLineOf_0 : decode cX7_readLineOf 0 = .ok (.iload_n 1, 1) := by decide +kernel
theorem dX7_readLineOf_1 : decode cX7_readLineOf 1 = .ok (.lookupswitch 51 #[(4, 27), (5, 34)], 27) := by decide +kernel
theorem dX7_readLineOf_28 : decode cX7_readLineOf 28 = .ok (.aload_n 0, 1) := by decide +kernel
theorem dX7_readLineOf_29 : decode cX7_readLineOf 29 = .ok (.invokevirtual 112, 3) := by decide +kernel
theorem dX7_readLineOf_32 : decode cX7_readLineOf 32 = .ok (.goto 82, 3) := by decide +kernel
theorem dX7_readLineOf_35 : decode cX7_readLineOf 35 = .ok (.aload_n 0, 1) := by decide +kernel
theorem dX7_readLineOf_36 : decode cX7_readLineOf 36 = .ok (.getfield 20, 3) := by decide +kernel
theorem dX7_readLineOf_39 : decode cX7_readLineOf 39 = .ok (.bipush 18, 2) := by decide +kernel
theorem dX7_readLineOf_41 : decode cX7_readLineOf 41 = .ok (.aload_n 0, 1) := by decide +kernel
theorem dX7_readLineOf_42 : decode cX7_readLineOf 42 = .ok (.iconst 1, 1) := by decide +kernel
theorem dX7_readLineOf_43 : decode cX7_readLineOf 43 = .ok (.bipush 9, 2) := by decide +kernel
theorem dX7_readLineOf_45 : decode cX7_readLineOf 45 = .ok (.invokevirtual 108, 3) := by decide +kernel
theorem dX7_readLineOf_48 : decode cX7_readLineOf 48 = .ok (.iastore, 1) := by decide +kernel
theorem dX7_readLineOf_49 : decode cX7_readLineOf 49 = .ok (.goto 65, 3) := by decide +kernel
theorem dX7_readLineOf_52 : decode cX7_readLineOf 52 = .ok (.bipush 20, 2) := by decide +kernel
theorem dX7_readLineOf_54 : decode cX7_readLineOf 54 = .ok (.iconst 4, 1) := by decide +kernel
theorem dX7_readLineOf_55 : decode cX7_readLineOf 55 = .ok (.aload_n 0, 1) := by decide +kernel
theorem dX7_readLineOf_56 : decode cX7_readLineOf 56 = .ok (.getfield 20, 3) := by decide +kernel
theorem dX7_readLineOf_59 : decode cX7_readLineOf 59 = .ok (.bipush 36, 2) := by decide +kernel
theorem dX7_readLineOf_61 : decode cX7_readLineOf 61 = .ok (.iaload, 1) := by decide +kernel
theorem dX7_readLineOf_62 : decode cX7_readLineOf 62 = .ok (.imul, 1) := by decide +kernel
theorem dX7_readLineOf_63 : decode cX7_readLineOf 63 = .ok (.iadd, 1) := by decide +kernel
theorem dX7_readLineOf_64 : decode cX7_readLineOf 64 = .ok (.istore_n 2, 1) := by decide +kernel
theorem dX7_readLineOf_65 : decode cX7_readLineOf 65 = .ok (.aload_n 0, 1) := by decide +kernel
theorem dX7_readLineOf_66 : decode cX7_readLineOf 66 = .ok (.getfield 20, 3) := by decide +kernel
theorem dX7_readLineOf_69 : decode cX7_readLineOf 69 = .ok (.iload_n 2, 1) := by decide +kernel
theorem dX7_readLineOf_70 : decode cX7_readLineOf 70 = .ok (.iconst 0, 1) := by decide +kernel
theorem dX7_readLineOf_71 : decode cX7_readLineOf 71 = .ok (.iadd, 1) := by decide +kernel
theorem dX7_readLineOf_72 : decode cX7_readLineOf 72 = .ok (.iload_n 1, 1) := by decide +kernel
theorem dX7_readLineOf_73 : decode cX7_readLineOf 73 = .ok (.iastore, 1) := by decide +kernel
theorem dX7_readLineOf_74 : decode cX7_readLineOf 74 = .ok (.aload_n 0, 1) := by decide +kernel
theorem dX7_readLineOf_75 : decode cX7_readLineOf 75 = .ok (.getfield 20, 3) := by decide +kernel
theorem dX7_readLineOf_78 : decode cX7_readLineOf 78 = .ok (.iload_n 2, 1) := by decide +kernel
theorem dX7_readLineOf_79 : decode cX7_readLineOf 79 = .ok (.iconst 1, 1) := by decide +kernel
theorem dX7_readLineOf_80 : decode cX7_readLineOf 80 = .ok (.iadd, 1) := by decide +kernel
theorem dX7_readLineOf_81 : decode cX7_readLineOf 81 = .ok (.aload_n 0, 1) := by decide +kernel
theorem dX7_readLineOf_82 : decode cX7_readLineOf 82 = .ok (.iconst 0, 1) := by decide +kernel
theorem dX7_readLineOf_83 : decode cX7_readLineOf 83 = .ok (.iconst 3, 1) := by decide +kernel
theorem dX7_readLineOf_84 : decode cX7_readLineOf 84 = .ok (.invokevirtual 108, 3) := by decide +kernel
theorem dX7_readLineOf_87 : decode cX7_readLineOf 87 = .ok (.iastore, 1) := by decide +kernel
theorem dX7_readLineOf_88 : decode cX7_readLineOf 88 = .ok (.aload_n 0, 1) := by decide +kernel
theorem dX7_readLineOf_89 : decode cX7_readLineOf 89 = .ok (.getfield 20, 3) := by decide +kernel
theorem dX7_readLineOf_92 : decode cX7_readLineOf 92 = .ok (.iload_n 2, 1) := by decide +kernel
theorem dX7_readLineOf_93 : decode cX7_readLineOf 93 = .ok (.iconst 2, 1) := by decide +kernel
theorem dX7_readLineOf_94 : decode cX7_readLineOf 94 = .ok (.iadd, 1) := by decide +kernel
theorem dX7_readLineOf_95 : decode cX7_readLineOf 95 = .ok (.aload_n 0, 1) := by decide +kernel
theorem dX7_readLineOf_96 : decode cX7_readLineOf 96 = .ok (.iconst 0, 1) := by decide +kernel
theorem dX7_readLineOf_97 : decode cX7_readLineOf 97 = .ok (.bipush 7, 2) := by decide +kernel
theorem dX7_readLineOf_99 : decode cX7_readLineOf 99 = .ok (.invokevirtual 108, 3) := by decide +kernel
theorem dX7_readLineOf_102 : decode cX7_readLineOf 102 = .ok (.iastore, 1) := by decide +kernel
theorem dX7_readLineOf_103 : decode cX7_readLineOf 103 = .ok (.aload_n 0, 1) := by decide +kernel
theorem dX7_readLineOf_104 : decode cX7_readLineOf 104 = .ok (.getfield 20, 3) := by decide +kernel
theorem dX7_readLineOf_107 : decode cX7_readLineOf 107 = .ok (.bipush 36, 2) := by decide +kernel
theorem dX7_readLineOf_109 : decode cX7_readLineOf 109 = .ok (.dup2, 1) := by decide +kernel
theorem dX7_readLineOf_110 : decode cX7_readLineOf 110 = .ok (.iaload, 1) := by decide +kernel
theorem dX7_readLineOf_111 : decode cX7_readLineOf 111 = .ok (.iconst 1, 1) := by decide +kernel
theorem dX7_readLineOf_112 : decode cX7_readLineOf 112 = .ok (.iadd, 1) := by decide +kernel
theorem dX7_readLineOf_113 : decode cX7_readLineOf 113 = .ok (.iastore, 1) := by decide +kernel
theorem dX7_readLineOf_114 : decode cX7_readLineOf 114 = .ok (.return_, 1) := by decide +kernel
theorem dX7_readLine_0 : decode cX7_readLine 0 = .ok (.aload_n 0, 1) := by decide +kernel
theorem dX7_readLine_1 : decode cX7_readLine 1 = .ok (.getfield 87, 3) := by decide +kernel
theorem dX7_readLine_4 : decode cX7_readLine 4 = .ok (.iconst 1, 1) := by decide +kernel
theorem dX7_readLine_5 : decode cX7_readLine 5 = .ok (.if_icmp .ne 10, 3) := by decide +kernel
theorem dX7_readLine_8 : decode cX7_readLine 8 = .ok (.aload_n 0, 1) := by decide +kernel
theorem dX7_readLine_9 : decode cX7_readLine 9 = .ok (.invokevirtual 115, 3) := by decide +kernel
theorem dX7_readLine_12 : decode cX7_readLine 12 = .ok (.goto 5, 3) := by decide +kernel
theorem dX7_readLine_15 : decode cX7_readLine 15 = .ok (.bipush (-4), 2) := by decide +kernel
theorem dX7_readLine_17 : decode cX7_readLine 17 = .ok (.istore_n 1, 1) := by decide +kernel
theorem dX7_readLine_18 : decode cX7_readLine 18 = .ok (.aload_n 0, 1) := by decide +kernel
theorem dX7_readLine_19 : decode cX7_readLine 19 = .ok (.iload_n 1, 1) := by decide +kernel
theorem dX7_readLine_20 : decode cX7_readLine 20 = .ok (.bipush (-4), 2) := by decide +kernel
theorem dX7_readLine_22 : decode cX7_readLine 22 = .ok (.if_icmp .eq 7, 3) := by decide +kernel
theorem dX7_readLine_25 : decode cX7_readLine 25 = .ok (.iconst 1, 1) := by decide +kernel
theorem dX7_readLine_26 : decode cX7_readLine 26 = .ok (.goto 4, 3) := by decide +kernel
theorem dX7_readLine_29 : decode cX7_readLine 29 = .ok (.iconst 0, 1) := by decide +kernel
theorem dX7_readLine_30 : decode cX7_readLine 30 = .ok (.iconst 2, 1) := by decide +kernel
theorem dX7_readLine_31 : decode cX7_readLine 31 = .ok (.invokevirtual 101, 3) := by decide +kernel
theorem dX7_readLine_34 : decode cX7_readLine 34 = .ok (.aload_n 0, 1) := by decide +kernel
theorem dX7_readLine_35 : decode cX7_readLine 35 = .ok (.iload_n 1, 1) := by decide +kernel
theorem dX7_readLine_36 : decode cX7_readLine 36 = .ok (.iconst 4, 1) := by decide +kernel
theorem dX7_readLine_37 : decode cX7_readLine 37 = .ok (.if_icmp .ge 14, 3) := by decide +kernel
theorem dX7_readLine_40 : decode cX7_readLine 40 = .ok (.aload_n 0, 1) := by decide +kernel
theorem dX7_readLine_41 : decode cX7_readLine 41 = .ok (.getfield 20, 3) := by decide +kernel
theorem dX7_readLine_44 : decode cX7_readLine 44 = .ok (.bipush 36, 2) := by decide +kernel
theorem dX7_readLine_46 : decode cX7_readLine 46 = .ok (.iaload, 1) := by decide +kernel
theorem dX7_readLine_47 : decode cX7_readLine 47 = .ok (.iconst 4, 1) := by decide +kernel
theorem dX7_readLine_48 : decode cX7_readLine 48 = .ok (.if_icmp .ge 7, 3) := by decide +kernel
theorem dX7_readLine_51 : decode cX7_readLine 51 = .ok (.iconst 1, 1) := by decide +kernel
theorem dX7_readLine_52 : decode cX7_readLine 52 = .ok (.goto 4, 3) := by decide +kernel
theorem dX7_readLine_55 : decode cX7_readLine 55 = .ok (.iconst 0, 1) := by decide +kernel
theorem dX7_readLine_56 : decode cX7_readLine 56 = .ok (.iconst 5, 1) := by decide +kernel
theorem dX7_readLine_57 : decode cX7_readLine 57 = .ok (.invokevirtual 101, 3) := by decide +kernel
theorem dX7_readLine_60 : decode cX7_readLine 60 = .ok (.aload_n 0, 1) := by decide +kernel
theorem dX7_readLine_61 : decode cX7_readLine 61 = .ok (.iload_n 1, 1) := by decide +kernel
theorem dX7_readLine_62 : decode cX7_readLine 62 = .ok (.iconst 4, 1) := by decide +kernel
theorem dX7_readLine_63 : decode cX7_readLine 63 = .ok (.if_icmp .ne 10, 3) := by decide +kernel
theorem dX7_readLine_66 : decode cX7_readLine 66 = .ok (.aload_n 0, 1) := by decide +kernel
theorem dX7_readLine_67 : decode cX7_readLine 67 = .ok (.getfield 50, 3) := by decide +kernel
theorem dX7_readLine_70 : decode cX7_readLine 70 = .ok (.ifCond .ne 7, 3) := by decide +kernel
theorem dX7_readLine_73 : decode cX7_readLine 73 = .ok (.iconst 1, 1) := by decide +kernel
theorem dX7_readLine_74 : decode cX7_readLine 74 = .ok (.goto 4, 3) := by decide +kernel
theorem dX7_readLine_77 : decode cX7_readLine 77 = .ok (.iconst 0, 1) := by decide +kernel
theorem dX7_readLine_78 : decode cX7_readLine 78 = .ok (.iconst 4, 1) := by decide +kernel
theorem dX7_readLine_79 : decode cX7_readLine 79 = .ok (.invokevirtual 101, 3) := by decide +kernel
theorem dX7_readLine_82 : decode cX7_readLine 82 = .ok (.aload_n 0, 1) := by decide +kernel
theorem dX7_readLine_83 : decode cX7_readLine 83 = .ok (.iload_n 1, 1) := by decide +kernel
theorem dX7_readLine_84 : decode cX7_readLine 84 = .ok (.iconst 5, 1) := by decide +kernel
theorem dX7_readLine_85 : decode cX7_readLine 85 = .ok (.if_icmp .ne 10, 3) := by decide +kernel
theorem dX7_readLine_88 : decode cX7_readLine 88 = .ok (.aload_n 0, 1) := by decide +kernel
theorem dX7_readLine_89 : decode cX7_readLine 89 = .ok (.getfield 54, 3) := by decide +kernel
theorem dX7_readLine_92 : decode cX7_readLine 92 = .ok (.ifCond .ne 7, 3) := by decide +kernel
theorem dX7_readLine_95 : decode cX7_readLine 95 = .ok (.iconst 1, 1) := by decide +kernel
theorem dX7_readLine_96 : decode cX7_readLine 96 = .ok (.goto 4, 3) := by decide +kernel
theorem dX7_readLine_99 : decode cX7_readLine 99 = .ok (.iconst 0, 1) := by decide +kernel
theorem dX7_readLine_100 : decode cX7_readLine 100 = .ok (.iconst 4, 1) := by decide +kernel
theorem dX7_readLine_101 : decode cX7_readLine 101 = .ok (.invokevirtual 101, 3) := by decide +kernel
theorem dX7_readLine_104 : decode cX7_readLine 104 = .ok (.aload_n 0, 1) := by decide +kernel
theorem dX7_readLine_105 : decode cX7_readLine 105 = .ok (.aload_n 0, 1) := by decide +kernel
theorem dX7_readLine_106 : decode cX7_readLine 106 = .ok (.getfield 50, 3) := by decide +kernel
theorem dX7_readLine_109 : decode cX7_readLine 109 = .ok (.ifCond .ne 8, 3) := by decide +kernel
theorem dX7_readLine_112 : decode cX7_readLine 112 = .ok (.iload_n 1, 1) := by decide +kernel
theorem dX7_readLine_113 : decode cX7_readLine 113 = .ok (.iconst 4, 1) := by decide +kernel
theorem dX7_readLine_114 : decode cX7_readLine 114 = .ok (.if_icmp .ne 7, 3) := by decide +kernel
theorem dX7_readLine_117 : decode cX7_readLine 117 = .ok (.iconst 1, 1) := by decide +kernel
theorem dX7_readLine_118 : decode cX7_readLine 118 = .ok (.goto 4, 3) := by decide +kernel
theorem dX7_readLine_121 : decode cX7_readLine 121 = .ok (.iconst 0, 1) := by decide +kernel
theorem dX7_readLine_122 : decode cX7_readLine 122 = .ok (.putfield 50, 3) := by decide +kernel
theorem dX7_readLine_125 : decode cX7_readLine 125 = .ok (.aload_n 0, 1) := by decide +kernel
theorem dX7_readLine_126 : decode cX7_readLine 126 = .ok (.aload_n 0, 1) := by decide +kernel
theorem dX7_readLine_127 : decode cX7_readLine 127 = .ok (.getfield 54, 3) := by decide +kernel
theorem dX7_readLine_130 : decode cX7_readLine 130 = .ok (.ifCond .ne 8, 3) := by decide +kernel
theorem dX7_readLine_133 : decode cX7_readLine 133 = .ok (.iload_n 1, 1) := by decide +kernel
theorem dX7_readLine_134 : decode cX7_readLine 134 = .ok (.iconst 5, 1) := by decide +kernel
theorem dX7_readLine_135 : decode cX7_readLine 135 = .ok (.if_icmp .ne 7, 3) := by decide +kernel
theorem dX7_readLine_138 : decode cX7_readLine 138 = .ok (.iconst 1, 1) := by decide +kernel
theorem dX7_readLine_139 : decode cX7_readLine 139 = .ok (.goto 4, 3) := by decide +kernel
theorem dX7_readLine_142 : decode cX7_readLine 142 = .ok (.iconst 0, 1) := by decide +kernel
theorem dX7_readLine_143 : decode cX7_readLine 143 = .ok (.putfield 54, 3) := by decide +kernel
theorem dX7_readLine_146 : decode cX7_readLine 146 = .ok (.aload_n 0, 1) := by decide +kernel
theorem dX7_readLine_147 : decode cX7_readLine 147 = .ok (.invokevirtual 105, 3) := by decide +kernel
theorem dX7_readLine_150 : decode cX7_readLine 150 = .ok (.aload_n 0, 1) := by decide +kernel
theorem dX7_readLine_151 : decode cX7_readLine 151 = .ok (.getfield 67, 3) := by decide +kernel
theorem dX7_readLine_154 : decode cX7_readLine 154 = .ok (.ifCond .le 4, 3) := by decide +kernel
theorem dX7_readLine_157 : decode cX7_readLine 157 = .ok (.return_, 1) := by decide +kernel
theorem dX7_readLine_158 : decode cX7_readLine 158 = .ok (.aload_n 0, 1) := by decide +kernel
theorem dX7_readLine_159 : decode cX7_readLine 159 = .ok (.iload_n 1, 1) := by decide +kernel
theorem dX7_readLine_160 : decode cX7_readLine 160 = .ok (.invokevirtual 119, 3) := by decide +kernel
theorem dX7_readLine_163 : decode cX7_readLine 163 = .ok (.aload_n 0, 1) := by decide +kernel
theorem dX7_readLine_164 : decode cX7_readLine 164 = .ok (.getfield 67, 3) := by decide +kernel
theorem dX7_readLine_167 : decode cX7_readLine 167 = .ok (.ifCond .ne 21, 3) := by decide +kernel
theorem dX7_readLine_170 : decode cX7_readLine 170 = .ok (.aload_n 0, 1) := by decide +kernel
theorem dX7_readLine_171 : decode cX7_readLine 171 = .ok (.aload_n 0, 1) := by decide +kernel
theorem dX7_readLine_172 : decode cX7_readLine 172 = .ok (.getfield 87, 3) := by decide +kernel
theorem dX7_readLine_175 : decode cX7_readLine 175 = .ok (.iconst 3, 1) := by decide +kernel
theorem dX7_readLine_176 : decode cX7_readLine 176 = .ok (.if_icmp .ne 7, 3) := by decide +kernel
theorem dX7_readLine_179 : decode cX7_readLine 179 = .ok (.iconst 1, 1) := by decide +kernel
theorem dX7_readLine_180 : decode cX7_readLine 180 = .ok (.goto 4, 3) := by decide +kernel
theorem dX7_readLine_183 : decode cX7_readLine 183 = .ok (.iconst 0, 1) := by decide +kernel
theorem dX7_readLine_184 : decode cX7_readLine 184 = .ok (.iconst 2, 1) := by decide +kernel
theorem dX7_readLine_185 : decode cX7_readLine 185 = .ok (.invokevirtual 101, 3) := by decide +kernel
theorem dX7_readLine_188 : decode cX7_readLine 188 = .ok (.aload_n 0, 1) := by decide +kernel
theorem dX7_readLine_189 : decode cX7_readLine 189 = .ok (.invokevirtual 105, 3) := by decide +kernel
theorem dX7_readLine_192 : decode cX7_readLine 192 = .ok (.return_, 1) := by decide +kernel
theorem dX7_text_0 : decode cX7_text 0 = .ok (.iconst 0, 1) := by decide +kernel
theorem dX7_text_1 : decode cX7_text 1 = .ok (.istore_n 1, 1) := by decide +kernel
theorem dX7_text_2 : decode cX7_text 2 = .ok (.aload_n 0, 1) := by decide +kernel
theorem dX7_text_3 : decode cX7_text 3 = .ok (.iconst 0, 1) := by decide +kernel
theorem dX7_text_4 : decode cX7_text 4 = .ok (.putfield 67, 3) := by decide +kernel
theorem dX7_text_7 : decode cX7_text 7 = .ok (.aload_n 0, 1) := by decide +kernel
theorem dX7_text_8 : decode cX7_text 8 = .ok (.iconst 0, 1) := by decide +kernel
theorem dX7_text_9 : decode cX7_text 9 = .ok (.putfield 76, 3) := by decide +kernel
theorem dX7_text_12 : decode cX7_text 12 = .ok (.aload_n 0, 1) := by decide +kernel
theorem dX7_text_13 : decode cX7_text 13 = .ok (.invokevirtual 44, 3) := by decide +kernel
theorem dX7_text_16 : decode cX7_text 16 = .ok (.aload_n 0, 1) := by decide +kernel
theorem dX7_text_17 : decode cX7_text 17 = .ok (.invokevirtual 105, 3) := by decide +kernel
theorem dX7_text_20 : decode cX7_text 20 = .ok (.aload_n 0, 1) := by decide +kernel
theorem dX7_text_21 : decode cX7_text 21 = .ok (.getfield 67, 3) := by decide +kernel
theorem dX7_text_24 : decode cX7_text 24 = .ok (.ifCond .ne 20, 3) := by decide +kernel
theorem dX7_text_27 : decode cX7_text 27 = .ok (.aload_n 0, 1) := by decide +kernel
theorem dX7_text_28 : decode cX7_text 28 = .ok (.getfield 87, 3) := by decide +kernel
theorem dX7_text_31 : decode cX7_text 31 = .ok (.ifCond .eq 13, 3) := by decide +kernel
theorem dX7_text_34 : decode cX7_text 34 = .ok (.aload_n 0, 1) := by decide +kernel
theorem dX7_text_35 : decode cX7_text 35 = .ok (.invokevirtual 123, 3) := by decide +kernel
theorem dX7_text_38 : decode cX7_text 38 = .ok (.iinc 1 1, 3) := by decide +kernel
theorem dX7_text_41 : decode cX7_text 41 = .ok (.goto (-21), 3) := by decide +kernel
theorem dX7_text_44 : decode cX7_text 44 = .ok (.aload_n 0, 1) := by decide +kernel
theorem dX7_text_45 : decode cX7_text 45 = .ok (.iconst 0, 1) := by decide +kernel
theorem dX7_text_46 : decode cX7_text 46 = .ok (.putfield 63, 3) := by decide +kernel
theorem dX7_text_49 : decode cX7_text 49 = .ok (.aload_n 0, 1) := by decide +kernel
theorem dX7_text_50 : decode cX7_text 50 = .ok (.getfield 67, 3) := by decide +kernel
theorem dX7_text_53 : decode cX7_text 53 = .ok (.ifCond .le 11, 3) := by decide +kernel
theorem dX7_text_56 : decode cX7_text 56 = .ok (.bipush (-10), 2) := by decide +kernel
theorem dX7_text_58 : decode cX7_text 58 = .ok (.aload_n 0, 1) := by decide +kernel
theorem dX7_text_59 : decode cX7_text 59 = .ok (.getfield 73, 3) := by decide +kernel
theorem dX7_text_62 : decode cX7_text 62 = .ok (.isub, 1) := by decide +kernel
theorem dX7_text_63 : decode cX7_text 63 = .ok (.ireturn, 1) := by decide +kernel
theorem dX7_text_64 : decode cX7_text 64 = .ok (.aload_n 0, 1) := by decide +kernel
theorem dX7_text_65 : decode cX7_text 65 = .ok (.invokevirtual 47, 3) := by decide +kernel
theorem dX7_text_68 : decode cX7_text 68 = .ok (.iload_n 1, 1) := by decide +kernel
theorem dX7_text_69 : decode cX7_text 69 = .ok (.ireturn, 1) := by decide +kernel
theorem dX7_fault_0 : decode cX7_fault 0 = .ok (.aload_n 0, 1) := by decide +kernel
theorem dX7_fault_1 : decode cX7_fault 1 = .ok (.getfield 67, 3) := by decide +kernel
theorem dX7_fault_4 : decode cX7_fault 4 = .ok (.ireturn, 1) := by decide +kernel
theorem dX7_isRotor_0 : decode cX7_isRotor 0 = .ok (.iload_n 1, 1) := by decide +kernel
theorem dX7_isRotor_1 : decode cX7_isRotor 1 = .ok (.i2l, 1) := by decide +kernel
theorem dX7_isRotor_2 : decode cX7_isRotor 2 = .ok (.lconst 0, 1) := by decide +kernel
theorem dX7_isRotor_3 : decode cX7_isRotor 3 = .ok (.aload_n 0, 1) := by decide +kernel
theorem dX7_isRotor_4 : decode cX7_isRotor 4 = .ok (.getfield 7, 3) := by decide +kernel
theorem dX7_isRotor_7 : decode cX7_isRotor 7 = .ok (.bipush 36, 2) := by decide +kernel
theorem dX7_isRotor_9 : decode cX7_isRotor 9 = .ok (.iaload, 1) := by decide +kernel
theorem dX7_isRotor_10 : decode cX7_isRotor 10 = .ok (.iconst 1, 1) := by decide +kernel
theorem dX7_isRotor_11 : decode cX7_isRotor 11 = .ok (.isub, 1) := by decide +kernel
theorem dX7_isRotor_12 : decode cX7_isRotor 12 = .ok (.i2l, 1) := by decide +kernel
theorem dX7_isRotor_13 : decode cX7_isRotor 13 = .ok (.invokestatic 59, 3) := by decide +kernel
theorem dX7_isRotor_16 : decode cX7_isRotor 16 = .ok (.ireturn, 1) := by decide +kernel
theorem dX7_isSign_0 : decode cX7_isSign 0 = .ok (.iload_n 1, 1) := by decide +kernel
theorem dX7_isSign_1 : decode cX7_isSign 1 = .ok (.i2l, 1) := by decide +kernel
theorem dX7_isSign_2 : decode cX7_isSign 2 = .ok (.lconst 0, 1) := by decide +kernel
theorem dX7_isSign_3 : decode cX7_isSign 3 = .ok (.aload_n 0, 1) := by decide +kernel
theorem dX7_isSign_4 : decode cX7_isSign 4 = .ok (.getfield 7, 3) := by decide +kernel
theorem dX7_isSign_7 : decode cX7_isSign 7 = .ok (.bipush 17, 2) := by decide +kernel
theorem dX7_isSign_9 : decode cX7_isSign 9 = .ok (.iaload, 1) := by decide +kernel
theorem dX7_isSign_10 : decode cX7_isSign 10 = .ok (.iconst 1, 1) := by decide +kernel
theorem dX7_isSign_11 : decode cX7_isSign 11 = .ok (.isub, 1) := by decide +kernel
theorem dX7_isSign_12 : decode cX7_isSign 12 = .ok (.i2l, 1) := by decide +kernel
theorem dX7_isSign_13 : decode cX7_isSign 13 = .ok (.invokestatic 59, 3) := by decide +kernel
theorem dX7_isSign_16 : decode cX7_isSign 16 = .ok (.ireturn, 1) := by decide +kernel
theorem dX7_isPart_0 : decode cX7_isPart 0 = .ok (.iload_n 0, 1) := by decide +kernel
theorem dX7_isPart_1 : decode cX7_isPart 1 = .ok (.i2l, 1) := by decide +kernel
theorem dX7_isPart_2 : decode cX7_isPart 2 = .ok (.lconst 0, 1) := by decide +kernel
theorem dX7_isPart_3 : decode cX7_isPart 3 = .ok (.lconst 1, 1) := by decide +kernel
theorem dX7_isPart_4 : decode cX7_isPart 4 = .ok (.invokestatic 59, 3) := by decide +kernel
theorem dX7_isPart_7 : decode cX7_isPart 7 = .ok (.ireturn, 1) := by decide +kernel
theorem dX7_takesAll_0 : decode cX7_takesAll 0 = .ok (.iconst 0, 1) := by decide +kernel
theorem dX7_takesAll_1 : decode cX7_takesAll 1 = .ok (.istore_n 1, 1) := by decide +kernel
theorem dX7_takesAll_2 : decode cX7_takesAll 2 = .ok (.iload_n 1, 1) := by decide +kernel
theorem dX7_takesAll_3 : decode cX7_takesAll 3 = .ok (.bipush 56, 2) := by decide +kernel
theorem dX7_takesAll_5 : decode cX7_takesAll 5 = .ok (.if_icmp .ge 21, 3) := by decide +kernel
theorem dX7_takesAll_8 : decode cX7_takesAll 8 = .ok (.aload_n 0, 1) := by decide +kernel
theorem dX7_takesAll_9 : decode cX7_takesAll 9 = .ok (.getfield 13, 3) := by decide +kernel
theorem dX7_takesAll_12 : decode cX7_takesAll 12 = .ok (.iload_n 1, 1) := by decide +kernel
theorem dX7_takesAll_13 : decode cX7_takesAll 13 = .ok (.aload_n 0, 1) := by decide +kernel
theorem dX7_takesAll_14 : decode cX7_takesAll 14 = .ok (.getfield 7, 3) := by decide +kernel
theorem dX7_takesAll_17 : decode cX7_takesAll 17 = .ok (.iload_n 1, 1) := by decide +kernel
theorem dX7_takesAll_18 : decode cX7_takesAll 18 = .ok (.iaload, 1) := by decide +kernel
theorem dX7_takesAll_19 : decode cX7_takesAll 19 = .ok (.iastore, 1) := by decide +kernel
theorem dX7_takesAll_20 : decode cX7_takesAll 20 = .ok (.iinc 1 1, 3) := by decide +kernel
theorem dX7_takesAll_23 : decode cX7_takesAll 23 = .ok (.goto (-21), 3) := by decide +kernel
theorem dX7_takesAll_26 : decode cX7_takesAll 26 = .ok (.aload_n 0, 1) := by decide +kernel
theorem dX7_takesAll_27 : decode cX7_takesAll 27 = .ok (.iconst 0, 1) := by decide +kernel
theorem dX7_takesAll_28 : decode cX7_takesAll 28 = .ok (.putfield 126, 3) := by decide +kernel
theorem dX7_takesAll_31 : decode cX7_takesAll 31 = .ok (.aload_n 0, 1) := by decide +kernel
theorem dX7_takesAll_32 : decode cX7_takesAll 32 = .ok (.iconst 0, 1) := by decide +kernel
theorem dX7_takesAll_33 : decode cX7_takesAll 33 = .ok (.putfield 129, 3) := by decide +kernel
theorem dX7_takesAll_36 : decode cX7_takesAll 36 = .ok (.return_, 1) := by decide +kernel
theorem dX7_settles_0 : decode cX7_settles 0 = .ok (.iconst 0, 1) := by decide +kernel
theorem dX7_settles_1 : decode cX7_settles 1 = .ok (.istore_n 1, 1) := by decide +kernel
theorem dX7_settles_2 : decode cX7_settles 2 = .ok (.iload_n 1, 1) := by decide +kernel
theorem dX7_settles_3 : decode cX7_settles 3 = .ok (.bipush 56, 2) := by decide +kernel
theorem dX7_settles_5 : decode cX7_settles 5 = .ok (.if_icmp .ge 21, 3) := by decide +kernel
theorem dX7_settles_8 : decode cX7_settles 8 = .ok (.aload_n 0, 1) := by decide +kernel
theorem dX7_settles_9 : decode cX7_settles 9 = .ok (.getfield 7, 3) := by decide +kernel
theorem dX7_settles_12 : decode cX7_settles 12 = .ok (.iload_n 1, 1) := by decide +kernel
theorem dX7_settles_13 : decode cX7_settles 13 = .ok (.aload_n 0, 1) := by decide +kernel
theorem dX7_settles_14 : decode cX7_settles 14 = .ok (.getfield 13, 3) := by decide +kernel
theorem dX7_settles_17 : decode cX7_settles 17 = .ok (.iload_n 1, 1) := by decide +kernel
theorem dX7_settles_18 : decode cX7_settles 18 = .ok (.iaload, 1) := by decide +kernel
theorem dX7_settles_19 : decode cX7_settles 19 = .ok (.iastore, 1) := by decide +kernel
theorem dX7_settles_20 : decode cX7_settles 20 = .ok (.iinc 1 1, 3) := by decide +kernel
theorem dX7_settles_23 : decode cX7_settles 23 = .ok (.goto (-21), 3) := by decide +kernel
theorem dX7_settles_26 : decode cX7_settles 26 = .ok (.return_, 1) := by decide +kernel
theorem dX7_of_0 : decode cX7_of 0 = .ok (.aload_n 0, 1) := by decide +kernel
theorem dX7_of_1 : decode cX7_of 1 = .ok (.getfield 13, 3) := by decide +kernel
theorem dX7_of_4 : decode cX7_of 4 = .ok (.bipush 20, 2) := by decide +kernel
theorem dX7_of_6 : decode cX7_of 6 = .ok (.iconst 4, 1) := by decide +kernel
theorem dX7_of_7 : decode cX7_of 7 = .ok (.iload_n 1, 1) := by decide +kernel
theorem dX7_of_8 : decode cX7_of 8 = .ok (.imul, 1) := by decide +kernel
theorem dX7_of_9 : decode cX7_of 9 = .ok (.iadd, 1) := by decide +kernel
theorem dX7_of_10 : decode cX7_of 10 = .ok (.iload_n 2, 1) := by decide +kernel
theorem dX7_of_11 : decode cX7_of 11 = .ok (.iadd, 1) := by decide +kernel
theorem dX7_of_12 : decode cX7_of 12 = .ok (.iaload, 1) := by decide +kernel
theorem dX7_of_13 : decode cX7_of 13 = .ok (.ireturn, 1) := by decide +kernel
theorem dX7_becomesOf_0 : decode cX7_becomesOf 0 = .ok (.aload_n 0, 1) := by decide +kernel
theorem dX7_becomesOf_1 : decode cX7_becomesOf 1 = .ok (.getfield 13, 3) := by decide +kernel
theorem dX7_becomesOf_4 : decode cX7_becomesOf 4 = .ok (.bipush 20, 2) := by decide +kernel
theorem dX7_becomesOf_6 : decode cX7_becomesOf 6 = .ok (.iconst 4, 1) := by decide +kernel
theorem dX7_becomesOf_7 : decode cX7_becomesOf 7 = .ok (.iload_n 1, 1) := by decide +kernel
theorem dX7_becomesOf_8 : decode cX7_becomesOf 8 = .ok (.imul, 1) := by decide +kernel
theorem dX7_becomesOf_9 : decode cX7_becomesOf 9 = .ok (.iadd, 1) := by decide +kernel
theorem dX7_becomesOf_10 : decode cX7_becomesOf 10 = .ok (.iload_n 2, 1) := by decide +kernel
theorem dX7_becomesOf_11 : decode cX7_becomesOf 11 = .ok (.iadd, 1) := by decide +kernel
theorem dX7_becomesOf_12 : decode cX7_becomesOf 12 = .ok (.iload_n 3, 1) := by decide +kernel
theorem dX7_becomesOf_13 : decode cX7_becomesOf 13 = .ok (.iastore, 1) := by decide +kernel
theorem dX7_becomesOf_14 : decode cX7_becomesOf 14 = .ok (.return_, 1) := by decide +kernel
theorem dX7_off_0 : decode cX7_off 0 = .ok (.aload_n 0, 1) := by decide +kernel
theorem dX7_off_1 : decode cX7_off 1 = .ok (.getfield 13, 3) := by decide +kernel
theorem dX7_off_4 : decode cX7_off 4 = .ok (.iconst 0, 1) := by decide +kernel
theorem dX7_off_5 : decode cX7_off 5 = .ok (.iaload, 1) := by decide +kernel
theorem dX7_off_6 : decode cX7_off 6 = .ok (.aload_n 0, 1) := by decide +kernel
theorem dX7_off_7 : decode cX7_off 7 = .ok (.iload_n 1, 1) := by decide +kernel
theorem dX7_off_8 : decode cX7_off 8 = .ok (.iconst 2, 1) := by decide +kernel
theorem dX7_off_9 : decode cX7_off 9 = .ok (.invokevirtual 132, 3) := by decide +kernel
theorem dX7_off_12 : decode cX7_off 12 = .ok (.isub, 1) := by decide +kernel
theorem dX7_off_13 : decode cX7_off 13 = .ok (.invokestatic 135, 3) := by decide +kernel
theorem dX7_off_16 : decode cX7_off 16 = .ok (.istore_n 2, 1) := by decide +kernel
theorem dX7_off_17 : decode cX7_off 17 = .ok (.iload_n 2, 1) := by decide +kernel
theorem dX7_off_18 : decode cX7_off 18 = .ok (.iconst 4, 1) := by decide +kernel
theorem dX7_off_19 : decode cX7_off 19 = .ok (.if_icmp .le 10, 3) := by decide +kernel
theorem dX7_off_22 : decode cX7_off 22 = .ok (.iload_n 2, 1) := by decide +kernel
theorem dX7_off_23 : decode cX7_off 23 = .ok (.bipush 8, 2) := by decide +kernel
theorem dX7_off_25 : decode cX7_off 25 = .ok (.isub, 1) := by decide +kernel
theorem dX7_off_26 : decode cX7_off 26 = .ok (.goto 4, 3) := by decide +kernel
theorem dX7_off_29 : decode cX7_off 29 = .ok (.iload_n 2, 1) := by decide +kernel
theorem dX7_off_30 : decode cX7_off 30 = .ok (.ireturn, 1) := by decide +kernel
theorem dX7_lostBy_0 : decode cX7_lostBy 0 = .ok (.aload_n 0, 1) := by decide +kernel
theorem dX7_lostBy_1 : decode cX7_lostBy 1 = .ok (.getfield 13, 3) := by decide +kernel
theorem dX7_lostBy_4 : decode cX7_lostBy 4 = .ok (.iconst 0, 1) := by decide +kernel
theorem dX7_lostBy_5 : decode cX7_lostBy 5 = .ok (.iaload, 1) := by decide +kernel
theorem dX7_lostBy_6 : decode cX7_lostBy 6 = .ok (.aload_n 0, 1) := by decide +kernel
theorem dX7_lostBy_7 : decode cX7_lostBy 7 = .ok (.iload_n 1, 1) := by decide +kernel
theorem dX7_lostBy_8 : decode cX7_lostBy 8 = .ok (.iconst 2, 1) := by decide +kernel
theorem dX7_lostBy_9 : decode cX7_lostBy 9 = .ok (.invokevirtual 132, 3) := by decide +kernel
theorem dX7_lostBy_12 : decode cX7_lostBy 12 = .ok (.isub, 1) := by decide +kernel
theorem dX7_lostBy_13 : decode cX7_lostBy 13 = .ok (.aload_n 0, 1) := by decide +kernel
theorem dX7_lostBy_14 : decode cX7_lostBy 14 = .ok (.iload_n 1, 1) := by decide +kernel
theorem dX7_lostBy_15 : decode cX7_lostBy 15 = .ok (.invokevirtual 138, 3) := by decide +kernel
theorem dX7_lostBy_18 : decode cX7_lostBy 18 = .ok (.isub, 1) := by decide +kernel
theorem dX7_lostBy_19 : decode cX7_lostBy 19 = .ok (.bipush 8, 2) := by decide +kernel
theorem dX7_lostBy_21 : decode cX7_lostBy 21 = .ok (.idiv, 1) := by decide +kernel
theorem dX7_lostBy_22 : decode cX7_lostBy 22 = .ok (.ireturn, 1) := by decide +kernel
theorem dX7_slipsNow_0 : decode cX7_slipsNow 0 = .ok (.aload_n 0, 1) := by decide +kernel
theorem dX7_slipsNow_1 : decode cX7_slipsNow 1 = .ok (.iload_n 1, 1) := by decide +kernel
theorem dX7_slipsNow_2 : decode cX7_slipsNow 2 = .ok (.invokevirtual 138, 3) := by decide +kernel
theorem dX7_slipsNow_5 : decode cX7_slipsNow 5 = .ok (.invokestatic 141, 3) := by decide +kernel
theorem dX7_slipsNow_8 : decode cX7_slipsNow 8 = .ok (.aload_n 0, 1) := by decide +kernel
theorem dX7_slipsNow_9 : decode cX7_slipsNow 9 = .ok (.iload_n 1, 1) := by decide +kernel
theorem dX7_slipsNow_10 : decode cX7_slipsNow 10 = .ok (.iconst 1, 1) := by decide +kernel
theorem dX7_slipsNow_11 : decode cX7_slipsNow 11 = .ok (.invokevirtual 132, 3) := by decide +kernel
theorem dX7_slipsNow_14 : decode cX7_slipsNow 14 = .ok (.if_icmp .le 7, 3) := by decide +kernel
theorem dX7_slipsNow_17 : decode cX7_slipsNow 17 = .ok (.iconst 1, 1) := by decide +kernel
theorem dX7_slipsNow_18 : decode cX7_slipsNow 18 = .ok (.goto 4, 3) := by decide +kernel
theorem dX7_slipsNow_21 : decode cX7_slipsNow 21 = .ok (.iconst 0, 1) := by decide +kernel
theorem dX7_slipsNow_22 : decode cX7_slipsNow 22 = .ok (.ireturn, 1) := by decide +kernel
theorem dX7_slipping_0 : decode cX7_slipping 0 = .ok (.iconst 0, 1) := by decide +kernel
theorem dX7_slipping_1 : decode cX7_slipping 1 = .ok (.istore_n 1, 1) := by decide +kernel
theorem dX7_slipping_2 : decode cX7_slipping 2 = .ok (.iconst 0, 1) := by decide +kernel
theorem dX7_slipping_3 : decode cX7_slipping 3 = .ok (.istore_n 2, 1) := by decide +kernel
theorem dX7_slipping_4 : decode cX7_slipping 4 = .ok (.iload_n 2, 1) := by decide +kernel
theorem dX7_slipping_5 : decode cX7_slipping 5 = .ok (.aload_n 0, 1) := by decide +kernel
theorem dX7_slipping_6 : decode cX7_slipping 6 = .ok (.getfield 13, 3) := by decide +kernel
theorem dX7_slipping_9 : decode cX7_slipping 9 = .ok (.bipush 36, 2) := by decide +kernel
theorem dX7_slipping_11 : decode cX7_slipping 11 = .ok (.iaload, 1) := by decide +kernel
theorem dX7_slipping_12 : decode cX7_slipping 12 = .ok (.if_icmp .ge 22, 3) := by decide +kernel
theorem dX7_slipping_15 : decode cX7_slipping 15 = .ok (.iload_n 1, 1) := by decide +kernel
theorem dX7_slipping_16 : decode cX7_slipping 16 = .ok (.aload_n 0, 1) := by decide +kernel
theorem dX7_slipping_17 : decode cX7_slipping 17 = .ok (.iload_n 2, 1) := by decide +kernel
theorem dX7_slipping_18 : decode cX7_slipping 18 = .ok (.invokevirtual 144, 3) := by decide +kernel
theorem dX7_slipping_21 : decode cX7_slipping 21 = .ok (.invokestatic 148, 3) := by decide +kernel
theorem dX7_slipping_24 : decode cX7_slipping 24 = .ok (.iload_n 2, 1) := by decide +kernel
theorem dX7_slipping_25 : decode cX7_slipping 25 = .ok (.ishl, 1) := by decide +kernel
theorem dX7_slipping_26 : decode cX7_slipping 26 = .ok (.ior, 1) := by decide +kernel
theorem dX7_slipping_27 : decode cX7_slipping 27 = .ok (.istore_n 1, 1) := by decide +kernel
theorem dX7_slipping_28 : decode cX7_slipping 28 = .ok (.iinc 2 1, 3) := by decide +kernel
theorem dX7_slipping_31 : decode cX7_slipping 31 = .ok (.goto (-27), 3) := by decide +kernel
theorem dX7_slipping_34 : decode cX7_slipping 34 = .ok (.iload_n 1, 1) := by decide +kernel
theorem dX7_slipping_35 : decode cX7_slipping 35 = .ok (.ireturn, 1) := by decide +kernel
theorem dX7_allLost_0 : decode cX7_allLost 0 = .ok (.iconst 0, 1) := by decide +kernel
theorem dX7_allLost_1 : decode cX7_allLost 1 = .ok (.istore_n 1, 1) := by decide +kernel
theorem dX7_allLost_2 : decode cX7_allLost 2 = .ok (.iconst 0, 1) := by decide +kernel
theorem dX7_allLost_3 : decode cX7_allLost 3 = .ok (.istore_n 2, 1) := by decide +kernel
theorem dX7_allLost_4 : decode cX7_allLost 4 = .ok (.iload_n 2, 1) := by decide +kernel
theorem dX7_allLost_5 : decode cX7_allLost 5 = .ok (.aload_n 0, 1) := by decide +kernel
theorem dX7_allLost_6 : decode cX7_allLost 6 = .ok (.getfield 13, 3) := by decide +kernel
theorem dX7_allLost_9 : decode cX7_allLost 9 = .ok (.bipush 36, 2) := by decide +kernel
theorem dX7_allLost_11 : decode cX7_allLost 11 = .ok (.iaload, 1) := by decide +kernel
theorem dX7_allLost_12 : decode cX7_allLost 12 = .ok (.if_icmp .ge 20, 3) := by decide +kernel
theorem dX7_allLost_15 : decode cX7_allLost 15 = .ok (.iload_n 1, 1) := by decide +kernel
theorem dX7_allLost_16 : decode cX7_allLost 16 = .ok (.aload_n 0, 1) := by decide +kernel
theorem dX7_allLost_17 : decode cX7_allLost 17 = .ok (.iload_n 2, 1) := by decide +kernel
theorem dX7_allLost_18 : decode cX7_allLost 18 = .ok (.invokevirtual 152, 3) := by decide +kernel
theorem dX7_allLost_21 : decode cX7_allLost 21 = .ok (.invokestatic 141, 3) := by decide +kernel
theorem dX7_allLost_24 : decode cX7_allLost 24 = .ok (.iadd, 1) := by decide +kernel
theorem dX7_allLost_25 : decode cX7_allLost 25 = .ok (.istore_n 1, 1) := by decide +kernel
theorem dX7_allLost_26 : decode cX7_allLost 26 = .ok (.iinc 2 1, 3) := by decide +kernel
theorem dX7_allLost_29 : decode cX7_allLost 29 = .ok (.goto (-25), 3) := by decide +kernel
theorem dX7_allLost_32 : decode cX7_allLost 32 = .ok (.iload_n 1, 1) := by decide +kernel
theorem dX7_allLost_33 : decode cX7_allLost 33 = .ok (.ireturn, 1) := by decide +kernel
theorem dX7_byOf_0 : decode cX7_byOf 0 = .ok (.iload_n 0, 1) := by decide +kernel
theorem dX7_byOf_1 : decode cX7_byOf 1 = .ok (.iconst 3, 1) := by decide +kernel
theorem dX7_byOf_2 : decode cX7_byOf 2 = .ok (.if_icmp .ne 7, 3) := by decide +kernel
theorem dX7_byOf_5 : decode cX7_byOf 5 = .ok (.iconst 2, 1) := by decide +kernel
theorem dX7_byOf_6 : decode cX7_byOf 6 = .ok (.goto 13, 3) := by decide +kernel
theorem dX7_byOf_9 : decode cX7_byOf 9 = .ok (.iload_n 0, 1) := by decide +kernel
theorem dX7_byOf_10 : decode cX7_byOf 10 = .ok (.iconst 2, 1) := by decide +kernel
theorem dX7_byOf_11 : decode cX7_byOf 11 = .ok (.if_icmp .ne 7, 3) := by decide +kernel
theorem dX7_byOf_14 : decode cX7_byOf 14 = .ok (.iconst (-1), 1) := by decide +kernel
theorem dX7_byOf_15 : decode cX7_byOf 15 = .ok (.goto 4, 3) := by decide +kernel
theorem dX7_byOf_18 : decode cX7_byOf 18 = .ok (.iload_n 0, 1) := by decide +kernel
theorem dX7_byOf_19 : decode cX7_byOf 19 = .ok (.ireturn, 1) := by decide +kernel
theorem dX7_movesBy_0 : decode cX7_movesBy 0 = .ok (.iload_n 2, 1) := by decide +kernel
theorem dX7_movesBy_1 : decode cX7_movesBy 1 = .ok (.ifCond .ge 7, 3) := by decide +kernel
theorem dX7_movesBy_4 : decode cX7_movesBy 4 = .ok (.iconst (-1), 1) := by decide +kernel
theorem dX7_movesBy_5 : decode cX7_movesBy 5 = .ok (.goto 4, 3) := by decide +kernel
theorem dX7_movesBy_8 : decode cX7_movesBy 8 = .ok (.iconst 1, 1) := by decide +kernel
theorem dX7_movesBy_9 : decode cX7_movesBy 9 = .ok (.istore_n 3, 1) := by decide +kernel
theorem dX7_movesBy_10 : decode cX7_movesBy 10 = .ok (.iload_n 2, 1) := by decide +kernel
theorem dX7_movesBy_11 : decode cX7_movesBy 11 = .ok (.invokestatic 141, 3) := by decide +kernel
theorem dX7_movesBy_14 : decode cX7_movesBy 14 = .ok (.istore 4, 2) := by decide +kernel
theorem dX7_movesBy_16 : decode cX7_movesBy 16 = .ok (.aload_n 0, 1) := by decide +kernel
theorem dX7_movesBy_17 : decode cX7_movesBy 17 = .ok (.iload_n 1, 1) := by decide +kernel
theorem dX7_movesBy_18 : decode cX7_movesBy 18 = .ok (.iconst 0, 1) := by decide +kernel
theorem dX7_movesBy_19 : decode cX7_movesBy 19 = .ok (.invokevirtual 132, 3) := by decide +kernel
theorem dX7_movesBy_22 : decode cX7_movesBy 22 = .ok (.tableswitch 78 1 3 #[26, 40, 56], 26) := by decide +kernel
theorem dX7_movesBy_48 : decode cX7_movesBy 48 = .ok (.iload 4, 2) := by decide +kernel
theorem dX7_movesBy_50 : decode cX7_movesBy 50 = .ok (.iconst 1, 1) := by decide +kernel
theorem dX7_movesBy_51 : decode cX7_movesBy 51 = .ok (.if_icmp .le 9, 3) := by decide +kernel
theorem dX7_movesBy_54 : decode cX7_movesBy 54 = .ok (.iconst 2, 1) := by decide +kernel
theorem dX7_movesBy_55 : decode cX7_movesBy 55 = .ok (.iload_n 3, 1) := by decide +kernel
theorem dX7_movesBy_56 : decode cX7_movesBy 56 = .ok (.imul, 1) := by decide +kernel
theorem dX7_movesBy_57 : decode cX7_movesBy 57 = .ok (.goto 4, 3) := by decide +kernel
theorem dX7_movesBy_60 : decode cX7_movesBy 60 = .ok (.iload_n 3, 1) := by decide +kernel
theorem dX7_movesBy_61 : decode cX7_movesBy 61 = .ok (.ireturn, 1) := by decide +kernel
theorem dX7_movesBy_62 : decode cX7_movesBy 62 = .ok (.aload_n 0, 1) := by decide +kernel
theorem dX7_movesBy_63 : decode cX7_movesBy 63 = .ok (.iload_n 1, 1) := by decide +kernel
theorem dX7_movesBy_64 : decode cX7_movesBy 64 = .ok (.iconst 3, 1) := by decide +kernel
theorem dX7_movesBy_65 : decode cX7_movesBy 65 = .ok (.invokevirtual 132, 3) := by decide +kernel
theorem dX7_movesBy_68 : decode cX7_movesBy 68 = .ok (.iload_n 3, 1) := by decide +kernel
theorem dX7_movesBy_69 : decode cX7_movesBy 69 = .ok (.if_icmp .ne 7, 3) := by decide +kernel
theorem dX7_movesBy_72 : decode cX7_movesBy 72 = .ok (.iload_n 3, 1) := by decide +kernel
theorem dX7_movesBy_73 : decode cX7_movesBy 73 = .ok (.goto 4, 3) := by decide +kernel
theorem dX7_movesBy_76 : decode cX7_movesBy 76 = .ok (.iconst 0, 1) := by decide +kernel
theorem dX7_movesBy_77 : decode cX7_movesBy 77 = .ok (.ireturn, 1) := by decide +kernel
theorem dX7_movesBy_78 : decode cX7_movesBy 78 = .ok (.aload_n 0, 1) := by decide +kernel
theorem dX7_movesBy_79 : decode cX7_movesBy 79 = .ok (.iload_n 1, 1) := by decide +kernel
theorem dX7_movesBy_80 : decode cX7_movesBy 80 = .ok (.iconst 3, 1) := by decide +kernel
theorem dX7_movesBy_81 : decode cX7_movesBy 81 = .ok (.invokevirtual 132, 3) := by decide +kernel
theorem dX7_movesBy_84 : decode cX7_movesBy 84 = .ok (.iload_n 3, 1) := by decide +kernel
theorem dX7_movesBy_85 : decode cX7_movesBy 85 = .ok (.if_icmp .ne 13, 3) := by decide +kernel
theorem dX7_movesBy_88 : decode cX7_movesBy 88 = .ok (.iload 4, 2) := by decide +kernel
theorem dX7_movesBy_90 : decode cX7_movesBy 90 = .ok (.iconst 1, 1) := by decide +kernel
theorem dX7_movesBy_91 : decode cX7_movesBy 91 = .ok (.if_icmp .le 7, 3) := by decide +kernel
theorem dX7_movesBy_94 : decode cX7_movesBy 94 = .ok (.iload_n 3, 1) := by decide +kernel
theorem dX7_movesBy_95 : decode cX7_movesBy 95 = .ok (.goto 4, 3) := by decide +kernel
theorem dX7_movesBy_98 : decode cX7_movesBy 98 = .ok (.iconst 0, 1) := by decide +kernel
theorem dX7_movesBy_99 : decode cX7_movesBy 99 = .ok (.ireturn, 1) := by decide +kernel
theorem dX7_movesBy_100 : decode cX7_movesBy 100 = .ok (.iload_n 3, 1) := by decide +kernel
theorem dX7_movesBy_101 : decode cX7_movesBy 101 = .ok (.ireturn, 1) := by decide +kernel
theorem dX7_rotorGoes_0 : decode cX7_rotorGoes 0 = .ok (.aload_n 0, 1) := by decide +kernel
theorem dX7_rotorGoes_1 : decode cX7_rotorGoes 1 = .ok (.iload_n 1, 1) := by decide +kernel
theorem dX7_rotorGoes_2 : decode cX7_rotorGoes 2 = .ok (.invokevirtual 138, 3) := by decide +kernel
theorem dX7_rotorGoes_5 : decode cX7_rotorGoes 5 = .ok (.istore_n 2, 1) := by decide +kernel
theorem dX7_rotorGoes_6 : decode cX7_rotorGoes 6 = .ok (.aload_n 0, 1) := by decide +kernel
theorem dX7_rotorGoes_7 : decode cX7_rotorGoes 7 = .ok (.iload_n 1, 1) := by decide +kernel
theorem dX7_rotorGoes_8 : decode cX7_rotorGoes 8 = .ok (.invokevirtual 144, 3) := by decide +kernel
theorem dX7_rotorGoes_11 : decode cX7_rotorGoes 11 = .ok (.ifCond .ne 7, 3) := by decide +kernel
theorem dX7_rotorGoes_14 : decode cX7_rotorGoes 14 = .ok (.iload_n 2, 1) := by decide +kernel
theorem dX7_rotorGoes_15 : decode cX7_rotorGoes 15 = .ok (.ifCond .ne 11, 3) := by decide +kernel
theorem dX7_rotorGoes_18 : decode cX7_rotorGoes 18 = .ok (.aload_n 0, 1) := by decide +kernel
theorem dX7_rotorGoes_19 : decode cX7_rotorGoes 19 = .ok (.iload_n 1, 1) := by decide +kernel
theorem dX7_rotorGoes_20 : decode cX7_rotorGoes 20 = .ok (.iconst 3, 1) := by decide +kernel
theorem dX7_rotorGoes_21 : decode cX7_rotorGoes 21 = .ok (.iconst 0, 1) := by decide +kernel
theorem dX7_rotorGoes_22 : decode cX7_rotorGoes 22 = .ok (.invokevirtual 155, 3) := by decide +kernel
theorem dX7_rotorGoes_25 : decode cX7_rotorGoes 25 = .ok (.return_, 1) := by decide +kernel
theorem dX7_rotorGoes_26 : decode cX7_rotorGoes 26 = .ok (.aload_n 0, 1) := by decide +kernel
theorem dX7_rotorGoes_27 : decode cX7_rotorGoes 27 = .ok (.iload_n 1, 1) := by decide +kernel
theorem dX7_rotorGoes_28 : decode cX7_rotorGoes 28 = .ok (.iload_n 2, 1) := by decide +kernel
theorem dX7_rotorGoes_29 : decode cX7_rotorGoes 29 = .ok (.invokevirtual 159, 3) := by decide +kernel
theorem dX7_rotorGoes_32 : decode cX7_rotorGoes 32 = .ok (.istore_n 3, 1) := by decide +kernel
theorem dX7_rotorGoes_33 : decode cX7_rotorGoes 33 = .ok (.iload_n 2, 1) := by decide +kernel
theorem dX7_rotorGoes_34 : decode cX7_rotorGoes 34 = .ok (.ifCond .ge 7, 3) := by decide +kernel
theorem dX7_rotorGoes_37 : decode cX7_rotorGoes 37 = .ok (.iconst (-1), 1) := by decide +kernel
theorem dX7_rotorGoes_38 : decode cX7_rotorGoes 38 = .ok (.goto 4, 3) := by decide +kernel
theorem dX7_rotorGoes_41 : decode cX7_rotorGoes 41 = .ok (.iconst 1, 1) := by decide +kernel
theorem dX7_rotorGoes_42 : decode cX7_rotorGoes 42 = .ok (.istore 4, 2) := by decide +kernel
theorem dX7_rotorGoes_44 : decode cX7_rotorGoes 44 = .ok (.aload_n 0, 1) := by decide +kernel
theorem dX7_rotorGoes_45 : decode cX7_rotorGoes 45 = .ok (.dup, 1) := by decide +kernel
theorem dX7_rotorGoes_46 : decode cX7_rotorGoes 46 = .ok (.getfield 126, 3) := by decide +kernel
theorem dX7_rotorGoes_49 : decode cX7_rotorGoes 49 = .ok (.iload_n 3, 1) := by decide +kernel
theorem dX7_rotorGoes_50 : decode cX7_rotorGoes 50 = .ok (.invokestatic 141, 3) := by decide +kernel
theorem dX7_rotorGoes_53 : decode cX7_rotorGoes 53 = .ok (.iadd, 1) := by decide +kernel
theorem dX7_rotorGoes_54 : decode cX7_rotorGoes 54 = .ok (.putfield 126, 3) := by decide +kernel
theorem dX7_rotorGoes_57 : decode cX7_rotorGoes 57 = .ok (.aload_n 0, 1) := by decide +kernel
theorem dX7_rotorGoes_58 : decode cX7_rotorGoes 58 = .ok (.iload_n 1, 1) := by decide +kernel
theorem dX7_rotorGoes_59 : decode cX7_rotorGoes 59 = .ok (.iconst 2, 1) := by decide +kernel
theorem dX7_rotorGoes_60 : decode cX7_rotorGoes 60 = .ok (.aload_n 0, 1) := by decide +kernel
theorem dX7_rotorGoes_61 : decode cX7_rotorGoes 61 = .ok (.iload_n 1, 1) := by decide +kernel
theorem dX7_rotorGoes_62 : decode cX7_rotorGoes 62 = .ok (.iconst 2, 1) := by decide +kernel
theorem dX7_rotorGoes_63 : decode cX7_rotorGoes 63 = .ok (.invokevirtual 132, 3) := by decide +kernel
theorem dX7_rotorGoes_66 : decode cX7_rotorGoes 66 = .ok (.iload_n 3, 1) := by decide +kernel
theorem dX7_rotorGoes_67 : decode cX7_rotorGoes 67 = .ok (.iadd, 1) := by decide +kernel
theorem dX7_rotorGoes_68 : decode cX7_rotorGoes 68 = .ok (.invokevirtual 155, 3) := by decide +kernel
theorem dX7_rotorGoes_71 : decode cX7_rotorGoes 71 = .ok (.aload_n 0, 1) := by decide +kernel
theorem dX7_rotorGoes_72 : decode cX7_rotorGoes 72 = .ok (.iload_n 1, 1) := by decide +kernel
theorem dX7_rotorGoes_73 : decode cX7_rotorGoes 73 = .ok (.iconst 3, 1) := by decide +kernel
theorem dX7_rotorGoes_74 : decode cX7_rotorGoes 74 = .ok (.aload_n 0, 1) := by decide +kernel
theorem dX7_rotorGoes_75 : decode cX7_rotorGoes 75 = .ok (.iload_n 1, 1) := by decide +kernel
theorem dX7_rotorGoes_76 : decode cX7_rotorGoes 76 = .ok (.iconst 0, 1) := by decide +kernel
theorem dX7_rotorGoes_77 : decode cX7_rotorGoes 77 = .ok (.invokevirtual 132, 3) := by decide +kernel
theorem dX7_rotorGoes_80 : decode cX7_rotorGoes 80 = .ok (.iconst 3, 1) := by decide +kernel
theorem dX7_rotorGoes_81 : decode cX7_rotorGoes 81 = .ok (.if_icmp .ne 15, 3) := by decide +kernel
theorem dX7_rotorGoes_84 : decode cX7_rotorGoes 84 = .ok (.iload_n 2, 1) := by decide +kernel
theorem dX7_rotorGoes_85 : decode cX7_rotorGoes 85 = .ok (.invokestatic 141, 3) := by decide +kernel
theorem dX7_rotorGoes_88 : decode cX7_rotorGoes 88 = .ok (.iconst 1, 1) := by decide +kernel
theorem dX7_rotorGoes_89 : decode cX7_rotorGoes 89 = .ok (.if_icmp .ne 7, 3) := by decide +kernel
theorem dX7_rotorGoes_92 : decode cX7_rotorGoes 92 = .ok (.iconst 0, 1) := by decide +kernel
theorem dX7_rotorGoes_93 : decode cX7_rotorGoes 93 = .ok (.goto 5, 3) := by decide +kernel
theorem dX7_rotorGoes_96 : decode cX7_rotorGoes 96 = .ok (.iload 4, 2) := by decide +kernel
theorem dX7_rotorGoes_98 : decode cX7_rotorGoes 98 = .ok (.invokevirtual 155, 3) := by decide +kernel
theorem dX7_rotorGoes_101 : decode cX7_rotorGoes 101 = .ok (.return_, 1) := by decide +kernel
theorem dX7_fieldGoes_0 : decode cX7_fieldGoes 0 = .ok (.aload_n 0, 1) := by decide +kernel
theorem dX7_fieldGoes_1 : decode cX7_fieldGoes 1 = .ok (.getfield 13, 3) := by decide +kernel
theorem dX7_fieldGoes_4 : decode cX7_fieldGoes 4 = .ok (.bipush 17, 2) := by decide +kernel
theorem dX7_fieldGoes_6 : decode cX7_fieldGoes 6 = .ok (.iaload, 1) := by decide +kernel
theorem dX7_fieldGoes_7 : decode cX7_fieldGoes 7 = .ok (.ifCond .le 63, 3) := by decide +kernel
theorem dX7_fieldGoes_10 : decode cX7_fieldGoes 10 = .ok (.aload_n 0, 1) := by decide +kernel
theorem dX7_fieldGoes_11 : decode cX7_fieldGoes 11 = .ok (.getfield 13, 3) := by decide +kernel
theorem dX7_fieldGoes_14 : decode cX7_fieldGoes 14 = .ok (.bipush 19, 2) := by decide +kernel
theorem dX7_fieldGoes_16 : decode cX7_fieldGoes 16 = .ok (.iaload, 1) := by decide +kernel
theorem dX7_fieldGoes_17 : decode cX7_fieldGoes 17 = .ok (.aload_n 0, 1) := by decide +kernel
theorem dX7_fieldGoes_18 : decode cX7_fieldGoes 18 = .ok (.getfield 13, 3) := by decide +kernel
theorem dX7_fieldGoes_21 : decode cX7_fieldGoes 21 = .ok (.bipush 18, 2) := by decide +kernel
theorem dX7_fieldGoes_23 : decode cX7_fieldGoes 23 = .ok (.iaload, 1) := by decide +kernel
theorem dX7_fieldGoes_24 : decode cX7_fieldGoes 24 = .ok (.irem, 1) := by decide +kernel
theorem dX7_fieldGoes_25 : decode cX7_fieldGoes 25 = .ok (.ifCond .ne 45, 3) := by decide +kernel
theorem dX7_fieldGoes_28 : decode cX7_fieldGoes 28 = .ok (.aload_n 0, 1) := by decide +kernel
theorem dX7_fieldGoes_29 : decode cX7_fieldGoes 29 = .ok (.getfield 13, 3) := by decide +kernel
theorem dX7_fieldGoes_32 : decode cX7_fieldGoes 32 = .ok (.iconst 0, 1) := by decide +kernel
theorem dX7_fieldGoes_33 : decode cX7_fieldGoes 33 = .ok (.dup2, 1) := by decide +kernel
theorem dX7_fieldGoes_34 : decode cX7_fieldGoes 34 = .ok (.iaload, 1) := by decide +kernel
theorem dX7_fieldGoes_35 : decode cX7_fieldGoes 35 = .ok (.aload_n 0, 1) := by decide +kernel
theorem dX7_fieldGoes_36 : decode cX7_fieldGoes 36 = .ok (.getfield 13, 3) := by decide +kernel
theorem dX7_fieldGoes_39 : decode cX7_fieldGoes 39 = .ok (.iconst 1, 1) := by decide +kernel
theorem dX7_fieldGoes_40 : decode cX7_fieldGoes 40 = .ok (.aload_n 0, 1) := by decide +kernel
theorem dX7_fieldGoes_41 : decode cX7_fieldGoes 41 = .ok (.getfield 13, 3) := by decide +kernel
theorem dX7_fieldGoes_44 : decode cX7_fieldGoes 44 = .ok (.bipush 19, 2) := by decide +kernel
theorem dX7_fieldGoes_46 : decode cX7_fieldGoes 46 = .ok (.iaload, 1) := by decide +kernel
theorem dX7_fieldGoes_47 : decode cX7_fieldGoes 47 = .ok (.aload_n 0, 1) := by decide +kernel
theorem dX7_fieldGoes_48 : decode cX7_fieldGoes 48 = .ok (.getfield 13, 3) := by decide +kernel
theorem dX7_fieldGoes_51 : decode cX7_fieldGoes 51 = .ok (.bipush 18, 2) := by decide +kernel
theorem dX7_fieldGoes_53 : decode cX7_fieldGoes 53 = .ok (.iaload, 1) := by decide +kernel
theorem dX7_fieldGoes_54 : decode cX7_fieldGoes 54 = .ok (.idiv, 1) := by decide +kernel
theorem dX7_fieldGoes_55 : decode cX7_fieldGoes 55 = .ok (.aload_n 0, 1) := by decide +kernel
theorem dX7_fieldGoes_56 : decode cX7_fieldGoes 56 = .ok (.getfield 13, 3) := by decide +kernel
theorem dX7_fieldGoes_59 : decode cX7_fieldGoes 59 = .ok (.bipush 17, 2) := by decide +kernel
theorem dX7_fieldGoes_61 : decode cX7_fieldGoes 61 = .ok (.iaload, 1) := by decide +kernel
theorem dX7_fieldGoes_62 : decode cX7_fieldGoes 62 = .ok (.irem, 1) := by decide +kernel
theorem dX7_fieldGoes_63 : decode cX7_fieldGoes 63 = .ok (.iadd, 1) := by decide +kernel
theorem dX7_fieldGoes_64 : decode cX7_fieldGoes 64 = .ok (.iaload, 1) := by decide +kernel
theorem dX7_fieldGoes_65 : decode cX7_fieldGoes 65 = .ok (.invokestatic 162, 3) := by decide +kernel
theorem dX7_fieldGoes_68 : decode cX7_fieldGoes 68 = .ok (.iadd, 1) := by decide +kernel
theorem dX7_fieldGoes_69 : decode cX7_fieldGoes 69 = .ok (.iastore, 1) := by decide +kernel
theorem dX7_fieldGoes_70 : decode cX7_fieldGoes 70 = .ok (.return_, 1) := by decide +kernel
theorem dX7_rotorsGo_0 : decode cX7_rotorsGo 0 = .ok (.aload_n 0, 1) := by decide +kernel
theorem dX7_rotorsGo_1 : decode cX7_rotorsGo 1 = .ok (.dup, 1) := by decide +kernel
theorem dX7_rotorsGo_2 : decode cX7_rotorsGo 2 = .ok (.getfield 129, 3) := by decide +kernel
theorem dX7_rotorsGo_5 : decode cX7_rotorsGo 5 = .ok (.aload_n 0, 1) := by decide +kernel
theorem dX7_rotorsGo_6 : decode cX7_rotorsGo 6 = .ok (.invokevirtual 165, 3) := by decide +kernel
theorem dX7_rotorsGo_9 : decode cX7_rotorsGo 9 = .ok (.ifCond .le 7, 3) := by decide +kernel
theorem dX7_rotorsGo_12 : decode cX7_rotorsGo 12 = .ok (.iconst 1, 1) := by decide +kernel
theorem dX7_rotorsGo_13 : decode cX7_rotorsGo 13 = .ok (.goto 4, 3) := by decide +kernel
theorem dX7_rotorsGo_16 : decode cX7_rotorsGo 16 = .ok (.iconst 0, 1) := by decide +kernel
theorem dX7_rotorsGo_17 : decode cX7_rotorsGo 17 = .ok (.invokestatic 148, 3) := by decide +kernel
theorem dX7_rotorsGo_20 : decode cX7_rotorsGo 20 = .ok (.iadd, 1) := by decide +kernel
theorem dX7_rotorsGo_21 : decode cX7_rotorsGo 21 = .ok (.putfield 129, 3) := by decide +kernel
theorem dX7_rotorsGo_24 : decode cX7_rotorsGo 24 = .ok (.iconst 0, 1) := by decide +kernel
theorem dX7_rotorsGo_25 : decode cX7_rotorsGo 25 = .ok (.istore_n 2, 1) := by decide +kernel
theorem dX7_rotorsGo_26 : decode cX7_rotorsGo 26 = .ok (.iload_n 2, 1) := by decide +kernel
theorem dX7_rotorsGo_27 : decode cX7_rotorsGo 27 = .ok (.aload_n 0, 1) := by decide +kernel
theorem dX7_rotorsGo_28 : decode cX7_rotorsGo 28 = .ok (.getfield 13, 3) := by decide +kernel
theorem dX7_rotorsGo_31 : decode cX7_rotorsGo 31 = .ok (.bipush 36, 2) := by decide +kernel
theorem dX7_rotorsGo_33 : decode cX7_rotorsGo 33 = .ok (.iaload, 1) := by decide +kernel
theorem dX7_rotorsGo_34 : decode cX7_rotorsGo 34 = .ok (.if_icmp .ge 28, 3) := by decide +kernel
theorem dX7_rotorsGo_37 : decode cX7_rotorsGo 37 = .ok (.iload_n 1, 1) := by decide +kernel
theorem dX7_rotorsGo_38 : decode cX7_rotorsGo 38 = .ok (.ifCond .eq 13, 3) := by decide +kernel
theorem dX7_rotorsGo_41 : decode cX7_rotorsGo 41 = .ok (.aload_n 0, 1) := by decide +kernel
theorem dX7_rotorsGo_42 : decode cX7_rotorsGo 42 = .ok (.iload_n 2, 1) := by decide +kernel
theorem dX7_rotorsGo_43 : decode cX7_rotorsGo 43 = .ok (.iconst 3, 1) := by decide +kernel
theorem dX7_rotorsGo_44 : decode cX7_rotorsGo 44 = .ok (.iconst 0, 1) := by decide +kernel
theorem dX7_rotorsGo_45 : decode cX7_rotorsGo 45 = .ok (.invokevirtual 155, 3) := by decide +kernel
theorem dX7_rotorsGo_48 : decode cX7_rotorsGo 48 = .ok (.goto 8, 3) := by decide +kernel
theorem dX7_rotorsGo_51 : decode cX7_rotorsGo 51 = .ok (.aload_n 0, 1) := by decide +kernel
theorem dX7_rotorsGo_52 : decode cX7_rotorsGo 52 = .ok (.iload_n 2, 1) := by decide +kernel
theorem dX7_rotorsGo_53 : decode cX7_rotorsGo 53 = .ok (.invokevirtual 168, 3) := by decide +kernel
theorem dX7_rotorsGo_56 : decode cX7_rotorsGo 56 = .ok (.iinc 2 1, 3) := by decide +kernel
theorem dX7_rotorsGo_59 : decode cX7_rotorsGo 59 = .ok (.goto (-33), 3) := by decide +kernel
theorem dX7_rotorsGo_62 : decode cX7_rotorsGo 62 = .ok (.aload_n 0, 1) := by decide +kernel
theorem dX7_rotorsGo_63 : decode cX7_rotorsGo 63 = .ok (.getfield 13, 3) := by decide +kernel
theorem dX7_rotorsGo_66 : decode cX7_rotorsGo 66 = .ok (.bipush 19, 2) := by decide +kernel
theorem dX7_rotorsGo_68 : decode cX7_rotorsGo 68 = .ok (.dup2, 1) := by decide +kernel
theorem dX7_rotorsGo_69 : decode cX7_rotorsGo 69 = .ok (.iaload, 1) := by decide +kernel
theorem dX7_rotorsGo_70 : decode cX7_rotorsGo 70 = .ok (.iconst 1, 1) := by decide +kernel
theorem dX7_rotorsGo_71 : decode cX7_rotorsGo 71 = .ok (.iadd, 1) := by decide +kernel
theorem dX7_rotorsGo_72 : decode cX7_rotorsGo 72 = .ok (.iastore, 1) := by decide +kernel
theorem dX7_rotorsGo_73 : decode cX7_rotorsGo 73 = .ok (.return_, 1) := by decide +kernel
theorem dX7_ticksGo_0 : decode cX7_ticksGo 0 = .ok (.iconst 0, 1) := by decide +kernel
theorem dX7_ticksGo_1 : decode cX7_ticksGo 1 = .ok (.istore_n 2, 1) := by decide +kernel
theorem dX7_ticksGo_2 : decode cX7_ticksGo 2 = .ok (.iload_n 2, 1) := by decide +kernel
theorem dX7_ticksGo_3 : decode cX7_ticksGo 3 = .ok (.iload_n 1, 1) := by decide +kernel
theorem dX7_ticksGo_4 : decode cX7_ticksGo 4 = .ok (.if_icmp .ge 18, 3) := by decide +kernel
theorem dX7_ticksGo_7 : decode cX7_ticksGo 7 = .ok (.aload_n 0, 1) := by decide +kernel
theorem dX7_ticksGo_8 : decode cX7_ticksGo 8 = .ok (.invokevirtual 171, 3) := by decide +kernel
theorem dX7_ticksGo_11 : decode cX7_ticksGo 11 = .ok (.aload_n 0, 1) := by decide +kernel
theorem dX7_ticksGo_12 : decode cX7_ticksGo 12 = .ok (.iconst 0, 1) := by decide +kernel
theorem dX7_ticksGo_13 : decode cX7_ticksGo 13 = .ok (.invokevirtual 174, 3) := by decide +kernel
theorem dX7_ticksGo_16 : decode cX7_ticksGo 16 = .ok (.iinc 2 1, 3) := by decide +kernel
theorem dX7_ticksGo_19 : decode cX7_ticksGo 19 = .ok (.goto (-17), 3) := by decide +kernel
theorem dX7_ticksGo_22 : decode cX7_ticksGo 22 = .ok (.return_, 1) := by decide +kernel
theorem dX7_lostBehind_0 : decode cX7_lostBehind 0 = .ok (.aload_n 0, 1) := by decide +kernel
theorem dX7_lostBehind_1 : decode cX7_lostBehind 1 = .ok (.iload_n 1, 1) := by decide +kernel
theorem dX7_lostBehind_2 : decode cX7_lostBehind 2 = .ok (.invokevirtual 178, 3) := by decide +kernel
theorem dX7_lostBehind_5 : decode cX7_lostBehind 5 = .ok (.aload_n 0, 1) := by decide +kernel
theorem dX7_lostBehind_6 : decode cX7_lostBehind 6 = .ok (.invokevirtual 181, 3) := by decide +kernel
theorem dX7_lostBehind_9 : decode cX7_lostBehind 9 = .ok (.ireturn, 1) := by decide +kernel
theorem dX7_rule_0 : decode cX7_rule 0 = .ok (.aload_n 0, 1) := by decide +kernel
theorem dX7_rule_1 : decode cX7_rule 1 = .ok (.invokevirtual 184, 3) := by decide +kernel
theorem dX7_rule_4 : decode cX7_rule 4 = .ok (.iload_n 1, 1) := by decide +kernel
theorem dX7_rule_5 : decode cX7_rule 5 = .ok (.tableswitch 95 0 6 #[43, 51, 59, 67, 75, 85, 90], 43) := by decide +kernel
theorem dX7_rule_48 : decode cX7_rule 48 = .ok (.aload_n 0, 1) := by decide +kernel
theorem dX7_rule_49 : decode cX7_rule 49 = .ok (.getfield 7, 3) := by decide +kernel
theorem dX7_rule_52 : decode cX7_rule 52 = .ok (.bipush 36, 2) := by decide +kernel
theorem dX7_rule_54 : decode cX7_rule 54 = .ok (.iaload, 1) := by decide +kernel
theorem dX7_rule_55 : decode cX7_rule 55 = .ok (.ireturn, 1) := by decide +kernel
theorem dX7_rule_56 : decode cX7_rule 56 = .ok (.aload_n 0, 1) := by decide +kernel
theorem dX7_rule_57 : decode cX7_rule 57 = .ok (.getfield 7, 3) := by decide +kernel
theorem dX7_rule_60 : decode cX7_rule 60 = .ok (.bipush 17, 2) := by decide +kernel
theorem dX7_rule_62 : decode cX7_rule 62 = .ok (.iaload, 1) := by decide +kernel
theorem dX7_rule_63 : decode cX7_rule 63 = .ok (.ireturn, 1) := by decide +kernel
theorem dX7_rule_64 : decode cX7_rule 64 = .ok (.aload_n 0, 1) := by decide +kernel
theorem dX7_rule_65 : decode cX7_rule 65 = .ok (.getfield 7, 3) := by decide +kernel
theorem dX7_rule_68 : decode cX7_rule 68 = .ok (.bipush 19, 2) := by decide +kernel
theorem dX7_rule_70 : decode cX7_rule 70 = .ok (.iaload, 1) := by decide +kernel
theorem dX7_rule_71 : decode cX7_rule 71 = .ok (.ireturn, 1) := by decide +kernel
theorem dX7_rule_72 : decode cX7_rule 72 = .ok (.aload_n 0, 1) := by decide +kernel
theorem dX7_rule_73 : decode cX7_rule 73 = .ok (.getfield 7, 3) := by decide +kernel
theorem dX7_rule_76 : decode cX7_rule 76 = .ok (.bipush 18, 2) := by decide +kernel
theorem dX7_rule_78 : decode cX7_rule 78 = .ok (.iaload, 1) := by decide +kernel
theorem dX7_rule_79 : decode cX7_rule 79 = .ok (.ireturn, 1) := by decide +kernel
theorem dX7_rule_80 : decode cX7_rule 80 = .ok (.ldc 187, 2) := by decide +kernel
theorem dX7_rule_82 : decode cX7_rule 82 = .ok (.aload_n 0, 1) := by decide +kernel
theorem dX7_rule_83 : decode cX7_rule 83 = .ok (.getfield 7, 3) := by decide +kernel
theorem dX7_rule_86 : decode cX7_rule 86 = .ok (.iconst 0, 1) := by decide +kernel
theorem dX7_rule_87 : decode cX7_rule 87 = .ok (.iaload, 1) := by decide +kernel
theorem dX7_rule_88 : decode cX7_rule 88 = .ok (.iadd, 1) := by decide +kernel
theorem dX7_rule_89 : decode cX7_rule 89 = .ok (.ireturn, 1) := by decide +kernel
theorem dX7_rule_90 : decode cX7_rule 90 = .ok (.aload_n 0, 1) := by decide +kernel
theorem dX7_rule_91 : decode cX7_rule 91 = .ok (.invokevirtual 165, 3) := by decide +kernel
theorem dX7_rule_94 : decode cX7_rule 94 = .ok (.ireturn, 1) := by decide +kernel
theorem dX7_rule_95 : decode cX7_rule 95 = .ok (.aload_n 0, 1) := by decide +kernel
theorem dX7_rule_96 : decode cX7_rule 96 = .ok (.invokevirtual 181, 3) := by decide +kernel
theorem dX7_rule_99 : decode cX7_rule 99 = .ok (.ireturn, 1) := by decide +kernel
theorem dX7_rule_100 : decode cX7_rule 100 = .ok (.iconst (-1), 1) := by decide +kernel
theorem dX7_rule_101 : decode cX7_rule 101 = .ok (.ireturn, 1) := by decide +kernel
theorem dX7_rotor_0 : decode cX7_rotor 0 = .ok (.aload_n 0, 1) := by decide +kernel
theorem dX7_rotor_1 : decode cX7_rotor 1 = .ok (.iload_n 1, 1) := by decide +kernel
theorem dX7_rotor_2 : decode cX7_rotor 2 = .ok (.invokevirtual 188, 3) := by decide +kernel
theorem dX7_rotor_5 : decode cX7_rotor 5 = .ok (.ifCond .ne 5, 3) := by decide +kernel
theorem dX7_rotor_8 : decode cX7_rotor 8 = .ok (.iconst (-1), 1) := by decide +kernel
theorem dX7_rotor_9 : decode cX7_rotor 9 = .ok (.ireturn, 1) := by decide +kernel
theorem dX7_rotor_10 : decode cX7_rotor 10 = .ok (.aload_n 0, 1) := by decide +kernel
theorem dX7_rotor_11 : decode cX7_rotor 11 = .ok (.invokevirtual 184, 3) := by decide +kernel
theorem dX7_rotor_14 : decode cX7_rotor 14 = .ok (.iload_n 2, 1) := by decide +kernel
theorem dX7_rotor_15 : decode cX7_rotor 15 = .ok (.tableswitch 82 0 5 #[37, 37, 44, 54, 64, 73], 37) := by decide +kernel
theorem dX7_rotor_52 : decode cX7_rotor 52 = .ok (.aload_n 0, 1) := by decide +kernel
theorem dX7_rotor_53 : decode cX7_rotor 53 = .ok (.iload_n 1, 1) := by decide +kernel
theorem dX7_rotor_54 : decode cX7_rotor 54 = .ok (.iload_n 2, 1) := by decide +kernel
theorem dX7_rotor_55 : decode cX7_rotor 55 = .ok (.invokevirtual 132, 3) := by decide +kernel
theorem dX7_rotor_58 : decode cX7_rotor 58 = .ok (.ireturn, 1) := by decide +kernel
theorem dX7_rotor_59 : decode cX7_rotor 59 = .ok (.ldc 187, 2) := by decide +kernel
theorem dX7_rotor_61 : decode cX7_rotor 61 = .ok (.aload_n 0, 1) := by decide +kernel
theorem dX7_rotor_62 : decode cX7_rotor 62 = .ok (.iload_n 1, 1) := by decide +kernel
theorem dX7_rotor_63 : decode cX7_rotor 63 = .ok (.iconst 2, 1) := by decide +kernel
theorem dX7_rotor_64 : decode cX7_rotor 64 = .ok (.invokevirtual 132, 3) := by decide +kernel
theorem dX7_rotor_67 : decode cX7_rotor 67 = .ok (.iadd, 1) := by decide +kernel
theorem dX7_rotor_68 : decode cX7_rotor 68 = .ok (.ireturn, 1) := by decide +kernel
theorem dX7_rotor_69 : decode cX7_rotor 69 = .ok (.bipush 10, 2) := by decide +kernel
theorem dX7_rotor_71 : decode cX7_rotor 71 = .ok (.aload_n 0, 1) := by decide +kernel
theorem dX7_rotor_72 : decode cX7_rotor 72 = .ok (.iload_n 1, 1) := by decide +kernel
theorem dX7_rotor_73 : decode cX7_rotor 73 = .ok (.iconst 3, 1) := by decide +kernel
theorem dX7_rotor_74 : decode cX7_rotor 74 = .ok (.invokevirtual 132, 3) := by decide +kernel
theorem dX7_rotor_77 : decode cX7_rotor 77 = .ok (.iadd, 1) := by decide +kernel
theorem dX7_rotor_78 : decode cX7_rotor 78 = .ok (.ireturn, 1) := by decide +kernel
theorem dX7_rotor_79 : decode cX7_rotor 79 = .ok (.bipush 10, 2) := by decide +kernel
theorem dX7_rotor_81 : decode cX7_rotor 81 = .ok (.aload_n 0, 1) := by decide +kernel
theorem dX7_rotor_82 : decode cX7_rotor 82 = .ok (.iload_n 1, 1) := by decide +kernel
theorem dX7_rotor_83 : decode cX7_rotor 83 = .ok (.invokevirtual 138, 3) := by decide +kernel
theorem dX7_rotor_86 : decode cX7_rotor 86 = .ok (.iadd, 1) := by decide +kernel
theorem dX7_rotor_87 : decode cX7_rotor 87 = .ok (.ireturn, 1) := by decide +kernel
theorem dX7_rotor_88 : decode cX7_rotor 88 = .ok (.ldc 187, 2) := by decide +kernel
theorem dX7_rotor_90 : decode cX7_rotor 90 = .ok (.aload_n 0, 1) := by decide +kernel
theorem dX7_rotor_91 : decode cX7_rotor 91 = .ok (.iload_n 1, 1) := by decide +kernel
theorem dX7_rotor_92 : decode cX7_rotor 92 = .ok (.invokevirtual 152, 3) := by decide +kernel
theorem dX7_rotor_95 : decode cX7_rotor 95 = .ok (.iadd, 1) := by decide +kernel
theorem dX7_rotor_96 : decode cX7_rotor 96 = .ok (.ireturn, 1) := by decide +kernel
theorem dX7_rotor_97 : decode cX7_rotor 97 = .ok (.iconst (-1), 1) := by decide +kernel
theorem dX7_rotor_98 : decode cX7_rotor 98 = .ok (.ireturn, 1) := by decide +kernel
theorem dX7_sign_0 : decode cX7_sign 0 = .ok (.aload_n 0, 1) := by decide +kernel
theorem dX7_sign_1 : decode cX7_sign 1 = .ok (.iload_n 1, 1) := by decide +kernel
theorem dX7_sign_2 : decode cX7_sign 2 = .ok (.invokevirtual 191, 3) := by decide +kernel
theorem dX7_sign_5 : decode cX7_sign 5 = .ok (.ifCond .eq 14, 3) := by decide +kernel
theorem dX7_sign_8 : decode cX7_sign 8 = .ok (.aload_n 0, 1) := by decide +kernel
theorem dX7_sign_9 : decode cX7_sign 9 = .ok (.getfield 7, 3) := by decide +kernel
theorem dX7_sign_12 : decode cX7_sign 12 = .ok (.iconst 1, 1) := by decide +kernel
theorem dX7_sign_13 : decode cX7_sign 13 = .ok (.iload_n 1, 1) := by decide +kernel
theorem dX7_sign_14 : decode cX7_sign 14 = .ok (.iadd, 1) := by decide +kernel
theorem dX7_sign_15 : decode cX7_sign 15 = .ok (.iaload, 1) := by decide +kernel
theorem dX7_sign_16 : decode cX7_sign 16 = .ok (.goto 4, 3) := by decide +kernel
theorem dX7_sign_19 : decode cX7_sign 19 = .ok (.iconst (-1), 1) := by decide +kernel
theorem dX7_sign_20 : decode cX7_sign 20 = .ok (.ireturn, 1) := by decide +kernel
theorem dX7_becomes_0 : decode cX7_becomes 0 = .ok (.aload_n 0, 1) := by decide +kernel
theorem dX7_becomes_1 : decode cX7_becomes 1 = .ok (.getfield 7, 3) := by decide +kernel
theorem dX7_becomes_4 : decode cX7_becomes 4 = .ok (.iload_n 1, 1) := by decide +kernel
theorem dX7_becomes_5 : decode cX7_becomes 5 = .ok (.iaload, 1) := by decide +kernel
theorem dX7_becomes_6 : decode cX7_becomes 6 = .ok (.istore_n 3, 1) := by decide +kernel
theorem dX7_becomes_7 : decode cX7_becomes 7 = .ok (.aload_n 0, 1) := by decide +kernel
theorem dX7_becomes_8 : decode cX7_becomes 8 = .ok (.getfield 7, 3) := by decide +kernel
theorem dX7_becomes_11 : decode cX7_becomes 11 = .ok (.iload_n 1, 1) := by decide +kernel
theorem dX7_becomes_12 : decode cX7_becomes 12 = .ok (.iload_n 2, 1) := by decide +kernel
theorem dX7_becomes_13 : decode cX7_becomes 13 = .ok (.iastore, 1) := by decide +kernel
theorem dX7_becomes_14 : decode cX7_becomes 14 = .ok (.iload_n 3, 1) := by decide +kernel
theorem dX7_becomes_15 : decode cX7_becomes 15 = .ok (.ireturn, 1) := by decide +kernel
theorem dX7_alter_0 : decode cX7_alter 0 = .ok (.iload_n 2, 1) := by decide +kernel
theorem dX7_alter_1 : decode cX7_alter 1 = .ok (.ifCond .ne 15, 3) := by decide +kernel
theorem dX7_alter_4 : decode cX7_alter 4 = .ok (.iload_n 3, 1) := by decide +kernel
theorem dX7_alter_5 : decode cX7_alter 5 = .ok (.i2l, 1) := by decide +kernel
theorem dX7_alter_6 : decode cX7_alter 6 = .ok (.lconst 0, 1) := by decide +kernel
theorem dX7_alter_7 : decode cX7_alter 7 = .ok (.ldc2_w 194, 3) := by decide +kernel
theorem dX7_alter_10 : decode cX7_alter 10 = .ok (.invokestatic 59, 3) := by decide +kernel
theorem dX7_alter_13 : decode cX7_alter 13 = .ok (.goto 25, 3) := by decide +kernel
theorem dX7_alter_16 : decode cX7_alter 16 = .ok (.iload_n 2, 1) := by decide +kernel
theorem dX7_alter_17 : decode cX7_alter 17 = .ok (.iconst 1, 1) := by decide +kernel
theorem dX7_alter_18 : decode cX7_alter 18 = .ok (.if_icmp .ne 19, 3) := by decide +kernel
theorem dX7_alter_21 : decode cX7_alter 21 = .ok (.iload_n 3, 1) := by decide +kernel
theorem dX7_alter_22 : decode cX7_alter 22 = .ok (.i2l, 1) := by decide +kernel
theorem dX7_alter_23 : decode cX7_alter 23 = .ok (.lconst 0, 1) := by decide +kernel
theorem dX7_alter_24 : decode cX7_alter 24 = .ok (.ldc2_w 194, 3) := by decide +kernel
theorem dX7_alter_27 : decode cX7_alter 27 = .ok (.invokestatic 59, 3) := by decide +kernel
theorem dX7_alter_30 : decode cX7_alter 30 = .ok (.ifCond .eq 7, 3) := by decide +kernel
theorem dX7_alter_33 : decode cX7_alter 33 = .ok (.iconst 1, 1) := by decide +kernel
theorem dX7_alter_34 : decode cX7_alter 34 = .ok (.goto 4, 3) := by decide +kernel
theorem dX7_alter_37 : decode cX7_alter 37 = .ok (.iconst 0, 1) := by decide +kernel
theorem dX7_alter_38 : decode cX7_alter 38 = .ok (.istore 4, 2) := by decide +kernel
theorem dX7_alter_40 : decode cX7_alter 40 = .ok (.aload_n 0, 1) := by decide +kernel
theorem dX7_alter_41 : decode cX7_alter 41 = .ok (.iload_n 1, 1) := by decide +kernel
theorem dX7_alter_42 : decode cX7_alter 42 = .ok (.invokevirtual 188, 3) := by decide +kernel
theorem dX7_alter_45 : decode cX7_alter 45 = .ok (.ifCond .eq 24, 3) := by decide +kernel
theorem dX7_alter_48 : decode cX7_alter 48 = .ok (.iload 4, 2) := by decide +kernel
theorem dX7_alter_50 : decode cX7_alter 50 = .ok (.ifCond .eq 19, 3) := by decide +kernel
theorem dX7_alter_53 : decode cX7_alter 53 = .ok (.aload_n 0, 1) := by decide +kernel
theorem dX7_alter_54 : decode cX7_alter 54 = .ok (.bipush 20, 2) := by decide +kernel
theorem dX7_alter_56 : decode cX7_alter 56 = .ok (.iconst 4, 1) := by decide +kernel
theorem dX7_alter_57 : decode cX7_alter 57 = .ok (.iload_n 1, 1) := by decide +kernel
theorem dX7_alter_58 : decode cX7_alter 58 = .ok (.imul, 1) := by decide +kernel
theorem dX7_alter_59 : decode cX7_alter 59 = .ok (.iadd, 1) := by decide +kernel
theorem dX7_alter_60 : decode cX7_alter 60 = .ok (.iload_n 2, 1) := by decide +kernel
theorem dX7_alter_61 : decode cX7_alter 61 = .ok (.iadd, 1) := by decide +kernel
theorem dX7_alter_62 : decode cX7_alter 62 = .ok (.iload_n 3, 1) := by decide +kernel
theorem dX7_alter_63 : decode cX7_alter 63 = .ok (.invokevirtual 196, 3) := by decide +kernel
theorem dX7_alter_66 : decode cX7_alter 66 = .ok (.goto 4, 3) := by decide +kernel
theorem dX7_alter_69 : decode cX7_alter 69 = .ok (.iconst (-1), 1) := by decide +kernel
theorem dX7_alter_70 : decode cX7_alter 70 = .ok (.ireturn, 1) := by decide +kernel
theorem dX7_turn_0 : decode cX7_turn 0 = .ok (.aload_n 0, 1) := by decide +kernel
theorem dX7_turn_1 : decode cX7_turn 1 = .ok (.iload_n 1, 1) := by decide +kernel
theorem dX7_turn_2 : decode cX7_turn 2 = .ok (.invokevirtual 188, 3) := by decide +kernel
theorem dX7_turn_5 : decode cX7_turn 5 = .ok (.ifCond .eq 15, 3) := by decide +kernel
theorem dX7_turn_8 : decode cX7_turn 8 = .ok (.iload_n 2, 1) := by decide +kernel
theorem dX7_turn_9 : decode cX7_turn 9 = .ok (.i2l, 1) := by decide +kernel
theorem dX7_turn_10 : decode cX7_turn 10 = .ok (.lconst 0, 1) := by decide +kernel
theorem dX7_turn_11 : decode cX7_turn 11 = .ok (.ldc2_w 199, 3) := by decide +kernel
theorem dX7_turn_14 : decode cX7_turn 14 = .ok (.invokestatic 59, 3) := by decide +kernel
theorem dX7_turn_17 : decode cX7_turn 17 = .ok (.ifCond .ne 5, 3) := by decide +kernel
theorem dX7_turn_20 : decode cX7_turn 20 = .ok (.iconst (-1), 1) := by decide +kernel
theorem dX7_turn_21 : decode cX7_turn 21 = .ok (.ireturn, 1) := by decide +kernel
theorem dX7_turn_22 : decode cX7_turn 22 = .ok (.bipush 20, 2) := by decide +kernel
theorem dX7_turn_24 : decode cX7_turn 24 = .ok (.iconst 4, 1) := by decide +kernel
theorem dX7_turn_25 : decode cX7_turn 25 = .ok (.iload_n 1, 1) := by decide +kernel
theorem dX7_turn_26 : decode cX7_turn 26 = .ok (.imul, 1) := by decide +kernel
theorem dX7_turn_27 : decode cX7_turn 27 = .ok (.iadd, 1) := by decide +kernel
theorem dX7_turn_28 : decode cX7_turn 28 = .ok (.istore_n 3, 1) := by decide +kernel
theorem dX7_turn_29 : decode cX7_turn 29 = .ok (.aload_n 0, 1) := by decide +kernel
theorem dX7_turn_30 : decode cX7_turn 30 = .ok (.getfield 7, 3) := by decide +kernel
theorem dX7_turn_33 : decode cX7_turn 33 = .ok (.iload_n 3, 1) := by decide +kernel
theorem dX7_turn_34 : decode cX7_turn 34 = .ok (.iconst 2, 1) := by decide +kernel
theorem dX7_turn_35 : decode cX7_turn 35 = .ok (.iadd, 1) := by decide +kernel
theorem dX7_turn_36 : decode cX7_turn 36 = .ok (.iaload, 1) := by decide +kernel
theorem dX7_turn_37 : decode cX7_turn 37 = .ok (.iload_n 2, 1) := by decide +kernel
theorem dX7_turn_38 : decode cX7_turn 38 = .ok (.iadd, 1) := by decide +kernel
theorem dX7_turn_39 : decode cX7_turn 39 = .ok (.bipush 8, 2) := by decide +kernel
theorem dX7_turn_41 : decode cX7_turn 41 = .ok (.isub, 1) := by decide +kernel
theorem dX7_turn_42 : decode cX7_turn 42 = .ok (.invokestatic 141, 3) := by decide +kernel
theorem dX7_turn_45 : decode cX7_turn 45 = .ok (.sipush 30000, 3) := by decide +kernel
theorem dX7_turn_48 : decode cX7_turn 48 = .ok (.if_icmp .le 6, 3) := by decide +kernel
theorem dX7_turn_51 : decode cX7_turn 51 = .ok (.bipush (-3), 2) := by decide +kernel
theorem dX7_turn_53 : decode cX7_turn 53 = .ok (.ireturn, 1) := by decide +kernel
theorem dX7_turn_54 : decode cX7_turn 54 = .ok (.aload_n 0, 1) := by decide +kernel
theorem dX7_turn_55 : decode cX7_turn 55 = .ok (.getfield 7, 3) := by decide +kernel
theorem dX7_turn_58 : decode cX7_turn 58 = .ok (.iload_n 3, 1) := by decide +kernel
theorem dX7_turn_59 : decode cX7_turn 59 = .ok (.iconst 2, 1) := by decide +kernel
theorem dX7_turn_60 : decode cX7_turn 60 = .ok (.iadd, 1) := by decide +kernel
theorem dX7_turn_61 : decode cX7_turn 61 = .ok (.dup2, 1) := by decide +kernel
theorem dX7_turn_62 : decode cX7_turn 62 = .ok (.iaload, 1) := by decide +kernel
theorem dX7_turn_63 : decode cX7_turn 63 = .ok (.iload_n 2, 1) := by decide +kernel
theorem dX7_turn_64 : decode cX7_turn 64 = .ok (.bipush 8, 2) := by decide +kernel
theorem dX7_turn_66 : decode cX7_turn 66 = .ok (.isub, 1) := by decide +kernel
theorem dX7_turn_67 : decode cX7_turn 67 = .ok (.iadd, 1) := by decide +kernel
theorem dX7_turn_68 : decode cX7_turn 68 = .ok (.iastore, 1) := by decide +kernel
theorem dX7_turn_69 : decode cX7_turn 69 = .ok (.aload_n 0, 1) := by decide +kernel
theorem dX7_turn_70 : decode cX7_turn 70 = .ok (.getfield 7, 3) := by decide +kernel
theorem dX7_turn_73 : decode cX7_turn 73 = .ok (.iload_n 3, 1) := by decide +kernel
theorem dX7_turn_74 : decode cX7_turn 74 = .ok (.iconst 3, 1) := by decide +kernel
theorem dX7_turn_75 : decode cX7_turn 75 = .ok (.iadd, 1) := by decide +kernel
theorem dX7_turn_76 : decode cX7_turn 76 = .ok (.iconst 0, 1) := by decide +kernel
theorem dX7_turn_77 : decode cX7_turn 77 = .ok (.iastore, 1) := by decide +kernel
theorem dX7_turn_78 : decode cX7_turn 78 = .ok (.ldc 187, 2) := by decide +kernel
theorem dX7_turn_80 : decode cX7_turn 80 = .ok (.aload_n 0, 1) := by decide +kernel
theorem dX7_turn_81 : decode cX7_turn 81 = .ok (.getfield 7, 3) := by decide +kernel
theorem dX7_turn_84 : decode cX7_turn 84 = .ok (.iload_n 3, 1) := by decide +kernel
theorem dX7_turn_85 : decode cX7_turn 85 = .ok (.iconst 2, 1) := by decide +kernel
theorem dX7_turn_86 : decode cX7_turn 86 = .ok (.iadd, 1) := by decide +kernel
theorem dX7_turn_87 : decode cX7_turn 87 = .ok (.iaload, 1) := by decide +kernel
theorem dX7_turn_88 : decode cX7_turn 88 = .ok (.iadd, 1) := by decide +kernel
theorem dX7_turn_89 : decode cX7_turn 89 = .ok (.ireturn, 1) := by decide +kernel
theorem dX7_set_0 : decode cX7_set 0 = .ok (.aload_n 0, 1) := by decide +kernel
theorem dX7_set_1 : decode cX7_set 1 = .ok (.iload_n 1, 1) := by decide +kernel
theorem dX7_set_2 : decode cX7_set 2 = .ok (.invokevirtual 191, 3) := by decide +kernel
theorem dX7_set_5 : decode cX7_set 5 = .ok (.ifCond .eq 26, 3) := by decide +kernel
theorem dX7_set_8 : decode cX7_set 8 = .ok (.iload_n 2, 1) := by decide +kernel
theorem dX7_set_9 : decode cX7_set 9 = .ok (.i2l, 1) := by decide +kernel
theorem dX7_set_10 : decode cX7_set 10 = .ok (.lconst 0, 1) := by decide +kernel
theorem dX7_set_11 : decode cX7_set 11 = .ok (.ldc2_w 194, 3) := by decide +kernel
theorem dX7_set_14 : decode cX7_set 14 = .ok (.invokestatic 59, 3) := by decide +kernel
theorem dX7_set_17 : decode cX7_set 17 = .ok (.ifCond .eq 14, 3) := by decide +kernel
theorem dX7_set_20 : decode cX7_set 20 = .ok (.aload_n 0, 1) := by decide +kernel
theorem dX7_set_21 : decode cX7_set 21 = .ok (.iconst 1, 1) := by decide +kernel
theorem dX7_set_22 : decode cX7_set 22 = .ok (.iload_n 1, 1) := by decide +kernel
theorem dX7_set_23 : decode cX7_set 23 = .ok (.iadd, 1) := by decide +kernel
theorem dX7_set_24 : decode cX7_set 24 = .ok (.iload_n 2, 1) := by decide +kernel
theorem dX7_set_25 : decode cX7_set 25 = .ok (.invokevirtual 196, 3) := by decide +kernel
theorem dX7_set_28 : decode cX7_set 28 = .ok (.goto 4, 3) := by decide +kernel
theorem dX7_set_31 : decode cX7_set 31 = .ok (.iconst (-1), 1) := by decide +kernel
theorem dX7_set_32 : decode cX7_set 32 = .ok (.ireturn, 1) := by decide +kernel
theorem dX7_every_0 : decode cX7_every 0 = .ok (.iload_n 1, 1) := by decide +kernel
theorem dX7_every_1 : decode cX7_every 1 = .ok (.i2l, 1) := by decide +kernel
theorem dX7_every_2 : decode cX7_every 2 = .ok (.lconst 1, 1) := by decide +kernel
theorem dX7_every_3 : decode cX7_every 3 = .ok (.ldc2_w 201, 3) := by decide +kernel
theorem dX7_every_6 : decode cX7_every 6 = .ok (.invokestatic 59, 3) := by decide +kernel
theorem dX7_every_9 : decode cX7_every 9 = .ok (.ifCond .eq 13, 3) := by decide +kernel
theorem dX7_every_12 : decode cX7_every 12 = .ok (.aload_n 0, 1) := by decide +kernel
theorem dX7_every_13 : decode cX7_every 13 = .ok (.bipush 18, 2) := by decide +kernel
theorem dX7_every_15 : decode cX7_every 15 = .ok (.iload_n 1, 1) := by decide +kernel
theorem dX7_every_16 : decode cX7_every 16 = .ok (.invokevirtual 196, 3) := by decide +kernel
theorem dX7_every_19 : decode cX7_every 19 = .ok (.goto 4, 3) := by decide +kernel
theorem dX7_every_22 : decode cX7_every 22 = .ok (.iconst (-1), 1) := by decide +kernel
theorem dX7_every_23 : decode cX7_every 23 = .ok (.ireturn, 1) := by decide +kernel
theorem dX7_add_0 : decode cX7_add 0 = .ok (.iload_n 1, 1) := by decide +kernel
theorem dX7_add_1 : decode cX7_add 1 = .ok (.i2l, 1) := by decide +kernel
theorem dX7_add_2 : decode cX7_add 2 = .ok (.lconst 0, 1) := by decide +kernel
theorem dX7_add_3 : decode cX7_add 3 = .ok (.ldc2_w 194, 3) := by decide +kernel
theorem dX7_add_6 : decode cX7_add 6 = .ok (.invokestatic 59, 3) := by decide +kernel
theorem dX7_add_9 : decode cX7_add 9 = .ok (.ifCond .ne 5, 3) := by decide +kernel
theorem dX7_add_12 : decode cX7_add 12 = .ok (.iconst (-1), 1) := by decide +kernel
theorem dX7_add_13 : decode cX7_add 13 = .ok (.ireturn, 1) := by decide +kernel
theorem dX7_add_14 : decode cX7_add 14 = .ok (.aload_n 0, 1) := by decide +kernel
theorem dX7_add_15 : decode cX7_add 15 = .ok (.getfield 7, 3) := by decide +kernel
theorem dX7_add_18 : decode cX7_add 18 = .ok (.bipush 17, 2) := by decide +kernel
theorem dX7_add_20 : decode cX7_add 20 = .ok (.iaload, 1) := by decide +kernel
theorem dX7_add_21 : decode cX7_add 21 = .ok (.bipush 16, 2) := by decide +kernel
theorem dX7_add_23 : decode cX7_add 23 = .ok (.if_icmp .ne 6, 3) := by decide +kernel
theorem dX7_add_26 : decode cX7_add 26 = .ok (.bipush (-3), 2) := by decide +kernel
theorem dX7_add_28 : decode cX7_add 28 = .ok (.ireturn, 1) := by decide +kernel
theorem dX7_add_29 : decode cX7_add 29 = .ok (.aload_n 0, 1) := by decide +kernel
theorem dX7_add_30 : decode cX7_add 30 = .ok (.getfield 7, 3) := by decide +kernel
theorem dX7_add_33 : decode cX7_add 33 = .ok (.iconst 1, 1) := by decide +kernel
theorem dX7_add_34 : decode cX7_add 34 = .ok (.aload_n 0, 1) := by decide +kernel
theorem dX7_add_35 : decode cX7_add 35 = .ok (.getfield 7, 3) := by decide +kernel
theorem dX7_add_38 : decode cX7_add 38 = .ok (.bipush 17, 2) := by decide +kernel
theorem dX7_add_40 : decode cX7_add 40 = .ok (.iaload, 1) := by decide +kernel
theorem dX7_add_41 : decode cX7_add 41 = .ok (.iadd, 1) := by decide +kernel
theorem dX7_add_42 : decode cX7_add 42 = .ok (.iload_n 1, 1) := by decide +kernel
theorem dX7_add_43 : decode cX7_add 43 = .ok (.iastore, 1) := by decide +kernel
theorem dX7_add_44 : decode cX7_add 44 = .ok (.aload_n 0, 1) := by decide +kernel
theorem dX7_add_45 : decode cX7_add 45 = .ok (.getfield 7, 3) := by decide +kernel
theorem dX7_add_48 : decode cX7_add 48 = .ok (.bipush 17, 2) := by decide +kernel
theorem dX7_add_50 : decode cX7_add 50 = .ok (.dup2, 1) := by decide +kernel
theorem dX7_add_51 : decode cX7_add 51 = .ok (.iaload, 1) := by decide +kernel
theorem dX7_add_52 : decode cX7_add 52 = .ok (.iconst 1, 1) := by decide +kernel
theorem dX7_add_53 : decode cX7_add 53 = .ok (.iadd, 1) := by decide +kernel
theorem dX7_add_54 : decode cX7_add 54 = .ok (.iastore, 1) := by decide +kernel
theorem dX7_add_55 : decode cX7_add 55 = .ok (.aload_n 0, 1) := by decide +kernel
theorem dX7_add_56 : decode cX7_add 56 = .ok (.getfield 7, 3) := by decide +kernel
theorem dX7_add_59 : decode cX7_add 59 = .ok (.bipush 17, 2) := by decide +kernel
theorem dX7_add_61 : decode cX7_add 61 = .ok (.iaload, 1) := by decide +kernel
theorem dX7_add_62 : decode cX7_add 62 = .ok (.ireturn, 1) := by decide +kernel
theorem dX7_cut_0 : decode cX7_cut 0 = .ok (.iload_n 1, 1) := by decide +kernel
theorem dX7_cut_1 : decode cX7_cut 1 = .ok (.i2l, 1) := by decide +kernel
theorem dX7_cut_2 : decode cX7_cut 2 = .ok (.lconst 0, 1) := by decide +kernel
theorem dX7_cut_3 : decode cX7_cut 3 = .ok (.aload_n 0, 1) := by decide +kernel
theorem dX7_cut_4 : decode cX7_cut 4 = .ok (.getfield 7, 3) := by decide +kernel
theorem dX7_cut_7 : decode cX7_cut 7 = .ok (.bipush 17, 2) := by decide +kernel
theorem dX7_cut_9 : decode cX7_cut 9 = .ok (.iaload, 1) := by decide +kernel
theorem dX7_cut_10 : decode cX7_cut 10 = .ok (.i2l, 1) := by decide +kernel
theorem dX7_cut_11 : decode cX7_cut 11 = .ok (.invokestatic 59, 3) := by decide +kernel
theorem dX7_cut_14 : decode cX7_cut 14 = .ok (.ifCond .eq 13, 3) := by decide +kernel
theorem dX7_cut_17 : decode cX7_cut 17 = .ok (.aload_n 0, 1) := by decide +kernel
theorem dX7_cut_18 : decode cX7_cut 18 = .ok (.bipush 17, 2) := by decide +kernel
theorem dX7_cut_20 : decode cX7_cut 20 = .ok (.iload_n 1, 1) := by decide +kernel
theorem dX7_cut_21 : decode cX7_cut 21 = .ok (.invokevirtual 196, 3) := by decide +kernel
theorem dX7_cut_24 : decode cX7_cut 24 = .ok (.goto 4, 3) := by decide +kernel
theorem dX7_cut_27 : decode cX7_cut 27 = .ok (.iconst (-1), 1) := by decide +kernel
theorem dX7_cut_28 : decode cX7_cut 28 = .ok (.ireturn, 1) := by decide +kernel
theorem dX7_ticks_0 : decode cX7_ticks 0 = .ok (.iload_n 1, 1) := by decide +kernel
theorem dX7_ticks_1 : decode cX7_ticks 1 = .ok (.i2l, 1) := by decide +kernel
theorem dX7_ticks_2 : decode cX7_ticks 2 = .ok (.lconst 0, 1) := by decide +kernel
theorem dX7_ticks_3 : decode cX7_ticks 3 = .ok (.ldc2_w 203, 3) := by decide +kernel
theorem dX7_ticks_6 : decode cX7_ticks 6 = .ok (.invokestatic 59, 3) := by decide +kernel
theorem dX7_ticks_9 : decode cX7_ticks 9 = .ok (.ifCond .ne 5, 3) := by decide +kernel
theorem dX7_ticks_12 : decode cX7_ticks 12 = .ok (.iconst (-1), 1) := by decide +kernel
theorem dX7_ticks_13 : decode cX7_ticks 13 = .ok (.ireturn, 1) := by decide +kernel
theorem dX7_ticks_14 : decode cX7_ticks 14 = .ok (.aload_n 0, 1) := by decide +kernel
theorem dX7_ticks_15 : decode cX7_ticks 15 = .ok (.getfield 7, 3) := by decide +kernel
theorem dX7_ticks_18 : decode cX7_ticks 18 = .ok (.bipush 19, 2) := by decide +kernel
theorem dX7_ticks_20 : decode cX7_ticks 20 = .ok (.iaload, 1) := by decide +kernel
theorem dX7_ticks_21 : decode cX7_ticks 21 = .ok (.iload_n 1, 1) := by decide +kernel
theorem dX7_ticks_22 : decode cX7_ticks 22 = .ok (.iadd, 1) := by decide +kernel
theorem dX7_ticks_23 : decode cX7_ticks 23 = .ok (.sipush 9999, 3) := by decide +kernel
theorem dX7_ticks_26 : decode cX7_ticks 26 = .ok (.if_icmp .le 6, 3) := by decide +kernel
theorem dX7_ticks_29 : decode cX7_ticks 29 = .ok (.bipush (-3), 2) := by decide +kernel
theorem dX7_ticks_31 : decode cX7_ticks 31 = .ok (.ireturn, 1) := by decide +kernel
theorem dX7_ticks_32 : decode cX7_ticks 32 = .ok (.aload_n 0, 1) := by decide +kernel
theorem dX7_ticks_33 : decode cX7_ticks 33 = .ok (.invokevirtual 184, 3) := by decide +kernel
theorem dX7_ticks_36 : decode cX7_ticks 36 = .ok (.aload_n 0, 1) := by decide +kernel
theorem dX7_ticks_37 : decode cX7_ticks 37 = .ok (.iload_n 1, 1) := by decide +kernel
theorem dX7_ticks_38 : decode cX7_ticks 38 = .ok (.invokevirtual 178, 3) := by decide +kernel
theorem dX7_ticks_41 : decode cX7_ticks 41 = .ok (.aload_n 0, 1) := by decide +kernel
theorem dX7_ticks_42 : decode cX7_ticks 42 = .ok (.invokevirtual 205, 3) := by decide +kernel
theorem dX7_ticks_45 : decode cX7_ticks 45 = .ok (.aload_n 0, 1) := by decide +kernel
theorem dX7_ticks_46 : decode cX7_ticks 46 = .ok (.getfield 126, 3) := by decide +kernel
theorem dX7_ticks_49 : decode cX7_ticks 49 = .ok (.ireturn, 1) := by decide +kernel
theorem dX7_isFar_0 : decode cX7_isFar 0 = .ok (.iload_n 0, 1) := by decide +kernel
theorem dX7_isFar_1 : decode cX7_isFar 1 = .ok (.i2l, 1) := by decide +kernel
theorem dX7_isFar_2 : decode cX7_isFar 2 = .ok (.lconst 0, 1) := by decide +kernel
theorem dX7_isFar_3 : decode cX7_isFar 3 = .ok (.ldc2_w 208, 3) := by decide +kernel
theorem dX7_isFar_6 : decode cX7_isFar 6 = .ok (.invokestatic 59, 3) := by decide +kernel
theorem dX7_isFar_9 : decode cX7_isFar 9 = .ok (.ireturn, 1) := by decide +kernel
theorem dX7_runs_0 : decode cX7_runs 0 = .ok (.iload_n 1, 1) := by decide +kernel
theorem dX7_runs_1 : decode cX7_runs 1 = .ok (.invokestatic 210, 3) := by decide +kernel
theorem dX7_runs_4 : decode cX7_runs 4 = .ok (.ifCond .eq 15, 3) := by decide +kernel
theorem dX7_runs_7 : decode cX7_runs 7 = .ok (.iload_n 2, 1) := by decide +kernel
theorem dX7_runs_8 : decode cX7_runs 8 = .ok (.i2l, 1) := by decide +kernel
theorem dX7_runs_9 : decode cX7_runs 9 = .ok (.lconst 0, 1) := by decide +kernel
theorem dX7_runs_10 : decode cX7_runs 10 = .ok (.ldc2_w 194, 3) := by decide +kernel
theorem dX7_runs_13 : decode cX7_runs 13 = .ok (.invokestatic 59, 3) := by decide +kernel
theorem dX7_runs_16 : decode cX7_runs 16 = .ok (.ifCond .ne 5, 3) := by decide +kernel
theorem dX7_runs_19 : decode cX7_runs 19 = .ok (.iconst (-1), 1) := by decide +kernel
theorem dX7_runs_20 : decode cX7_runs 20 = .ok (.ireturn, 1) := by decide +kernel
theorem dX7_runs_21 : decode cX7_runs 21 = .ok (.aload_n 0, 1) := by decide +kernel
theorem dX7_runs_22 : decode cX7_runs 22 = .ok (.invokevirtual 184, 3) := by decide +kernel
theorem dX7_runs_25 : decode cX7_runs 25 = .ok (.aload_n 0, 1) := by decide +kernel
theorem dX7_runs_26 : decode cX7_runs 26 = .ok (.iload_n 1, 1) := by decide +kernel
theorem dX7_runs_27 : decode cX7_runs 27 = .ok (.invokevirtual 178, 3) := by decide +kernel
theorem dX7_runs_30 : decode cX7_runs 30 = .ok (.iload_n 2, 1) := by decide +kernel
theorem dX7_runs_31 : decode cX7_runs 31 = .ok (.tableswitch 45 0 2 #[25, 30, 40], 25) := by decide +kernel
theorem dX7_runs_56 : decode cX7_runs 56 = .ok (.aload_n 0, 1) := by decide +kernel
theorem dX7_runs_57 : decode cX7_runs 57 = .ok (.getfield 126, 3) := by decide +kernel
theorem dX7_runs_60 : decode cX7_runs 60 = .ok (.ireturn, 1) := by decide +kernel
theorem dX7_runs_61 : decode cX7_runs 61 = .ok (.ldc 187, 2) := by decide +kernel
theorem dX7_runs_63 : decode cX7_runs 63 = .ok (.aload_n 0, 1) := by decide +kernel
theorem dX7_runs_64 : decode cX7_runs 64 = .ok (.getfield 13, 3) := by decide +kernel
theorem dX7_runs_67 : decode cX7_runs 67 = .ok (.iconst 0, 1) := by decide +kernel
theorem dX7_runs_68 : decode cX7_runs 68 = .ok (.iaload, 1) := by decide +kernel
theorem dX7_runs_69 : decode cX7_runs 69 = .ok (.iadd, 1) := by decide +kernel
theorem dX7_runs_70 : decode cX7_runs 70 = .ok (.ireturn, 1) := by decide +kernel
theorem dX7_runs_71 : decode cX7_runs 71 = .ok (.aload_n 0, 1) := by decide +kernel
theorem dX7_runs_72 : decode cX7_runs 72 = .ok (.invokevirtual 181, 3) := by decide +kernel
theorem dX7_runs_75 : decode cX7_runs 75 = .ok (.ireturn, 1) := by decide +kernel
theorem dX7_runs_76 : decode cX7_runs 76 = .ok (.aload_n 0, 1) := by decide +kernel
theorem dX7_runs_77 : decode cX7_runs 77 = .ok (.getfield 129, 3) := by decide +kernel
theorem dX7_runs_80 : decode cX7_runs 80 = .ok (.ireturn, 1) := by decide +kernel
theorem dX7_ahead_0 : decode cX7_ahead 0 = .ok (.aload_n 0, 1) := by decide +kernel
theorem dX7_ahead_1 : decode cX7_ahead 1 = .ok (.iload_n 1, 1) := by decide +kernel
theorem dX7_ahead_2 : decode cX7_ahead 2 = .ok (.invokevirtual 188, 3) := by decide +kernel
theorem dX7_ahead_5 : decode cX7_ahead 5 = .ok (.ifCond .eq 17, 3) := by decide +kernel
theorem dX7_ahead_8 : decode cX7_ahead 8 = .ok (.iload_n 2, 1) := by decide +kernel
theorem dX7_ahead_9 : decode cX7_ahead 9 = .ok (.invokestatic 210, 3) := by decide +kernel
theorem dX7_ahead_12 : decode cX7_ahead 12 = .ok (.ifCond .eq 10, 3) := by decide +kernel
theorem dX7_ahead_15 : decode cX7_ahead 15 = .ok (.iload_n 3, 1) := by decide +kernel
theorem dX7_ahead_16 : decode cX7_ahead 16 = .ok (.invokestatic 213, 3) := by decide +kernel
theorem dX7_ahead_19 : decode cX7_ahead 19 = .ok (.ifCond .ne 5, 3) := by decide +kernel
theorem dX7_ahead_22 : decode cX7_ahead 22 = .ok (.iconst (-1), 1) := by decide +kernel
theorem dX7_ahead_23 : decode cX7_ahead 23 = .ok (.ireturn, 1) := by decide +kernel
theorem dX7_ahead_24 : decode cX7_ahead 24 = .ok (.aload_n 0, 1) := by decide +kernel
theorem dX7_ahead_25 : decode cX7_ahead 25 = .ok (.invokevirtual 184, 3) := by decide +kernel
theorem dX7_ahead_28 : decode cX7_ahead 28 = .ok (.aload_n 0, 1) := by decide +kernel
theorem dX7_ahead_29 : decode cX7_ahead 29 = .ok (.iload_n 2, 1) := by decide +kernel
theorem dX7_ahead_30 : decode cX7_ahead 30 = .ok (.invokevirtual 178, 3) := by decide +kernel
theorem dX7_ahead_33 : decode cX7_ahead 33 = .ok (.ldc 187, 2) := by decide +kernel
theorem dX7_ahead_35 : decode cX7_ahead 35 = .ok (.iload_n 3, 1) := by decide +kernel
theorem dX7_ahead_36 : decode cX7_ahead 36 = .ok (.ifCond .ne 12, 3) := by decide +kernel
theorem dX7_ahead_39 : decode cX7_ahead 39 = .ok (.aload_n 0, 1) := by decide +kernel
theorem dX7_ahead_40 : decode cX7_ahead 40 = .ok (.iload_n 1, 1) := by decide +kernel
theorem dX7_ahead_41 : decode cX7_ahead 41 = .ok (.iconst 2, 1) := by decide +kernel
theorem dX7_ahead_42 : decode cX7_ahead 42 = .ok (.invokevirtual 132, 3) := by decide +kernel
theorem dX7_ahead_45 : decode cX7_ahead 45 = .ok (.goto 8, 3) := by decide +kernel
theorem dX7_ahead_48 : decode cX7_ahead 48 = .ok (.aload_n 0, 1) := by decide +kernel
theorem dX7_ahead_49 : decode cX7_ahead 49 = .ok (.iload_n 1, 1) := by decide +kernel
theorem dX7_ahead_50 : decode cX7_ahead 50 = .ok (.invokevirtual 152, 3) := by decide +kernel
theorem dX7_ahead_53 : decode cX7_ahead 53 = .ok (.iadd, 1) := by decide +kernel
theorem dX7_ahead_54 : decode cX7_ahead 54 = .ok (.ireturn, 1) := by decide +kernel
theorem dX7_when_0 : decode cX7_when 0 = .ok (.aload_n 0, 1) := by decide +kernel
theorem dX7_when_1 : decode cX7_when 1 = .ok (.iload_n 1, 1) := by decide +kernel
theorem dX7_when_2 : decode cX7_when 2 = .ok (.invokevirtual 188, 3) := by decide +kernel
theorem dX7_when_5 : decode cX7_when 5 = .ok (.ifCond .ne 5, 3) := by decide +kernel
theorem dX7_when_8 : decode cX7_when 8 = .ok (.iconst (-1), 1) := by decide +kernel
theorem dX7_when_9 : decode cX7_when 9 = .ok (.ireturn, 1) := by decide +kernel
theorem dX7_when_10 : decode cX7_when 10 = .ok (.aload_n 0, 1) := by decide +kernel
theorem dX7_when_11 : decode cX7_when 11 = .ok (.invokevirtual 184, 3) := by decide +kernel
theorem dX7_when_14 : decode cX7_when 14 = .ok (.aload_n 0, 1) := by decide +kernel
theorem dX7_when_15 : decode cX7_when 15 = .ok (.iload_n 1, 1) := by decide +kernel
theorem dX7_when_16 : decode cX7_when 16 = .ok (.invokevirtual 152, 3) := by decide +kernel
theorem dX7_when_19 : decode cX7_when 19 = .ok (.istore_n 2, 1) := by decide +kernel
theorem dX7_when_20 : decode cX7_when 20 = .ok (.iconst 0, 1) := by decide +kernel
theorem dX7_when_21 : decode cX7_when 21 = .ok (.istore_n 3, 1) := by decide +kernel
theorem dX7_when_22 : decode cX7_when 22 = .ok (.iload_n 3, 1) := by decide +kernel
theorem dX7_when_23 : decode cX7_when 23 = .ok (.sipush 200, 3) := by decide +kernel
theorem dX7_when_26 : decode cX7_when 26 = .ok (.if_icmp .gt 25, 3) := by decide +kernel
theorem dX7_when_29 : decode cX7_when 29 = .ok (.aload_n 0, 1) := by decide +kernel
theorem dX7_when_30 : decode cX7_when 30 = .ok (.iload_n 1, 1) := by decide +kernel
theorem dX7_when_31 : decode cX7_when 31 = .ok (.invokevirtual 152, 3) := by decide +kernel
theorem dX7_when_34 : decode cX7_when 34 = .ok (.iload_n 2, 1) := by decide +kernel
theorem dX7_when_35 : decode cX7_when 35 = .ok (.if_icmp .eq 5, 3) := by decide +kernel
theorem dX7_when_38 : decode cX7_when 38 = .ok (.iload_n 3, 1) := by decide +kernel
theorem dX7_when_39 : decode cX7_when 39 = .ok (.ireturn, 1) := by decide +kernel
theorem dX7_when_40 : decode cX7_when 40 = .ok (.aload_n 0, 1) := by decide +kernel
theorem dX7_when_41 : decode cX7_when 41 = .ok (.iconst 1, 1) := by decide +kernel
theorem dX7_when_42 : decode cX7_when 42 = .ok (.invokevirtual 178, 3) := by decide +kernel
theorem dX7_when_45 : decode cX7_when 45 = .ok (.iinc 3 1, 3) := by decide +kernel
theorem dX7_when_48 : decode cX7_when 48 = .ok (.goto (-26), 3) := by decide +kernel
theorem dX7_when_51 : decode cX7_when 51 = .ok (.bipush (-4), 2) := by decide +kernel
theorem dX7_when_53 : decode cX7_when 53 = .ok (.ireturn, 1) := by decide +kernel
theorem dX7_startsJudging_0 : decode cX7_startsJudging 0 = .ok (.aload_n 0, 1) := by decide +kernel
theorem dX7_startsJudging_1 : decode cX7_startsJudging 1 = .ok (.bipush (-4), 2) := by decide +kernel
theorem dX7_startsJudging_3 : decode cX7_startsJudging 3 = .ok (.putfield 216, 3) := by decide +kernel
theorem dX7_startsJudging_6 : decode cX7_startsJudging 6 = .ok (.aload_n 0, 1) := by decide +kernel
theorem dX7_startsJudging_7 : decode cX7_startsJudging 7 = .ok (.iload_n 1, 1) := by decide +kernel
theorem dX7_startsJudging_8 : decode cX7_startsJudging 8 = .ok (.putfield 219, 3) := by decide +kernel
theorem dX7_startsJudging_11 : decode cX7_startsJudging 11 = .ok (.return_, 1) := by decide +kernel
theorem dX7_judges_0 : decode cX7_judges 0 = .ok (.iload_n 2, 1) := by decide +kernel
theorem dX7_judges_1 : decode cX7_judges 1 = .ok (.aload_n 0, 1) := by decide +kernel
theorem dX7_judges_2 : decode cX7_judges 2 = .ok (.getfield 219, 3) := by decide +kernel
theorem dX7_judges_5 : decode cX7_judges 5 = .ok (.if_icmp .ge 13, 3) := by decide +kernel
theorem dX7_judges_8 : decode cX7_judges 8 = .ok (.aload_n 0, 1) := by decide +kernel
theorem dX7_judges_9 : decode cX7_judges 9 = .ok (.iload_n 1, 1) := by decide +kernel
theorem dX7_judges_10 : decode cX7_judges 10 = .ok (.putfield 216, 3) := by decide +kernel
theorem dX7_judges_13 : decode cX7_judges 13 = .ok (.aload_n 0, 1) := by decide +kernel
theorem dX7_judges_14 : decode cX7_judges 14 = .ok (.iload_n 2, 1) := by decide +kernel
theorem dX7_judges_15 : decode cX7_judges 15 = .ok (.putfield 219, 3) := by decide +kernel
theorem dX7_judges_18 : decode cX7_judges 18 = .ok (.return_, 1) := by decide +kernel
theorem dX7_judged_0 : decode cX7_judged 0 = .ok (.aload_n 0, 1) := by decide +kernel
theorem dX7_judged_1 : decode cX7_judged 1 = .ok (.getfield 216, 3) := by decide +kernel
theorem dX7_judged_4 : decode cX7_judged 4 = .ok (.bipush (-4), 2) := by decide +kernel
theorem dX7_judged_6 : decode cX7_judged 6 = .ok (.if_icmp .ne 8, 3) := by decide +kernel
theorem dX7_judged_9 : decode cX7_judged 9 = .ok (.bipush (-4), 2) := by decide +kernel
theorem dX7_judged_11 : decode cX7_judged 11 = .ok (.goto 18, 3) := by decide +kernel
theorem dX7_judged_14 : decode cX7_judged 14 = .ok (.iload_n 1, 1) := by decide +kernel
theorem dX7_judged_15 : decode cX7_judged 15 = .ok (.ifCond .ne 10, 3) := by decide +kernel
theorem dX7_judged_18 : decode cX7_judged 18 = .ok (.aload_n 0, 1) := by decide +kernel
theorem dX7_judged_19 : decode cX7_judged 19 = .ok (.getfield 216, 3) := by decide +kernel
theorem dX7_judged_22 : decode cX7_judged 22 = .ok (.goto 7, 3) := by decide +kernel
theorem dX7_judged_25 : decode cX7_judged 25 = .ok (.aload_n 0, 1) := by decide +kernel
theorem dX7_judged_26 : decode cX7_judged 26 = .ok (.getfield 219, 3) := by decide +kernel
theorem dX7_judged_29 : decode cX7_judged 29 = .ok (.ireturn, 1) := by decide +kernel
theorem dX7_leastOf_0 : decode cX7_leastOf 0 = .ok (.iload_n 2, 1) := by decide +kernel
theorem dX7_leastOf_1 : decode cX7_leastOf 1 = .ok (.istore 6, 2) := by decide +kernel
theorem dX7_leastOf_3 : decode cX7_leastOf 3 = .ok (.iload 6, 2) := by decide +kernel
theorem dX7_leastOf_5 : decode cX7_leastOf 5 = .ok (.iload_n 3, 1) := by decide +kernel
theorem dX7_leastOf_6 : decode cX7_leastOf 6 = .ok (.if_icmp .gt 49, 3) := by decide +kernel
theorem dX7_leastOf_9 : decode cX7_leastOf 9 = .ok (.aload_n 0, 1) := by decide +kernel
theorem dX7_leastOf_10 : decode cX7_leastOf 10 = .ok (.invokevirtual 184, 3) := by decide +kernel
theorem dX7_leastOf_13 : decode cX7_leastOf 13 = .ok (.aload_n 0, 1) := by decide +kernel
theorem dX7_leastOf_14 : decode cX7_leastOf 14 = .ok (.iload 4, 2) := by decide +kernel
theorem dX7_leastOf_16 : decode cX7_leastOf 16 = .ok (.invokevirtual 152, 3) := by decide +kernel
theorem dX7_leastOf_19 : decode cX7_leastOf 19 = .ok (.istore 7, 2) := by decide +kernel
theorem dX7_leastOf_21 : decode cX7_leastOf 21 = .ok (.aload_n 0, 1) := by decide +kernel
theorem dX7_leastOf_22 : decode cX7_leastOf 22 = .ok (.getfield 13, 3) := by decide +kernel
theorem dX7_leastOf_25 : decode cX7_leastOf 25 = .ok (.iload_n 1, 1) := by decide +kernel
theorem dX7_leastOf_26 : decode cX7_leastOf 26 = .ok (.iload 6, 2) := by decide +kernel
theorem dX7_leastOf_28 : decode cX7_leastOf 28 = .ok (.iastore, 1) := by decide +kernel
theorem dX7_leastOf_29 : decode cX7_leastOf 29 = .ok (.aload_n 0, 1) := by decide +kernel
theorem dX7_leastOf_30 : decode cX7_leastOf 30 = .ok (.iload 5, 2) := by decide +kernel
theorem dX7_leastOf_32 : decode cX7_leastOf 32 = .ok (.invokevirtual 178, 3) := by decide +kernel
theorem dX7_leastOf_35 : decode cX7_leastOf 35 = .ok (.aload_n 0, 1) := by decide +kernel
theorem dX7_leastOf_36 : decode cX7_leastOf 36 = .ok (.iload 4, 2) := by decide +kernel
theorem dX7_leastOf_38 : decode cX7_leastOf 38 = .ok (.invokevirtual 152, 3) := by decide +kernel
theorem dX7_leastOf_41 : decode cX7_leastOf 41 = .ok (.iload 7, 2) := by decide +kernel
theorem dX7_leastOf_43 : decode cX7_leastOf 43 = .ok (.if_icmp .ne 6, 3) := by decide +kernel
theorem dX7_leastOf_46 : decode cX7_leastOf 46 = .ok (.iload 6, 2) := by decide +kernel
theorem dX7_leastOf_48 : decode cX7_leastOf 48 = .ok (.ireturn, 1) := by decide +kernel
theorem dX7_leastOf_49 : decode cX7_leastOf 49 = .ok (.iinc 6 1, 3) := by decide +kernel
theorem dX7_leastOf_52 : decode cX7_leastOf 52 = .ok (.goto (-49), 3) := by decide +kernel
theorem dX7_leastOf_55 : decode cX7_leastOf 55 = .ok (.bipush (-4), 2) := by decide +kernel
theorem dX7_leastOf_57 : decode cX7_leastOf 57 = .ok (.ireturn, 1) := by decide +kernel
theorem dX7_slow_0 : decode cX7_slow 0 = .ok (.aload_n 0, 1) := by decide +kernel
theorem dX7_slow_1 : decode cX7_slow 1 = .ok (.iload_n 1, 1) := by decide +kernel
theorem dX7_slow_2 : decode cX7_slow 2 = .ok (.invokevirtual 188, 3) := by decide +kernel
theorem dX7_slow_5 : decode cX7_slow 5 = .ok (.ifCond .eq 24, 3) := by decide +kernel
theorem dX7_slow_8 : decode cX7_slow 8 = .ok (.iload_n 2, 1) := by decide +kernel
theorem dX7_slow_9 : decode cX7_slow 9 = .ok (.invokestatic 210, 3) := by decide +kernel
theorem dX7_slow_12 : decode cX7_slow 12 = .ok (.ifCond .eq 17, 3) := by decide +kernel
theorem dX7_slow_15 : decode cX7_slow 15 = .ok (.aload_n 0, 1) := by decide +kernel
theorem dX7_slow_16 : decode cX7_slow 16 = .ok (.bipush 18, 2) := by decide +kernel
theorem dX7_slow_18 : decode cX7_slow 18 = .ok (.iconst 1, 1) := by decide +kernel
theorem dX7_slow_19 : decode cX7_slow 19 = .ok (.bipush 9, 2) := by decide +kernel
theorem dX7_slow_21 : decode cX7_slow 21 = .ok (.iload_n 1, 1) := by decide +kernel
theorem dX7_slow_22 : decode cX7_slow 22 = .ok (.iload_n 2, 1) := by decide +kernel
theorem dX7_slow_23 : decode cX7_slow 23 = .ok (.invokevirtual 222, 3) := by decide +kernel
theorem dX7_slow_26 : decode cX7_slow 26 = .ok (.goto 4, 3) := by decide +kernel
theorem dX7_slow_29 : decode cX7_slow 29 = .ok (.iconst (-1), 1) := by decide +kernel
theorem dX7_slow_30 : decode cX7_slow 30 = .ok (.ireturn, 1) := by decide +kernel
theorem dX7_need_0 : decode cX7_need 0 = .ok (.aload_n 0, 1) := by decide +kernel
theorem dX7_need_1 : decode cX7_need 1 = .ok (.iload_n 1, 1) := by decide +kernel
theorem dX7_need_2 : decode cX7_need 2 = .ok (.invokevirtual 188, 3) := by decide +kernel
theorem dX7_need_5 : decode cX7_need 5 = .ok (.ifCond .eq 29, 3) := by decide +kernel
theorem dX7_need_8 : decode cX7_need 8 = .ok (.iload_n 2, 1) := by decide +kernel
theorem dX7_need_9 : decode cX7_need 9 = .ok (.invokestatic 210, 3) := by decide +kernel
theorem dX7_need_12 : decode cX7_need 12 = .ok (.ifCond .eq 22, 3) := by decide +kernel
theorem dX7_need_15 : decode cX7_need 15 = .ok (.aload_n 0, 1) := by decide +kernel
theorem dX7_need_16 : decode cX7_need 16 = .ok (.bipush 20, 2) := by decide +kernel
theorem dX7_need_18 : decode cX7_need 18 = .ok (.iconst 4, 1) := by decide +kernel
theorem dX7_need_19 : decode cX7_need 19 = .ok (.iload_n 1, 1) := by decide +kernel
theorem dX7_need_20 : decode cX7_need 20 = .ok (.imul, 1) := by decide +kernel
theorem dX7_need_21 : decode cX7_need 21 = .ok (.iadd, 1) := by decide +kernel
theorem dX7_need_22 : decode cX7_need 22 = .ok (.iconst 1, 1) := by decide +kernel
theorem dX7_need_23 : decode cX7_need 23 = .ok (.iadd, 1) := by decide +kernel
theorem dX7_need_24 : decode cX7_need 24 = .ok (.iconst 0, 1) := by decide +kernel
theorem dX7_need_25 : decode cX7_need 25 = .ok (.iconst 3, 1) := by decide +kernel
theorem dX7_need_26 : decode cX7_need 26 = .ok (.iload_n 1, 1) := by decide +kernel
theorem dX7_need_27 : decode cX7_need 27 = .ok (.iload_n 2, 1) := by decide +kernel
theorem dX7_need_28 : decode cX7_need 28 = .ok (.invokevirtual 222, 3) := by decide +kernel
theorem dX7_need_31 : decode cX7_need 31 = .ok (.goto 4, 3) := by decide +kernel
theorem dX7_need_34 : decode cX7_need 34 = .ok (.iconst (-1), 1) := by decide +kernel
theorem dX7_need_35 : decode cX7_need 35 = .ok (.ireturn, 1) := by decide +kernel
theorem dX7_kind_0 : decode cX7_kind 0 = .ok (.aload_n 0, 1) := by decide +kernel
theorem dX7_kind_1 : decode cX7_kind 1 = .ok (.iload_n 1, 1) := by decide +kernel
theorem dX7_kind_2 : decode cX7_kind 2 = .ok (.invokevirtual 188, 3) := by decide +kernel
theorem dX7_kind_5 : decode cX7_kind 5 = .ok (.ifCond .eq 17, 3) := by decide +kernel
theorem dX7_kind_8 : decode cX7_kind 8 = .ok (.iload_n 2, 1) := by decide +kernel
theorem dX7_kind_9 : decode cX7_kind 9 = .ok (.invokestatic 210, 3) := by decide +kernel
theorem dX7_kind_12 : decode cX7_kind 12 = .ok (.ifCond .eq 10, 3) := by decide +kernel
theorem dX7_kind_15 : decode cX7_kind 15 = .ok (.iload_n 3, 1) := by decide +kernel
theorem dX7_kind_16 : decode cX7_kind 16 = .ok (.invokestatic 213, 3) := by decide +kernel
theorem dX7_kind_19 : decode cX7_kind 19 = .ok (.ifCond .ne 5, 3) := by decide +kernel
theorem dX7_kind_22 : decode cX7_kind 22 = .ok (.iconst (-1), 1) := by decide +kernel
theorem dX7_kind_23 : decode cX7_kind 23 = .ok (.ireturn, 1) := by decide +kernel
theorem dX7_kind_24 : decode cX7_kind 24 = .ok (.aload_n 0, 1) := by decide +kernel
theorem dX7_kind_25 : decode cX7_kind 25 = .ok (.ldc 226, 2) := by decide +kernel
theorem dX7_kind_27 : decode cX7_kind 27 = .ok (.invokevirtual 227, 3) := by decide +kernel
theorem dX7_kind_30 : decode cX7_kind 30 = .ok (.iconst 0, 1) := by decide +kernel
theorem dX7_kind_31 : decode cX7_kind 31 = .ok (.istore 4, 2) := by decide +kernel
theorem dX7_kind_33 : decode cX7_kind 33 = .ok (.iload 4, 2) := by decide +kernel
theorem dX7_kind_35 : decode cX7_kind 35 = .ok (.iconst 4, 1) := by decide +kernel
theorem dX7_kind_36 : decode cX7_kind 36 = .ok (.if_icmp .ge 32, 3) := by decide +kernel
theorem dX7_kind_39 : decode cX7_kind 39 = .ok (.aload_n 0, 1) := by decide +kernel
theorem dX7_kind_40 : decode cX7_kind 40 = .ok (.invokevirtual 184, 3) := by decide +kernel
theorem dX7_kind_43 : decode cX7_kind 43 = .ok (.aload_n 0, 1) := by decide +kernel
theorem dX7_kind_44 : decode cX7_kind 44 = .ok (.iload_n 1, 1) := by decide +kernel
theorem dX7_kind_45 : decode cX7_kind 45 = .ok (.iconst 0, 1) := by decide +kernel
theorem dX7_kind_46 : decode cX7_kind 46 = .ok (.iload 4, 2) := by decide +kernel
theorem dX7_kind_48 : decode cX7_kind 48 = .ok (.invokevirtual 155, 3) := by decide +kernel
theorem dX7_kind_51 : decode cX7_kind 51 = .ok (.aload_n 0, 1) := by decide +kernel
theorem dX7_kind_52 : decode cX7_kind 52 = .ok (.iload 4, 2) := by decide +kernel
theorem dX7_kind_54 : decode cX7_kind 54 = .ok (.aload_n 0, 1) := by decide +kernel
theorem dX7_kind_55 : decode cX7_kind 55 = .ok (.iload_n 2, 1) := by decide +kernel
theorem dX7_kind_56 : decode cX7_kind 56 = .ok (.invokevirtual 230, 3) := by decide +kernel
theorem dX7_kind_59 : decode cX7_kind 59 = .ok (.invokevirtual 233, 3) := by decide +kernel
theorem dX7_kind_62 : decode cX7_kind 62 = .ok (.iinc 4 1, 3) := by decide +kernel
theorem dX7_kind_65 : decode cX7_kind 65 = .ok (.goto (-32), 3) := by decide +kernel
theorem dX7_kind_68 : decode cX7_kind 68 = .ok (.aload_n 0, 1) := by decide +kernel
theorem dX7_kind_69 : decode cX7_kind 69 = .ok (.iload_n 3, 1) := by decide +kernel
theorem dX7_kind_70 : decode cX7_kind 70 = .ok (.invokevirtual 237, 3) := by decide +kernel
theorem dX7_kind_73 : decode cX7_kind 73 = .ok (.ireturn, 1) := by decide +kernel
theorem dX7_swap_0 : decode cX7_swap 0 = .ok (.iload_n 1, 1) := by decide +kernel
theorem dX7_swap_1 : decode cX7_swap 1 = .ok (.invokestatic 210, 3) := by decide +kernel
theorem dX7_swap_4 : decode cX7_swap 4 = .ok (.ifCond .eq 10, 3) := by decide +kernel
theorem dX7_swap_7 : decode cX7_swap 7 = .ok (.iload_n 2, 1) := by decide +kernel
theorem dX7_swap_8 : decode cX7_swap 8 = .ok (.invokestatic 213, 3) := by decide +kernel
theorem dX7_swap_11 : decode cX7_swap 11 = .ok (.ifCond .ne 5, 3) := by decide +kernel
theorem dX7_swap_14 : decode cX7_swap 14 = .ok (.iconst (-1), 1) := by decide +kernel
theorem dX7_swap_15 : decode cX7_swap 15 = .ok (.ireturn, 1) := by decide +kernel
theorem dX7_swap_16 : decode cX7_swap 16 = .ok (.aload_n 0, 1) := by decide +kernel
theorem dX7_swap_17 : decode cX7_swap 17 = .ok (.invokevirtual 184, 3) := by decide +kernel
theorem dX7_swap_20 : decode cX7_swap 20 = .ok (.aload_n 0, 1) := by decide +kernel
theorem dX7_swap_21 : decode cX7_swap 21 = .ok (.aload_n 0, 1) := by decide +kernel
theorem dX7_swap_22 : decode cX7_swap 22 = .ok (.iload_n 1, 1) := by decide +kernel
theorem dX7_swap_23 : decode cX7_swap 23 = .ok (.invokevirtual 230, 3) := by decide +kernel
theorem dX7_swap_26 : decode cX7_swap 26 = .ok (.invokevirtual 227, 3) := by decide +kernel
theorem dX7_swap_29 : decode cX7_swap 29 = .ok (.iconst 0, 1) := by decide +kernel
theorem dX7_swap_30 : decode cX7_swap 30 = .ok (.istore_n 3, 1) := by decide +kernel
theorem dX7_swap_31 : decode cX7_swap 31 = .ok (.iload_n 3, 1) := by decide +kernel
theorem dX7_swap_32 : decode cX7_swap 32 = .ok (.aload_n 0, 1) := by decide +kernel
theorem dX7_swap_33 : decode cX7_swap 33 = .ok (.getfield 7, 3) := by decide +kernel
theorem dX7_swap_36 : decode cX7_swap 36 = .ok (.bipush 17, 2) := by decide +kernel
theorem dX7_swap_38 : decode cX7_swap 38 = .ok (.iaload, 1) := by decide +kernel
theorem dX7_swap_39 : decode cX7_swap 39 = .ok (.if_icmp .ge 86, 3) := by decide +kernel
theorem dX7_swap_42 : decode cX7_swap 42 = .ok (.iload_n 3, 1) := by decide +kernel
theorem dX7_swap_43 : decode cX7_swap 43 = .ok (.iconst 1, 1) := by decide +kernel
theorem dX7_swap_44 : decode cX7_swap 44 = .ok (.iadd, 1) := by decide +kernel
theorem dX7_swap_45 : decode cX7_swap 45 = .ok (.istore 4, 2) := by decide +kernel
theorem dX7_swap_47 : decode cX7_swap 47 = .ok (.iload 4, 2) := by decide +kernel
theorem dX7_swap_49 : decode cX7_swap 49 = .ok (.aload_n 0, 1) := by decide +kernel
theorem dX7_swap_50 : decode cX7_swap 50 = .ok (.getfield 7, 3) := by decide +kernel
theorem dX7_swap_53 : decode cX7_swap 53 = .ok (.bipush 17, 2) := by decide +kernel
theorem dX7_swap_55 : decode cX7_swap 55 = .ok (.iaload, 1) := by decide +kernel
theorem dX7_swap_56 : decode cX7_swap 56 = .ok (.if_icmp .ge 63, 3) := by decide +kernel
theorem dX7_swap_59 : decode cX7_swap 59 = .ok (.aload_n 0, 1) := by decide +kernel
theorem dX7_swap_60 : decode cX7_swap 60 = .ok (.invokevirtual 184, 3) := by decide +kernel
theorem dX7_swap_63 : decode cX7_swap 63 = .ok (.aload_n 0, 1) := by decide +kernel
theorem dX7_swap_64 : decode cX7_swap 64 = .ok (.getfield 13, 3) := by decide +kernel
theorem dX7_swap_67 : decode cX7_swap 67 = .ok (.iconst 1, 1) := by decide +kernel
theorem dX7_swap_68 : decode cX7_swap 68 = .ok (.iload_n 3, 1) := by decide +kernel
theorem dX7_swap_69 : decode cX7_swap 69 = .ok (.iadd, 1) := by decide +kernel
theorem dX7_swap_70 : decode cX7_swap 70 = .ok (.aload_n 0, 1) := by decide +kernel
theorem dX7_swap_71 : decode cX7_swap 71 = .ok (.getfield 7, 3) := by decide +kernel
theorem dX7_swap_74 : decode cX7_swap 74 = .ok (.iconst 1, 1) := by decide +kernel
theorem dX7_swap_75 : decode cX7_swap 75 = .ok (.iload 4, 2) := by decide +kernel
theorem dX7_swap_77 : decode cX7_swap 77 = .ok (.iadd, 1) := by decide +kernel
theorem dX7_swap_78 : decode cX7_swap 78 = .ok (.iaload, 1) := by decide +kernel
theorem dX7_swap_79 : decode cX7_swap 79 = .ok (.iastore, 1) := by decide +kernel
theorem dX7_swap_80 : decode cX7_swap 80 = .ok (.aload_n 0, 1) := by decide +kernel
theorem dX7_swap_81 : decode cX7_swap 81 = .ok (.getfield 13, 3) := by decide +kernel
theorem dX7_swap_84 : decode cX7_swap 84 = .ok (.iconst 1, 1) := by decide +kernel
theorem dX7_swap_85 : decode cX7_swap 85 = .ok (.iload 4, 2) := by decide +kernel
theorem dX7_swap_87 : decode cX7_swap 87 = .ok (.iadd, 1) := by decide +kernel
theorem dX7_swap_88 : decode cX7_swap 88 = .ok (.aload_n 0, 1) := by decide +kernel
theorem dX7_swap_89 : decode cX7_swap 89 = .ok (.getfield 7, 3) := by decide +kernel
theorem dX7_swap_92 : decode cX7_swap 92 = .ok (.iconst 1, 1) := by decide +kernel
theorem dX7_swap_93 : decode cX7_swap 93 = .ok (.iload_n 3, 1) := by decide +kernel
theorem dX7_swap_94 : decode cX7_swap 94 = .ok (.iadd, 1) := by decide +kernel
theorem dX7_swap_95 : decode cX7_swap 95 = .ok (.iaload, 1) := by decide +kernel
theorem dX7_swap_96 : decode cX7_swap 96 = .ok (.iastore, 1) := by decide +kernel
theorem dX7_swap_97 : decode cX7_swap 97 = .ok (.aload_n 0, 1) := by decide +kernel
theorem dX7_swap_98 : decode cX7_swap 98 = .ok (.bipush 100, 2) := by decide +kernel
theorem dX7_swap_100 : decode cX7_swap 100 = .ok (.iload_n 3, 1) := by decide +kernel
theorem dX7_swap_101 : decode cX7_swap 101 = .ok (.imul, 1) := by decide +kernel
theorem dX7_swap_102 : decode cX7_swap 102 = .ok (.iload 4, 2) := by decide +kernel
theorem dX7_swap_104 : decode cX7_swap 104 = .ok (.iadd, 1) := by decide +kernel
theorem dX7_swap_105 : decode cX7_swap 105 = .ok (.aload_n 0, 1) := by decide +kernel
theorem dX7_swap_106 : decode cX7_swap 106 = .ok (.iload_n 1, 1) := by decide +kernel
theorem dX7_swap_107 : decode cX7_swap 107 = .ok (.invokevirtual 230, 3) := by decide +kernel
theorem dX7_swap_110 : decode cX7_swap 110 = .ok (.invokevirtual 233, 3) := by decide +kernel
theorem dX7_swap_113 : decode cX7_swap 113 = .ok (.iinc 4 1, 3) := by decide +kernel
theorem dX7_swap_116 : decode cX7_swap 116 = .ok (.goto (-69), 3) := by decide +kernel
theorem dX7_swap_119 : decode cX7_swap 119 = .ok (.iinc 3 1, 3) := by decide +kernel
theorem dX7_swap_122 : decode cX7_swap 122 = .ok (.goto (-91), 3) := by decide +kernel
theorem dX7_swap_125 : decode cX7_swap 125 = .ok (.aload_n 0, 1) := by decide +kernel
theorem dX7_swap_126 : decode cX7_swap 126 = .ok (.iload_n 2, 1) := by decide +kernel
theorem dX7_swap_127 : decode cX7_swap 127 = .ok (.invokevirtual 237, 3) := by decide +kernel
theorem dX7_swap_130 : decode cX7_swap 130 = .ok (.ireturn, 1) := by decide +kernel
theorem dX7_ease_0 : decode cX7_ease 0 = .ok (.iload_n 1, 1) := by decide +kernel
theorem dX7_ease_1 : decode cX7_ease 1 = .ok (.invokestatic 210, 3) := by decide +kernel
theorem dX7_ease_4 : decode cX7_ease 4 = .ok (.ifCond .eq 10, 3) := by decide +kernel
theorem dX7_ease_7 : decode cX7_ease 7 = .ok (.iload_n 2, 1) := by decide +kernel
theorem dX7_ease_8 : decode cX7_ease 8 = .ok (.invokestatic 213, 3) := by decide +kernel
theorem dX7_ease_11 : decode cX7_ease 11 = .ok (.ifCond .ne 5, 3) := by decide +kernel
theorem dX7_ease_14 : decode cX7_ease 14 = .ok (.iconst (-1), 1) := by decide +kernel
theorem dX7_ease_15 : decode cX7_ease 15 = .ok (.ireturn, 1) := by decide +kernel
theorem dX7_ease_16 : decode cX7_ease 16 = .ok (.aload_n 0, 1) := by decide +kernel
theorem dX7_ease_17 : decode cX7_ease 17 = .ok (.invokevirtual 184, 3) := by decide +kernel
theorem dX7_ease_20 : decode cX7_ease 20 = .ok (.aload_n 0, 1) := by decide +kernel
theorem dX7_ease_21 : decode cX7_ease 21 = .ok (.aload_n 0, 1) := by decide +kernel
theorem dX7_ease_22 : decode cX7_ease 22 = .ok (.iload_n 1, 1) := by decide +kernel
theorem dX7_ease_23 : decode cX7_ease 23 = .ok (.invokevirtual 230, 3) := by decide +kernel
theorem dX7_ease_26 : decode cX7_ease 26 = .ok (.invokevirtual 227, 3) := by decide +kernel
theorem dX7_ease_29 : decode cX7_ease 29 = .ok (.iconst 0, 1) := by decide +kernel
theorem dX7_ease_30 : decode cX7_ease 30 = .ok (.istore_n 3, 1) := by decide +kernel
theorem dX7_ease_31 : decode cX7_ease 31 = .ok (.iload_n 3, 1) := by decide +kernel
theorem dX7_ease_32 : decode cX7_ease 32 = .ok (.aload_n 0, 1) := by decide +kernel
theorem dX7_ease_33 : decode cX7_ease 33 = .ok (.getfield 7, 3) := by decide +kernel
theorem dX7_ease_36 : decode cX7_ease 36 = .ok (.bipush 17, 2) := by decide +kernel
theorem dX7_ease_38 : decode cX7_ease 38 = .ok (.iaload, 1) := by decide +kernel
theorem dX7_ease_39 : decode cX7_ease 39 = .ok (.if_icmp .ge 32, 3) := by decide +kernel
theorem dX7_ease_42 : decode cX7_ease 42 = .ok (.aload_n 0, 1) := by decide +kernel
theorem dX7_ease_43 : decode cX7_ease 43 = .ok (.invokevirtual 184, 3) := by decide +kernel
theorem dX7_ease_46 : decode cX7_ease 46 = .ok (.aload_n 0, 1) := by decide +kernel
theorem dX7_ease_47 : decode cX7_ease 47 = .ok (.getfield 13, 3) := by decide +kernel
theorem dX7_ease_50 : decode cX7_ease 50 = .ok (.iconst 1, 1) := by decide +kernel
theorem dX7_ease_51 : decode cX7_ease 51 = .ok (.iload_n 3, 1) := by decide +kernel
theorem dX7_ease_52 : decode cX7_ease 52 = .ok (.iadd, 1) := by decide +kernel
theorem dX7_ease_53 : decode cX7_ease 53 = .ok (.iconst 0, 1) := by decide +kernel
theorem dX7_ease_54 : decode cX7_ease 54 = .ok (.iastore, 1) := by decide +kernel
theorem dX7_ease_55 : decode cX7_ease 55 = .ok (.aload_n 0, 1) := by decide +kernel
theorem dX7_ease_56 : decode cX7_ease 56 = .ok (.iload_n 3, 1) := by decide +kernel
theorem dX7_ease_57 : decode cX7_ease 57 = .ok (.aload_n 0, 1) := by decide +kernel
theorem dX7_ease_58 : decode cX7_ease 58 = .ok (.iload_n 1, 1) := by decide +kernel
theorem dX7_ease_59 : decode cX7_ease 59 = .ok (.invokevirtual 230, 3) := by decide +kernel
theorem dX7_ease_62 : decode cX7_ease 62 = .ok (.invokevirtual 233, 3) := by decide +kernel
theorem dX7_ease_65 : decode cX7_ease 65 = .ok (.iinc 3 1, 3) := by decide +kernel
theorem dX7_ease_68 : decode cX7_ease 68 = .ok (.goto (-37), 3) := by decide +kernel
theorem dX7_ease_71 : decode cX7_ease 71 = .ok (.aload_n 0, 1) := by decide +kernel
theorem dX7_ease_72 : decode cX7_ease 72 = .ok (.iload_n 2, 1) := by decide +kernel
theorem dX7_ease_73 : decode cX7_ease 73 = .ok (.invokevirtual 237, 3) := by decide +kernel
theorem dX7_ease_76 : decode cX7_ease 76 = .ok (.ireturn, 1) := by decide +kernel
theorem dX7_begin_0 : decode cX7_begin 0 = .ok (.aload_n 0, 1) := by decide +kernel
theorem dX7_begin_1 : decode cX7_begin 1 = .ok (.iload_n 1, 1) := by decide +kernel
theorem dX7_begin_2 : decode cX7_begin 2 = .ok (.invokevirtual 188, 3) := by decide +kernel
theorem dX7_begin_5 : decode cX7_begin 5 = .ok (.ifCond .eq 17, 3) := by decide +kernel
theorem dX7_begin_8 : decode cX7_begin 8 = .ok (.iload_n 2, 1) := by decide +kernel
theorem dX7_begin_9 : decode cX7_begin 9 = .ok (.invokestatic 210, 3) := by decide +kernel
theorem dX7_begin_12 : decode cX7_begin 12 = .ok (.ifCond .eq 10, 3) := by decide +kernel
theorem dX7_begin_15 : decode cX7_begin 15 = .ok (.iload_n 3, 1) := by decide +kernel
theorem dX7_begin_16 : decode cX7_begin 16 = .ok (.invokestatic 213, 3) := by decide +kernel
theorem dX7_begin_19 : decode cX7_begin 19 = .ok (.ifCond .ne 5, 3) := by decide +kernel
theorem dX7_begin_22 : decode cX7_begin 22 = .ok (.iconst (-1), 1) := by decide +kernel
theorem dX7_begin_23 : decode cX7_begin 23 = .ok (.ireturn, 1) := by decide +kernel
theorem dX7_begin_24 : decode cX7_begin 24 = .ok (.aload_n 0, 1) := by decide +kernel
theorem dX7_begin_25 : decode cX7_begin 25 = .ok (.ldc 226, 2) := by decide +kernel
theorem dX7_begin_27 : decode cX7_begin 27 = .ok (.invokevirtual 227, 3) := by decide +kernel
theorem dX7_begin_30 : decode cX7_begin 30 = .ok (.iconst 0, 1) := by decide +kernel
theorem dX7_begin_31 : decode cX7_begin 31 = .ok (.istore 4, 2) := by decide +kernel
theorem dX7_begin_33 : decode cX7_begin 33 = .ok (.iload 4, 2) := by decide +kernel
theorem dX7_begin_35 : decode cX7_begin 35 = .ok (.bipush 8, 2) := by decide +kernel
theorem dX7_begin_37 : decode cX7_begin 37 = .ok (.if_icmp .ge 39, 3) := by decide +kernel
theorem dX7_begin_40 : decode cX7_begin 40 = .ok (.aload_n 0, 1) := by decide +kernel
theorem dX7_begin_41 : decode cX7_begin 41 = .ok (.invokevirtual 184, 3) := by decide +kernel
theorem dX7_begin_44 : decode cX7_begin 44 = .ok (.aload_n 0, 1) := by decide +kernel
theorem dX7_begin_45 : decode cX7_begin 45 = .ok (.iload_n 1, 1) := by decide +kernel
theorem dX7_begin_46 : decode cX7_begin 46 = .ok (.iconst 2, 1) := by decide +kernel
theorem dX7_begin_47 : decode cX7_begin 47 = .ok (.aload_n 0, 1) := by decide +kernel
theorem dX7_begin_48 : decode cX7_begin 48 = .ok (.iload_n 1, 1) := by decide +kernel
theorem dX7_begin_49 : decode cX7_begin 49 = .ok (.iconst 2, 1) := by decide +kernel
theorem dX7_begin_50 : decode cX7_begin 50 = .ok (.invokevirtual 132, 3) := by decide +kernel
theorem dX7_begin_53 : decode cX7_begin 53 = .ok (.iload 4, 2) := by decide +kernel
theorem dX7_begin_55 : decode cX7_begin 55 = .ok (.iadd, 1) := by decide +kernel
theorem dX7_begin_56 : decode cX7_begin 56 = .ok (.invokevirtual 155, 3) := by decide +kernel
theorem dX7_begin_59 : decode cX7_begin 59 = .ok (.aload_n 0, 1) := by decide +kernel
theorem dX7_begin_60 : decode cX7_begin 60 = .ok (.iload 4, 2) := by decide +kernel
theorem dX7_begin_62 : decode cX7_begin 62 = .ok (.aload_n 0, 1) := by decide +kernel
theorem dX7_begin_63 : decode cX7_begin 63 = .ok (.iload_n 2, 1) := by decide +kernel
theorem dX7_begin_64 : decode cX7_begin 64 = .ok (.invokevirtual 230, 3) := by decide +kernel
theorem dX7_begin_67 : decode cX7_begin 67 = .ok (.invokevirtual 233, 3) := by decide +kernel
theorem dX7_begin_70 : decode cX7_begin 70 = .ok (.iinc 4 1, 3) := by decide +kernel
theorem dX7_begin_73 : decode cX7_begin 73 = .ok (.goto (-40), 3) := by decide +kernel
theorem dX7_begin_76 : decode cX7_begin 76 = .ok (.aload_n 0, 1) := by decide +kernel
theorem dX7_begin_77 : decode cX7_begin 77 = .ok (.iload_n 3, 1) := by decide +kernel
theorem dX7_begin_78 : decode cX7_begin 78 = .ok (.invokevirtual 237, 3) := by decide +kernel
theorem dX7_begin_81 : decode cX7_begin 81 = .ok (.ireturn, 1) := by decide +kernel
theorem dX7_common_0 : decode cX7_common 0 = .ok (.lload_n 0, 1) := by decide +kernel
theorem dX7_common_1 : decode cX7_common 1 = .ok (.lstore 4, 2) := by decide +kernel
theorem dX7_common_3 : decode cX7_common 3 = .ok (.lload_n 2, 1) := by decide +kernel
theorem dX7_common_4 : decode cX7_common 4 = .ok (.lstore 6, 2) := by decide +kernel
theorem dX7_common_6 : decode cX7_common 6 = .ok (.lload 6, 2) := by decide +kernel
theorem dX7_common_8 : decode cX7_common 8 = .ok (.lconst 0, 1) := by decide +kernel
theorem dX7_common_9 : decode cX7_common 9 = .ok (.lcmp, 1) := by decide +kernel
theorem dX7_common_10 : decode cX7_common 10 = .ok (.ifCond .eq 21, 3) := by decide +kernel
theorem dX7_common_13 : decode cX7_common 13 = .ok (.lload 4, 2) := by decide +kernel
theorem dX7_common_15 : decode cX7_common 15 = .ok (.lload 6, 2) := by decide +kernel
theorem dX7_common_17 : decode cX7_common 17 = .ok (.lrem, 1) := by decide +kernel
theorem dX7_common_18 : decode cX7_common 18 = .ok (.lstore 8, 2) := by decide +kernel
theorem dX7_common_20 : decode cX7_common 20 = .ok (.lload 6, 2) := by decide +kernel
theorem dX7_common_22 : decode cX7_common 22 = .ok (.lstore 4, 2) := by decide +kernel
theorem dX7_common_24 : decode cX7_common 24 = .ok (.lload 8, 2) := by decide +kernel
theorem dX7_common_26 : decode cX7_common 26 = .ok (.lstore 6, 2) := by decide +kernel
theorem dX7_common_28 : decode cX7_common 28 = .ok (.goto (-22), 3) := by decide +kernel
theorem dX7_common_31 : decode cX7_common 31 = .ok (.lload 4, 2) := by decide +kernel
theorem dX7_common_33 : decode cX7_common 33 = .ok (.lreturn, 1) := by decide +kernel
theorem dX7_lowest_0 : decode cX7_lowest 0 = .ok (.lload_n 2, 1) := by decide +kernel
theorem dX7_lowest_1 : decode cX7_lowest 1 = .ok (.lload_n 0, 1) := by decide +kernel
theorem dX7_lowest_2 : decode cX7_lowest 2 = .ok (.invokestatic 240, 3) := by decide +kernel
theorem dX7_lowest_5 : decode cX7_lowest 5 = .ok (.lstore 5, 2) := by decide +kernel
theorem dX7_lowest_7 : decode cX7_lowest 7 = .ok (.iload 4, 2) := by decide +kernel
theorem dX7_lowest_9 : decode cX7_lowest 9 = .ok (.ifCond .ne 10, 3) := by decide +kernel
theorem dX7_lowest_12 : decode cX7_lowest 12 = .ok (.lload_n 0, 1) := by decide +kernel
theorem dX7_lowest_13 : decode cX7_lowest 13 = .ok (.lload 5, 2) := by decide +kernel
theorem dX7_lowest_15 : decode cX7_lowest 15 = .ok (.ldiv, 1) := by decide +kernel
theorem dX7_lowest_16 : decode cX7_lowest 16 = .ok (.goto 7, 3) := by decide +kernel
theorem dX7_lowest_19 : decode cX7_lowest 19 = .ok (.lload_n 2, 1) := by decide +kernel
theorem dX7_lowest_20 : decode cX7_lowest 20 = .ok (.lload 5, 2) := by decide +kernel
theorem dX7_lowest_22 : decode cX7_lowest 22 = .ok (.ldiv, 1) := by decide +kernel
theorem dX7_lowest_23 : decode cX7_lowest 23 = .ok (.lreturn, 1) := by decide +kernel
theorem dX7_findOdds_0 : decode cX7_findOdds 0 = .ok (.aload_n 0, 1) := by decide +kernel
theorem dX7_findOdds_1 : decode cX7_findOdds 1 = .ok (.lconst 0, 1) := by decide +kernel
theorem dX7_findOdds_2 : decode cX7_findOdds 2 = .ok (.putfield 244, 3) := by decide +kernel
theorem dX7_findOdds_5 : decode cX7_findOdds 5 = .ok (.aload_n 0, 1) := by decide +kernel
theorem dX7_findOdds_6 : decode cX7_findOdds 6 = .ok (.lconst 0, 1) := by decide +kernel
theorem dX7_findOdds_7 : decode cX7_findOdds 7 = .ok (.putfield 248, 3) := by decide +kernel
theorem dX7_findOdds_10 : decode cX7_findOdds 10 = .ok (.aload_n 0, 1) := by decide +kernel
theorem dX7_findOdds_11 : decode cX7_findOdds 11 = .ok (.lconst 1, 1) := by decide +kernel
theorem dX7_findOdds_12 : decode cX7_findOdds 12 = .ok (.putfield 251, 3) := by decide +kernel
theorem dX7_findOdds_15 : decode cX7_findOdds 15 = .ok (.iconst 0, 1) := by decide +kernel
theorem dX7_findOdds_16 : decode cX7_findOdds 16 = .ok (.istore 4, 2) := by decide +kernel
theorem dX7_findOdds_18 : decode cX7_findOdds 18 = .ok (.iload 4, 2) := by decide +kernel
theorem dX7_findOdds_20 : decode cX7_findOdds 20 = .ok (.iload_n 3, 1) := by decide +kernel
theorem dX7_findOdds_21 : decode cX7_findOdds 21 = .ok (.if_icmp .ge 21, 3) := by decide +kernel
theorem dX7_findOdds_24 : decode cX7_findOdds 24 = .ok (.aload_n 0, 1) := by decide +kernel
theorem dX7_findOdds_25 : decode cX7_findOdds 25 = .ok (.dup, 1) := by decide +kernel
theorem dX7_findOdds_26 : decode cX7_findOdds 26 = .ok (.getfield 251, 3) := by decide +kernel
theorem dX7_findOdds_29 : decode cX7_findOdds 29 = .ok (.ldc2_w 254, 3) := by decide +kernel
theorem dX7_findOdds_32 : decode cX7_findOdds 32 = .ok (.lmul, 1) := by decide +kernel
theorem dX7_findOdds_33 : decode cX7_findOdds 33 = .ok (.putfield 251, 3) := by decide +kernel
theorem dX7_findOdds_36 : decode cX7_findOdds 36 = .ok (.iinc 4 1, 3) := by decide +kernel
theorem dX7_findOdds_39 : decode cX7_findOdds 39 = .ok (.goto (-21), 3) := by decide +kernel
theorem dX7_findOdds_42 : decode cX7_findOdds 42 = .ok (.iconst 0, 1) := by decide +kernel
theorem dX7_findOdds_43 : decode cX7_findOdds 43 = .ok (.istore 4, 2) := by decide +kernel
theorem dX7_findOdds_45 : decode cX7_findOdds 45 = .ok (.iload 4, 2) := by decide +kernel
theorem dX7_findOdds_47 : decode cX7_findOdds 47 = .ok (.iconst 1, 1) := by decide +kernel
theorem dX7_findOdds_48 : decode cX7_findOdds 48 = .ok (.iload_n 3, 1) := by decide +kernel
theorem dX7_findOdds_49 : decode cX7_findOdds 49 = .ok (.ishl, 1) := by decide +kernel
theorem dX7_findOdds_50 : decode cX7_findOdds 50 = .ok (.if_icmp .ge 125, 3) := by decide +kernel
theorem dX7_findOdds_53 : decode cX7_findOdds 53 = .ok (.lconst 1, 1) := by decide +kernel
theorem dX7_findOdds_54 : decode cX7_findOdds 54 = .ok (.lstore 5, 2) := by decide +kernel
theorem dX7_findOdds_56 : decode cX7_findOdds 56 = .ok (.aload_n 0, 1) := by decide +kernel
theorem dX7_findOdds_57 : decode cX7_findOdds 57 = .ok (.invokevirtual 184, 3) := by decide +kernel
theorem dX7_findOdds_60 : decode cX7_findOdds 60 = .ok (.iconst 0, 1) := by decide +kernel
theorem dX7_findOdds_61 : decode cX7_findOdds 61 = .ok (.istore 7, 2) := by decide +kernel
theorem dX7_findOdds_63 : decode cX7_findOdds 63 = .ok (.iload 7, 2) := by decide +kernel
theorem dX7_findOdds_65 : decode cX7_findOdds 65 = .ok (.iload_n 3, 1) := by decide +kernel
theorem dX7_findOdds_66 : decode cX7_findOdds 66 = .ok (.if_icmp .ge 57, 3) := by decide +kernel
theorem dX7_findOdds_69 : decode cX7_findOdds 69 = .ok (.iload 4, 2) := by decide +kernel
theorem dX7_findOdds_71 : decode cX7_findOdds 71 = .ok (.iload 7, 2) := by decide +kernel
theorem dX7_findOdds_73 : decode cX7_findOdds 73 = .ok (.ishr, 1) := by decide +kernel
theorem dX7_findOdds_74 : decode cX7_findOdds 74 = .ok (.iconst 1, 1) := by decide +kernel
theorem dX7_findOdds_75 : decode cX7_findOdds 75 = .ok (.iand, 1) := by decide +kernel
theorem dX7_findOdds_76 : decode cX7_findOdds 76 = .ok (.iconst 1, 1) := by decide +kernel
theorem dX7_findOdds_77 : decode cX7_findOdds 77 = .ok (.if_icmp .ne 7, 3) := by decide +kernel
theorem dX7_findOdds_80 : decode cX7_findOdds 80 = .ok (.iconst 1, 1) := by decide +kernel
theorem dX7_findOdds_81 : decode cX7_findOdds 81 = .ok (.goto 4, 3) := by decide +kernel
theorem dX7_findOdds_84 : decode cX7_findOdds 84 = .ok (.iconst 0, 1) := by decide +kernel
theorem dX7_findOdds_85 : decode cX7_findOdds 85 = .ok (.istore 8, 2) := by decide +kernel
theorem dX7_findOdds_87 : decode cX7_findOdds 87 = .ok (.lload 5, 2) := by decide +kernel
theorem dX7_findOdds_89 : decode cX7_findOdds 89 = .ok (.iload 8, 2) := by decide +kernel
theorem dX7_findOdds_91 : decode cX7_findOdds 91 = .ok (.ifCond .eq 8, 3) := by decide +kernel
theorem dX7_findOdds_94 : decode cX7_findOdds 94 = .ok (.iload_n 1, 1) := by decide +kernel
theorem dX7_findOdds_95 : decode cX7_findOdds 95 = .ok (.i2l, 1) := by decide +kernel
theorem dX7_findOdds_96 : decode cX7_findOdds 96 = .ok (.goto 8, 3) := by decide +kernel
theorem dX7_findOdds_99 : decode cX7_findOdds 99 = .ok (.bipush 10, 2) := by decide +kernel
theorem dX7_findOdds_101 : decode cX7_findOdds 101 = .ok (.iload_n 1, 1) := by decide +kernel
theorem dX7_findOdds_102 : decode cX7_findOdds 102 = .ok (.isub, 1) := by decide +kernel
theorem dX7_findOdds_103 : decode cX7_findOdds 103 = .ok (.i2l, 1) := by decide +kernel
theorem dX7_findOdds_104 : decode cX7_findOdds 104 = .ok (.lmul, 1) := by decide +kernel
theorem dX7_findOdds_105 : decode cX7_findOdds 105 = .ok (.lstore 5, 2) := by decide +kernel
theorem dX7_findOdds_107 : decode cX7_findOdds 107 = .ok (.aload_n 0, 1) := by decide +kernel
theorem dX7_findOdds_108 : decode cX7_findOdds 108 = .ok (.invokevirtual 171, 3) := by decide +kernel
theorem dX7_findOdds_111 : decode cX7_findOdds 111 = .ok (.aload_n 0, 1) := by decide +kernel
theorem dX7_findOdds_112 : decode cX7_findOdds 112 = .ok (.iload 8, 2) := by decide +kernel
theorem dX7_findOdds_114 : decode cX7_findOdds 114 = .ok (.invokevirtual 174, 3) := by decide +kernel
theorem dX7_findOdds_117 : decode cX7_findOdds 117 = .ok (.iinc 7 1, 3) := by decide +kernel
theorem dX7_findOdds_120 : decode cX7_findOdds 120 = .ok (.goto (-57), 3) := by decide +kernel
theorem dX7_findOdds_123 : decode cX7_findOdds 123 = .ok (.aload_n 0, 1) := by decide +kernel
theorem dX7_findOdds_124 : decode cX7_findOdds 124 = .ok (.dup, 1) := by decide +kernel
theorem dX7_findOdds_125 : decode cX7_findOdds 125 = .ok (.getfield 244, 3) := by decide +kernel
theorem dX7_findOdds_128 : decode cX7_findOdds 128 = .ok (.iload_n 2, 1) := by decide +kernel
theorem dX7_findOdds_129 : decode cX7_findOdds 129 = .ok (.bipush (-4), 2) := by decide +kernel
theorem dX7_findOdds_131 : decode cX7_findOdds 131 = .ok (.if_icmp .eq 16, 3) := by decide +kernel
theorem dX7_findOdds_134 : decode cX7_findOdds 134 = .ok (.aload_n 0, 1) := by decide +kernel
theorem dX7_findOdds_135 : decode cX7_findOdds 135 = .ok (.iload_n 2, 1) := by decide +kernel
theorem dX7_findOdds_136 : decode cX7_findOdds 136 = .ok (.invokevirtual 138, 3) := by decide +kernel
theorem dX7_findOdds_139 : decode cX7_findOdds 139 = .ok (.ifCond .ne 8, 3) := by decide +kernel
theorem dX7_findOdds_142 : decode cX7_findOdds 142 = .ok (.lload 5, 2) := by decide +kernel
theorem dX7_findOdds_144 : decode cX7_findOdds 144 = .ok (.goto 4, 3) := by decide +kernel
theorem dX7_findOdds_147 : decode cX7_findOdds 147 = .ok (.lconst 0, 1) := by decide +kernel
theorem dX7_findOdds_148 : decode cX7_findOdds 148 = .ok (.ladd, 1) := by decide +kernel
theorem dX7_findOdds_149 : decode cX7_findOdds 149 = .ok (.putfield 244, 3) := by decide +kernel
theorem dX7_findOdds_152 : decode cX7_findOdds 152 = .ok (.aload_n 0, 1) := by decide +kernel
theorem dX7_findOdds_153 : decode cX7_findOdds 153 = .ok (.dup, 1) := by decide +kernel
theorem dX7_findOdds_154 : decode cX7_findOdds 154 = .ok (.getfield 248, 3) := by decide +kernel
theorem dX7_findOdds_157 : decode cX7_findOdds 157 = .ok (.lload 5, 2) := by decide +kernel
theorem dX7_findOdds_159 : decode cX7_findOdds 159 = .ok (.aload_n 0, 1) := by decide +kernel
theorem dX7_findOdds_160 : decode cX7_findOdds 160 = .ok (.getfield 126, 3) := by decide +kernel
theorem dX7_findOdds_163 : decode cX7_findOdds 163 = .ok (.i2l, 1) := by decide +kernel
theorem dX7_findOdds_164 : decode cX7_findOdds 164 = .ok (.lmul, 1) := by decide +kernel
theorem dX7_findOdds_165 : decode cX7_findOdds 165 = .ok (.ladd, 1) := by decide +kernel
theorem dX7_findOdds_166 : decode cX7_findOdds 166 = .ok (.putfield 248, 3) := by decide +kernel
theorem dX7_findOdds_169 : decode cX7_findOdds 169 = .ok (.iinc 4 1, 3) := by decide +kernel
theorem dX7_findOdds_172 : decode cX7_findOdds 172 = .ok (.goto (-127), 3) := by decide +kernel
theorem dX7_findOdds_175 : decode cX7_findOdds 175 = .ok (.return_, 1) := by decide +kernel
theorem dX7_luck_0 : decode cX7_luck 0 = .ok (.iload_n 1, 1) := by decide +kernel
theorem dX7_luck_1 : decode cX7_luck 1 = .ok (.i2l, 1) := by decide +kernel
theorem dX7_luck_2 : decode cX7_luck 2 = .ok (.lconst 0, 1) := by decide +kernel
theorem dX7_luck_3 : decode cX7_luck 3 = .ok (.ldc2_w 254, 3) := by decide +kernel
theorem dX7_luck_6 : decode cX7_luck 6 = .ok (.invokestatic 59, 3) := by decide +kernel
theorem dX7_luck_9 : decode cX7_luck 9 = .ok (.ifCond .eq 31, 3) := by decide +kernel
theorem dX7_luck_12 : decode cX7_luck 12 = .ok (.aload_n 0, 1) := by decide +kernel
theorem dX7_luck_13 : decode cX7_luck 13 = .ok (.iload_n 2, 1) := by decide +kernel
theorem dX7_luck_14 : decode cX7_luck 14 = .ok (.invokevirtual 188, 3) := by decide +kernel
theorem dX7_luck_17 : decode cX7_luck 17 = .ok (.ifCond .eq 23, 3) := by decide +kernel
theorem dX7_luck_20 : decode cX7_luck 20 = .ok (.iload_n 3, 1) := by decide +kernel
theorem dX7_luck_21 : decode cX7_luck 21 = .ok (.i2l, 1) := by decide +kernel
theorem dX7_luck_22 : decode cX7_luck 22 = .ok (.lconst 0, 1) := by decide +kernel
theorem dX7_luck_23 : decode cX7_luck 23 = .ok (.ldc2_w 256, 3) := by decide +kernel
theorem dX7_luck_26 : decode cX7_luck 26 = .ok (.invokestatic 59, 3) := by decide +kernel
theorem dX7_luck_29 : decode cX7_luck 29 = .ok (.ifCond .eq 11, 3) := by decide +kernel
theorem dX7_luck_32 : decode cX7_luck 32 = .ok (.iload 4, 2) := by decide +kernel
theorem dX7_luck_34 : decode cX7_luck 34 = .ok (.invokestatic 213, 3) := by decide +kernel
theorem dX7_luck_37 : decode cX7_luck 37 = .ok (.ifCond .ne 7, 3) := by decide +kernel
theorem dX7_luck_40 : decode cX7_luck 40 = .ok (.ldc2_w 258, 3) := by decide +kernel
theorem dX7_luck_43 : decode cX7_luck 43 = .ok (.lreturn, 1) := by decide +kernel
theorem dX7_luck_44 : decode cX7_luck 44 = .ok (.aload_n 0, 1) := by decide +kernel
theorem dX7_luck_45 : decode cX7_luck 45 = .ok (.iload_n 1, 1) := by decide +kernel
theorem dX7_luck_46 : decode cX7_luck 46 = .ok (.iload_n 2, 1) := by decide +kernel
theorem dX7_luck_47 : decode cX7_luck 47 = .ok (.iload_n 3, 1) := by decide +kernel
theorem dX7_luck_48 : decode cX7_luck 48 = .ok (.invokevirtual 260, 3) := by decide +kernel
theorem dX7_luck_51 : decode cX7_luck 51 = .ok (.aload_n 0, 1) := by decide +kernel
theorem dX7_luck_52 : decode cX7_luck 52 = .ok (.getfield 244, 3) := by decide +kernel
theorem dX7_luck_55 : decode cX7_luck 55 = .ok (.aload_n 0, 1) := by decide +kernel
theorem dX7_luck_56 : decode cX7_luck 56 = .ok (.getfield 251, 3) := by decide +kernel
theorem dX7_luck_59 : decode cX7_luck 59 = .ok (.iload 4, 2) := by decide +kernel
theorem dX7_luck_61 : decode cX7_luck 61 = .ok (.invokestatic 263, 3) := by decide +kernel
theorem dX7_luck_64 : decode cX7_luck 64 = .ok (.lreturn, 1) := by decide +kernel
theorem dX7_mean_0 : decode cX7_mean 0 = .ok (.iload_n 1, 1) := by decide +kernel
theorem dX7_mean_1 : decode cX7_mean 1 = .ok (.i2l, 1) := by decide +kernel
theorem dX7_mean_2 : decode cX7_mean 2 = .ok (.lconst 0, 1) := by decide +kernel
theorem dX7_mean_3 : decode cX7_mean 3 = .ok (.ldc2_w 254, 3) := by decide +kernel
theorem dX7_mean_6 : decode cX7_mean 6 = .ok (.invokestatic 59, 3) := by decide +kernel
theorem dX7_mean_9 : decode cX7_mean 9 = .ok (.ifCond .eq 22, 3) := by decide +kernel
theorem dX7_mean_12 : decode cX7_mean 12 = .ok (.iload_n 2, 1) := by decide +kernel
theorem dX7_mean_13 : decode cX7_mean 13 = .ok (.i2l, 1) := by decide +kernel
theorem dX7_mean_14 : decode cX7_mean 14 = .ok (.lconst 0, 1) := by decide +kernel
theorem dX7_mean_15 : decode cX7_mean 15 = .ok (.ldc2_w 256, 3) := by decide +kernel
theorem dX7_mean_18 : decode cX7_mean 18 = .ok (.invokestatic 59, 3) := by decide +kernel
theorem dX7_mean_21 : decode cX7_mean 21 = .ok (.ifCond .eq 10, 3) := by decide +kernel
theorem dX7_mean_24 : decode cX7_mean 24 = .ok (.iload_n 3, 1) := by decide +kernel
theorem dX7_mean_25 : decode cX7_mean 25 = .ok (.invokestatic 213, 3) := by decide +kernel
theorem dX7_mean_28 : decode cX7_mean 28 = .ok (.ifCond .ne 7, 3) := by decide +kernel
theorem dX7_mean_31 : decode cX7_mean 31 = .ok (.ldc2_w 258, 3) := by decide +kernel
theorem dX7_mean_34 : decode cX7_mean 34 = .ok (.lreturn, 1) := by decide +kernel
theorem dX7_mean_35 : decode cX7_mean 35 = .ok (.aload_n 0, 1) := by decide +kernel
theorem dX7_mean_36 : decode cX7_mean 36 = .ok (.iload_n 1, 1) := by decide +kernel
theorem dX7_mean_37 : decode cX7_mean 37 = .ok (.bipush (-4), 2) := by decide +kernel
theorem dX7_mean_39 : decode cX7_mean 39 = .ok (.iload_n 2, 1) := by decide +kernel
theorem dX7_mean_40 : decode cX7_mean 40 = .ok (.invokevirtual 260, 3) := by decide +kernel
theorem dX7_mean_43 : decode cX7_mean 43 = .ok (.aload_n 0, 1) := by decide +kernel
theorem dX7_mean_44 : decode cX7_mean 44 = .ok (.getfield 248, 3) := by decide +kernel
theorem dX7_mean_47 : decode cX7_mean 47 = .ok (.aload_n 0, 1) := by decide +kernel
theorem dX7_mean_48 : decode cX7_mean 48 = .ok (.getfield 251, 3) := by decide +kernel
theorem dX7_mean_51 : decode cX7_mean 51 = .ok (.iload_n 3, 1) := by decide +kernel
theorem dX7_mean_52 : decode cX7_mean 52 = .ok (.invokestatic 263, 3) := by decide +kernel
theorem dX7_mean_55 : decode cX7_mean 55 = .ok (.lreturn, 1) := by decide +kernel
theorem dX7_see_0 : decode cX7_see 0 = .ok (.iload_n 1, 1) := by decide +kernel
theorem dX7_see_1 : decode cX7_see 1 = .ok (.i2l, 1) := by decide +kernel
theorem dX7_see_2 : decode cX7_see 2 = .ok (.lconst 0, 1) := by decide +kernel
theorem dX7_see_3 : decode cX7_see 3 = .ok (.ldc2_w 267, 3) := by decide +kernel
theorem dX7_see_6 : decode cX7_see 6 = .ok (.invokestatic 59, 3) := by decide +kernel
theorem dX7_see_9 : decode cX7_see 9 = .ok (.ifCond .eq 23, 3) := by decide +kernel
theorem dX7_see_12 : decode cX7_see 12 = .ok (.aload_n 0, 1) := by decide +kernel
theorem dX7_see_13 : decode cX7_see 13 = .ok (.iload_n 2, 1) := by decide +kernel
theorem dX7_see_14 : decode cX7_see 14 = .ok (.invokevirtual 188, 3) := by decide +kernel
theorem dX7_see_17 : decode cX7_see 17 = .ok (.ifCond .eq 15, 3) := by decide +kernel
theorem dX7_see_20 : decode cX7_see 20 = .ok (.iload_n 3, 1) := by decide +kernel
theorem dX7_see_21 : decode cX7_see 21 = .ok (.i2l, 1) := by decide +kernel
theorem dX7_see_22 : decode cX7_see 22 = .ok (.lconst 0, 1) := by decide +kernel
theorem dX7_see_23 : decode cX7_see 23 = .ok (.ldc2_w 269, 3) := by decide +kernel
theorem dX7_see_26 : decode cX7_see 26 = .ok (.invokestatic 59, 3) := by decide +kernel
theorem dX7_see_29 : decode cX7_see 29 = .ok (.ifCond .ne 5, 3) := by decide +kernel
theorem dX7_see_32 : decode cX7_see 32 = .ok (.iconst (-1), 1) := by decide +kernel
theorem dX7_see_33 : decode cX7_see 33 = .ok (.ireturn, 1) := by decide +kernel
theorem dX7_see_34 : decode cX7_see 34 = .ok (.aload_n 0, 1) := by decide +kernel
theorem dX7_see_35 : decode cX7_see 35 = .ok (.getfield 7, 3) := by decide +kernel
theorem dX7_see_38 : decode cX7_see 38 = .ok (.bipush 37, 2) := by decide +kernel
theorem dX7_see_40 : decode cX7_see 40 = .ok (.iaload, 1) := by decide +kernel
theorem dX7_see_41 : decode cX7_see 41 = .ok (.bipush 6, 2) := by decide +kernel
theorem dX7_see_43 : decode cX7_see 43 = .ok (.if_icmp .ne 6, 3) := by decide +kernel
theorem dX7_see_46 : decode cX7_see 46 = .ok (.bipush (-3), 2) := by decide +kernel
theorem dX7_see_48 : decode cX7_see 48 = .ok (.ireturn, 1) := by decide +kernel
theorem dX7_see_49 : decode cX7_see 49 = .ok (.bipush 38, 2) := by decide +kernel
theorem dX7_see_51 : decode cX7_see 51 = .ok (.iconst 3, 1) := by decide +kernel
theorem dX7_see_52 : decode cX7_see 52 = .ok (.aload_n 0, 1) := by decide +kernel
theorem dX7_see_53 : decode cX7_see 53 = .ok (.getfield 7, 3) := by decide +kernel
theorem dX7_see_56 : decode cX7_see 56 = .ok (.bipush 37, 2) := by decide +kernel
theorem dX7_see_58 : decode cX7_see 58 = .ok (.iaload, 1) := by decide +kernel
theorem dX7_see_59 : decode cX7_see 59 = .ok (.imul, 1) := by decide +kernel
theorem dX7_see_60 : decode cX7_see 60 = .ok (.iadd, 1) := by decide +kernel
theorem dX7_see_61 : decode cX7_see 61 = .ok (.istore 4, 2) := by decide +kernel
theorem dX7_see_63 : decode cX7_see 63 = .ok (.aload_n 0, 1) := by decide +kernel
theorem dX7_see_64 : decode cX7_see 64 = .ok (.getfield 7, 3) := by decide +kernel
theorem dX7_see_67 : decode cX7_see 67 = .ok (.iload 4, 2) := by decide +kernel
theorem dX7_see_69 : decode cX7_see 69 = .ok (.iload_n 1, 1) := by decide +kernel
theorem dX7_see_70 : decode cX7_see 70 = .ok (.iastore, 1) := by decide +kernel
theorem dX7_see_71 : decode cX7_see 71 = .ok (.aload_n 0, 1) := by decide +kernel
theorem dX7_see_72 : decode cX7_see 72 = .ok (.getfield 7, 3) := by decide +kernel
theorem dX7_see_75 : decode cX7_see 75 = .ok (.iload 4, 2) := by decide +kernel
theorem dX7_see_77 : decode cX7_see 77 = .ok (.iconst 1, 1) := by decide +kernel
theorem dX7_see_78 : decode cX7_see 78 = .ok (.iadd, 1) := by decide +kernel
theorem dX7_see_79 : decode cX7_see 79 = .ok (.iload_n 2, 1) := by decide +kernel
theorem dX7_see_80 : decode cX7_see 80 = .ok (.iastore, 1) := by decide +kernel
theorem dX7_see_81 : decode cX7_see 81 = .ok (.aload_n 0, 1) := by decide +kernel
theorem dX7_see_82 : decode cX7_see 82 = .ok (.getfield 7, 3) := by decide +kernel
theorem dX7_see_85 : decode cX7_see 85 = .ok (.iload 4, 2) := by decide +kernel
theorem dX7_see_87 : decode cX7_see 87 = .ok (.iconst 2, 1) := by decide +kernel
theorem dX7_see_88 : decode cX7_see 88 = .ok (.iadd, 1) := by decide +kernel
theorem dX7_see_89 : decode cX7_see 89 = .ok (.iload_n 3, 1) := by decide +kernel
theorem dX7_see_90 : decode cX7_see 90 = .ok (.iastore, 1) := by decide +kernel
theorem dX7_see_91 : decode cX7_see 91 = .ok (.aload_n 0, 1) := by decide +kernel
theorem dX7_see_92 : decode cX7_see 92 = .ok (.getfield 7, 3) := by decide +kernel
theorem dX7_see_95 : decode cX7_see 95 = .ok (.bipush 37, 2) := by decide +kernel
theorem dX7_see_97 : decode cX7_see 97 = .ok (.dup2, 1) := by decide +kernel
theorem dX7_see_98 : decode cX7_see 98 = .ok (.iaload, 1) := by decide +kernel
theorem dX7_see_99 : decode cX7_see 99 = .ok (.iconst 1, 1) := by decide +kernel
theorem dX7_see_100 : decode cX7_see 100 = .ok (.iadd, 1) := by decide +kernel
theorem dX7_see_101 : decode cX7_see 101 = .ok (.iastore, 1) := by decide +kernel
theorem dX7_see_102 : decode cX7_see 102 = .ok (.aload_n 0, 1) := by decide +kernel
theorem dX7_see_103 : decode cX7_see 103 = .ok (.getfield 7, 3) := by decide +kernel
theorem dX7_see_106 : decode cX7_see 106 = .ok (.bipush 37, 2) := by decide +kernel
theorem dX7_see_108 : decode cX7_see 108 = .ok (.iaload, 1) := by decide +kernel
theorem dX7_see_109 : decode cX7_see 109 = .ok (.ireturn, 1) := by decide +kernel
theorem dX7_forget_0 : decode cX7_forget 0 = .ok (.iload_n 1, 1) := by decide +kernel
theorem dX7_forget_1 : decode cX7_forget 1 = .ok (.i2l, 1) := by decide +kernel
theorem dX7_forget_2 : decode cX7_forget 2 = .ok (.lconst 0, 1) := by decide +kernel
theorem dX7_forget_3 : decode cX7_forget 3 = .ok (.aload_n 0, 1) := by decide +kernel
theorem dX7_forget_4 : decode cX7_forget 4 = .ok (.getfield 7, 3) := by decide +kernel
theorem dX7_forget_7 : decode cX7_forget 7 = .ok (.bipush 37, 2) := by decide +kernel
theorem dX7_forget_9 : decode cX7_forget 9 = .ok (.iaload, 1) := by decide +kernel
theorem dX7_forget_10 : decode cX7_forget 10 = .ok (.i2l, 1) := by decide +kernel
theorem dX7_forget_11 : decode cX7_forget 11 = .ok (.invokestatic 59, 3) := by decide +kernel
theorem dX7_forget_14 : decode cX7_forget 14 = .ok (.ifCond .eq 13, 3) := by decide +kernel
theorem dX7_forget_17 : decode cX7_forget 17 = .ok (.aload_n 0, 1) := by decide +kernel
theorem dX7_forget_18 : decode cX7_forget 18 = .ok (.bipush 37, 2) := by decide +kernel
theorem dX7_forget_20 : decode cX7_forget 20 = .ok (.iload_n 1, 1) := by decide +kernel
theorem dX7_forget_21 : decode cX7_forget 21 = .ok (.invokevirtual 196, 3) := by decide +kernel
theorem dX7_forget_24 : decode cX7_forget 24 = .ok (.goto 4, 3) := by decide +kernel
theorem dX7_forget_27 : decode cX7_forget 27 = .ok (.iconst (-1), 1) := by decide +kernel
theorem dX7_forget_28 : decode cX7_forget 28 = .ok (.ireturn, 1) := by decide +kernel
theorem dX7_isSoWith_0 : decode cX7_isSoWith 0 = .ok (.aload_n 0, 1) := by decide +kernel
theorem dX7_isSoWith_1 : decode cX7_isSoWith 1 = .ok (.invokevirtual 184, 3) := by decide +kernel
theorem dX7_isSoWith_4 : decode cX7_isSoWith 4 = .ok (.aload_n 0, 1) := by decide +kernel
theorem dX7_isSoWith_5 : decode cX7_isSoWith 5 = .ok (.getfield 13, 3) := by decide +kernel
theorem dX7_isSoWith_8 : decode cX7_isSoWith 8 = .ok (.iload_n 1, 1) := by decide +kernel
theorem dX7_isSoWith_9 : decode cX7_isSoWith 9 = .ok (.iload_n 2, 1) := by decide +kernel
theorem dX7_isSoWith_10 : decode cX7_isSoWith 10 = .ok (.iastore, 1) := by decide +kernel
theorem dX7_isSoWith_11 : decode cX7_isSoWith 11 = .ok (.iconst 0, 1) := by decide +kernel
theorem dX7_isSoWith_12 : decode cX7_isSoWith 12 = .ok (.istore_n 3, 1) := by decide +kernel
theorem dX7_isSoWith_13 : decode cX7_isSoWith 13 = .ok (.iload_n 3, 1) := by decide +kernel
theorem dX7_isSoWith_14 : decode cX7_isSoWith 14 = .ok (.bipush 40, 2) := by decide +kernel
theorem dX7_isSoWith_16 : decode cX7_isSoWith 16 = .ok (.if_icmp .gt 56, 3) := by decide +kernel
theorem dX7_isSoWith_19 : decode cX7_isSoWith 19 = .ok (.iconst 0, 1) := by decide +kernel
theorem dX7_isSoWith_20 : decode cX7_isSoWith 20 = .ok (.istore 4, 2) := by decide +kernel
theorem dX7_isSoWith_22 : decode cX7_isSoWith 22 = .ok (.iload 4, 2) := by decide +kernel
theorem dX7_isSoWith_24 : decode cX7_isSoWith 24 = .ok (.aload_n 0, 1) := by decide +kernel
theorem dX7_isSoWith_25 : decode cX7_isSoWith 25 = .ok (.getfield 13, 3) := by decide +kernel
theorem dX7_isSoWith_28 : decode cX7_isSoWith 28 = .ok (.bipush 36, 2) := by decide +kernel
theorem dX7_isSoWith_30 : decode cX7_isSoWith 30 = .ok (.iaload, 1) := by decide +kernel
theorem dX7_isSoWith_31 : decode cX7_isSoWith 31 = .ok (.if_icmp .ge 30, 3) := by decide +kernel
theorem dX7_isSoWith_34 : decode cX7_isSoWith 34 = .ok (.aload_n 0, 1) := by decide +kernel
theorem dX7_isSoWith_35 : decode cX7_isSoWith 35 = .ok (.getfield 26, 3) := by decide +kernel
theorem dX7_isSoWith_38 : decode cX7_isSoWith 38 = .ok (.iconst 4, 1) := by decide +kernel
theorem dX7_isSoWith_39 : decode cX7_isSoWith 39 = .ok (.iload_n 3, 1) := by decide +kernel
theorem dX7_isSoWith_40 : decode cX7_isSoWith 40 = .ok (.imul, 1) := by decide +kernel
theorem dX7_isSoWith_41 : decode cX7_isSoWith 41 = .ok (.iload 4, 2) := by decide +kernel
theorem dX7_isSoWith_43 : decode cX7_isSoWith 43 = .ok (.iadd, 1) := by decide +kernel
theorem dX7_isSoWith_44 : decode cX7_isSoWith 44 = .ok (.aload_n 0, 1) := by decide +kernel
theorem dX7_isSoWith_45 : decode cX7_isSoWith 45 = .ok (.iload 4, 2) := by decide +kernel
theorem dX7_isSoWith_47 : decode cX7_isSoWith 47 = .ok (.iconst 2, 1) := by decide +kernel
theorem dX7_isSoWith_48 : decode cX7_isSoWith 48 = .ok (.invokevirtual 132, 3) := by decide +kernel
theorem dX7_isSoWith_51 : decode cX7_isSoWith 51 = .ok (.invokestatic 135, 3) := by decide +kernel
theorem dX7_isSoWith_54 : decode cX7_isSoWith 54 = .ok (.iastore, 1) := by decide +kernel
theorem dX7_isSoWith_55 : decode cX7_isSoWith 55 = .ok (.iinc 4 1, 3) := by decide +kernel
theorem dX7_isSoWith_58 : decode cX7_isSoWith 58 = .ok (.goto (-36), 3) := by decide +kernel
theorem dX7_isSoWith_61 : decode cX7_isSoWith 61 = .ok (.aload_n 0, 1) := by decide +kernel
theorem dX7_isSoWith_62 : decode cX7_isSoWith 62 = .ok (.iconst 1, 1) := by decide +kernel
theorem dX7_isSoWith_63 : decode cX7_isSoWith 63 = .ok (.invokevirtual 178, 3) := by decide +kernel
theorem dX7_isSoWith_66 : decode cX7_isSoWith 66 = .ok (.iinc 3 1, 3) := by decide +kernel
theorem dX7_isSoWith_69 : decode cX7_isSoWith 69 = .ok (.goto (-56), 3) := by decide +kernel
theorem dX7_isSoWith_72 : decode cX7_isSoWith 72 = .ok (.iconst 1, 1) := by decide +kernel
theorem dX7_isSoWith_73 : decode cX7_isSoWith 73 = .ok (.istore_n 3, 1) := by decide +kernel
theorem dX7_isSoWith_74 : decode cX7_isSoWith 74 = .ok (.iconst 0, 1) := by decide +kernel
theorem dX7_isSoWith_75 : decode cX7_isSoWith 75 = .ok (.istore 4, 2) := by decide +kernel
theorem dX7_isSoWith_77 : decode cX7_isSoWith 77 = .ok (.iload 4, 2) := by decide +kernel
theorem dX7_isSoWith_79 : decode cX7_isSoWith 79 = .ok (.aload_n 0, 1) := by decide +kernel
theorem dX7_isSoWith_80 : decode cX7_isSoWith 80 = .ok (.getfield 7, 3) := by decide +kernel
theorem dX7_isSoWith_83 : decode cX7_isSoWith 83 = .ok (.bipush 37, 2) := by decide +kernel
theorem dX7_isSoWith_85 : decode cX7_isSoWith 85 = .ok (.iaload, 1) := by decide +kernel
theorem dX7_isSoWith_86 : decode cX7_isSoWith 86 = .ok (.if_icmp .ge 64, 3) := by decide +kernel
theorem dX7_isSoWith_89 : decode cX7_isSoWith 89 = .ok (.bipush 38, 2) := by decide +kernel
theorem dX7_isSoWith_91 : decode cX7_isSoWith 91 = .ok (.iconst 3, 1) := by decide +kernel
theorem dX7_isSoWith_92 : decode cX7_isSoWith 92 = .ok (.iload 4, 2) := by decide +kernel
theorem dX7_isSoWith_94 : decode cX7_isSoWith 94 = .ok (.imul, 1) := by decide +kernel
theorem dX7_isSoWith_95 : decode cX7_isSoWith 95 = .ok (.iadd, 1) := by decide +kernel
theorem dX7_isSoWith_96 : decode cX7_isSoWith 96 = .ok (.istore 5, 2) := by decide +kernel
theorem dX7_isSoWith_98 : decode cX7_isSoWith 98 = .ok (.iload_n 3, 1) := by decide +kernel
theorem dX7_isSoWith_99 : decode cX7_isSoWith 99 = .ok (.ifCond .eq 43, 3) := by decide +kernel
theorem dX7_isSoWith_102 : decode cX7_isSoWith 102 = .ok (.aload_n 0, 1) := by decide +kernel
theorem dX7_isSoWith_103 : decode cX7_isSoWith 103 = .ok (.getfield 26, 3) := by decide +kernel
theorem dX7_isSoWith_106 : decode cX7_isSoWith 106 = .ok (.iconst 4, 1) := by decide +kernel
theorem dX7_isSoWith_107 : decode cX7_isSoWith 107 = .ok (.aload_n 0, 1) := by decide +kernel
theorem dX7_isSoWith_108 : decode cX7_isSoWith 108 = .ok (.getfield 7, 3) := by decide +kernel
theorem dX7_isSoWith_111 : decode cX7_isSoWith 111 = .ok (.iload 5, 2) := by decide +kernel
theorem dX7_isSoWith_113 : decode cX7_isSoWith 113 = .ok (.iaload, 1) := by decide +kernel
theorem dX7_isSoWith_114 : decode cX7_isSoWith 114 = .ok (.imul, 1) := by decide +kernel
theorem dX7_isSoWith_115 : decode cX7_isSoWith 115 = .ok (.aload_n 0, 1) := by decide +kernel
theorem dX7_isSoWith_116 : decode cX7_isSoWith 116 = .ok (.getfield 7, 3) := by decide +kernel
theorem dX7_isSoWith_119 : decode cX7_isSoWith 119 = .ok (.iload 5, 2) := by decide +kernel
theorem dX7_isSoWith_121 : decode cX7_isSoWith 121 = .ok (.iconst 1, 1) := by decide +kernel
theorem dX7_isSoWith_122 : decode cX7_isSoWith 122 = .ok (.iadd, 1) := by decide +kernel
theorem dX7_isSoWith_123 : decode cX7_isSoWith 123 = .ok (.iaload, 1) := by decide +kernel
theorem dX7_isSoWith_124 : decode cX7_isSoWith 124 = .ok (.iadd, 1) := by decide +kernel
theorem dX7_isSoWith_125 : decode cX7_isSoWith 125 = .ok (.iaload, 1) := by decide +kernel
theorem dX7_isSoWith_126 : decode cX7_isSoWith 126 = .ok (.aload_n 0, 1) := by decide +kernel
theorem dX7_isSoWith_127 : decode cX7_isSoWith 127 = .ok (.getfield 7, 3) := by decide +kernel
theorem dX7_isSoWith_130 : decode cX7_isSoWith 130 = .ok (.iload 5, 2) := by decide +kernel
theorem dX7_isSoWith_132 : decode cX7_isSoWith 132 = .ok (.iconst 2, 1) := by decide +kernel
theorem dX7_isSoWith_133 : decode cX7_isSoWith 133 = .ok (.iadd, 1) := by decide +kernel
theorem dX7_isSoWith_134 : decode cX7_isSoWith 134 = .ok (.iaload, 1) := by decide +kernel
theorem dX7_isSoWith_135 : decode cX7_isSoWith 135 = .ok (.if_icmp .ne 7, 3) := by decide +kernel
theorem dX7_isSoWith_138 : decode cX7_isSoWith 138 = .ok (.iconst 1, 1) := by decide +kernel
theorem dX7_isSoWith_139 : decode cX7_isSoWith 139 = .ok (.goto 4, 3) := by decide +kernel
theorem dX7_isSoWith_142 : decode cX7_isSoWith 142 = .ok (.iconst 0, 1) := by decide +kernel
theorem dX7_isSoWith_143 : decode cX7_isSoWith 143 = .ok (.istore_n 3, 1) := by decide +kernel
theorem dX7_isSoWith_144 : decode cX7_isSoWith 144 = .ok (.iinc 4 1, 3) := by decide +kernel
theorem dX7_isSoWith_147 : decode cX7_isSoWith 147 = .ok (.goto (-70), 3) := by decide +kernel
theorem dX7_isSoWith_150 : decode cX7_isSoWith 150 = .ok (.iload_n 3, 1) := by decide +kernel
theorem dX7_isSoWith_151 : decode cX7_isSoWith 151 = .ok (.ireturn, 1) := by decide +kernel
theorem dX7_which_0 : decode cX7_which 0 = .ok (.iconst 0, 1) := by decide +kernel
theorem dX7_which_1 : decode cX7_which 1 = .ok (.istore 4, 2) := by decide +kernel
theorem dX7_which_3 : decode cX7_which 3 = .ok (.iconst 0, 1) := by decide +kernel
theorem dX7_which_4 : decode cX7_which 4 = .ok (.istore 5, 2) := by decide +kernel
theorem dX7_which_6 : decode cX7_which 6 = .ok (.iload 5, 2) := by decide +kernel
theorem dX7_which_8 : decode cX7_which 8 = .ok (.iload_n 3, 1) := by decide +kernel
theorem dX7_which_9 : decode cX7_which 9 = .ok (.if_icmp .ge 29, 3) := by decide +kernel
theorem dX7_which_12 : decode cX7_which 12 = .ok (.iload 4, 2) := by decide +kernel
theorem dX7_which_14 : decode cX7_which 14 = .ok (.aload_n 0, 1) := by decide +kernel
theorem dX7_which_15 : decode cX7_which 15 = .ok (.iload_n 1, 1) := by decide +kernel
theorem dX7_which_16 : decode cX7_which 16 = .ok (.iload_n 2, 1) := by decide +kernel
theorem dX7_which_17 : decode cX7_which 17 = .ok (.iload 5, 2) := by decide +kernel
theorem dX7_which_19 : decode cX7_which 19 = .ok (.iadd, 1) := by decide +kernel
theorem dX7_which_20 : decode cX7_which 20 = .ok (.invokevirtual 271, 3) := by decide +kernel
theorem dX7_which_23 : decode cX7_which 23 = .ok (.invokestatic 148, 3) := by decide +kernel
theorem dX7_which_26 : decode cX7_which 26 = .ok (.iload 5, 2) := by decide +kernel
theorem dX7_which_28 : decode cX7_which 28 = .ok (.ishl, 1) := by decide +kernel
theorem dX7_which_29 : decode cX7_which 29 = .ok (.ior, 1) := by decide +kernel
theorem dX7_which_30 : decode cX7_which 30 = .ok (.istore 4, 2) := by decide +kernel
theorem dX7_which_32 : decode cX7_which 32 = .ok (.iinc 5 1, 3) := by decide +kernel
theorem dX7_which_35 : decode cX7_which 35 = .ok (.goto (-29), 3) := by decide +kernel
theorem dX7_which_38 : decode cX7_which 38 = .ok (.iload 4, 2) := by decide +kernel
theorem dX7_which_40 : decode cX7_which 40 = .ok (.ireturn, 1) := by decide +kernel
theorem dX7_kinds_0 : decode cX7_kinds 0 = .ok (.aload_n 0, 1) := by decide +kernel
theorem dX7_kinds_1 : decode cX7_kinds 1 = .ok (.iload_n 1, 1) := by decide +kernel
theorem dX7_kinds_2 : decode cX7_kinds 2 = .ok (.invokevirtual 188, 3) := by decide +kernel
theorem dX7_kinds_5 : decode cX7_kinds 5 = .ok (.ifCond .eq 20, 3) := by decide +kernel
theorem dX7_kinds_8 : decode cX7_kinds 8 = .ok (.aload_n 0, 1) := by decide +kernel
theorem dX7_kinds_9 : decode cX7_kinds 9 = .ok (.bipush 20, 2) := by decide +kernel
theorem dX7_kinds_11 : decode cX7_kinds 11 = .ok (.iconst 4, 1) := by decide +kernel
theorem dX7_kinds_12 : decode cX7_kinds 12 = .ok (.iload_n 1, 1) := by decide +kernel
theorem dX7_kinds_13 : decode cX7_kinds 13 = .ok (.imul, 1) := by decide +kernel
theorem dX7_kinds_14 : decode cX7_kinds 14 = .ok (.iadd, 1) := by decide +kernel
theorem dX7_kinds_15 : decode cX7_kinds 15 = .ok (.iconst 0, 1) := by decide +kernel
theorem dX7_kinds_16 : decode cX7_kinds 16 = .ok (.iadd, 1) := by decide +kernel
theorem dX7_kinds_17 : decode cX7_kinds 17 = .ok (.iconst 0, 1) := by decide +kernel
theorem dX7_kinds_18 : decode cX7_kinds 18 = .ok (.iconst 4, 1) := by decide +kernel
theorem dX7_kinds_19 : decode cX7_kinds 19 = .ok (.invokevirtual 275, 3) := by decide +kernel
theorem dX7_kinds_22 : decode cX7_kinds 22 = .ok (.goto 4, 3) := by decide +kernel
theorem dX7_kinds_25 : decode cX7_kinds 25 = .ok (.iconst (-1), 1) := by decide +kernel
theorem dX7_kinds_26 : decode cX7_kinds 26 = .ok (.ireturn, 1) := by decide +kernel
theorem dX7_grips_0 : decode cX7_grips 0 = .ok (.aload_n 0, 1) := by decide +kernel
theorem dX7_grips_1 : decode cX7_grips 1 = .ok (.iload_n 1, 1) := by decide +kernel
theorem dX7_grips_2 : decode cX7_grips 2 = .ok (.invokevirtual 188, 3) := by decide +kernel
theorem dX7_grips_5 : decode cX7_grips 5 = .ok (.ifCond .eq 20, 3) := by decide +kernel
theorem dX7_grips_8 : decode cX7_grips 8 = .ok (.aload_n 0, 1) := by decide +kernel
theorem dX7_grips_9 : decode cX7_grips 9 = .ok (.bipush 20, 2) := by decide +kernel
theorem dX7_grips_11 : decode cX7_grips 11 = .ok (.iconst 4, 1) := by decide +kernel
theorem dX7_grips_12 : decode cX7_grips 12 = .ok (.iload_n 1, 1) := by decide +kernel
theorem dX7_grips_13 : decode cX7_grips 13 = .ok (.imul, 1) := by decide +kernel
theorem dX7_grips_14 : decode cX7_grips 14 = .ok (.iadd, 1) := by decide +kernel
theorem dX7_grips_15 : decode cX7_grips 15 = .ok (.iconst 1, 1) := by decide +kernel
theorem dX7_grips_16 : decode cX7_grips 16 = .ok (.iadd, 1) := by decide +kernel
theorem dX7_grips_17 : decode cX7_grips 17 = .ok (.iconst 0, 1) := by decide +kernel
theorem dX7_grips_18 : decode cX7_grips 18 = .ok (.iconst 4, 1) := by decide +kernel
theorem dX7_grips_19 : decode cX7_grips 19 = .ok (.invokevirtual 275, 3) := by decide +kernel
theorem dX7_grips_22 : decode cX7_grips 22 = .ok (.goto 4, 3) := by decide +kernel
theorem dX7_grips_25 : decode cX7_grips 25 = .ok (.iconst (-1), 1) := by decide +kernel
theorem dX7_grips_26 : decode cX7_grips 26 = .ok (.ireturn, 1) := by decide +kernel
theorem dX7_starts_0 : decode cX7_starts 0 = .ok (.aload_n 0, 1) := by decide +kernel
theorem dX7_starts_1 : decode cX7_starts 1 = .ok (.iload_n 1, 1) := by decide +kernel
theorem dX7_starts_2 : decode cX7_starts 2 = .ok (.invokevirtual 188, 3) := by decide +kernel
theorem dX7_starts_5 : decode cX7_starts 5 = .ok (.ifCond .ne 5, 3) := by decide +kernel
theorem dX7_starts_8 : decode cX7_starts 8 = .ok (.iconst (-1), 1) := by decide +kernel
theorem dX7_starts_9 : decode cX7_starts 9 = .ok (.ireturn, 1) := by decide +kernel
theorem dX7_starts_10 : decode cX7_starts 10 = .ok (.bipush 20, 2) := by decide +kernel
theorem dX7_starts_12 : decode cX7_starts 12 = .ok (.iconst 4, 1) := by decide +kernel
theorem dX7_starts_13 : decode cX7_starts 13 = .ok (.iload_n 1, 1) := by decide +kernel
theorem dX7_starts_14 : decode cX7_starts 14 = .ok (.imul, 1) := by decide +kernel
theorem dX7_starts_15 : decode cX7_starts 15 = .ok (.iadd, 1) := by decide +kernel
theorem dX7_starts_16 : decode cX7_starts 16 = .ok (.iconst 2, 1) := by decide +kernel
theorem dX7_starts_17 : decode cX7_starts 17 = .ok (.iadd, 1) := by decide +kernel
theorem dX7_starts_18 : decode cX7_starts 18 = .ok (.istore_n 2, 1) := by decide +kernel
theorem dX7_starts_19 : decode cX7_starts 19 = .ok (.aload_n 0, 1) := by decide +kernel
theorem dX7_starts_20 : decode cX7_starts 20 = .ok (.iload_n 2, 1) := by decide +kernel
theorem dX7_starts_21 : decode cX7_starts 21 = .ok (.aload_n 0, 1) := by decide +kernel
theorem dX7_starts_22 : decode cX7_starts 22 = .ok (.getfield 7, 3) := by decide +kernel
theorem dX7_starts_25 : decode cX7_starts 25 = .ok (.iload_n 2, 1) := by decide +kernel
theorem dX7_starts_26 : decode cX7_starts 26 = .ok (.iaload, 1) := by decide +kernel
theorem dX7_starts_27 : decode cX7_starts 27 = .ok (.bipush 8, 2) := by decide +kernel
theorem dX7_starts_29 : decode cX7_starts 29 = .ok (.invokevirtual 275, 3) := by decide +kernel
theorem dX7_starts_32 : decode cX7_starts 32 = .ok (.ireturn, 1) := by decide +kernel
theorem dX7_ask_0 : decode cX7_ask 0 = .ok (.aload_n 0, 1) := by decide +kernel
theorem dX7_ask_1 : decode cX7_ask 1 = .ok (.iload_n 1, 1) := by decide +kernel
theorem dX7_ask_2 : decode cX7_ask 2 = .ok (.invokevirtual 188, 3) := by decide +kernel
theorem dX7_ask_5 : decode cX7_ask 5 = .ok (.ifCond .eq 10, 3) := by decide +kernel
theorem dX7_ask_8 : decode cX7_ask 8 = .ok (.iload_n 2, 1) := by decide +kernel
theorem dX7_ask_9 : decode cX7_ask 9 = .ok (.invokestatic 213, 3) := by decide +kernel
theorem dX7_ask_12 : decode cX7_ask 12 = .ok (.ifCond .ne 5, 3) := by decide +kernel
theorem dX7_ask_15 : decode cX7_ask 15 = .ok (.iconst (-1), 1) := by decide +kernel
theorem dX7_ask_16 : decode cX7_ask 16 = .ok (.ireturn, 1) := by decide +kernel
theorem dX7_ask_17 : decode cX7_ask 17 = .ok (.bipush 20, 2) := by decide +kernel
theorem dX7_ask_19 : decode cX7_ask 19 = .ok (.iconst 4, 1) := by decide +kernel
theorem dX7_ask_20 : decode cX7_ask 20 = .ok (.iload_n 1, 1) := by decide +kernel
theorem dX7_ask_21 : decode cX7_ask 21 = .ok (.imul, 1) := by decide +kernel
theorem dX7_ask_22 : decode cX7_ask 22 = .ok (.iadd, 1) := by decide +kernel
theorem dX7_ask_23 : decode cX7_ask 23 = .ok (.iconst 2, 1) := by decide +kernel
theorem dX7_ask_24 : decode cX7_ask 24 = .ok (.iadd, 1) := by decide +kernel
theorem dX7_ask_25 : decode cX7_ask 25 = .ok (.istore_n 3, 1) := by decide +kernel
theorem dX7_ask_26 : decode cX7_ask 26 = .ok (.iconst 0, 1) := by decide +kernel
theorem dX7_ask_27 : decode cX7_ask 27 = .ok (.istore 4, 2) := by decide +kernel
theorem dX7_ask_29 : decode cX7_ask 29 = .ok (.iconst 0, 1) := by decide +kernel
theorem dX7_ask_30 : decode cX7_ask 30 = .ok (.istore 5, 2) := by decide +kernel
theorem dX7_ask_32 : decode cX7_ask 32 = .ok (.iload 5, 2) := by decide +kernel
theorem dX7_ask_34 : decode cX7_ask 34 = .ok (.sipush 328, 3) := by decide +kernel
theorem dX7_ask_37 : decode cX7_ask 37 = .ok (.if_icmp .ge 17, 3) := by decide +kernel
theorem dX7_ask_40 : decode cX7_ask 40 = .ok (.aload_n 0, 1) := by decide +kernel
theorem dX7_ask_41 : decode cX7_ask 41 = .ok (.getfield 29, 3) := by decide +kernel
theorem dX7_ask_44 : decode cX7_ask 44 = .ok (.iload 5, 2) := by decide +kernel
theorem dX7_ask_46 : decode cX7_ask 46 = .ok (.iconst 0, 1) := by decide +kernel
theorem dX7_ask_47 : decode cX7_ask 47 = .ok (.iastore, 1) := by decide +kernel
theorem dX7_ask_48 : decode cX7_ask 48 = .ok (.iinc 5 1, 3) := by decide +kernel
theorem dX7_ask_51 : decode cX7_ask 51 = .ok (.goto (-19), 3) := by decide +kernel
theorem dX7_ask_54 : decode cX7_ask 54 = .ok (.iconst 0, 1) := by decide +kernel
theorem dX7_ask_55 : decode cX7_ask 55 = .ok (.istore 5, 2) := by decide +kernel
theorem dX7_ask_57 : decode cX7_ask 57 = .ok (.iload 5, 2) := by decide +kernel
theorem dX7_ask_59 : decode cX7_ask 59 = .ok (.bipush 8, 2) := by decide +kernel
theorem dX7_ask_61 : decode cX7_ask 61 = .ok (.if_icmp .ge 71, 3) := by decide +kernel
theorem dX7_ask_64 : decode cX7_ask 64 = .ok (.aload_n 0, 1) := by decide +kernel
theorem dX7_ask_65 : decode cX7_ask 65 = .ok (.iload_n 3, 1) := by decide +kernel
theorem dX7_ask_66 : decode cX7_ask 66 = .ok (.aload_n 0, 1) := by decide +kernel
theorem dX7_ask_67 : decode cX7_ask 67 = .ok (.getfield 7, 3) := by decide +kernel
theorem dX7_ask_70 : decode cX7_ask 70 = .ok (.iload_n 3, 1) := by decide +kernel
theorem dX7_ask_71 : decode cX7_ask 71 = .ok (.iaload, 1) := by decide +kernel
theorem dX7_ask_72 : decode cX7_ask 72 = .ok (.iload 5, 2) := by decide +kernel
theorem dX7_ask_74 : decode cX7_ask 74 = .ok (.iadd, 1) := by decide +kernel
theorem dX7_ask_75 : decode cX7_ask 75 = .ok (.invokevirtual 271, 3) := by decide +kernel
theorem dX7_ask_78 : decode cX7_ask 78 = .ok (.ifCond .eq 48, 3) := by decide +kernel
theorem dX7_ask_81 : decode cX7_ask 81 = .ok (.iconst 0, 1) := by decide +kernel
theorem dX7_ask_82 : decode cX7_ask 82 = .ok (.istore 6, 2) := by decide +kernel
theorem dX7_ask_84 : decode cX7_ask 84 = .ok (.iload 6, 2) := by decide +kernel
theorem dX7_ask_86 : decode cX7_ask 86 = .ok (.bipush 40, 2) := by decide +kernel
theorem dX7_ask_88 : decode cX7_ask 88 = .ok (.if_icmp .gt 35, 3) := by decide +kernel
theorem dX7_ask_91 : decode cX7_ask 91 = .ok (.aload_n 0, 1) := by decide +kernel
theorem dX7_ask_92 : decode cX7_ask 92 = .ok (.getfield 29, 3) := by decide +kernel
theorem dX7_ask_95 : decode cX7_ask 95 = .ok (.bipush 8, 2) := by decide +kernel
theorem dX7_ask_97 : decode cX7_ask 97 = .ok (.iload 6, 2) := by decide +kernel
theorem dX7_ask_99 : decode cX7_ask 99 = .ok (.imul, 1) := by decide +kernel
theorem dX7_ask_100 : decode cX7_ask 100 = .ok (.aload_n 0, 1) := by decide +kernel
theorem dX7_ask_101 : decode cX7_ask 101 = .ok (.getfield 26, 3) := by decide +kernel
theorem dX7_ask_104 : decode cX7_ask 104 = .ok (.iconst 4, 1) := by decide +kernel
theorem dX7_ask_105 : decode cX7_ask 105 = .ok (.iload 6, 2) := by decide +kernel
theorem dX7_ask_107 : decode cX7_ask 107 = .ok (.imul, 1) := by decide +kernel
theorem dX7_ask_108 : decode cX7_ask 108 = .ok (.iload_n 1, 1) := by decide +kernel
theorem dX7_ask_109 : decode cX7_ask 109 = .ok (.iadd, 1) := by decide +kernel
theorem dX7_ask_110 : decode cX7_ask 110 = .ok (.iaload, 1) := by decide +kernel
theorem dX7_ask_111 : decode cX7_ask 111 = .ok (.iadd, 1) := by decide +kernel
theorem dX7_ask_112 : decode cX7_ask 112 = .ok (.dup2, 1) := by decide +kernel
theorem dX7_ask_113 : decode cX7_ask 113 = .ok (.iaload, 1) := by decide +kernel
theorem dX7_ask_114 : decode cX7_ask 114 = .ok (.iconst 1, 1) := by decide +kernel
theorem dX7_ask_115 : decode cX7_ask 115 = .ok (.iadd, 1) := by decide +kernel
theorem dX7_ask_116 : decode cX7_ask 116 = .ok (.iastore, 1) := by decide +kernel
theorem dX7_ask_117 : decode cX7_ask 117 = .ok (.iinc 6 1, 3) := by decide +kernel
theorem dX7_ask_120 : decode cX7_ask 120 = .ok (.goto (-36), 3) := by decide +kernel
theorem dX7_ask_123 : decode cX7_ask 123 = .ok (.iinc 4 1, 3) := by decide +kernel
theorem dX7_ask_126 : decode cX7_ask 126 = .ok (.iinc 5 1, 3) := by decide +kernel
theorem dX7_ask_129 : decode cX7_ask 129 = .ok (.goto (-72), 3) := by decide +kernel
theorem dX7_ask_132 : decode cX7_ask 132 = .ok (.aload_n 0, 1) := by decide +kernel
theorem dX7_ask_133 : decode cX7_ask 133 = .ok (.iload 4, 2) := by decide +kernel
theorem dX7_ask_135 : decode cX7_ask 135 = .ok (.invokevirtual 227, 3) := by decide +kernel
theorem dX7_ask_138 : decode cX7_ask 138 = .ok (.iconst 0, 1) := by decide +kernel
theorem dX7_ask_139 : decode cX7_ask 139 = .ok (.istore 5, 2) := by decide +kernel
theorem dX7_ask_141 : decode cX7_ask 141 = .ok (.iload 5, 2) := by decide +kernel
theorem dX7_ask_143 : decode cX7_ask 143 = .ok (.bipush 40, 2) := by decide +kernel
theorem dX7_ask_145 : decode cX7_ask 145 = .ok (.if_icmp .gt 74, 3) := by decide +kernel
theorem dX7_ask_148 : decode cX7_ask 148 = .ok (.iconst 0, 1) := by decide +kernel
theorem dX7_ask_149 : decode cX7_ask 149 = .ok (.istore 6, 2) := by decide +kernel
theorem dX7_ask_151 : decode cX7_ask 151 = .ok (.iconst 0, 1) := by decide +kernel
theorem dX7_ask_152 : decode cX7_ask 152 = .ok (.istore 7, 2) := by decide +kernel
theorem dX7_ask_154 : decode cX7_ask 154 = .ok (.iload 7, 2) := by decide +kernel
theorem dX7_ask_156 : decode cX7_ask 156 = .ok (.bipush 8, 2) := by decide +kernel
theorem dX7_ask_158 : decode cX7_ask 158 = .ok (.if_icmp .ge 47, 3) := by decide +kernel
theorem dX7_ask_161 : decode cX7_ask 161 = .ok (.aload_n 0, 1) := by decide +kernel
theorem dX7_ask_162 : decode cX7_ask 162 = .ok (.getfield 29, 3) := by decide +kernel
theorem dX7_ask_165 : decode cX7_ask 165 = .ok (.bipush 8, 2) := by decide +kernel
theorem dX7_ask_167 : decode cX7_ask 167 = .ok (.iload 5, 2) := by decide +kernel
theorem dX7_ask_169 : decode cX7_ask 169 = .ok (.imul, 1) := by decide +kernel
theorem dX7_ask_170 : decode cX7_ask 170 = .ok (.iload 7, 2) := by decide +kernel
theorem dX7_ask_172 : decode cX7_ask 172 = .ok (.iadd, 1) := by decide +kernel
theorem dX7_ask_173 : decode cX7_ask 173 = .ok (.iaload, 1) := by decide +kernel
theorem dX7_ask_174 : decode cX7_ask 174 = .ok (.iload 6, 2) := by decide +kernel
theorem dX7_ask_176 : decode cX7_ask 176 = .ok (.if_icmp .le 19, 3) := by decide +kernel
theorem dX7_ask_179 : decode cX7_ask 179 = .ok (.aload_n 0, 1) := by decide +kernel
theorem dX7_ask_180 : decode cX7_ask 180 = .ok (.getfield 29, 3) := by decide +kernel
theorem dX7_ask_183 : decode cX7_ask 183 = .ok (.bipush 8, 2) := by decide +kernel
theorem dX7_ask_185 : decode cX7_ask 185 = .ok (.iload 5, 2) := by decide +kernel
theorem dX7_ask_187 : decode cX7_ask 187 = .ok (.imul, 1) := by decide +kernel
theorem dX7_ask_188 : decode cX7_ask 188 = .ok (.iload 7, 2) := by decide +kernel
theorem dX7_ask_190 : decode cX7_ask 190 = .ok (.iadd, 1) := by decide +kernel
theorem dX7_ask_191 : decode cX7_ask 191 = .ok (.iaload, 1) := by decide +kernel
theorem dX7_ask_192 : decode cX7_ask 192 = .ok (.goto 5, 3) := by decide +kernel
theorem dX7_ask_195 : decode cX7_ask 195 = .ok (.iload 6, 2) := by decide +kernel
theorem dX7_ask_197 : decode cX7_ask 197 = .ok (.istore 6, 2) := by decide +kernel
theorem dX7_ask_199 : decode cX7_ask 199 = .ok (.iinc 7 1, 3) := by decide +kernel
theorem dX7_ask_202 : decode cX7_ask 202 = .ok (.goto (-48), 3) := by decide +kernel
theorem dX7_ask_205 : decode cX7_ask 205 = .ok (.aload_n 0, 1) := by decide +kernel
theorem dX7_ask_206 : decode cX7_ask 206 = .ok (.iload 5, 2) := by decide +kernel
theorem dX7_ask_208 : decode cX7_ask 208 = .ok (.iload 6, 2) := by decide +kernel
theorem dX7_ask_210 : decode cX7_ask 210 = .ok (.invokevirtual 233, 3) := by decide +kernel
theorem dX7_ask_213 : decode cX7_ask 213 = .ok (.iinc 5 1, 3) := by decide +kernel
theorem dX7_ask_216 : decode cX7_ask 216 = .ok (.goto (-75), 3) := by decide +kernel
theorem dX7_ask_219 : decode cX7_ask 219 = .ok (.aload_n 0, 1) := by decide +kernel
theorem dX7_ask_220 : decode cX7_ask 220 = .ok (.iload_n 2, 1) := by decide +kernel
theorem dX7_ask_221 : decode cX7_ask 221 = .ok (.invokevirtual 237, 3) := by decide +kernel
theorem dX7_ask_224 : decode cX7_ask 224 = .ok (.ireturn, 1) := by decide +kernel
theorem dX7_drift_0 : decode cX7_drift 0 = .ok (.iload_n 2, 1) := by decide +kernel
theorem dX7_drift_1 : decode cX7_drift 1 = .ok (.i2l, 1) := by decide +kernel
theorem dX7_drift_2 : decode cX7_drift 2 = .ok (.lconst 1, 1) := by decide +kernel
theorem dX7_drift_3 : decode cX7_drift 3 = .ok (.ldc2_w 208, 3) := by decide +kernel
theorem dX7_drift_6 : decode cX7_drift 6 = .ok (.invokestatic 59, 3) := by decide +kernel
theorem dX7_drift_9 : decode cX7_drift 9 = .ok (.ifCond .eq 10, 3) := by decide +kernel
theorem dX7_drift_12 : decode cX7_drift 12 = .ok (.iload_n 3, 1) := by decide +kernel
theorem dX7_drift_13 : decode cX7_drift 13 = .ok (.invokestatic 213, 3) := by decide +kernel
theorem dX7_drift_16 : decode cX7_drift 16 = .ok (.ifCond .ne 5, 3) := by decide +kernel
theorem dX7_drift_19 : decode cX7_drift 19 = .ok (.iconst (-1), 1) := by decide +kernel
theorem dX7_drift_20 : decode cX7_drift 20 = .ok (.ireturn, 1) := by decide +kernel
theorem dX7_drift_21 : decode cX7_drift 21 = .ok (.aload_n 0, 1) := by decide +kernel
theorem dX7_drift_22 : decode cX7_drift 22 = .ok (.getfield 7, 3) := by decide +kernel
theorem dX7_drift_25 : decode cX7_drift 25 = .ok (.bipush 36, 2) := by decide +kernel
theorem dX7_drift_27 : decode cX7_drift 27 = .ok (.iaload, 1) := by decide +kernel
theorem dX7_drift_28 : decode cX7_drift 28 = .ok (.ifCond .ne 6, 3) := by decide +kernel
theorem dX7_drift_31 : decode cX7_drift 31 = .ok (.bipush (-2), 2) := by decide +kernel
theorem dX7_drift_33 : decode cX7_drift 33 = .ok (.ireturn, 1) := by decide +kernel
theorem dX7_drift_34 : decode cX7_drift 34 = .ok (.iload_n 1, 1) := by decide +kernel
theorem dX7_drift_35 : decode cX7_drift 35 = .ok (.istore 4, 2) := by decide +kernel
theorem dX7_drift_37 : decode cX7_drift 37 = .ok (.aload_n 0, 1) := by decide +kernel
theorem dX7_drift_38 : decode cX7_drift 38 = .ok (.invokevirtual 184, 3) := by decide +kernel
theorem dX7_drift_41 : decode cX7_drift 41 = .ok (.iconst 0, 1) := by decide +kernel
theorem dX7_drift_42 : decode cX7_drift 42 = .ok (.istore 5, 2) := by decide +kernel
theorem dX7_drift_44 : decode cX7_drift 44 = .ok (.iload 5, 2) := by decide +kernel
theorem dX7_drift_46 : decode cX7_drift 46 = .ok (.iload_n 2, 1) := by decide +kernel
theorem dX7_drift_47 : decode cX7_drift 47 = .ok (.if_icmp .ge 55, 3) := by decide +kernel
theorem dX7_drift_50 : decode cX7_drift 50 = .ok (.iload 4, 2) := by decide +kernel
theorem dX7_drift_52 : decode cX7_drift 52 = .ok (.ldc_w 279, 3) := by decide +kernel
theorem dX7_drift_55 : decode cX7_drift 55 = .ok (.imul, 1) := by decide +kernel
theorem dX7_drift_56 : decode cX7_drift 56 = .ok (.sipush 12345, 3) := by decide +kernel
theorem dX7_drift_59 : decode cX7_drift 59 = .ok (.iadd, 1) := by decide +kernel
theorem dX7_drift_60 : decode cX7_drift 60 = .ok (.istore 4, 2) := by decide +kernel
theorem dX7_drift_62 : decode cX7_drift 62 = .ok (.iload 4, 2) := by decide +kernel
theorem dX7_drift_64 : decode cX7_drift 64 = .ok (.bipush 16, 2) := by decide +kernel
theorem dX7_drift_66 : decode cX7_drift 66 = .ok (.ishr, 1) := by decide +kernel
theorem dX7_drift_67 : decode cX7_drift 67 = .ok (.sipush 32767, 3) := by decide +kernel
theorem dX7_drift_70 : decode cX7_drift 70 = .ok (.iand, 1) := by decide +kernel
theorem dX7_drift_71 : decode cX7_drift 71 = .ok (.istore 6, 2) := by decide +kernel
theorem dX7_drift_73 : decode cX7_drift 73 = .ok (.aload_n 0, 1) := by decide +kernel
theorem dX7_drift_74 : decode cX7_drift 74 = .ok (.getfield 13, 3) := by decide +kernel
theorem dX7_drift_77 : decode cX7_drift 77 = .ok (.iconst 0, 1) := by decide +kernel
theorem dX7_drift_78 : decode cX7_drift 78 = .ok (.dup2, 1) := by decide +kernel
theorem dX7_drift_79 : decode cX7_drift 79 = .ok (.iaload, 1) := by decide +kernel
theorem dX7_drift_80 : decode cX7_drift 80 = .ok (.iload 6, 2) := by decide +kernel
theorem dX7_drift_82 : decode cX7_drift 82 = .ok (.iconst 4, 1) := by decide +kernel
theorem dX7_drift_83 : decode cX7_drift 83 = .ok (.idiv, 1) := by decide +kernel
theorem dX7_drift_84 : decode cX7_drift 84 = .ok (.iconst 4, 1) := by decide +kernel
theorem dX7_drift_85 : decode cX7_drift 85 = .ok (.irem, 1) := by decide +kernel
theorem dX7_drift_86 : decode cX7_drift 86 = .ok (.invokestatic 162, 3) := by decide +kernel
theorem dX7_drift_89 : decode cX7_drift 89 = .ok (.iadd, 1) := by decide +kernel
theorem dX7_drift_90 : decode cX7_drift 90 = .ok (.iastore, 1) := by decide +kernel
theorem dX7_drift_91 : decode cX7_drift 91 = .ok (.aload_n 0, 1) := by decide +kernel
theorem dX7_drift_92 : decode cX7_drift 92 = .ok (.iconst 0, 1) := by decide +kernel
theorem dX7_drift_93 : decode cX7_drift 93 = .ok (.invokevirtual 174, 3) := by decide +kernel
theorem dX7_drift_96 : decode cX7_drift 96 = .ok (.iinc 5 1, 3) := by decide +kernel
theorem dX7_drift_99 : decode cX7_drift 99 = .ok (.goto (-55), 3) := by decide +kernel
theorem dX7_drift_102 : decode cX7_drift 102 = .ok (.iload_n 3, 1) := by decide +kernel
theorem dX7_drift_103 : decode cX7_drift 103 = .ok (.ifCond .ne 10, 3) := by decide +kernel
theorem dX7_drift_106 : decode cX7_drift 106 = .ok (.aload_n 0, 1) := by decide +kernel
theorem dX7_drift_107 : decode cX7_drift 107 = .ok (.invokevirtual 181, 3) := by decide +kernel
theorem dX7_drift_110 : decode cX7_drift 110 = .ok (.goto 7, 3) := by decide +kernel
theorem dX7_drift_113 : decode cX7_drift 113 = .ok (.aload_n 0, 1) := by decide +kernel
theorem dX7_drift_114 : decode cX7_drift 114 = .ok (.getfield 126, 3) := by decide +kernel
theorem dX7_drift_117 : decode cX7_drift 117 = .ok (.ireturn, 1) := by decide +kernel
theorem dX7_copies_0 : decode cX7_copies 0 = .ok (.iconst 0, 1) := by decide +kernel
theorem dX7_copies_1 : decode cX7_copies 1 = .ok (.istore_n 3, 1) := by decide +kernel
theorem dX7_copies_2 : decode cX7_copies 2 = .ok (.iload_n 3, 1) := by decide +kernel
theorem dX7_copies_3 : decode cX7_copies 3 = .ok (.bipush 56, 2) := by decide +kernel
theorem dX7_copies_5 : decode cX7_copies 5 = .ok (.if_icmp .ge 25, 3) := by decide +kernel
theorem dX7_copies_8 : decode cX7_copies 8 = .ok (.aload_n 0, 1) := by decide +kernel
theorem dX7_copies_9 : decode cX7_copies 9 = .ok (.getfield 7, 3) := by decide +kernel
theorem dX7_copies_12 : decode cX7_copies 12 = .ok (.iload_n 1, 1) := by decide +kernel
theorem dX7_copies_13 : decode cX7_copies 13 = .ok (.iload_n 3, 1) := by decide +kernel
theorem dX7_copies_14 : decode cX7_copies 14 = .ok (.iadd, 1) := by decide +kernel
theorem dX7_copies_15 : decode cX7_copies 15 = .ok (.aload_n 0, 1) := by decide +kernel
theorem dX7_copies_16 : decode cX7_copies 16 = .ok (.getfield 7, 3) := by decide +kernel
theorem dX7_copies_19 : decode cX7_copies 19 = .ok (.iload_n 2, 1) := by decide +kernel
theorem dX7_copies_20 : decode cX7_copies 20 = .ok (.iload_n 3, 1) := by decide +kernel
theorem dX7_copies_21 : decode cX7_copies 21 = .ok (.iadd, 1) := by decide +kernel
theorem dX7_copies_22 : decode cX7_copies 22 = .ok (.iaload, 1) := by decide +kernel
theorem dX7_copies_23 : decode cX7_copies 23 = .ok (.iastore, 1) := by decide +kernel
theorem dX7_copies_24 : decode cX7_copies 24 = .ok (.iinc 3 1, 3) := by decide +kernel
theorem dX7_copies_27 : decode cX7_copies 27 = .ok (.goto (-25), 3) := by decide +kernel
theorem dX7_copies_30 : decode cX7_copies 30 = .ok (.return_, 1) := by decide +kernel
theorem dX7_keep_0 : decode cX7_keep 0 = .ok (.iload_n 1, 1) := by decide +kernel
theorem dX7_keep_1 : decode cX7_keep 1 = .ok (.i2l, 1) := by decide +kernel
theorem dX7_keep_2 : decode cX7_keep 2 = .ok (.lconst 0, 1) := by decide +kernel
theorem dX7_keep_3 : decode cX7_keep 3 = .ok (.lconst 1, 1) := by decide +kernel
theorem dX7_keep_4 : decode cX7_keep 4 = .ok (.invokestatic 59, 3) := by decide +kernel
theorem dX7_keep_7 : decode cX7_keep 7 = .ok (.ifCond .ne 5, 3) := by decide +kernel
theorem dX7_keep_10 : decode cX7_keep 10 = .ok (.iconst (-1), 1) := by decide +kernel
theorem dX7_keep_11 : decode cX7_keep 11 = .ok (.ireturn, 1) := by decide +kernel
theorem dX7_keep_12 : decode cX7_keep 12 = .ok (.aload_n 0, 1) := by decide +kernel
theorem dX7_keep_13 : decode cX7_keep 13 = .ok (.getfield 16, 3) := by decide +kernel
theorem dX7_keep_16 : decode cX7_keep 16 = .ok (.iload_n 1, 1) := by decide +kernel
theorem dX7_keep_17 : decode cX7_keep 17 = .ok (.baload, 1) := by decide +kernel
theorem dX7_keep_18 : decode cX7_keep 18 = .ok (.invokestatic 148, 3) := by decide +kernel
theorem dX7_keep_21 : decode cX7_keep 21 = .ok (.istore_n 2, 1) := by decide +kernel
theorem dX7_keep_22 : decode cX7_keep 22 = .ok (.aload_n 0, 1) := by decide +kernel
theorem dX7_keep_23 : decode cX7_keep 23 = .ok (.getfield 16, 3) := by decide +kernel
theorem dX7_keep_26 : decode cX7_keep 26 = .ok (.iload_n 1, 1) := by decide +kernel
theorem dX7_keep_27 : decode cX7_keep 27 = .ok (.iconst 1, 1) := by decide +kernel
theorem dX7_keep_28 : decode cX7_keep 28 = .ok (.bastore, 1) := by decide +kernel
theorem dX7_keep_29 : decode cX7_keep 29 = .ok (.aload_n 0, 1) := by decide +kernel
theorem dX7_keep_30 : decode cX7_keep 30 = .ok (.bipush 56, 2) := by decide +kernel
theorem dX7_keep_32 : decode cX7_keep 32 = .ok (.iload_n 1, 1) := by decide +kernel
theorem dX7_keep_33 : decode cX7_keep 33 = .ok (.iconst 1, 1) := by decide +kernel
theorem dX7_keep_34 : decode cX7_keep 34 = .ok (.iadd, 1) := by decide +kernel
theorem dX7_keep_35 : decode cX7_keep 35 = .ok (.imul, 1) := by decide +kernel
theorem dX7_keep_36 : decode cX7_keep 36 = .ok (.iconst 0, 1) := by decide +kernel
theorem dX7_keep_37 : decode cX7_keep 37 = .ok (.invokevirtual 280, 3) := by decide +kernel
theorem dX7_keep_40 : decode cX7_keep 40 = .ok (.iload_n 2, 1) := by decide +kernel
theorem dX7_keep_41 : decode cX7_keep 41 = .ok (.ireturn, 1) := by decide +kernel
theorem dX7_back_0 : decode cX7_back 0 = .ok (.iload_n 1, 1) := by decide +kernel
theorem dX7_back_1 : decode cX7_back 1 = .ok (.i2l, 1) := by decide +kernel
theorem dX7_back_2 : decode cX7_back 2 = .ok (.lconst 0, 1) := by decide +kernel
theorem dX7_back_3 : decode cX7_back 3 = .ok (.lconst 1, 1) := by decide +kernel
theorem dX7_back_4 : decode cX7_back 4 = .ok (.invokestatic 59, 3) := by decide +kernel
theorem dX7_back_7 : decode cX7_back 7 = .ok (.ifCond .ne 5, 3) := by decide +kernel
theorem dX7_back_10 : decode cX7_back 10 = .ok (.iconst (-1), 1) := by decide +kernel
theorem dX7_back_11 : decode cX7_back 11 = .ok (.ireturn, 1) := by decide +kernel
theorem dX7_back_12 : decode cX7_back 12 = .ok (.aload_n 0, 1) := by decide +kernel
theorem dX7_back_13 : decode cX7_back 13 = .ok (.getfield 16, 3) := by decide +kernel
theorem dX7_back_16 : decode cX7_back 16 = .ok (.iload_n 1, 1) := by decide +kernel
theorem dX7_back_17 : decode cX7_back 17 = .ok (.baload, 1) := by decide +kernel
theorem dX7_back_18 : decode cX7_back 18 = .ok (.ifCond .ne 6, 3) := by decide +kernel
theorem dX7_back_21 : decode cX7_back 21 = .ok (.bipush (-2), 2) := by decide +kernel
theorem dX7_back_23 : decode cX7_back 23 = .ok (.ireturn, 1) := by decide +kernel
theorem dX7_back_24 : decode cX7_back 24 = .ok (.aload_n 0, 1) := by decide +kernel
theorem dX7_back_25 : decode cX7_back 25 = .ok (.iconst 0, 1) := by decide +kernel
theorem dX7_back_26 : decode cX7_back 26 = .ok (.bipush 56, 2) := by decide +kernel
theorem dX7_back_28 : decode cX7_back 28 = .ok (.iload_n 1, 1) := by decide +kernel
theorem dX7_back_29 : decode cX7_back 29 = .ok (.iconst 1, 1) := by decide +kernel
theorem dX7_back_30 : decode cX7_back 30 = .ok (.iadd, 1) := by decide +kernel
theorem dX7_back_31 : decode cX7_back 31 = .ok (.imul, 1) := by decide +kernel
theorem dX7_back_32 : decode cX7_back 32 = .ok (.invokevirtual 280, 3) := by decide +kernel
theorem dX7_back_35 : decode cX7_back 35 = .ok (.aload_n 0, 1) := by decide +kernel
theorem dX7_back_36 : decode cX7_back 36 = .ok (.getfield 7, 3) := by decide +kernel
theorem dX7_back_39 : decode cX7_back 39 = .ok (.bipush 19, 2) := by decide +kernel
theorem dX7_back_41 : decode cX7_back 41 = .ok (.iaload, 1) := by decide +kernel
theorem dX7_back_42 : decode cX7_back 42 = .ok (.ireturn, 1) := by decide +kernel
theorem dX7_isSheet_0 : decode cX7_isSheet 0 = .ok (.iload_n 0, 1) := by decide +kernel
theorem dX7_isSheet_1 : decode cX7_isSheet 1 = .ok (.i2l, 1) := by decide +kernel
theorem dX7_isSheet_2 : decode cX7_isSheet 2 = .ok (.lconst 0, 1) := by decide +kernel
theorem dX7_isSheet_3 : decode cX7_isSheet 3 = .ok (.ldc2_w 194, 3) := by decide +kernel
theorem dX7_isSheet_6 : decode cX7_isSheet 6 = .ok (.invokestatic 59, 3) := by decide +kernel
theorem dX7_isSheet_9 : decode cX7_isSheet 9 = .ok (.ifCond .eq 19, 3) := by decide +kernel
theorem dX7_isSheet_12 : decode cX7_isSheet 12 = .ok (.iload_n 1, 1) := by decide +kernel
theorem dX7_isSheet_13 : decode cX7_isSheet 13 = .ok (.i2l, 1) := by decide +kernel
theorem dX7_isSheet_14 : decode cX7_isSheet 14 = .ok (.lconst 0, 1) := by decide +kernel
theorem dX7_isSheet_15 : decode cX7_isSheet 15 = .ok (.ldc2_w 283, 3) := by decide +kernel
theorem dX7_isSheet_18 : decode cX7_isSheet 18 = .ok (.invokestatic 59, 3) := by decide +kernel
theorem dX7_isSheet_21 : decode cX7_isSheet 21 = .ok (.ifCond .eq 7, 3) := by decide +kernel
theorem dX7_isSheet_24 : decode cX7_isSheet 24 = .ok (.iconst 1, 1) := by decide +kernel
theorem dX7_isSheet_25 : decode cX7_isSheet 25 = .ok (.goto 4, 3) := by decide +kernel
theorem dX7_isSheet_28 : decode cX7_isSheet 28 = .ok (.iconst 0, 1) := by decide +kernel
theorem dX7_isSheet_29 : decode cX7_isSheet 29 = .ok (.ireturn, 1) := by decide +kernel
theorem dX7_sheet_0 : decode cX7_sheet 0 = .ok (.iload_n 1, 1) := by decide +kernel
theorem dX7_sheet_1 : decode cX7_sheet 1 = .ok (.iload_n 2, 1) := by decide +kernel
theorem dX7_sheet_2 : decode cX7_sheet 2 = .ok (.invokestatic 285, 3) := by decide +kernel
theorem dX7_sheet_5 : decode cX7_sheet 5 = .ok (.ifCond .eq 9, 3) := by decide +kernel
theorem dX7_sheet_8 : decode cX7_sheet 8 = .ok (.iload_n 3, 1) := by decide +kernel
theorem dX7_sheet_9 : decode cX7_sheet 9 = .ok (.bipush 40, 2) := by decide +kernel
theorem dX7_sheet_11 : decode cX7_sheet 11 = .ok (.if_icmp .le 5, 3) := by decide +kernel
theorem dX7_sheet_14 : decode cX7_sheet 14 = .ok (.iconst (-1), 1) := by decide +kernel
theorem dX7_sheet_15 : decode cX7_sheet 15 = .ok (.ireturn, 1) := by decide +kernel
theorem dX7_sheet_16 : decode cX7_sheet 16 = .ok (.iload_n 3, 1) := by decide +kernel
theorem dX7_sheet_17 : decode cX7_sheet 17 = .ok (.ifCond .ge 6, 3) := by decide +kernel
theorem dX7_sheet_20 : decode cX7_sheet 20 = .ok (.bipush (-14), 2) := by decide +kernel
theorem dX7_sheet_22 : decode cX7_sheet 22 = .ok (.ireturn, 1) := by decide +kernel
theorem dX7_sheet_23 : decode cX7_sheet 23 = .ok (.aload_n 0, 1) := by decide +kernel
theorem dX7_sheet_24 : decode cX7_sheet 24 = .ok (.getfield 32, 3) := by decide +kernel
theorem dX7_sheet_27 : decode cX7_sheet 27 = .ok (.iload_n 1, 1) := by decide +kernel
theorem dX7_sheet_28 : decode cX7_sheet 28 = .ok (.iload_n 2, 1) := by decide +kernel
theorem dX7_sheet_29 : decode cX7_sheet 29 = .ok (.iastore, 1) := by decide +kernel
theorem dX7_sheet_30 : decode cX7_sheet 30 = .ok (.aload_n 0, 1) := by decide +kernel
theorem dX7_sheet_31 : decode cX7_sheet 31 = .ok (.getfield 35, 3) := by decide +kernel
theorem dX7_sheet_34 : decode cX7_sheet 34 = .ok (.iload_n 1, 1) := by decide +kernel
theorem dX7_sheet_35 : decode cX7_sheet 35 = .ok (.iload_n 3, 1) := by decide +kernel
theorem dX7_sheet_36 : decode cX7_sheet 36 = .ok (.iastore, 1) := by decide +kernel
theorem dX7_sheet_37 : decode cX7_sheet 37 = .ok (.iconst 0, 1) := by decide +kernel
theorem dX7_sheet_38 : decode cX7_sheet 38 = .ok (.istore 4, 2) := by decide +kernel
theorem dX7_sheet_40 : decode cX7_sheet 40 = .ok (.iload 4, 2) := by decide +kernel
theorem dX7_sheet_42 : decode cX7_sheet 42 = .ok (.bipush 40, 2) := by decide +kernel
theorem dX7_sheet_44 : decode cX7_sheet 44 = .ok (.if_icmp .ge 22, 3) := by decide +kernel
theorem dX7_sheet_47 : decode cX7_sheet 47 = .ok (.aload_n 0, 1) := by decide +kernel
theorem dX7_sheet_48 : decode cX7_sheet 48 = .ok (.getfield 38, 3) := by decide +kernel
theorem dX7_sheet_51 : decode cX7_sheet 51 = .ok (.bipush 40, 2) := by decide +kernel
theorem dX7_sheet_53 : decode cX7_sheet 53 = .ok (.iload_n 1, 1) := by decide +kernel
theorem dX7_sheet_54 : decode cX7_sheet 54 = .ok (.imul, 1) := by decide +kernel
theorem dX7_sheet_55 : decode cX7_sheet 55 = .ok (.iload 4, 2) := by decide +kernel
theorem dX7_sheet_57 : decode cX7_sheet 57 = .ok (.iadd, 1) := by decide +kernel
theorem dX7_sheet_58 : decode cX7_sheet 58 = .ok (.iconst 0, 1) := by decide +kernel
theorem dX7_sheet_59 : decode cX7_sheet 59 = .ok (.iastore, 1) := by decide +kernel
theorem dX7_sheet_60 : decode cX7_sheet 60 = .ok (.iinc 4 1, 3) := by decide +kernel
theorem dX7_sheet_63 : decode cX7_sheet 63 = .ok (.goto (-23), 3) := by decide +kernel
theorem dX7_sheet_66 : decode cX7_sheet 66 = .ok (.iconst 1, 1) := by decide +kernel
theorem dX7_sheet_67 : decode cX7_sheet 67 = .ok (.ireturn, 1) := by decide +kernel
theorem dX7_lay_0 : decode cX7_lay 0 = .ok (.iload_n 1, 1) := by decide +kernel
theorem dX7_lay_1 : decode cX7_lay 1 = .ok (.iconst 0, 1) := by decide +kernel
theorem dX7_lay_2 : decode cX7_lay 2 = .ok (.invokestatic 285, 3) := by decide +kernel
theorem dX7_lay_5 : decode cX7_lay 5 = .ok (.ifCond .ne 5, 3) := by decide +kernel
theorem dX7_lay_8 : decode cX7_lay 8 = .ok (.iconst (-1), 1) := by decide +kernel
theorem dX7_lay_9 : decode cX7_lay 9 = .ok (.ireturn, 1) := by decide +kernel
theorem dX7_lay_10 : decode cX7_lay 10 = .ok (.aload_n 0, 1) := by decide +kernel
theorem dX7_lay_11 : decode cX7_lay 11 = .ok (.getfield 32, 3) := by decide +kernel
theorem dX7_lay_14 : decode cX7_lay 14 = .ok (.iload_n 1, 1) := by decide +kernel
theorem dX7_lay_15 : decode cX7_lay 15 = .ok (.iaload, 1) := by decide +kernel
theorem dX7_lay_16 : decode cX7_lay 16 = .ok (.bipush (-4), 2) := by decide +kernel
theorem dX7_lay_18 : decode cX7_lay 18 = .ok (.if_icmp .ne 6, 3) := by decide +kernel
theorem dX7_lay_21 : decode cX7_lay 21 = .ok (.bipush (-11), 2) := by decide +kernel
theorem dX7_lay_23 : decode cX7_lay 23 = .ok (.ireturn, 1) := by decide +kernel
theorem dX7_lay_24 : decode cX7_lay 24 = .ok (.iload_n 2, 1) := by decide +kernel
theorem dX7_lay_25 : decode cX7_lay 25 = .ok (.i2l, 1) := by decide +kernel
theorem dX7_lay_26 : decode cX7_lay 26 = .ok (.lconst 0, 1) := by decide +kernel
theorem dX7_lay_27 : decode cX7_lay 27 = .ok (.aload_n 0, 1) := by decide +kernel
theorem dX7_lay_28 : decode cX7_lay 28 = .ok (.getfield 35, 3) := by decide +kernel
theorem dX7_lay_31 : decode cX7_lay 31 = .ok (.iload_n 1, 1) := by decide +kernel
theorem dX7_lay_32 : decode cX7_lay 32 = .ok (.iaload, 1) := by decide +kernel
theorem dX7_lay_33 : decode cX7_lay 33 = .ok (.iconst 1, 1) := by decide +kernel
theorem dX7_lay_34 : decode cX7_lay 34 = .ok (.isub, 1) := by decide +kernel
theorem dX7_lay_35 : decode cX7_lay 35 = .ok (.i2l, 1) := by decide +kernel
theorem dX7_lay_36 : decode cX7_lay 36 = .ok (.invokestatic 59, 3) := by decide +kernel
theorem dX7_lay_39 : decode cX7_lay 39 = .ok (.ifCond .ne 6, 3) := by decide +kernel
theorem dX7_lay_42 : decode cX7_lay 42 = .ok (.bipush (-12), 2) := by decide +kernel
theorem dX7_lay_44 : decode cX7_lay 44 = .ok (.ireturn, 1) := by decide +kernel
theorem dX7_lay_45 : decode cX7_lay 45 = .ok (.aload_n 0, 1) := by decide +kernel
theorem dX7_lay_46 : decode cX7_lay 46 = .ok (.getfield 38, 3) := by decide +kernel
theorem dX7_lay_49 : decode cX7_lay 49 = .ok (.bipush 40, 2) := by decide +kernel
theorem dX7_lay_51 : decode cX7_lay 51 = .ok (.iload_n 1, 1) := by decide +kernel
theorem dX7_lay_52 : decode cX7_lay 52 = .ok (.imul, 1) := by decide +kernel
theorem dX7_lay_53 : decode cX7_lay 53 = .ok (.iload_n 2, 1) := by decide +kernel
theorem dX7_lay_54 : decode cX7_lay 54 = .ok (.iadd, 1) := by decide +kernel
theorem dX7_lay_55 : decode cX7_lay 55 = .ok (.aload_n 0, 1) := by decide +kernel
theorem dX7_lay_56 : decode cX7_lay 56 = .ok (.getfield 32, 3) := by decide +kernel
theorem dX7_lay_59 : decode cX7_lay 59 = .ok (.iload_n 1, 1) := by decide +kernel
theorem dX7_lay_60 : decode cX7_lay 60 = .ok (.iaload, 1) := by decide +kernel
theorem dX7_lay_61 : decode cX7_lay 61 = .ok (.ifCond .ne 8, 3) := by decide +kernel
theorem dX7_lay_64 : decode cX7_lay 64 = .ok (.iload_n 3, 1) := by decide +kernel
theorem dX7_lay_65 : decode cX7_lay 65 = .ok (.i2b, 1) := by decide +kernel
theorem dX7_lay_66 : decode cX7_lay 66 = .ok (.goto 19, 3) := by decide +kernel
theorem dX7_lay_69 : decode cX7_lay 69 = .ok (.aload_n 0, 1) := by decide +kernel
theorem dX7_lay_70 : decode cX7_lay 70 = .ok (.getfield 32, 3) := by decide +kernel
theorem dX7_lay_73 : decode cX7_lay 73 = .ok (.iload_n 1, 1) := by decide +kernel
theorem dX7_lay_74 : decode cX7_lay 74 = .ok (.iaload, 1) := by decide +kernel
theorem dX7_lay_75 : decode cX7_lay 75 = .ok (.iconst 1, 1) := by decide +kernel
theorem dX7_lay_76 : decode cX7_lay 76 = .ok (.if_icmp .ne 8, 3) := by decide +kernel
theorem dX7_lay_79 : decode cX7_lay 79 = .ok (.iload_n 3, 1) := by decide +kernel
theorem dX7_lay_80 : decode cX7_lay 80 = .ok (.i2s, 1) := by decide +kernel
theorem dX7_lay_81 : decode cX7_lay 81 = .ok (.goto 4, 3) := by decide +kernel
theorem dX7_lay_84 : decode cX7_lay 84 = .ok (.iload_n 3, 1) := by decide +kernel
theorem dX7_lay_85 : decode cX7_lay 85 = .ok (.iastore, 1) := by decide +kernel
theorem dX7_lay_86 : decode cX7_lay 86 = .ok (.iconst 1, 1) := by decide +kernel
theorem dX7_lay_87 : decode cX7_lay 87 = .ok (.ireturn, 1) := by decide +kernel
theorem dX7_read_0 : decode cX7_read 0 = .ok (.iload_n 1, 1) := by decide +kernel
theorem dX7_read_1 : decode cX7_read 1 = .ok (.iload_n 2, 1) := by decide +kernel
theorem dX7_read_2 : decode cX7_read 2 = .ok (.invokestatic 285, 3) := by decide +kernel
theorem dX7_read_5 : decode cX7_read 5 = .ok (.ifCond .eq 16, 3) := by decide +kernel
theorem dX7_read_8 : decode cX7_read 8 = .ok (.iload 4, 2) := by decide +kernel
theorem dX7_read_10 : decode cX7_read 10 = .ok (.i2l, 1) := by decide +kernel
theorem dX7_read_11 : decode cX7_read 11 = .ok (.lconst 0, 1) := by decide +kernel
theorem dX7_read_12 : decode cX7_read 12 = .ok (.ldc2_w 288, 3) := by decide +kernel
theorem dX7_read_15 : decode cX7_read 15 = .ok (.invokestatic 59, 3) := by decide +kernel
theorem dX7_read_18 : decode cX7_read 18 = .ok (.ifCond .ne 5, 3) := by decide +kernel
theorem dX7_read_21 : decode cX7_read 21 = .ok (.iconst (-1), 1) := by decide +kernel
theorem dX7_read_22 : decode cX7_read 22 = .ok (.ireturn, 1) := by decide +kernel
theorem dX7_read_23 : decode cX7_read 23 = .ok (.iconst 0, 1) := by decide +kernel
theorem dX7_read_24 : decode cX7_read 24 = .ok (.istore 5, 2) := by decide +kernel
theorem dX7_read_26 : decode cX7_read 26 = .ok (.iload 5, 2) := by decide +kernel
theorem dX7_read_28 : decode cX7_read 28 = .ok (.bipush 56, 2) := by decide +kernel
theorem dX7_read_30 : decode cX7_read 30 = .ok (.if_icmp .ge 23, 3) := by decide +kernel
theorem dX7_read_33 : decode cX7_read 33 = .ok (.aload_n 0, 1) := by decide +kernel
theorem dX7_read_34 : decode cX7_read 34 = .ok (.getfield 41, 3) := by decide +kernel
theorem dX7_read_37 : decode cX7_read 37 = .ok (.iload 5, 2) := by decide +kernel
theorem dX7_read_39 : decode cX7_read 39 = .ok (.aload_n 0, 1) := by decide +kernel
theorem dX7_read_40 : decode cX7_read 40 = .ok (.getfield 7, 3) := by decide +kernel
theorem dX7_read_43 : decode cX7_read 43 = .ok (.iload 5, 2) := by decide +kernel
theorem dX7_read_45 : decode cX7_read 45 = .ok (.iaload, 1) := by decide +kernel
theorem dX7_read_46 : decode cX7_read 46 = .ok (.iastore, 1) := by decide +kernel
theorem dX7_read_47 : decode cX7_read 47 = .ok (.iinc 5 1, 3) := by decide +kernel
theorem dX7_read_50 : decode cX7_read 50 = .ok (.goto (-24), 3) := by decide +kernel
theorem dX7_read_53 : decode cX7_read 53 = .ok (.iconst 0, 1) := by decide +kernel
theorem dX7_read_54 : decode cX7_read 54 = .ok (.istore 5, 2) := by decide +kernel
theorem dX7_read_56 : decode cX7_read 56 = .ok (.iconst 0, 1) := by decide +kernel
theorem dX7_read_57 : decode cX7_read 57 = .ok (.istore 6, 2) := by decide +kernel
theorem dX7_read_59 : decode cX7_read 59 = .ok (.iconst 0, 1) := by decide +kernel
theorem dX7_read_60 : decode cX7_read 60 = .ok (.istore 7, 2) := by decide +kernel
theorem dX7_read_62 : decode cX7_read 62 = .ok (.iload 7, 2) := by decide +kernel
theorem dX7_read_64 : decode cX7_read 64 = .ok (.iload 4, 2) := by decide +kernel
theorem dX7_read_66 : decode cX7_read 66 = .ok (.if_icmp .ge 184, 3) := by decide +kernel
theorem dX7_read_69 : decode cX7_read 69 = .ok (.iload 5, 2) := by decide +kernel
theorem dX7_read_71 : decode cX7_read 71 = .ok (.ifCond .ne 179, 3) := by decide +kernel
theorem dX7_read_74 : decode cX7_read 74 = .ok (.iconst 0, 1) := by decide +kernel
theorem dX7_read_75 : decode cX7_read 75 = .ok (.istore 8, 2) := by decide +kernel
theorem dX7_read_77 : decode cX7_read 77 = .ok (.iload 8, 2) := by decide +kernel
theorem dX7_read_79 : decode cX7_read 79 = .ok (.iconst 2, 1) := by decide +kernel
theorem dX7_read_80 : decode cX7_read 80 = .ok (.if_icmp .ge 84, 3) := by decide +kernel
theorem dX7_read_83 : decode cX7_read 83 = .ok (.iload 5, 2) := by decide +kernel
theorem dX7_read_85 : decode cX7_read 85 = .ok (.ifCond .ne 79, 3) := by decide +kernel
theorem dX7_read_88 : decode cX7_read 88 = .ok (.iload_n 3, 1) := by decide +kernel
theorem dX7_read_89 : decode cX7_read 89 = .ok (.i2l, 1) := by decide +kernel
theorem dX7_read_90 : decode cX7_read 90 = .ok (.iconst 2, 1) := by decide +kernel
theorem dX7_read_91 : decode cX7_read 91 = .ok (.iload 7, 2) := by decide +kernel
theorem dX7_read_93 : decode cX7_read 93 = .ok (.imul, 1) := by decide +kernel
theorem dX7_read_94 : decode cX7_read 94 = .ok (.i2l, 1) := by decide +kernel
theorem dX7_read_95 : decode cX7_read 95 = .ok (.ladd, 1) := by decide +kernel
theorem dX7_read_96 : decode cX7_read 96 = .ok (.iload 8, 2) := by decide +kernel
theorem dX7_read_98 : decode cX7_read 98 = .ok (.i2l, 1) := by decide +kernel
theorem dX7_read_99 : decode cX7_read 99 = .ok (.ladd, 1) := by decide +kernel
theorem dX7_read_100 : decode cX7_read 100 = .ok (.lstore 9, 2) := by decide +kernel
theorem dX7_read_102 : decode cX7_read 102 = .ok (.aload_n 0, 1) := by decide +kernel
theorem dX7_read_103 : decode cX7_read 103 = .ok (.getfield 32, 3) := by decide +kernel
theorem dX7_read_106 : decode cX7_read 106 = .ok (.iload_n 1, 1) := by decide +kernel
theorem dX7_read_107 : decode cX7_read 107 = .ok (.iaload, 1) := by decide +kernel
theorem dX7_read_108 : decode cX7_read 108 = .ok (.bipush (-4), 2) := by decide +kernel
theorem dX7_read_110 : decode cX7_read 110 = .ok (.if_icmp .ne 7, 3) := by decide +kernel
theorem dX7_read_113 : decode cX7_read 113 = .ok (.iconst 1, 1) := by decide +kernel
theorem dX7_read_114 : decode cX7_read 114 = .ok (.goto 42, 3) := by decide +kernel
theorem dX7_read_117 : decode cX7_read 117 = .ok (.aload_n 0, 1) := by decide +kernel
theorem dX7_read_118 : decode cX7_read 118 = .ok (.getfield 32, 3) := by decide +kernel
theorem dX7_read_121 : decode cX7_read 121 = .ok (.iload_n 1, 1) := by decide +kernel
theorem dX7_read_122 : decode cX7_read 122 = .ok (.iaload, 1) := by decide +kernel
theorem dX7_read_123 : decode cX7_read 123 = .ok (.iload_n 2, 1) := by decide +kernel
theorem dX7_read_124 : decode cX7_read 124 = .ok (.if_icmp .eq 7, 3) := by decide +kernel
theorem dX7_read_127 : decode cX7_read 127 = .ok (.iconst 3, 1) := by decide +kernel
theorem dX7_read_128 : decode cX7_read 128 = .ok (.goto 28, 3) := by decide +kernel
theorem dX7_read_131 : decode cX7_read 131 = .ok (.lload 9, 2) := by decide +kernel
theorem dX7_read_133 : decode cX7_read 133 = .ok (.lconst 0, 1) := by decide +kernel
theorem dX7_read_134 : decode cX7_read 134 = .ok (.lcmp, 1) := by decide +kernel
theorem dX7_read_135 : decode cX7_read 135 = .ok (.ifCond .lt 16, 3) := by decide +kernel
theorem dX7_read_138 : decode cX7_read 138 = .ok (.lload 9, 2) := by decide +kernel
theorem dX7_read_140 : decode cX7_read 140 = .ok (.aload_n 0, 1) := by decide +kernel
theorem dX7_read_141 : decode cX7_read 141 = .ok (.getfield 35, 3) := by decide +kernel
theorem dX7_read_144 : decode cX7_read 144 = .ok (.iload_n 1, 1) := by decide +kernel
theorem dX7_read_145 : decode cX7_read 145 = .ok (.iaload, 1) := by decide +kernel
theorem dX7_read_146 : decode cX7_read 146 = .ok (.i2l, 1) := by decide +kernel
theorem dX7_read_147 : decode cX7_read 147 = .ok (.lcmp, 1) := by decide +kernel
theorem dX7_read_148 : decode cX7_read 148 = .ok (.ifCond .lt 7, 3) := by decide +kernel
theorem dX7_read_151 : decode cX7_read 151 = .ok (.iconst 2, 1) := by decide +kernel
theorem dX7_read_152 : decode cX7_read 152 = .ok (.goto 4, 3) := by decide +kernel
theorem dX7_read_155 : decode cX7_read 155 = .ok (.iconst 0, 1) := by decide +kernel
theorem dX7_read_156 : decode cX7_read 156 = .ok (.istore 5, 2) := by decide +kernel
theorem dX7_read_158 : decode cX7_read 158 = .ok (.iinc 8 1, 3) := by decide +kernel
theorem dX7_read_161 : decode cX7_read 161 = .ok (.goto (-84), 3) := by decide +kernel
theorem dX7_read_164 : decode cX7_read 164 = .ok (.iload 5, 2) := by decide +kernel
theorem dX7_read_166 : decode cX7_read 166 = .ok (.ifCond .ne 78, 3) := by decide +kernel
theorem dX7_read_169 : decode cX7_read 169 = .ok (.bipush 40, 2) := by decide +kernel
theorem dX7_read_171 : decode cX7_read 171 = .ok (.iload_n 1, 1) := by decide +kernel
theorem dX7_read_172 : decode cX7_read 172 = .ok (.imul, 1) := by decide +kernel
theorem dX7_read_173 : decode cX7_read 173 = .ok (.iload_n 3, 1) := by decide +kernel
theorem dX7_read_174 : decode cX7_read 174 = .ok (.iadd, 1) := by decide +kernel
theorem dX7_read_175 : decode cX7_read 175 = .ok (.iconst 2, 1) := by decide +kernel
theorem dX7_read_176 : decode cX7_read 176 = .ok (.iload 7, 2) := by decide +kernel
theorem dX7_read_178 : decode cX7_read 178 = .ok (.imul, 1) := by decide +kernel
theorem dX7_read_179 : decode cX7_read 179 = .ok (.iadd, 1) := by decide +kernel
theorem dX7_read_180 : decode cX7_read 180 = .ok (.istore 8, 2) := by decide +kernel
theorem dX7_read_182 : decode cX7_read 182 = .ok (.aload_n 0, 1) := by decide +kernel
theorem dX7_read_183 : decode cX7_read 183 = .ok (.aload_n 0, 1) := by decide +kernel
theorem dX7_read_184 : decode cX7_read 184 = .ok (.getfield 38, 3) := by decide +kernel
theorem dX7_read_187 : decode cX7_read 187 = .ok (.iload 8, 2) := by decide +kernel
theorem dX7_read_189 : decode cX7_read 189 = .ok (.iaload, 1) := by decide +kernel
theorem dX7_read_190 : decode cX7_read 190 = .ok (.aload_n 0, 1) := by decide +kernel
theorem dX7_read_191 : decode cX7_read 191 = .ok (.getfield 38, 3) := by decide +kernel
theorem dX7_read_194 : decode cX7_read 194 = .ok (.iload 8, 2) := by decide +kernel
theorem dX7_read_196 : decode cX7_read 196 = .ok (.iconst 1, 1) := by decide +kernel
theorem dX7_read_197 : decode cX7_read 197 = .ok (.iadd, 1) := by decide +kernel
theorem dX7_read_198 : decode cX7_read 198 = .ok (.iaload, 1) := by decide +kernel
theorem dX7_read_199 : decode cX7_read 199 = .ok (.invokevirtual 290, 3) := by decide +kernel
theorem dX7_read_202 : decode cX7_read 202 = .ok (.ifCond .ge 39, 3) := by decide +kernel
theorem dX7_read_205 : decode cX7_read 205 = .ok (.iconst 0, 1) := by decide +kernel
theorem dX7_read_206 : decode cX7_read 206 = .ok (.istore 9, 2) := by decide +kernel
theorem dX7_read_208 : decode cX7_read 208 = .ok (.iload 9, 2) := by decide +kernel
theorem dX7_read_210 : decode cX7_read 210 = .ok (.bipush 56, 2) := by decide +kernel
theorem dX7_read_212 : decode cX7_read 212 = .ok (.if_icmp .ge 23, 3) := by decide +kernel
theorem dX7_read_215 : decode cX7_read 215 = .ok (.aload_n 0, 1) := by decide +kernel
theorem dX7_read_216 : decode cX7_read 216 = .ok (.getfield 7, 3) := by decide +kernel
theorem dX7_read_219 : decode cX7_read 219 = .ok (.iload 9, 2) := by decide +kernel
theorem dX7_read_221 : decode cX7_read 221 = .ok (.aload_n 0, 1) := by decide +kernel
theorem dX7_read_222 : decode cX7_read 222 = .ok (.getfield 41, 3) := by decide +kernel
theorem dX7_read_225 : decode cX7_read 225 = .ok (.iload 9, 2) := by decide +kernel
theorem dX7_read_227 : decode cX7_read 227 = .ok (.iaload, 1) := by decide +kernel
theorem dX7_read_228 : decode cX7_read 228 = .ok (.iastore, 1) := by decide +kernel
theorem dX7_read_229 : decode cX7_read 229 = .ok (.iinc 9 1, 3) := by decide +kernel
theorem dX7_read_232 : decode cX7_read 232 = .ok (.goto (-24), 3) := by decide +kernel
theorem dX7_read_235 : decode cX7_read 235 = .ok (.bipush (-20), 2) := by decide +kernel
theorem dX7_read_237 : decode cX7_read 237 = .ok (.iload 7, 2) := by decide +kernel
theorem dX7_read_239 : decode cX7_read 239 = .ok (.isub, 1) := by decide +kernel
theorem dX7_read_240 : decode cX7_read 240 = .ok (.ireturn, 1) := by decide +kernel
theorem dX7_read_241 : decode cX7_read 241 = .ok (.iinc 6 1, 3) := by decide +kernel
theorem dX7_read_244 : decode cX7_read 244 = .ok (.iinc 7 1, 3) := by decide +kernel
theorem dX7_read_247 : decode cX7_read 247 = .ok (.goto (-185), 3) := by decide +kernel
theorem dX7_read_250 : decode cX7_read 250 = .ok (.aload_n 0, 1) := by decide +kernel
theorem dX7_read_251 : decode cX7_read 251 = .ok (.iload 5, 2) := by decide +kernel
theorem dX7_read_253 : decode cX7_read 253 = .ok (.putfield 293, 3) := by decide +kernel
theorem dX7_read_256 : decode cX7_read 256 = .ok (.iload 6, 2) := by decide +kernel
theorem dX7_read_258 : decode cX7_read 258 = .ok (.ireturn, 1) := by decide +kernel
theorem dX7_torn_0 : decode cX7_torn 0 = .ok (.aload_n 0, 1) := by decide +kernel
theorem dX7_torn_1 : decode cX7_torn 1 = .ok (.getfield 293, 3) := by decide +kernel
theorem dX7_torn_4 : decode cX7_torn 4 = .ok (.ireturn, 1) := by decide +kernel
theorem dX7_count_0 : decode cX7_count 0 = .ok (.iconst 0, 1) := by decide +kernel
theorem dX7_count_1 : decode cX7_count 1 = .ok (.istore_n 2, 1) := by decide +kernel
theorem dX7_count_2 : decode cX7_count 2 = .ok (.iconst 0, 1) := by decide +kernel
theorem dX7_count_3 : decode cX7_count 3 = .ok (.istore_n 3, 1) := by decide +kernel
theorem dX7_count_4 : decode cX7_count 4 = .ok (.iconst 0, 1) := by decide +kernel
theorem dX7_count_5 : decode cX7_count 5 = .ok (.istore 4, 2) := by decide +kernel
theorem dX7_count_7 : decode cX7_count 7 = .ok (.iload 4, 2) := by decide +kernel
theorem dX7_count_9 : decode cX7_count 9 = .ok (.aload_n 0, 1) := by decide +kernel
theorem dX7_count_10 : decode cX7_count 10 = .ok (.getfield 7, 3) := by decide +kernel
theorem dX7_count_13 : decode cX7_count 13 = .ok (.bipush 36, 2) := by decide +kernel
theorem dX7_count_15 : decode cX7_count 15 = .ok (.iaload, 1) := by decide +kernel
theorem dX7_count_16 : decode cX7_count 16 = .ok (.if_icmp .ge 26, 3) := by decide +kernel
theorem dX7_count_19 : decode cX7_count 19 = .ok (.iload_n 2, 1) := by decide +kernel
theorem dX7_count_20 : decode cX7_count 20 = .ok (.aload_n 0, 1) := by decide +kernel
theorem dX7_count_21 : decode cX7_count 21 = .ok (.getfield 7, 3) := by decide +kernel
theorem dX7_count_24 : decode cX7_count 24 = .ok (.bipush 20, 2) := by decide +kernel
theorem dX7_count_26 : decode cX7_count 26 = .ok (.iconst 4, 1) := by decide +kernel
theorem dX7_count_27 : decode cX7_count 27 = .ok (.iload 4, 2) := by decide +kernel
theorem dX7_count_29 : decode cX7_count 29 = .ok (.imul, 1) := by decide +kernel
theorem dX7_count_30 : decode cX7_count 30 = .ok (.iadd, 1) := by decide +kernel
theorem dX7_count_31 : decode cX7_count 31 = .ok (.iconst 1, 1) := by decide +kernel
theorem dX7_count_32 : decode cX7_count 32 = .ok (.iadd, 1) := by decide +kernel
theorem dX7_count_33 : decode cX7_count 33 = .ok (.iaload, 1) := by decide +kernel
theorem dX7_count_34 : decode cX7_count 34 = .ok (.iadd, 1) := by decide +kernel
theorem dX7_count_35 : decode cX7_count 35 = .ok (.istore_n 2, 1) := by decide +kernel
theorem dX7_count_36 : decode cX7_count 36 = .ok (.iinc 4 1, 3) := by decide +kernel
theorem dX7_count_39 : decode cX7_count 39 = .ok (.goto (-32), 3) := by decide +kernel
theorem dX7_count_42 : decode cX7_count 42 = .ok (.iconst 0, 1) := by decide +kernel
theorem dX7_count_43 : decode cX7_count 43 = .ok (.istore 4, 2) := by decide +kernel
theorem dX7_count_45 : decode cX7_count 45 = .ok (.iload 4, 2) := by decide +kernel
theorem dX7_count_47 : decode cX7_count 47 = .ok (.aload_n 0, 1) := by decide +kernel
theorem dX7_count_48 : decode cX7_count 48 = .ok (.getfield 7, 3) := by decide +kernel
theorem dX7_count_51 : decode cX7_count 51 = .ok (.bipush 17, 2) := by decide +kernel
theorem dX7_count_53 : decode cX7_count 53 = .ok (.iaload, 1) := by decide +kernel
theorem dX7_count_54 : decode cX7_count 54 = .ok (.if_icmp .ge 21, 3) := by decide +kernel
theorem dX7_count_57 : decode cX7_count 57 = .ok (.iload_n 3, 1) := by decide +kernel
theorem dX7_count_58 : decode cX7_count 58 = .ok (.aload_n 0, 1) := by decide +kernel
theorem dX7_count_59 : decode cX7_count 59 = .ok (.getfield 7, 3) := by decide +kernel
theorem dX7_count_62 : decode cX7_count 62 = .ok (.iconst 1, 1) := by decide +kernel
theorem dX7_count_63 : decode cX7_count 63 = .ok (.iload 4, 2) := by decide +kernel
theorem dX7_count_65 : decode cX7_count 65 = .ok (.iadd, 1) := by decide +kernel
theorem dX7_count_66 : decode cX7_count 66 = .ok (.iaload, 1) := by decide +kernel
theorem dX7_count_67 : decode cX7_count 67 = .ok (.iadd, 1) := by decide +kernel
theorem dX7_count_68 : decode cX7_count 68 = .ok (.istore_n 3, 1) := by decide +kernel
theorem dX7_count_69 : decode cX7_count 69 = .ok (.iinc 4 1, 3) := by decide +kernel
theorem dX7_count_72 : decode cX7_count 72 = .ok (.goto (-27), 3) := by decide +kernel
theorem dX7_count_75 : decode cX7_count 75 = .ok (.iload_n 1, 1) := by decide +kernel
theorem dX7_count_76 : decode cX7_count 76 = .ok (.tableswitch 100 0 5 #[40, 48, 68, 73, 96, 98], 40) := by decide +kernel
theorem dX7_count_116 : decode cX7_count 116 = .ok (.aload_n 0, 1) := by decide +kernel
theorem dX7_count_117 : decode cX7_count 117 = .ok (.getfield 7, 3) := by decide +kernel
theorem dX7_count_120 : decode cX7_count 120 = .ok (.bipush 37, 2) := by decide +kernel
theorem dX7_count_122 : decode cX7_count 122 = .ok (.iaload, 1) := by decide +kernel
theorem dX7_count_123 : decode cX7_count 123 = .ok (.ireturn, 1) := by decide +kernel
theorem dX7_count_124 : decode cX7_count 124 = .ok (.aload_n 0, 1) := by decide +kernel
theorem dX7_count_125 : decode cX7_count 125 = .ok (.getfield 16, 3) := by decide +kernel
theorem dX7_count_128 : decode cX7_count 128 = .ok (.iconst 0, 1) := by decide +kernel
theorem dX7_count_129 : decode cX7_count 129 = .ok (.baload, 1) := by decide +kernel
theorem dX7_count_130 : decode cX7_count 130 = .ok (.invokestatic 148, 3) := by decide +kernel
theorem dX7_count_133 : decode cX7_count 133 = .ok (.aload_n 0, 1) := by decide +kernel
theorem dX7_count_134 : decode cX7_count 134 = .ok (.getfield 16, 3) := by decide +kernel
theorem dX7_count_137 : decode cX7_count 137 = .ok (.iconst 1, 1) := by decide +kernel
theorem dX7_count_138 : decode cX7_count 138 = .ok (.baload, 1) := by decide +kernel
theorem dX7_count_139 : decode cX7_count 139 = .ok (.invokestatic 148, 3) := by decide +kernel
theorem dX7_count_142 : decode cX7_count 142 = .ok (.iadd, 1) := by decide +kernel
theorem dX7_count_143 : decode cX7_count 143 = .ok (.ireturn, 1) := by decide +kernel
theorem dX7_count_144 : decode cX7_count 144 = .ok (.aload_n 0, 1) := by decide +kernel
theorem dX7_count_145 : decode cX7_count 145 = .ok (.getfield 63, 3) := by decide +kernel
theorem dX7_count_148 : decode cX7_count 148 = .ok (.ireturn, 1) := by decide +kernel
theorem dX7_count_149 : decode cX7_count 149 = .ok (.aload_n 0, 1) := by decide +kernel
theorem dX7_count_150 : decode cX7_count 150 = .ok (.getfield 32, 3) := by decide +kernel
theorem dX7_count_153 : decode cX7_count 153 = .ok (.iconst 0, 1) := by decide +kernel
theorem dX7_count_154 : decode cX7_count 154 = .ok (.iaload, 1) := by decide +kernel
theorem dX7_count_155 : decode cX7_count 155 = .ok (.bipush (-4), 2) := by decide +kernel
theorem dX7_count_157 : decode cX7_count 157 = .ok (.if_icmp .ne 8, 3) := by decide +kernel
theorem dX7_count_160 : decode cX7_count 160 = .ok (.bipush (-4), 2) := by decide +kernel
theorem dX7_count_162 : decode cX7_count 162 = .ok (.goto 9, 3) := by decide +kernel
theorem dX7_count_165 : decode cX7_count 165 = .ok (.aload_n 0, 1) := by decide +kernel
theorem dX7_count_166 : decode cX7_count 166 = .ok (.getfield 35, 3) := by decide +kernel
theorem dX7_count_169 : decode cX7_count 169 = .ok (.iconst 0, 1) := by decide +kernel
theorem dX7_count_170 : decode cX7_count 170 = .ok (.iaload, 1) := by decide +kernel
theorem dX7_count_171 : decode cX7_count 171 = .ok (.ireturn, 1) := by decide +kernel
theorem dX7_count_172 : decode cX7_count 172 = .ok (.iload_n 2, 1) := by decide +kernel
theorem dX7_count_173 : decode cX7_count 173 = .ok (.ireturn, 1) := by decide +kernel
theorem dX7_count_174 : decode cX7_count 174 = .ok (.iload_n 3, 1) := by decide +kernel
theorem dX7_count_175 : decode cX7_count 175 = .ok (.ireturn, 1) := by decide +kernel
theorem dX7_count_176 : decode cX7_count 176 = .ok (.iconst (-1), 1) := by decide +kernel
theorem dX7_count_177 : decode cX7_count 177 = .ok (.ireturn, 1) := by decide +kernel
