theorem dX0_init_0 : decode cX0_init 0 = .ok (.aload_n 0, 1) := by decide +kernel
theorem dX0_init_1 : decode cX0_init 1 = .ok (.invokespecial 3, 3) := by decide +kernel
theorem dX0_init_4 : decode cX0_init 4 = .ok (.aload_n 0, 1) := by decide +kernel
theorem dX0_init_5 : decode cX0_init 5 = .ok (.iconst 1, 1) := by decide +kernel
theorem dX0_init_6 : decode cX0_init 6 = .ok (.putfield 9, 3) := by decide +kernel
theorem dX0_init_9 : decode cX0_init 9 = .ok (.aload_n 0, 1) := by decide +kernel
theorem dX0_init_10 : decode cX0_init 10 = .ok (.bipush 16, 2) := by decide +kernel
theorem dX0_init_12 : decode cX0_init 12 = .ok (.newarray .int, 2) := by decide +kernel
theorem dX0_init_14 : decode cX0_init 14 = .ok (.putfield 15, 3) := by decide +kernel
theorem dX0_init_17 : decode cX0_init 17 = .ok (.aload_n 0, 1) := by decide +kernel
theorem dX0_init_18 : decode cX0_init 18 = .ok (.iconst 4, 1) := by decide +kernel
theorem dX0_init_19 : decode cX0_init 19 = .ok (.anewarray 19, 3) := by decide +kernel
theorem dX0_init_22 : decode cX0_init 22 = .ok (.putfield 21, 3) := by decide +kernel
theorem dX0_init_25 : decode cX0_init 25 = .ok (.iconst 0, 1) := by decide +kernel
theorem dX0_init_26 : decode cX0_init 26 = .ok (.istore_n 1, 1) := by decide +kernel
theorem dX0_init_27 : decode cX0_init 27 = .ok (.iload_n 1, 1) := by decide +kernel
theorem dX0_init_28 : decode cX0_init 28 = .ok (.iconst 4, 1) := by decide +kernel
theorem dX0_init_29 : decode cX0_init 29 = .ok (.if_icmp .ge 22, 3) := by decide +kernel
theorem dX0_init_32 : decode cX0_init 32 = .ok (.aload_n 0, 1) := by decide +kernel
theorem dX0_init_33 : decode cX0_init 33 = .ok (.getfield 21, 3) := by decide +kernel
theorem dX0_init_36 : decode cX0_init 36 = .ok (.iload_n 1, 1) := by decide +kernel
theorem dX0_init_37 : decode cX0_init 37 = .ok (.new 19, 3) := by decide +kernel
theorem dX0_init_40 : decode cX0_init 40 = .ok (.dup, 1) := by decide +kernel
theorem dX0_init_41 : decode cX0_init 41 = .ok (.invokespecial 25, 3) := by decide +kernel
theorem dX0_init_44 : decode cX0_init 44 = .ok (.aastore, 1) := by decide +kernel
theorem dX0_init_45 : decode cX0_init 45 = .ok (.iinc 1 1, 3) := by decide +kernel
theorem dX0_init_48 : decode cX0_init 48 = .ok (.goto (-21), 3) := by decide +kernel
theorem dX0_init_51 : decode cX0_init 51 = .ok (.return_, 1) := by decide +kernel
theorem dX0_clear_0 : decode cX0_clear 0 = .ok (.aload_n 0, 1) := by decide +kernel
theorem dX0_clear_1 : decode cX0_clear 1 = .ok (.iconst 0, 1) := by decide +kernel
theorem dX0_clear_2 : decode cX0_clear 2 = .ok (.putfield 26, 3) := by decide +kernel
theorem dX0_clear_5 : decode cX0_clear 5 = .ok (.aload_n 0, 1) := by decide +kernel
theorem dX0_clear_6 : decode cX0_clear 6 = .ok (.iconst 0, 1) := by decide +kernel
theorem dX0_clear_7 : decode cX0_clear 7 = .ok (.putfield 29, 3) := by decide +kernel
theorem dX0_clear_10 : decode cX0_clear 10 = .ok (.aload_n 0, 1) := by decide +kernel
theorem dX0_clear_11 : decode cX0_clear 11 = .ok (.iconst 1, 1) := by decide +kernel
theorem dX0_clear_12 : decode cX0_clear 12 = .ok (.putfield 9, 3) := by decide +kernel
theorem dX0_clear_15 : decode cX0_clear 15 = .ok (.aload_n 0, 1) := by decide +kernel
theorem dX0_clear_16 : decode cX0_clear 16 = .ok (.iconst 0, 1) := by decide +kernel
theorem dX0_clear_17 : decode cX0_clear 17 = .ok (.putfield 32, 3) := by decide +kernel
theorem dX0_clear_20 : decode cX0_clear 20 = .ok (.aload_n 0, 1) := by decide +kernel
theorem dX0_clear_21 : decode cX0_clear 21 = .ok (.iconst 0, 1) := by decide +kernel
theorem dX0_clear_22 : decode cX0_clear 22 = .ok (.putfield 35, 3) := by decide +kernel
theorem dX0_clear_25 : decode cX0_clear 25 = .ok (.return_, 1) := by decide +kernel
theorem dX0_copyFrom_0 : decode cX0_copyFrom 0 = .ok (.aload_n 0, 1) := by decide +kernel
theorem dX0_copyFrom_1 : decode cX0_copyFrom 1 = .ok (.aload_n 1, 1) := by decide +kernel
theorem dX0_copyFrom_2 : decode cX0_copyFrom 2 = .ok (.getfield 26, 3) := by decide +kernel
theorem dX0_copyFrom_5 : decode cX0_copyFrom 5 = .ok (.putfield 26, 3) := by decide +kernel
theorem dX0_copyFrom_8 : decode cX0_copyFrom 8 = .ok (.aload_n 0, 1) := by decide +kernel
theorem dX0_copyFrom_9 : decode cX0_copyFrom 9 = .ok (.aload_n 1, 1) := by decide +kernel
theorem dX0_copyFrom_10 : decode cX0_copyFrom 10 = .ok (.getfield 29, 3) := by decide +kernel
theorem dX0_copyFrom_13 : decode cX0_copyFrom 13 = .ok (.putfield 29, 3) := by decide +kernel
theorem dX0_copyFrom_16 : decode cX0_copyFrom 16 = .ok (.aload_n 0, 1) := by decide +kernel
theorem dX0_copyFrom_17 : decode cX0_copyFrom 17 = .ok (.aload_n 1, 1) := by decide +kernel
theorem dX0_copyFrom_18 : decode cX0_copyFrom 18 = .ok (.getfield 9, 3) := by decide +kernel
theorem dX0_copyFrom_21 : decode cX0_copyFrom 21 = .ok (.putfield 9, 3) := by decide +kernel
theorem dX0_copyFrom_24 : decode cX0_copyFrom 24 = .ok (.aload_n 0, 1) := by decide +kernel
theorem dX0_copyFrom_25 : decode cX0_copyFrom 25 = .ok (.aload_n 1, 1) := by decide +kernel
theorem dX0_copyFrom_26 : decode cX0_copyFrom 26 = .ok (.getfield 32, 3) := by decide +kernel
theorem dX0_copyFrom_29 : decode cX0_copyFrom 29 = .ok (.putfield 32, 3) := by decide +kernel
theorem dX0_copyFrom_32 : decode cX0_copyFrom 32 = .ok (.aload_n 0, 1) := by decide +kernel
theorem dX0_copyFrom_33 : decode cX0_copyFrom 33 = .ok (.aload_n 1, 1) := by decide +kernel
theorem dX0_copyFrom_34 : decode cX0_copyFrom 34 = .ok (.getfield 35, 3) := by decide +kernel
theorem dX0_copyFrom_37 : decode cX0_copyFrom 37 = .ok (.putfield 35, 3) := by decide +kernel
theorem dX0_copyFrom_40 : decode cX0_copyFrom 40 = .ok (.aload_n 1, 1) := by decide +kernel
theorem dX0_copyFrom_41 : decode cX0_copyFrom 41 = .ok (.getfield 15, 3) := by decide +kernel
theorem dX0_copyFrom_44 : decode cX0_copyFrom 44 = .ok (.iconst 0, 1) := by decide +kernel
theorem dX0_copyFrom_45 : decode cX0_copyFrom 45 = .ok (.aload_n 0, 1) := by decide +kernel
theorem dX0_copyFrom_46 : decode cX0_copyFrom 46 = .ok (.getfield 15, 3) := by decide +kernel
theorem dX0_copyFrom_49 : decode cX0_copyFrom 49 = .ok (.iconst 0, 1) := by decide +kernel
theorem dX0_copyFrom_50 : decode cX0_copyFrom 50 = .ok (.bipush 16, 2) := by decide +kernel
theorem dX0_copyFrom_52 : decode cX0_copyFrom 52 = .ok (.invokestatic 38, 3) := by decide +kernel
theorem dX0_copyFrom_55 : decode cX0_copyFrom 55 = .ok (.iconst 0, 1) := by decide +kernel
theorem dX0_copyFrom_56 : decode cX0_copyFrom 56 = .ok (.istore_n 2, 1) := by decide +kernel
theorem dX0_copyFrom_57 : decode cX0_copyFrom 57 = .ok (.iload_n 2, 1) := by decide +kernel
theorem dX0_copyFrom_58 : decode cX0_copyFrom 58 = .ok (.aload_n 0, 1) := by decide +kernel
theorem dX0_copyFrom_59 : decode cX0_copyFrom 59 = .ok (.getfield 35, 3) := by decide +kernel
theorem dX0_copyFrom_62 : decode cX0_copyFrom 62 = .ok (.if_icmp .ge 24, 3) := by decide +kernel
theorem dX0_copyFrom_65 : decode cX0_copyFrom 65 = .ok (.aload_n 0, 1) := by decide +kernel
theorem dX0_copyFrom_66 : decode cX0_copyFrom 66 = .ok (.getfield 21, 3) := by decide +kernel
theorem dX0_copyFrom_69 : decode cX0_copyFrom 69 = .ok (.iload_n 2, 1) := by decide +kernel
theorem dX0_copyFrom_70 : decode cX0_copyFrom 70 = .ok (.aaload, 1) := by decide +kernel
theorem dX0_copyFrom_71 : decode cX0_copyFrom 71 = .ok (.aload_n 1, 1) := by decide +kernel
theorem dX0_copyFrom_72 : decode cX0_copyFrom 72 = .ok (.getfield 21, 3) := by decide +kernel
theorem dX0_copyFrom_75 : decode cX0_copyFrom 75 = .ok (.iload_n 2, 1) := by decide +kernel
theorem dX0_copyFrom_76 : decode cX0_copyFrom 76 = .ok (.aaload, 1) := by decide +kernel
theorem dX0_copyFrom_77 : decode cX0_copyFrom 77 = .ok (.invokevirtual 44, 3) := by decide +kernel
theorem dX0_copyFrom_80 : decode cX0_copyFrom 80 = .ok (.iinc 2 1, 3) := by decide +kernel
theorem dX0_copyFrom_83 : decode cX0_copyFrom 83 = .ok (.goto (-26), 3) := by decide +kernel
theorem dX0_copyFrom_86 : decode cX0_copyFrom 86 = .ok (.return_, 1) := by decide +kernel
theorem dX0_addSign_0 : decode cX0_addSign 0 = .ok (.aload_n 0, 1) := by decide +kernel
theorem dX0_addSign_1 : decode cX0_addSign 1 = .ok (.getfield 32, 3) := by decide +kernel
theorem dX0_addSign_4 : decode cX0_addSign 4 = .ok (.bipush 16, 2) := by decide +kernel
theorem dX0_addSign_6 : decode cX0_addSign 6 = .ok (.if_icmp .lt 5, 3) := by decide +kernel
theorem dX0_addSign_9 : decode cX0_addSign 9 = .ok (.iconst 0, 1) := by decide +kernel
theorem dX0_addSign_10 : decode cX0_addSign 10 = .ok (.ireturn, 1) := by decide +kernel
theorem dX0_addSign_11 : decode cX0_addSign 11 = .ok (.aload_n 0, 1) := by decide +kernel
theorem dX0_addSign_12 : decode cX0_addSign 12 = .ok (.getfield 15, 3) := by decide +kernel
theorem dX0_addSign_15 : decode cX0_addSign 15 = .ok (.aload_n 0, 1) := by decide +kernel
theorem dX0_addSign_16 : decode cX0_addSign 16 = .ok (.getfield 32, 3) := by decide +kernel
theorem dX0_addSign_19 : decode cX0_addSign 19 = .ok (.iload_n 1, 1) := by decide +kernel
theorem dX0_addSign_20 : decode cX0_addSign 20 = .ok (.iastore, 1) := by decide +kernel
theorem dX0_addSign_21 : decode cX0_addSign 21 = .ok (.aload_n 0, 1) := by decide +kernel
theorem dX0_addSign_22 : decode cX0_addSign 22 = .ok (.dup, 1) := by decide +kernel
theorem dX0_addSign_23 : decode cX0_addSign 23 = .ok (.getfield 32, 3) := by decide +kernel
theorem dX0_addSign_26 : decode cX0_addSign 26 = .ok (.iconst 1, 1) := by decide +kernel
theorem dX0_addSign_27 : decode cX0_addSign 27 = .ok (.iadd, 1) := by decide +kernel
theorem dX0_addSign_28 : decode cX0_addSign 28 = .ok (.putfield 32, 3) := by decide +kernel
theorem dX0_addSign_31 : decode cX0_addSign 31 = .ok (.iconst 1, 1) := by decide +kernel
theorem dX0_addSign_32 : decode cX0_addSign 32 = .ok (.ireturn, 1) := by decide +kernel
theorem dX0_addRotor_0 : decode cX0_addRotor 0 = .ok (.aload_n 0, 1) := by decide +kernel
theorem dX0_addRotor_1 : decode cX0_addRotor 1 = .ok (.getfield 35, 3) := by decide +kernel
theorem dX0_addRotor_4 : decode cX0_addRotor 4 = .ok (.iconst 4, 1) := by decide +kernel
theorem dX0_addRotor_5 : decode cX0_addRotor 5 = .ok (.if_icmp .ge 28, 3) := by decide +kernel
theorem dX0_addRotor_8 : decode cX0_addRotor 8 = .ok (.aload_n 0, 1) := by decide +kernel
theorem dX0_addRotor_9 : decode cX0_addRotor 9 = .ok (.getfield 21, 3) := by decide +kernel
theorem dX0_addRotor_12 : decode cX0_addRotor 12 = .ok (.aload_n 0, 1) := by decide +kernel
theorem dX0_addRotor_13 : decode cX0_addRotor 13 = .ok (.getfield 35, 3) := by decide +kernel
theorem dX0_addRotor_16 : decode cX0_addRotor 16 = .ok (.aaload, 1) := by decide +kernel
theorem dX0_addRotor_17 : decode cX0_addRotor 17 = .ok (.iload_n 1, 1) := by decide +kernel
theorem dX0_addRotor_18 : decode cX0_addRotor 18 = .ok (.iload_n 2, 1) := by decide +kernel
theorem dX0_addRotor_19 : decode cX0_addRotor 19 = .ok (.iload_n 3, 1) := by decide +kernel
theorem dX0_addRotor_20 : decode cX0_addRotor 20 = .ok (.invokevirtual 48, 3) := by decide +kernel
theorem dX0_addRotor_23 : decode cX0_addRotor 23 = .ok (.aload_n 0, 1) := by decide +kernel
theorem dX0_addRotor_24 : decode cX0_addRotor 24 = .ok (.dup, 1) := by decide +kernel
theorem dX0_addRotor_25 : decode cX0_addRotor 25 = .ok (.getfield 35, 3) := by decide +kernel
theorem dX0_addRotor_28 : decode cX0_addRotor 28 = .ok (.iconst 1, 1) := by decide +kernel
theorem dX0_addRotor_29 : decode cX0_addRotor 29 = .ok (.iadd, 1) := by decide +kernel
theorem dX0_addRotor_30 : decode cX0_addRotor 30 = .ok (.putfield 35, 3) := by decide +kernel
theorem dX0_addRotor_33 : decode cX0_addRotor 33 = .ok (.return_, 1) := by decide +kernel
theorem dX0_go_0 : decode cX0_go 0 = .ok (.iconst 0, 1) := by decide +kernel
theorem dX0_go_1 : decode cX0_go 1 = .ok (.istore_n 2, 1) := by decide +kernel
theorem dX0_go_2 : decode cX0_go 2 = .ok (.iconst 0, 1) := by decide +kernel
theorem dX0_go_3 : decode cX0_go 3 = .ok (.istore_n 3, 1) := by decide +kernel
theorem dX0_go_4 : decode cX0_go 4 = .ok (.iload_n 3, 1) := by decide +kernel
theorem dX0_go_5 : decode cX0_go 5 = .ok (.iload_n 1, 1) := by decide +kernel
theorem dX0_go_6 : decode cX0_go 6 = .ok (.if_icmp .ge 20, 3) := by decide +kernel
theorem dX0_go_9 : decode cX0_go 9 = .ok (.aload_n 0, 1) := by decide +kernel
theorem dX0_go_10 : decode cX0_go 10 = .ok (.invokevirtual 52, 3) := by decide +kernel
theorem dX0_go_13 : decode cX0_go 13 = .ok (.iload_n 2, 1) := by decide +kernel
theorem dX0_go_14 : decode cX0_go 14 = .ok (.aload_n 0, 1) := by decide +kernel
theorem dX0_go_15 : decode cX0_go 15 = .ok (.invokevirtual 55, 3) := by decide +kernel
theorem dX0_go_18 : decode cX0_go 18 = .ok (.iadd, 1) := by decide +kernel
theorem dX0_go_19 : decode cX0_go 19 = .ok (.istore_n 2, 1) := by decide +kernel
theorem dX0_go_20 : decode cX0_go 20 = .ok (.iinc 3 1, 3) := by decide +kernel
theorem dX0_go_23 : decode cX0_go 23 = .ok (.goto (-19), 3) := by decide +kernel
theorem dX0_go_26 : decode cX0_go 26 = .ok (.iload_n 2, 1) := by decide +kernel
theorem dX0_go_27 : decode cX0_go 27 = .ok (.ireturn, 1) := by decide +kernel
theorem dX0_goFailing_0 : decode cX0_goFailing 0 = .ok (.iconst 0, 1) := by decide +kernel
theorem dX0_goFailing_1 : decode cX0_goFailing 1 = .ok (.istore_n 3, 1) := by decide +kernel
theorem dX0_goFailing_2 : decode cX0_goFailing 2 = .ok (.iconst 0, 1) := by decide +kernel
theorem dX0_goFailing_3 : decode cX0_goFailing 3 = .ok (.istore 4, 2) := by decide +kernel
theorem dX0_goFailing_5 : decode cX0_goFailing 5 = .ok (.iload 4, 2) := by decide +kernel
theorem dX0_goFailing_7 : decode cX0_goFailing 7 = .ok (.iload_n 1, 1) := by decide +kernel
theorem dX0_goFailing_8 : decode cX0_goFailing 8 = .ok (.if_icmp .ge 37, 3) := by decide +kernel
theorem dX0_goFailing_11 : decode cX0_goFailing 11 = .ok (.aload_n 0, 1) := by decide +kernel
theorem dX0_goFailing_12 : decode cX0_goFailing 12 = .ok (.invokevirtual 52, 3) := by decide +kernel
theorem dX0_goFailing_15 : decode cX0_goFailing 15 = .ok (.iload_n 2, 1) := by decide +kernel
theorem dX0_goFailing_16 : decode cX0_goFailing 16 = .ok (.iload 4, 2) := by decide +kernel
theorem dX0_goFailing_18 : decode cX0_goFailing 18 = .ok (.ishr, 1) := by decide +kernel
theorem dX0_goFailing_19 : decode cX0_goFailing 19 = .ok (.iconst 1, 1) := by decide +kernel
theorem dX0_goFailing_20 : decode cX0_goFailing 20 = .ok (.iand, 1) := by decide +kernel
theorem dX0_goFailing_21 : decode cX0_goFailing 21 = .ok (.iconst 1, 1) := by decide +kernel
theorem dX0_goFailing_22 : decode cX0_goFailing 22 = .ok (.if_icmp .ne 10, 3) := by decide +kernel
theorem dX0_goFailing_25 : decode cX0_goFailing 25 = .ok (.aload_n 0, 1) := by decide +kernel
theorem dX0_goFailing_26 : decode cX0_goFailing 26 = .ok (.invokevirtual 59, 3) := by decide +kernel
theorem dX0_goFailing_29 : decode cX0_goFailing 29 = .ok (.goto 10, 3) := by decide +kernel
theorem dX0_goFailing_32 : decode cX0_goFailing 32 = .ok (.iload_n 3, 1) := by decide +kernel
theorem dX0_goFailing_33 : decode cX0_goFailing 33 = .ok (.aload_n 0, 1) := by decide +kernel
theorem dX0_goFailing_34 : decode cX0_goFailing 34 = .ok (.invokevirtual 55, 3) := by decide +kernel
theorem dX0_goFailing_37 : decode cX0_goFailing 37 = .ok (.iadd, 1) := by decide +kernel
theorem dX0_goFailing_38 : decode cX0_goFailing 38 = .ok (.istore_n 3, 1) := by decide +kernel
theorem dX0_goFailing_39 : decode cX0_goFailing 39 = .ok (.iinc 4 1, 3) := by decide +kernel
theorem dX0_goFailing_42 : decode cX0_goFailing 42 = .ok (.goto (-37), 3) := by decide +kernel
theorem dX0_goFailing_45 : decode cX0_goFailing 45 = .ok (.iload_n 3, 1) := by decide +kernel
theorem dX0_goFailing_46 : decode cX0_goFailing 46 = .ok (.ireturn, 1) := by decide +kernel
theorem dX0_leadField_0 : decode cX0_leadField 0 = .ok (.aload_n 0, 1) := by decide +kernel
theorem dX0_leadField_1 : decode cX0_leadField 1 = .ok (.getfield 32, 3) := by decide +kernel
theorem dX0_leadField_4 : decode cX0_leadField 4 = .ok (.ifCond .le 45, 3) := by decide +kernel
theorem dX0_leadField_7 : decode cX0_leadField 7 = .ok (.aload_n 0, 1) := by decide +kernel
theorem dX0_leadField_8 : decode cX0_leadField 8 = .ok (.getfield 9, 3) := by decide +kernel
theorem dX0_leadField_11 : decode cX0_leadField 11 = .ok (.ifCond .le 38, 3) := by decide +kernel
theorem dX0_leadField_14 : decode cX0_leadField 14 = .ok (.aload_n 0, 1) := by decide +kernel
theorem dX0_leadField_15 : decode cX0_leadField 15 = .ok (.getfield 29, 3) := by decide +kernel
theorem dX0_leadField_18 : decode cX0_leadField 18 = .ok (.aload_n 0, 1) := by decide +kernel
theorem dX0_leadField_19 : decode cX0_leadField 19 = .ok (.getfield 9, 3) := by decide +kernel
theorem dX0_leadField_22 : decode cX0_leadField 22 = .ok (.irem, 1) := by decide +kernel
theorem dX0_leadField_23 : decode cX0_leadField 23 = .ok (.ifCond .ne 26, 3) := by decide +kernel
theorem dX0_leadField_26 : decode cX0_leadField 26 = .ok (.aload_n 0, 1) := by decide +kernel
theorem dX0_leadField_27 : decode cX0_leadField 27 = .ok (.aload_n 0, 1) := by decide +kernel
theorem dX0_leadField_28 : decode cX0_leadField 28 = .ok (.getfield 15, 3) := by decide +kernel
theorem dX0_leadField_31 : decode cX0_leadField 31 = .ok (.aload_n 0, 1) := by decide +kernel
theorem dX0_leadField_32 : decode cX0_leadField 32 = .ok (.getfield 29, 3) := by decide +kernel
theorem dX0_leadField_35 : decode cX0_leadField 35 = .ok (.aload_n 0, 1) := by decide +kernel
theorem dX0_leadField_36 : decode cX0_leadField 36 = .ok (.getfield 9, 3) := by decide +kernel
theorem dX0_leadField_39 : decode cX0_leadField 39 = .ok (.idiv, 1) := by decide +kernel
theorem dX0_leadField_40 : decode cX0_leadField 40 = .ok (.aload_n 0, 1) := by decide +kernel
theorem dX0_leadField_41 : decode cX0_leadField 41 = .ok (.getfield 32, 3) := by decide +kernel
theorem dX0_leadField_44 : decode cX0_leadField 44 = .ok (.irem, 1) := by decide +kernel
theorem dX0_leadField_45 : decode cX0_leadField 45 = .ok (.iaload, 1) := by decide +kernel
theorem dX0_leadField_46 : decode cX0_leadField 46 = .ok (.invokevirtual 62, 3) := by decide +kernel
theorem dX0_leadField_49 : decode cX0_leadField 49 = .ok (.return_, 1) := by decide +kernel
theorem dX0_moveField_0 : decode cX0_moveField 0 = .ok (.iload_n 1, 1) := by decide +kernel
theorem dX0_moveField_1 : decode cX0_moveField 1 = .ok (.tableswitch 66 1 3 #[27, 40, 53], 27) := by decide +kernel
theorem dX0_moveField_28 : decode cX0_moveField 28 = .ok (.aload_n 0, 1) := by decide +kernel
theorem dX0_moveField_29 : decode cX0_moveField 29 = .ok (.dup, 1) := by decide +kernel
theorem dX0_moveField_30 : decode cX0_moveField 30 = .ok (.getfield 26, 3) := by decide +kernel
theorem dX0_moveField_33 : decode cX0_moveField 33 = .ok (.iconst 1, 1) := by decide +kernel
theorem dX0_moveField_34 : decode cX0_moveField 34 = .ok (.iadd, 1) := by decide +kernel
theorem dX0_moveField_35 : decode cX0_moveField 35 = .ok (.putfield 26, 3) := by decide +kernel
theorem dX0_moveField_38 : decode cX0_moveField 38 = .ok (.goto 29, 3) := by decide +kernel
theorem dX0_moveField_41 : decode cX0_moveField 41 = .ok (.aload_n 0, 1) := by decide +kernel
theorem dX0_moveField_42 : decode cX0_moveField 42 = .ok (.dup, 1) := by decide +kernel
theorem dX0_moveField_43 : decode cX0_moveField 43 = .ok (.getfield 26, 3) := by decide +kernel
theorem dX0_moveField_46 : decode cX0_moveField 46 = .ok (.iconst 1, 1) := by decide +kernel
theorem dX0_moveField_47 : decode cX0_moveField 47 = .ok (.isub, 1) := by decide +kernel
theorem dX0_moveField_48 : decode cX0_moveField 48 = .ok (.putfield 26, 3) := by decide +kernel
theorem dX0_moveField_51 : decode cX0_moveField 51 = .ok (.goto 16, 3) := by decide +kernel
theorem dX0_moveField_54 : decode cX0_moveField 54 = .ok (.aload_n 0, 1) := by decide +kernel
theorem dX0_moveField_55 : decode cX0_moveField 55 = .ok (.dup, 1) := by decide +kernel
theorem dX0_moveField_56 : decode cX0_moveField 56 = .ok (.getfield 26, 3) := by decide +kernel
theorem dX0_moveField_59 : decode cX0_moveField 59 = .ok (.iconst 2, 1) := by decide +kernel
theorem dX0_moveField_60 : decode cX0_moveField 60 = .ok (.iadd, 1) := by decide +kernel
theorem dX0_moveField_61 : decode cX0_moveField 61 = .ok (.putfield 26, 3) := by decide +kernel
theorem dX0_moveField_64 : decode cX0_moveField 64 = .ok (.goto 3, 3) := by decide +kernel
theorem dX0_moveField_67 : decode cX0_moveField 67 = .ok (.return_, 1) := by decide +kernel
theorem dX0_pullRotors_0 : decode cX0_pullRotors 0 = .ok (.iconst 0, 1) := by decide +kernel
theorem dX0_pullRotors_1 : decode cX0_pullRotors 1 = .ok (.istore_n 1, 1) := by decide +kernel
theorem dX0_pullRotors_2 : decode cX0_pullRotors 2 = .ok (.iconst 0, 1) := by decide +kernel
theorem dX0_pullRotors_3 : decode cX0_pullRotors 3 = .ok (.istore_n 2, 1) := by decide +kernel
theorem dX0_pullRotors_4 : decode cX0_pullRotors 4 = .ok (.iload_n 2, 1) := by decide +kernel
theorem dX0_pullRotors_5 : decode cX0_pullRotors 5 = .ok (.aload_n 0, 1) := by decide +kernel
theorem dX0_pullRotors_6 : decode cX0_pullRotors 6 = .ok (.getfield 35, 3) := by decide +kernel
theorem dX0_pullRotors_9 : decode cX0_pullRotors 9 = .ok (.if_icmp .ge 25, 3) := by decide +kernel
theorem dX0_pullRotors_12 : decode cX0_pullRotors 12 = .ok (.iload_n 1, 1) := by decide +kernel
theorem dX0_pullRotors_13 : decode cX0_pullRotors 13 = .ok (.aload_n 0, 1) := by decide +kernel
theorem dX0_pullRotors_14 : decode cX0_pullRotors 14 = .ok (.getfield 21, 3) := by decide +kernel
theorem dX0_pullRotors_17 : decode cX0_pullRotors 17 = .ok (.iload_n 2, 1) := by decide +kernel
theorem dX0_pullRotors_18 : decode cX0_pullRotors 18 = .ok (.aaload, 1) := by decide +kernel
theorem dX0_pullRotors_19 : decode cX0_pullRotors 19 = .ok (.aload_n 0, 1) := by decide +kernel
theorem dX0_pullRotors_20 : decode cX0_pullRotors 20 = .ok (.getfield 26, 3) := by decide +kernel
theorem dX0_pullRotors_23 : decode cX0_pullRotors 23 = .ok (.invokevirtual 66, 3) := by decide +kernel
theorem dX0_pullRotors_26 : decode cX0_pullRotors 26 = .ok (.iadd, 1) := by decide +kernel
theorem dX0_pullRotors_27 : decode cX0_pullRotors 27 = .ok (.istore_n 1, 1) := by decide +kernel
theorem dX0_pullRotors_28 : decode cX0_pullRotors 28 = .ok (.iinc 2 1, 3) := by decide +kernel
theorem dX0_pullRotors_31 : decode cX0_pullRotors 31 = .ok (.goto (-27), 3) := by decide +kernel
theorem dX0_pullRotors_34 : decode cX0_pullRotors 34 = .ok (.aload_n 0, 1) := by decide +kernel
theorem dX0_pullRotors_35 : decode cX0_pullRotors 35 = .ok (.dup, 1) := by decide +kernel
theorem dX0_pullRotors_36 : decode cX0_pullRotors 36 = .ok (.getfield 29, 3) := by decide +kernel
theorem dX0_pullRotors_39 : decode cX0_pullRotors 39 = .ok (.iconst 1, 1) := by decide +kernel
theorem dX0_pullRotors_40 : decode cX0_pullRotors 40 = .ok (.iadd, 1) := by decide +kernel
theorem dX0_pullRotors_41 : decode cX0_pullRotors 41 = .ok (.putfield 29, 3) := by decide +kernel
theorem dX0_pullRotors_44 : decode cX0_pullRotors 44 = .ok (.iload_n 1, 1) := by decide +kernel
theorem dX0_pullRotors_45 : decode cX0_pullRotors 45 = .ok (.ireturn, 1) := by decide +kernel
theorem dX0_leaveRotors_0 : decode cX0_leaveRotors 0 = .ok (.iconst 0, 1) := by decide +kernel
theorem dX0_leaveRotors_1 : decode cX0_leaveRotors 1 = .ok (.istore_n 1, 1) := by decide +kernel
theorem dX0_leaveRotors_2 : decode cX0_leaveRotors 2 = .ok (.iload_n 1, 1) := by decide +kernel
theorem dX0_leaveRotors_3 : decode cX0_leaveRotors 3 = .ok (.aload_n 0, 1) := by decide +kernel
theorem dX0_leaveRotors_4 : decode cX0_leaveRotors 4 = .ok (.getfield 35, 3) := by decide +kernel
theorem dX0_leaveRotors_7 : decode cX0_leaveRotors 7 = .ok (.if_icmp .ge 19, 3) := by decide +kernel
theorem dX0_leaveRotors_10 : decode cX0_leaveRotors 10 = .ok (.aload_n 0, 1) := by decide +kernel
theorem dX0_leaveRotors_11 : decode cX0_leaveRotors 11 = .ok (.getfield 21, 3) := by decide +kernel
theorem dX0_leaveRotors_14 : decode cX0_leaveRotors 14 = .ok (.iload_n 1, 1) := by decide +kernel
theorem dX0_leaveRotors_15 : decode cX0_leaveRotors 15 = .ok (.aaload, 1) := by decide +kernel
theorem dX0_leaveRotors_16 : decode cX0_leaveRotors 16 = .ok (.iconst 0, 1) := by decide +kernel
theorem dX0_leaveRotors_17 : decode cX0_leaveRotors 17 = .ok (.putfield 70, 3) := by decide +kernel
theorem dX0_leaveRotors_20 : decode cX0_leaveRotors 20 = .ok (.iinc 1 1, 3) := by decide +kernel
theorem dX0_leaveRotors_23 : decode cX0_leaveRotors 23 = .ok (.goto (-21), 3) := by decide +kernel
theorem dX0_leaveRotors_26 : decode cX0_leaveRotors 26 = .ok (.aload_n 0, 1) := by decide +kernel
theorem dX0_leaveRotors_27 : decode cX0_leaveRotors 27 = .ok (.dup, 1) := by decide +kernel
theorem dX0_leaveRotors_28 : decode cX0_leaveRotors 28 = .ok (.getfield 29, 3) := by decide +kernel
theorem dX0_leaveRotors_31 : decode cX0_leaveRotors 31 = .ok (.iconst 1, 1) := by decide +kernel
theorem dX0_leaveRotors_32 : decode cX0_leaveRotors 32 = .ok (.iadd, 1) := by decide +kernel
theorem dX0_leaveRotors_33 : decode cX0_leaveRotors 33 = .ok (.putfield 29, 3) := by decide +kernel
theorem dX0_leaveRotors_36 : decode cX0_leaveRotors 36 = .ok (.return_, 1) := by decide +kernel
theorem dX0_slipping_0 : decode cX0_slipping 0 = .ok (.iconst 0, 1) := by decide +kernel
theorem dX0_slipping_1 : decode cX0_slipping 1 = .ok (.istore_n 1, 1) := by decide +kernel
theorem dX0_slipping_2 : decode cX0_slipping 2 = .ok (.iconst 0, 1) := by decide +kernel
theorem dX0_slipping_3 : decode cX0_slipping 3 = .ok (.istore_n 2, 1) := by decide +kernel
theorem dX0_slipping_4 : decode cX0_slipping 4 = .ok (.iload_n 2, 1) := by decide +kernel
theorem dX0_slipping_5 : decode cX0_slipping 5 = .ok (.aload_n 0, 1) := by decide +kernel
theorem dX0_slipping_6 : decode cX0_slipping 6 = .ok (.getfield 35, 3) := by decide +kernel
theorem dX0_slipping_9 : decode cX0_slipping 9 = .ok (.if_icmp .ge 31, 3) := by decide +kernel
theorem dX0_slipping_12 : decode cX0_slipping 12 = .ok (.aload_n 0, 1) := by decide +kernel
theorem dX0_slipping_13 : decode cX0_slipping 13 = .ok (.getfield 21, 3) := by decide +kernel
theorem dX0_slipping_16 : decode cX0_slipping 16 = .ok (.iload_n 2, 1) := by decide +kernel
theorem dX0_slipping_17 : decode cX0_slipping 17 = .ok (.aaload, 1) := by decide +kernel
theorem dX0_slipping_18 : decode cX0_slipping 18 = .ok (.aload_n 0, 1) := by decide +kernel
theorem dX0_slipping_19 : decode cX0_slipping 19 = .ok (.getfield 26, 3) := by decide +kernel
theorem dX0_slipping_22 : decode cX0_slipping 22 = .ok (.invokevirtual 73, 3) := by decide +kernel
theorem dX0_slipping_25 : decode cX0_slipping 25 = .ok (.ifCond .eq 9, 3) := by decide +kernel
theorem dX0_slipping_28 : decode cX0_slipping 28 = .ok (.iload_n 1, 1) := by decide +kernel
theorem dX0_slipping_29 : decode cX0_slipping 29 = .ok (.iconst 1, 1) := by decide +kernel
theorem dX0_slipping_30 : decode cX0_slipping 30 = .ok (.iload_n 2, 1) := by decide +kernel
theorem dX0_slipping_31 : decode cX0_slipping 31 = .ok (.ishl, 1) := by decide +kernel
theorem dX0_slipping_32 : decode cX0_slipping 32 = .ok (.ior, 1) := by decide +kernel
theorem dX0_slipping_33 : decode cX0_slipping 33 = .ok (.istore_n 1, 1) := by decide +kernel
theorem dX0_slipping_34 : decode cX0_slipping 34 = .ok (.iinc 2 1, 3) := by decide +kernel
theorem dX0_slipping_37 : decode cX0_slipping 37 = .ok (.goto (-33), 3) := by decide +kernel
theorem dX0_slipping_40 : decode cX0_slipping 40 = .ok (.iload_n 1, 1) := by decide +kernel
theorem dX0_slipping_41 : decode cX0_slipping 41 = .ok (.ireturn, 1) := by decide +kernel
theorem dX0_lostOf_0 : decode cX0_lostOf 0 = .ok (.aload_n 0, 1) := by decide +kernel
theorem dX0_lostOf_1 : decode cX0_lostOf 1 = .ok (.getfield 21, 3) := by decide +kernel
theorem dX0_lostOf_4 : decode cX0_lostOf 4 = .ok (.iload_n 1, 1) := by decide +kernel
theorem dX0_lostOf_5 : decode cX0_lostOf 5 = .ok (.aaload, 1) := by decide +kernel
theorem dX0_lostOf_6 : decode cX0_lostOf 6 = .ok (.aload_n 0, 1) := by decide +kernel
theorem dX0_lostOf_7 : decode cX0_lostOf 7 = .ok (.getfield 26, 3) := by decide +kernel
theorem dX0_lostOf_10 : decode cX0_lostOf 10 = .ok (.invokevirtual 77, 3) := by decide +kernel
theorem dX0_lostOf_13 : decode cX0_lostOf 13 = .ok (.ireturn, 1) := by decide +kernel
theorem dX0_allLost_0 : decode cX0_allLost 0 = .ok (.iconst 0, 1) := by decide +kernel
theorem dX0_allLost_1 : decode cX0_allLost 1 = .ok (.istore_n 1, 1) := by decide +kernel
theorem dX0_allLost_2 : decode cX0_allLost 2 = .ok (.iconst 0, 1) := by decide +kernel
theorem dX0_allLost_3 : decode cX0_allLost 3 = .ok (.istore_n 2, 1) := by decide +kernel
theorem dX0_allLost_4 : decode cX0_allLost 4 = .ok (.iload_n 2, 1) := by decide +kernel
theorem dX0_allLost_5 : decode cX0_allLost 5 = .ok (.aload_n 0, 1) := by decide +kernel
theorem dX0_allLost_6 : decode cX0_allLost 6 = .ok (.getfield 35, 3) := by decide +kernel
theorem dX0_allLost_9 : decode cX0_allLost 9 = .ok (.if_icmp .ge 28, 3) := by decide +kernel
theorem dX0_allLost_12 : decode cX0_allLost 12 = .ok (.iload_n 1, 1) := by decide +kernel
theorem dX0_allLost_13 : decode cX0_allLost 13 = .ok (.aload_n 0, 1) := by decide +kernel
theorem dX0_allLost_14 : decode cX0_allLost 14 = .ok (.getfield 21, 3) := by decide +kernel
theorem dX0_allLost_17 : decode cX0_allLost 17 = .ok (.iload_n 2, 1) := by decide +kernel
theorem dX0_allLost_18 : decode cX0_allLost 18 = .ok (.aaload, 1) := by decide +kernel
theorem dX0_allLost_19 : decode cX0_allLost 19 = .ok (.aload_n 0, 1) := by decide +kernel
theorem dX0_allLost_20 : decode cX0_allLost 20 = .ok (.getfield 26, 3) := by decide +kernel
theorem dX0_allLost_23 : decode cX0_allLost 23 = .ok (.invokevirtual 77, 3) := by decide +kernel
theorem dX0_allLost_26 : decode cX0_allLost 26 = .ok (.invokestatic 80, 3) := by decide +kernel
theorem dX0_allLost_29 : decode cX0_allLost 29 = .ok (.iadd, 1) := by decide +kernel
theorem dX0_allLost_30 : decode cX0_allLost 30 = .ok (.istore_n 1, 1) := by decide +kernel
theorem dX0_allLost_31 : decode cX0_allLost 31 = .ok (.iinc 2 1, 3) := by decide +kernel
theorem dX0_allLost_34 : decode cX0_allLost 34 = .ok (.goto (-30), 3) := by decide +kernel
theorem dX0_allLost_37 : decode cX0_allLost 37 = .ok (.iload_n 1, 1) := by decide +kernel
theorem dX0_allLost_38 : decode cX0_allLost 38 = .ok (.ireturn, 1) := by decide +kernel
theorem dX0_allGrips_0 : decode cX0_allGrips 0 = .ok (.iconst 0, 1) := by decide +kernel
theorem dX0_allGrips_1 : decode cX0_allGrips 1 = .ok (.istore_n 1, 1) := by decide +kernel
theorem dX0_allGrips_2 : decode cX0_allGrips 2 = .ok (.iconst 0, 1) := by decide +kernel
theorem dX0_allGrips_3 : decode cX0_allGrips 3 = .ok (.istore_n 2, 1) := by decide +kernel
theorem dX0_allGrips_4 : decode cX0_allGrips 4 = .ok (.iload_n 2, 1) := by decide +kernel
theorem dX0_allGrips_5 : decode cX0_allGrips 5 = .ok (.aload_n 0, 1) := by decide +kernel
theorem dX0_allGrips_6 : decode cX0_allGrips 6 = .ok (.getfield 35, 3) := by decide +kernel
theorem dX0_allGrips_9 : decode cX0_allGrips 9 = .ok (.if_icmp .ge 21, 3) := by decide +kernel
theorem dX0_allGrips_12 : decode cX0_allGrips 12 = .ok (.iload_n 1, 1) := by decide +kernel
theorem dX0_allGrips_13 : decode cX0_allGrips 13 = .ok (.aload_n 0, 1) := by decide +kernel
theorem dX0_allGrips_14 : decode cX0_allGrips 14 = .ok (.getfield 21, 3) := by decide +kernel
theorem dX0_allGrips_17 : decode cX0_allGrips 17 = .ok (.iload_n 2, 1) := by decide +kernel
theorem dX0_allGrips_18 : decode cX0_allGrips 18 = .ok (.aaload, 1) := by decide +kernel
theorem dX0_allGrips_19 : decode cX0_allGrips 19 = .ok (.getfield 85, 3) := by decide +kernel
theorem dX0_allGrips_22 : decode cX0_allGrips 22 = .ok (.iadd, 1) := by decide +kernel
theorem dX0_allGrips_23 : decode cX0_allGrips 23 = .ok (.istore_n 1, 1) := by decide +kernel
theorem dX0_allGrips_24 : decode cX0_allGrips 24 = .ok (.iinc 2 1, 3) := by decide +kernel
theorem dX0_allGrips_27 : decode cX0_allGrips 27 = .ok (.goto (-23), 3) := by decide +kernel
theorem dX0_allGrips_30 : decode cX0_allGrips 30 = .ok (.iload_n 1, 1) := by decide +kernel
theorem dX0_allGrips_31 : decode cX0_allGrips 31 = .ok (.ireturn, 1) := by decide +kernel
theorem dX0_allSigns_0 : decode cX0_allSigns 0 = .ok (.iconst 0, 1) := by decide +kernel
theorem dX0_allSigns_1 : decode cX0_allSigns 1 = .ok (.istore_n 1, 1) := by decide +kernel
theorem dX0_allSigns_2 : decode cX0_allSigns 2 = .ok (.iconst 0, 1) := by decide +kernel
theorem dX0_allSigns_3 : decode cX0_allSigns 3 = .ok (.istore_n 2, 1) := by decide +kernel
theorem dX0_allSigns_4 : decode cX0_allSigns 4 = .ok (.iload_n 2, 1) := by decide +kernel
theorem dX0_allSigns_5 : decode cX0_allSigns 5 = .ok (.aload_n 0, 1) := by decide +kernel
theorem dX0_allSigns_6 : decode cX0_allSigns 6 = .ok (.getfield 32, 3) := by decide +kernel
theorem dX0_allSigns_9 : decode cX0_allSigns 9 = .ok (.if_icmp .ge 18, 3) := by decide +kernel
theorem dX0_allSigns_12 : decode cX0_allSigns 12 = .ok (.iload_n 1, 1) := by decide +kernel
theorem dX0_allSigns_13 : decode cX0_allSigns 13 = .ok (.aload_n 0, 1) := by decide +kernel
theorem dX0_allSigns_14 : decode cX0_allSigns 14 = .ok (.getfield 15, 3) := by decide +kernel
theorem dX0_allSigns_17 : decode cX0_allSigns 17 = .ok (.iload_n 2, 1) := by decide +kernel
theorem dX0_allSigns_18 : decode cX0_allSigns 18 = .ok (.iaload, 1) := by decide +kernel
theorem dX0_allSigns_19 : decode cX0_allSigns 19 = .ok (.iadd, 1) := by decide +kernel
theorem dX0_allSigns_20 : decode cX0_allSigns 20 = .ok (.istore_n 1, 1) := by decide +kernel
theorem dX0_allSigns_21 : decode cX0_allSigns 21 = .ok (.iinc 2 1, 3) := by decide +kernel
theorem dX0_allSigns_24 : decode cX0_allSigns 24 = .ok (.goto (-20), 3) := by decide +kernel
theorem dX0_allSigns_27 : decode cX0_allSigns 27 = .ok (.iload_n 1, 1) := by decide +kernel
theorem dX0_allSigns_28 : decode cX0_allSigns 28 = .ok (.ireturn, 1) := by decide +kernel
theorem dX1_init_0 : decode cX1_init 0 = .ok (.aload_n 0, 1) := by decide +kernel
theorem dX1_init_1 : decode cX1_init 1 = .ok (.invokespecial 1, 3) := by decide +kernel
theorem dX1_init_4 : decode cX1_init 4 = .ok (.aload_n 0, 1) := by decide +kernel
theorem dX1_init_5 : decode cX1_init 5 = .ok (.new 7, 3) := by decide +kernel
theorem dX1_init_8 : decode cX1_init 8 = .ok (.dup, 1) := by decide +kernel
theorem dX1_init_9 : decode cX1_init 9 = .ok (.invokespecial 9, 3) := by decide +kernel
theorem dX1_init_12 : decode cX1_init 12 = .ok (.putfield 10, 3) := by decide +kernel
theorem dX1_init_15 : decode cX1_init 15 = .ok (.aload_n 0, 1) := by decide +kernel
theorem dX1_init_16 : decode cX1_init 16 = .ok (.new 16, 3) := by decide +kernel
theorem dX1_init_19 : decode cX1_init 19 = .ok (.dup, 1) := by decide +kernel
theorem dX1_init_20 : decode cX1_init 20 = .ok (.invokespecial 18, 3) := by decide +kernel
theorem dX1_init_23 : decode cX1_init 23 = .ok (.putfield 19, 3) := by decide +kernel
theorem dX1_init_26 : decode cX1_init 26 = .ok (.return_, 1) := by decide +kernel
theorem dX2_init_0 : decode cX2_init 0 = .ok (.aload_n 0, 1) := by decide +kernel
theorem dX2_init_1 : decode cX2_init 1 = .ok (.invokespecial 3, 3) := by decide +kernel
theorem dX2_init_4 : decode cX2_init 4 = .ok (.return_, 1) := by decide +kernel
theorem dX2_become_0 : decode cX2_become 0 = .ok (.aload_n 0, 1) := by decide +kernel
theorem dX2_become_1 : decode cX2_become 1 = .ok (.iload_n 1, 1) := by decide +kernel
theorem dX2_become_2 : decode cX2_become 2 = .ok (.putfield 9, 3) := by decide +kernel
theorem dX2_become_5 : decode cX2_become 5 = .ok (.aload_n 0, 1) := by decide +kernel
theorem dX2_become_6 : decode cX2_become 6 = .ok (.iload_n 2, 1) := by decide +kernel
theorem dX2_become_7 : decode cX2_become 7 = .ok (.putfield 15, 3) := by decide +kernel
theorem dX2_become_10 : decode cX2_become 10 = .ok (.aload_n 0, 1) := by decide +kernel
theorem dX2_become_11 : decode cX2_become 11 = .ok (.iload_n 3, 1) := by decide +kernel
theorem dX2_become_12 : decode cX2_become 12 = .ok (.putfield 18, 3) := by decide +kernel
theorem dX2_become_15 : decode cX2_become 15 = .ok (.aload_n 0, 1) := by decide +kernel
theorem dX2_become_16 : decode cX2_become 16 = .ok (.iconst 0, 1) := by decide +kernel
theorem dX2_become_17 : decode cX2_become 17 = .ok (.putfield 21, 3) := by decide +kernel
theorem dX2_become_20 : decode cX2_become 20 = .ok (.return_, 1) := by decide +kernel
theorem dX2_copyFrom_0 : decode cX2_copyFrom 0 = .ok (.aload_n 0, 1) := by decide +kernel
theorem dX2_copyFrom_1 : decode cX2_copyFrom 1 = .ok (.aload_n 1, 1) := by decide +kernel
theorem dX2_copyFrom_2 : decode cX2_copyFrom 2 = .ok (.getfield 9, 3) := by decide +kernel
theorem dX2_copyFrom_5 : decode cX2_copyFrom 5 = .ok (.putfield 9, 3) := by decide +kernel
theorem dX2_copyFrom_8 : decode cX2_copyFrom 8 = .ok (.aload_n 0, 1) := by decide +kernel
theorem dX2_copyFrom_9 : decode cX2_copyFrom 9 = .ok (.aload_n 1, 1) := by decide +kernel
theorem dX2_copyFrom_10 : decode cX2_copyFrom 10 = .ok (.getfield 15, 3) := by decide +kernel
theorem dX2_copyFrom_13 : decode cX2_copyFrom 13 = .ok (.putfield 15, 3) := by decide +kernel
theorem dX2_copyFrom_16 : decode cX2_copyFrom 16 = .ok (.aload_n 0, 1) := by decide +kernel
theorem dX2_copyFrom_17 : decode cX2_copyFrom 17 = .ok (.aload_n 1, 1) := by decide +kernel
theorem dX2_copyFrom_18 : decode cX2_copyFrom 18 = .ok (.getfield 18, 3) := by decide +kernel
theorem dX2_copyFrom_21 : decode cX2_copyFrom 21 = .ok (.putfield 18, 3) := by decide +kernel
theorem dX2_copyFrom_24 : decode cX2_copyFrom 24 = .ok (.aload_n 0, 1) := by decide +kernel
theorem dX2_copyFrom_25 : decode cX2_copyFrom 25 = .ok (.aload_n 1, 1) := by decide +kernel
theorem dX2_copyFrom_26 : decode cX2_copyFrom 26 = .ok (.getfield 21, 3) := by decide +kernel
theorem dX2_copyFrom_29 : decode cX2_copyFrom 29 = .ok (.putfield 21, 3) := by decide +kernel
theorem dX2_copyFrom_32 : decode cX2_copyFrom 32 = .ok (.return_, 1) := by decide +kernel
theorem dX2_off_0 : decode cX2_off 0 = .ok (.iload_n 1, 1) := by decide +kernel
theorem dX2_off_1 : decode cX2_off 1 = .ok (.aload_n 0, 1) := by decide +kernel
theorem dX2_off_2 : decode cX2_off 2 = .ok (.getfield 18, 3) := by decide +kernel
theorem dX2_off_5 : decode cX2_off 5 = .ok (.isub, 1) := by decide +kernel
theorem dX2_off_6 : decode cX2_off 6 = .ok (.iconst 3, 1) := by decide +kernel
theorem dX2_off_7 : decode cX2_off 7 = .ok (.iadd, 1) := by decide +kernel
theorem dX2_off_8 : decode cX2_off 8 = .ok (.bipush 7, 2) := by decide +kernel
theorem dX2_off_10 : decode cX2_off 10 = .ok (.iand, 1) := by decide +kernel
theorem dX2_off_11 : decode cX2_off 11 = .ok (.iconst 3, 1) := by decide +kernel
theorem dX2_off_12 : decode cX2_off 12 = .ok (.isub, 1) := by decide +kernel
theorem dX2_off_13 : decode cX2_off 13 = .ok (.ireturn, 1) := by decide +kernel
theorem dX2_lost_0 : decode cX2_lost 0 = .ok (.iload_n 1, 1) := by decide +kernel
theorem dX2_lost_1 : decode cX2_lost 1 = .ok (.aload_n 0, 1) := by decide +kernel
theorem dX2_lost_2 : decode cX2_lost 2 = .ok (.getfield 18, 3) := by decide +kernel
theorem dX2_lost_5 : decode cX2_lost 5 = .ok (.isub, 1) := by decide +kernel
theorem dX2_lost_6 : decode cX2_lost 6 = .ok (.aload_n 0, 1) := by decide +kernel
theorem dX2_lost_7 : decode cX2_lost 7 = .ok (.iload_n 1, 1) := by decide +kernel
theorem dX2_lost_8 : decode cX2_lost 8 = .ok (.invokevirtual 24, 3) := by decide +kernel
theorem dX2_lost_11 : decode cX2_lost 11 = .ok (.isub, 1) := by decide +kernel
theorem dX2_lost_12 : decode cX2_lost 12 = .ok (.bipush 8, 2) := by decide +kernel
theorem dX2_lost_14 : decode cX2_lost 14 = .ok (.idiv, 1) := by decide +kernel
theorem dX2_lost_15 : decode cX2_lost 15 = .ok (.ireturn, 1) := by decide +kernel
theorem dX2_slips_0 : decode cX2_slips 0 = .ok (.aload_n 0, 1) := by decide +kernel
theorem dX2_slips_1 : decode cX2_slips 1 = .ok (.iload_n 1, 1) := by decide +kernel
theorem dX2_slips_2 : decode cX2_slips 2 = .ok (.invokevirtual 24, 3) := by decide +kernel
theorem dX2_slips_5 : decode cX2_slips 5 = .ok (.invokestatic 28, 3) := by decide +kernel
theorem dX2_slips_8 : decode cX2_slips 8 = .ok (.aload_n 0, 1) := by decide +kernel
theorem dX2_slips_9 : decode cX2_slips 9 = .ok (.getfield 15, 3) := by decide +kernel
theorem dX2_slips_12 : decode cX2_slips 12 = .ok (.if_icmp .le 7, 3) := by decide +kernel
theorem dX2_slips_15 : decode cX2_slips 15 = .ok (.iconst 1, 1) := by decide +kernel
theorem dX2_slips_16 : decode cX2_slips 16 = .ok (.goto 4, 3) := by decide +kernel
theorem dX2_slips_19 : decode cX2_slips 19 = .ok (.iconst 0, 1) := by decide +kernel
theorem dX2_slips_20 : decode cX2_slips 20 = .ok (.ireturn, 1) := by decide +kernel
theorem dX2_follow_0 : decode cX2_follow 0 = .ok (.aload_n 0, 1) := by decide +kernel
theorem dX2_follow_1 : decode cX2_follow 1 = .ok (.iload_n 1, 1) := by decide +kernel
theorem dX2_follow_2 : decode cX2_follow 2 = .ok (.invokevirtual 24, 3) := by decide +kernel
theorem dX2_follow_5 : decode cX2_follow 5 = .ok (.istore_n 2, 1) := by decide +kernel
theorem dX2_follow_6 : decode cX2_follow 6 = .ok (.iload_n 2, 1) := by decide +kernel
theorem dX2_follow_7 : decode cX2_follow 7 = .ok (.invokestatic 28, 3) := by decide +kernel
theorem dX2_follow_10 : decode cX2_follow 10 = .ok (.istore_n 3, 1) := by decide +kernel
theorem dX2_follow_11 : decode cX2_follow 11 = .ok (.iload_n 3, 1) := by decide +kernel
theorem dX2_follow_12 : decode cX2_follow 12 = .ok (.ifCond .eq 11, 3) := by decide +kernel
theorem dX2_follow_15 : decode cX2_follow 15 = .ok (.iload_n 3, 1) := by decide +kernel
theorem dX2_follow_16 : decode cX2_follow 16 = .ok (.aload_n 0, 1) := by decide +kernel
theorem dX2_follow_17 : decode cX2_follow 17 = .ok (.getfield 15, 3) := by decide +kernel
theorem dX2_follow_20 : decode cX2_follow 20 = .ok (.if_icmp .le 10, 3) := by decide +kernel
theorem dX2_follow_23 : decode cX2_follow 23 = .ok (.aload_n 0, 1) := by decide +kernel
theorem dX2_follow_24 : decode cX2_follow 24 = .ok (.iconst 0, 1) := by decide +kernel
theorem dX2_follow_25 : decode cX2_follow 25 = .ok (.putfield 21, 3) := by decide +kernel
theorem dX2_follow_28 : decode cX2_follow 28 = .ok (.iconst 0, 1) := by decide +kernel
theorem dX2_follow_29 : decode cX2_follow 29 = .ok (.ireturn, 1) := by decide +kernel
theorem dX2_follow_30 : decode cX2_follow 30 = .ok (.iload_n 2, 1) := by decide +kernel
theorem dX2_follow_31 : decode cX2_follow 31 = .ok (.ifCond .ge 7, 3) := by decide +kernel
theorem dX2_follow_34 : decode cX2_follow 34 = .ok (.iconst (-1), 1) := by decide +kernel
theorem dX2_follow_35 : decode cX2_follow 35 = .ok (.goto 4, 3) := by decide +kernel
theorem dX2_follow_38 : decode cX2_follow 38 = .ok (.iconst 1, 1) := by decide +kernel
theorem dX2_follow_39 : decode cX2_follow 39 = .ok (.istore 4, 2) := by decide +kernel
theorem dX2_follow_41 : decode cX2_follow 41 = .ok (.aload_n 0, 1) := by decide +kernel
theorem dX2_follow_42 : decode cX2_follow 42 = .ok (.iload_n 3, 1) := by decide +kernel
theorem dX2_follow_43 : decode cX2_follow 43 = .ok (.iload 4, 2) := by decide +kernel
theorem dX2_follow_45 : decode cX2_follow 45 = .ok (.invokevirtual 33, 3) := by decide +kernel
theorem dX2_follow_48 : decode cX2_follow 48 = .ok (.istore 5, 2) := by decide +kernel
theorem dX2_follow_50 : decode cX2_follow 50 = .ok (.aload_n 0, 1) := by decide +kernel
theorem dX2_follow_51 : decode cX2_follow 51 = .ok (.dup, 1) := by decide +kernel
theorem dX2_follow_52 : decode cX2_follow 52 = .ok (.getfield 18, 3) := by decide +kernel
theorem dX2_follow_55 : decode cX2_follow 55 = .ok (.iload 5, 2) := by decide +kernel
theorem dX2_follow_57 : decode cX2_follow 57 = .ok (.iload 4, 2) := by decide +kernel
theorem dX2_follow_59 : decode cX2_follow 59 = .ok (.imul, 1) := by decide +kernel
theorem dX2_follow_60 : decode cX2_follow 60 = .ok (.iadd, 1) := by decide +kernel
theorem dX2_follow_61 : decode cX2_follow 61 = .ok (.putfield 18, 3) := by decide +kernel
theorem dX2_follow_64 : decode cX2_follow 64 = .ok (.aload_n 0, 1) := by decide +kernel
theorem dX2_follow_65 : decode cX2_follow 65 = .ok (.aload_n 0, 1) := by decide +kernel
theorem dX2_follow_66 : decode cX2_follow 66 = .ok (.getfield 9, 3) := by decide +kernel
theorem dX2_follow_69 : decode cX2_follow 69 = .ok (.iconst 3, 1) := by decide +kernel
theorem dX2_follow_70 : decode cX2_follow 70 = .ok (.if_icmp .ne 12, 3) := by decide +kernel
theorem dX2_follow_73 : decode cX2_follow 73 = .ok (.iload_n 3, 1) := by decide +kernel
theorem dX2_follow_74 : decode cX2_follow 74 = .ok (.iconst 1, 1) := by decide +kernel
theorem dX2_follow_75 : decode cX2_follow 75 = .ok (.if_icmp .ne 7, 3) := by decide +kernel
theorem dX2_follow_78 : decode cX2_follow 78 = .ok (.iconst 0, 1) := by decide +kernel
theorem dX2_follow_79 : decode cX2_follow 79 = .ok (.goto 5, 3) := by decide +kernel
theorem dX2_follow_82 : decode cX2_follow 82 = .ok (.iload 4, 2) := by decide +kernel
theorem dX2_follow_84 : decode cX2_follow 84 = .ok (.putfield 21, 3) := by decide +kernel
theorem dX2_follow_87 : decode cX2_follow 87 = .ok (.iload 5, 2) := by decide +kernel
theorem dX2_follow_89 : decode cX2_follow 89 = .ok (.ireturn, 1) := by decide +kernel
theorem dX2_steps_0 : decode cX2_steps 0 = .ok (.aload_n 0, 1) := by decide +kernel
theorem dX2_steps_1 : decode cX2_steps 1 = .ok (.getfield 9, 3) := by decide +kernel
theorem dX2_steps_4 : decode cX2_steps 4 = .ok (.tableswitch 55 0 2 #[28, 30, 41], 28) := by decide +kernel
theorem dX2_steps_32 : decode cX2_steps 32 = .ok (.iconst 1, 1) := by decide +kernel
theorem dX2_steps_33 : decode cX2_steps 33 = .ok (.ireturn, 1) := by decide +kernel
theorem dX2_steps_34 : decode cX2_steps 34 = .ok (.iload_n 1, 1) := by decide +kernel
theorem dX2_steps_35 : decode cX2_steps 35 = .ok (.iconst 1, 1) := by decide +kernel
theorem dX2_steps_36 : decode cX2_steps 36 = .ok (.if_icmp .le 7, 3) := by decide +kernel
theorem dX2_steps_39 : decode cX2_steps 39 = .ok (.iconst 2, 1) := by decide +kernel
theorem dX2_steps_40 : decode cX2_steps 40 = .ok (.goto 4, 3) := by decide +kernel
theorem dX2_steps_43 : decode cX2_steps 43 = .ok (.iconst 1, 1) := by decide +kernel
theorem dX2_steps_44 : decode cX2_steps 44 = .ok (.ireturn, 1) := by decide +kernel
theorem dX2_steps_45 : decode cX2_steps 45 = .ok (.aload_n 0, 1) := by decide +kernel
theorem dX2_steps_46 : decode cX2_steps 46 = .ok (.getfield 21, 3) := by decide +kernel
theorem dX2_steps_49 : decode cX2_steps 49 = .ok (.iload_n 2, 1) := by decide +kernel
theorem dX2_steps_50 : decode cX2_steps 50 = .ok (.if_icmp .ne 7, 3) := by decide +kernel
theorem dX2_steps_53 : decode cX2_steps 53 = .ok (.iconst 1, 1) := by decide +kernel
theorem dX2_steps_54 : decode cX2_steps 54 = .ok (.goto 4, 3) := by decide +kernel
theorem dX2_steps_57 : decode cX2_steps 57 = .ok (.iconst 0, 1) := by decide +kernel
theorem dX2_steps_58 : decode cX2_steps 58 = .ok (.ireturn, 1) := by decide +kernel
theorem dX2_steps_59 : decode cX2_steps 59 = .ok (.aload_n 0, 1) := by decide +kernel
theorem dX2_steps_60 : decode cX2_steps 60 = .ok (.getfield 21, 3) := by decide +kernel
theorem dX2_steps_63 : decode cX2_steps 63 = .ok (.iload_n 2, 1) := by decide +kernel
theorem dX2_steps_64 : decode cX2_steps 64 = .ok (.if_icmp .ne 12, 3) := by decide +kernel
theorem dX2_steps_67 : decode cX2_steps 67 = .ok (.iload_n 1, 1) := by decide +kernel
theorem dX2_steps_68 : decode cX2_steps 68 = .ok (.iconst 1, 1) := by decide +kernel
theorem dX2_steps_69 : decode cX2_steps 69 = .ok (.if_icmp .le 7, 3) := by decide +kernel
theorem dX2_steps_72 : decode cX2_steps 72 = .ok (.iconst 1, 1) := by decide +kernel
theorem dX2_steps_73 : decode cX2_steps 73 = .ok (.goto 4, 3) := by decide +kernel
theorem dX2_steps_76 : decode cX2_steps 76 = .ok (.iconst 0, 1) := by decide +kernel
theorem dX2_steps_77 : decode cX2_steps 77 = .ok (.ireturn, 1) := by decide +kernel
theorem dX3_init_0 : decode cX3_init 0 = .ok (.aload_n 0, 1) := by decide +kernel
theorem dX3_init_1 : decode cX3_init 1 = .ok (.invokespecial 3, 3) := by decide +kernel
theorem dX3_init_4 : decode cX3_init 4 = .ok (.aload_n 0, 1) := by decide +kernel
theorem dX3_init_5 : decode cX3_init 5 = .ok (.iconst (-1), 1) := by decide +kernel
theorem dX3_init_6 : decode cX3_init 6 = .ok (.putfield 11, 3) := by decide +kernel
theorem dX3_init_9 : decode cX3_init 9 = .ok (.aload_n 0, 1) := by decide +kernel
theorem dX3_init_10 : decode cX3_init 10 = .ok (.bipush 40, 2) := by decide +kernel
theorem dX3_init_12 : decode cX3_init 12 = .ok (.newarray .int, 2) := by decide +kernel
theorem dX3_init_14 : decode cX3_init 14 = .ok (.putfield 15, 3) := by decide +kernel
theorem dX3_init_17 : decode cX3_init 17 = .ok (.return_, 1) := by decide +kernel
theorem dX3_renew_0 : decode cX3_renew 0 = .ok (.aload_n 0, 1) := by decide +kernel
theorem dX3_renew_1 : decode cX3_renew 1 = .ok (.iload_n 1, 1) := by decide +kernel
theorem dX3_renew_2 : decode cX3_renew 2 = .ok (.putfield 11, 3) := by decide +kernel
theorem dX3_renew_5 : decode cX3_renew 5 = .ok (.aload_n 0, 1) := by decide +kernel
theorem dX3_renew_6 : decode cX3_renew 6 = .ok (.iload_n 2, 1) := by decide +kernel
theorem dX3_renew_7 : decode cX3_renew 7 = .ok (.putfield 19, 3) := by decide +kernel
theorem dX3_renew_10 : decode cX3_renew 10 = .ok (.iconst 0, 1) := by decide +kernel
theorem dX3_renew_11 : decode cX3_renew 11 = .ok (.istore_n 3, 1) := by decide +kernel
theorem dX3_renew_12 : decode cX3_renew 12 = .ok (.iload_n 3, 1) := by decide +kernel
theorem dX3_renew_13 : decode cX3_renew 13 = .ok (.bipush 40, 2) := by decide +kernel
theorem dX3_renew_15 : decode cX3_renew 15 = .ok (.if_icmp .ge 16, 3) := by decide +kernel
theorem dX3_renew_18 : decode cX3_renew 18 = .ok (.aload_n 0, 1) := by decide +kernel
theorem dX3_renew_19 : decode cX3_renew 19 = .ok (.getfield 15, 3) := by decide +kernel
theorem dX3_renew_22 : decode cX3_renew 22 = .ok (.iload_n 3, 1) := by decide +kernel
theorem dX3_renew_23 : decode cX3_renew 23 = .ok (.iconst 0, 1) := by decide +kernel
theorem dX3_renew_24 : decode cX3_renew 24 = .ok (.iastore, 1) := by decide +kernel
theorem dX3_renew_25 : decode cX3_renew 25 = .ok (.iinc 3 1, 3) := by decide +kernel
theorem dX3_renew_28 : decode cX3_renew 28 = .ok (.goto (-16), 3) := by decide +kernel
theorem dX3_renew_31 : decode cX3_renew 31 = .ok (.return_, 1) := by decide +kernel
theorem dX3_faultAt_0 : decode cX3_faultAt 0 = .ok (.aload_n 0, 1) := by decide +kernel
theorem dX3_faultAt_1 : decode cX3_faultAt 1 = .ok (.getfield 11, 3) := by decide +kernel
theorem dX3_faultAt_4 : decode cX3_faultAt 4 = .ok (.iconst (-1), 1) := by decide +kernel
theorem dX3_faultAt_5 : decode cX3_faultAt 5 = .ok (.if_icmp .ne 5, 3) := by decide +kernel
theorem dX3_faultAt_8 : decode cX3_faultAt 8 = .ok (.iconst 1, 1) := by decide +kernel
theorem dX3_faultAt_9 : decode cX3_faultAt 9 = .ok (.ireturn, 1) := by decide +kernel
theorem dX3_faultAt_10 : decode cX3_faultAt 10 = .ok (.iload_n 1, 1) := by decide +kernel
theorem dX3_faultAt_11 : decode cX3_faultAt 11 = .ok (.ifCond .lt 11, 3) := by decide +kernel
theorem dX3_faultAt_14 : decode cX3_faultAt 14 = .ok (.iload_n 1, 1) := by decide +kernel
theorem dX3_faultAt_15 : decode cX3_faultAt 15 = .ok (.aload_n 0, 1) := by decide +kernel
theorem dX3_faultAt_16 : decode cX3_faultAt 16 = .ok (.getfield 19, 3) := by decide +kernel
theorem dX3_faultAt_19 : decode cX3_faultAt 19 = .ok (.if_icmp .lt 7, 3) := by decide +kernel
theorem dX3_faultAt_22 : decode cX3_faultAt 22 = .ok (.iconst 2, 1) := by decide +kernel
theorem dX3_faultAt_23 : decode cX3_faultAt 23 = .ok (.goto 4, 3) := by decide +kernel
theorem dX3_faultAt_26 : decode cX3_faultAt 26 = .ok (.iconst 0, 1) := by decide +kernel
theorem dX3_faultAt_27 : decode cX3_faultAt 27 = .ok (.ireturn, 1) := by decide +kernel
theorem dX3_faultOfPair_0 : decode cX3_faultOfPair 0 = .ok (.aload_n 0, 1) := by decide +kernel
theorem dX3_faultOfPair_1 : decode cX3_faultOfPair 1 = .ok (.getfield 11, 3) := by decide +kernel
theorem dX3_faultOfPair_4 : decode cX3_faultOfPair 4 = .ok (.iconst (-1), 1) := by decide +kernel
theorem dX3_faultOfPair_5 : decode cX3_faultOfPair 5 = .ok (.if_icmp .eq 13, 3) := by decide +kernel
theorem dX3_faultOfPair_8 : decode cX3_faultOfPair 8 = .ok (.aload_n 0, 1) := by decide +kernel
theorem dX3_faultOfPair_9 : decode cX3_faultOfPair 9 = .ok (.getfield 11, 3) := by decide +kernel
theorem dX3_faultOfPair_12 : decode cX3_faultOfPair 12 = .ok (.iload_n 1, 1) := by decide +kernel
theorem dX3_faultOfPair_13 : decode cX3_faultOfPair 13 = .ok (.if_icmp .eq 5, 3) := by decide +kernel
theorem dX3_faultOfPair_16 : decode cX3_faultOfPair 16 = .ok (.iconst 3, 1) := by decide +kernel
theorem dX3_faultOfPair_17 : decode cX3_faultOfPair 17 = .ok (.ireturn, 1) := by decide +kernel
theorem dX3_faultOfPair_18 : decode cX3_faultOfPair 18 = .ok (.aload_n 0, 1) := by decide +kernel
theorem dX3_faultOfPair_19 : decode cX3_faultOfPair 19 = .ok (.iload_n 2, 1) := by decide +kernel
theorem dX3_faultOfPair_20 : decode cX3_faultOfPair 20 = .ok (.invokevirtual 22, 3) := by decide +kernel
theorem dX3_faultOfPair_23 : decode cX3_faultOfPair 23 = .ok (.istore_n 3, 1) := by decide +kernel
theorem dX3_faultOfPair_24 : decode cX3_faultOfPair 24 = .ok (.iload_n 3, 1) := by decide +kernel
theorem dX3_faultOfPair_25 : decode cX3_faultOfPair 25 = .ok (.ifCond .eq 7, 3) := by decide +kernel
theorem dX3_faultOfPair_28 : decode cX3_faultOfPair 28 = .ok (.iload_n 3, 1) := by decide +kernel
theorem dX3_faultOfPair_29 : decode cX3_faultOfPair 29 = .ok (.goto 10, 3) := by decide +kernel
theorem dX3_faultOfPair_32 : decode cX3_faultOfPair 32 = .ok (.aload_n 0, 1) := by decide +kernel
theorem dX3_faultOfPair_33 : decode cX3_faultOfPair 33 = .ok (.iload_n 2, 1) := by decide +kernel
theorem dX3_faultOfPair_34 : decode cX3_faultOfPair 34 = .ok (.iconst 1, 1) := by decide +kernel
theorem dX3_faultOfPair_35 : decode cX3_faultOfPair 35 = .ok (.iadd, 1) := by decide +kernel
theorem dX3_faultOfPair_36 : decode cX3_faultOfPair 36 = .ok (.invokevirtual 22, 3) := by decide +kernel
theorem dX3_faultOfPair_39 : decode cX3_faultOfPair 39 = .ok (.ireturn, 1) := by decide +kernel
theorem dX3_put_0 : decode cX3_put 0 = .ok (.aload_n 0, 1) := by decide +kernel
theorem dX3_put_1 : decode cX3_put 1 = .ok (.getfield 11, 3) := by decide +kernel
theorem dX3_put_4 : decode cX3_put 4 = .ok (.lookupswitch 50 #[(0, 28), (1, 39)], 28) := by decide +kernel
theorem dX3_put_32 : decode cX3_put 32 = .ok (.aload_n 0, 1) := by decide +kernel
theorem dX3_put_33 : decode cX3_put 33 = .ok (.getfield 15, 3) := by decide +kernel
theorem dX3_put_36 : decode cX3_put 36 = .ok (.iload_n 1, 1) := by decide +kernel
theorem dX3_put_37 : decode cX3_put 37 = .ok (.iload_n 2, 1) := by decide +kernel
theorem dX3_put_38 : decode cX3_put 38 = .ok (.i2b, 1) := by decide +kernel
theorem dX3_put_39 : decode cX3_put 39 = .ok (.iastore, 1) := by decide +kernel
theorem dX3_put_40 : decode cX3_put 40 = .ok (.goto 21, 3) := by decide +kernel
theorem dX3_put_43 : decode cX3_put 43 = .ok (.aload_n 0, 1) := by decide +kernel
theorem dX3_put_44 : decode cX3_put 44 = .ok (.getfield 15, 3) := by decide +kernel
theorem dX3_put_47 : decode cX3_put 47 = .ok (.iload_n 1, 1) := by decide +kernel
theorem dX3_put_48 : decode cX3_put 48 = .ok (.iload_n 2, 1) := by decide +kernel
theorem dX3_put_49 : decode cX3_put 49 = .ok (.i2s, 1) := by decide +kernel
theorem dX3_put_50 : decode cX3_put 50 = .ok (.iastore, 1) := by decide +kernel
theorem dX3_put_51 : decode cX3_put 51 = .ok (.goto 10, 3) := by decide +kernel
theorem dX3_put_54 : decode cX3_put 54 = .ok (.aload_n 0, 1) := by decide +kernel
theorem dX3_put_55 : decode cX3_put 55 = .ok (.getfield 15, 3) := by decide +kernel
theorem dX3_put_58 : decode cX3_put 58 = .ok (.iload_n 1, 1) := by decide +kernel
theorem dX3_put_59 : decode cX3_put 59 = .ok (.iload_n 2, 1) := by decide +kernel
theorem dX3_put_60 : decode cX3_put 60 = .ok (.iastore, 1) := by decide +kernel
theorem dX3_put_61 : decode cX3_put 61 = .ok (.return_, 1) := by decide +kernel
theorem dX4_init_0 : decode cX4_init 0 = .ok (.aload_n 0, 1) := by decide +kernel
theorem dX4_init_1 : decode cX4_init 1 = .ok (.invokespecial 3, 3) := by decide +kernel
theorem dX4_init_4 : decode cX4_init 4 = .ok (.aload_n 0, 1) := by decide +kernel
theorem dX4_init_5 : decode cX4_init 5 = .ok (.bipush 6, 2) := by decide +kernel
theorem dX4_init_7 : decode cX4_init 7 = .ok (.newarray .int, 2) := by decide +kernel
theorem dX4_init_9 : decode cX4_init 9 = .ok (.putfield 9, 3) := by decide +kernel
theorem dX4_init_12 : decode cX4_init 12 = .ok (.aload_n 0, 1) := by decide +kernel
theorem dX4_init_13 : decode cX4_init 13 = .ok (.bipush 6, 2) := by decide +kernel
theorem dX4_init_15 : decode cX4_init 15 = .ok (.newarray .int, 2) := by decide +kernel
theorem dX4_init_17 : decode cX4_init 17 = .ok (.putfield 15, 3) := by decide +kernel
theorem dX4_init_20 : decode cX4_init 20 = .ok (.aload_n 0, 1) := by decide +kernel
theorem dX4_init_21 : decode cX4_init 21 = .ok (.bipush 6, 2) := by decide +kernel
theorem dX4_init_23 : decode cX4_init 23 = .ok (.newarray .int, 2) := by decide +kernel
theorem dX4_init_25 : decode cX4_init 25 = .ok (.putfield 18, 3) := by decide +kernel
theorem dX4_init_28 : decode cX4_init 28 = .ok (.return_, 1) := by decide +kernel
theorem dX4_copyFrom_0 : decode cX4_copyFrom 0 = .ok (.aload_n 0, 1) := by decide +kernel
theorem dX4_copyFrom_1 : decode cX4_copyFrom 1 = .ok (.aload_n 1, 1) := by decide +kernel
theorem dX4_copyFrom_2 : decode cX4_copyFrom 2 = .ok (.getfield 21, 3) := by decide +kernel
theorem dX4_copyFrom_5 : decode cX4_copyFrom 5 = .ok (.putfield 21, 3) := by decide +kernel
theorem dX4_copyFrom_8 : decode cX4_copyFrom 8 = .ok (.aload_n 1, 1) := by decide +kernel
theorem dX4_copyFrom_9 : decode cX4_copyFrom 9 = .ok (.getfield 9, 3) := by decide +kernel
theorem dX4_copyFrom_12 : decode cX4_copyFrom 12 = .ok (.iconst 0, 1) := by decide +kernel
theorem dX4_copyFrom_13 : decode cX4_copyFrom 13 = .ok (.aload_n 0, 1) := by decide +kernel
theorem dX4_copyFrom_14 : decode cX4_copyFrom 14 = .ok (.getfield 9, 3) := by decide +kernel
theorem dX4_copyFrom_17 : decode cX4_copyFrom 17 = .ok (.iconst 0, 1) := by decide +kernel
theorem dX4_copyFrom_18 : decode cX4_copyFrom 18 = .ok (.bipush 6, 2) := by decide +kernel
theorem dX4_copyFrom_20 : decode cX4_copyFrom 20 = .ok (.invokestatic 25, 3) := by decide +kernel
theorem dX4_copyFrom_23 : decode cX4_copyFrom 23 = .ok (.aload_n 1, 1) := by decide +kernel
theorem dX4_copyFrom_24 : decode cX4_copyFrom 24 = .ok (.getfield 15, 3) := by decide +kernel
theorem dX4_copyFrom_27 : decode cX4_copyFrom 27 = .ok (.iconst 0, 1) := by decide +kernel
theorem dX4_copyFrom_28 : decode cX4_copyFrom 28 = .ok (.aload_n 0, 1) := by decide +kernel
theorem dX4_copyFrom_29 : decode cX4_copyFrom 29 = .ok (.getfield 15, 3) := by decide +kernel
theorem dX4_copyFrom_32 : decode cX4_copyFrom 32 = .ok (.iconst 0, 1) := by decide +kernel
theorem dX4_copyFrom_33 : decode cX4_copyFrom 33 = .ok (.bipush 6, 2) := by decide +kernel
theorem dX4_copyFrom_35 : decode cX4_copyFrom 35 = .ok (.invokestatic 25, 3) := by decide +kernel
theorem dX4_copyFrom_38 : decode cX4_copyFrom 38 = .ok (.aload_n 1, 1) := by decide +kernel
theorem dX4_copyFrom_39 : decode cX4_copyFrom 39 = .ok (.getfield 18, 3) := by decide +kernel
theorem dX4_copyFrom_42 : decode cX4_copyFrom 42 = .ok (.iconst 0, 1) := by decide +kernel
theorem dX4_copyFrom_43 : decode cX4_copyFrom 43 = .ok (.aload_n 0, 1) := by decide +kernel
theorem dX4_copyFrom_44 : decode cX4_copyFrom 44 = .ok (.getfield 18, 3) := by decide +kernel
theorem dX4_copyFrom_47 : decode cX4_copyFrom 47 = .ok (.iconst 0, 1) := by decide +kernel
theorem dX4_copyFrom_48 : decode cX4_copyFrom 48 = .ok (.bipush 6, 2) := by decide +kernel
theorem dX4_copyFrom_50 : decode cX4_copyFrom 50 = .ok (.invokestatic 25, 3) := by decide +kernel
theorem dX4_copyFrom_53 : decode cX4_copyFrom 53 = .ok (.return_, 1) := by decide +kernel
theorem dX4_note_0 : decode cX4_note 0 = .ok (.aload_n 0, 1) := by decide +kernel
theorem dX4_note_1 : decode cX4_note 1 = .ok (.getfield 21, 3) := by decide +kernel
theorem dX4_note_4 : decode cX4_note 4 = .ok (.bipush 6, 2) := by decide +kernel
theorem dX4_note_6 : decode cX4_note 6 = .ok (.if_icmp .lt 5, 3) := by decide +kernel
theorem dX4_note_9 : decode cX4_note 9 = .ok (.iconst 0, 1) := by decide +kernel
theorem dX4_note_10 : decode cX4_note 10 = .ok (.ireturn, 1) := by decide +kernel
theorem dX4_note_11 : decode cX4_note 11 = .ok (.aload_n 0, 1) := by decide +kernel
theorem dX4_note_12 : decode cX4_note 12 = .ok (.getfield 9, 3) := by decide +kernel
theorem dX4_note_15 : decode cX4_note 15 = .ok (.aload_n 0, 1) := by decide +kernel
theorem dX4_note_16 : decode cX4_note 16 = .ok (.getfield 21, 3) := by decide +kernel
theorem dX4_note_19 : decode cX4_note 19 = .ok (.iload_n 1, 1) := by decide +kernel
theorem dX4_note_20 : decode cX4_note 20 = .ok (.iastore, 1) := by decide +kernel
theorem dX4_note_21 : decode cX4_note 21 = .ok (.aload_n 0, 1) := by decide +kernel
theorem dX4_note_22 : decode cX4_note 22 = .ok (.getfield 15, 3) := by decide +kernel
theorem dX4_note_25 : decode cX4_note 25 = .ok (.aload_n 0, 1) := by decide +kernel
theorem dX4_note_26 : decode cX4_note 26 = .ok (.getfield 21, 3) := by decide +kernel
theorem dX4_note_29 : decode cX4_note 29 = .ok (.iload_n 2, 1) := by decide +kernel
theorem dX4_note_30 : decode cX4_note 30 = .ok (.iastore, 1) := by decide +kernel
theorem dX4_note_31 : decode cX4_note 31 = .ok (.aload_n 0, 1) := by decide +kernel
theorem dX4_note_32 : decode cX4_note 32 = .ok (.getfield 18, 3) := by decide +kernel
theorem dX4_note_35 : decode cX4_note 35 = .ok (.aload_n 0, 1) := by decide +kernel
theorem dX4_note_36 : decode cX4_note 36 = .ok (.getfield 21, 3) := by decide +kernel
theorem dX4_note_39 : decode cX4_note 39 = .ok (.iload_n 3, 1) := by decide +kernel
theorem dX4_note_40 : decode cX4_note 40 = .ok (.iastore, 1) := by decide +kernel
theorem dX4_note_41 : decode cX4_note 41 = .ok (.aload_n 0, 1) := by decide +kernel
theorem dX4_note_42 : decode cX4_note 42 = .ok (.dup, 1) := by decide +kernel
theorem dX4_note_43 : decode cX4_note 43 = .ok (.getfield 21, 3) := by decide +kernel
theorem dX4_note_46 : decode cX4_note 46 = .ok (.iconst 1, 1) := by decide +kernel
theorem dX4_note_47 : decode cX4_note 47 = .ok (.iadd, 1) := by decide +kernel
theorem dX4_note_48 : decode cX4_note 48 = .ok (.putfield 21, 3) := by decide +kernel
theorem dX4_note_51 : decode cX4_note 51 = .ok (.iconst 1, 1) := by decide +kernel
theorem dX4_note_52 : decode cX4_note 52 = .ok (.ireturn, 1) := by decide +kernel
theorem dX4_last_0 : decode cX4_last 0 = .ok (.iconst (-1), 1) := by decide +kernel
theorem dX4_last_1 : decode cX4_last 1 = .ok (.istore_n 1, 1) := by decide +kernel
theorem dX4_last_2 : decode cX4_last 2 = .ok (.iconst 0, 1) := by decide +kernel
theorem dX4_last_3 : decode cX4_last 3 = .ok (.istore_n 2, 1) := by decide +kernel
theorem dX4_last_4 : decode cX4_last 4 = .ok (.iload_n 2, 1) := by decide +kernel
theorem dX4_last_5 : decode cX4_last 5 = .ok (.aload_n 0, 1) := by decide +kernel
theorem dX4_last_6 : decode cX4_last 6 = .ok (.getfield 21, 3) := by decide +kernel
theorem dX4_last_9 : decode cX4_last 9 = .ok (.if_icmp .ge 20, 3) := by decide +kernel
theorem dX4_last_12 : decode cX4_last 12 = .ok (.iload_n 1, 1) := by decide +kernel
theorem dX4_last_13 : decode cX4_last 13 = .ok (.aload_n 0, 1) := by decide +kernel
theorem dX4_last_14 : decode cX4_last 14 = .ok (.getfield 9, 3) := by decide +kernel
theorem dX4_last_17 : decode cX4_last 17 = .ok (.iload_n 2, 1) := by decide +kernel
theorem dX4_last_18 : decode cX4_last 18 = .ok (.iaload, 1) := by decide +kernel
theorem dX4_last_19 : decode cX4_last 19 = .ok (.invokestatic 31, 3) := by decide +kernel
theorem dX4_last_22 : decode cX4_last 22 = .ok (.istore_n 1, 1) := by decide +kernel
theorem dX4_last_23 : decode cX4_last 23 = .ok (.iinc 2 1, 3) := by decide +kernel
theorem dX4_last_26 : decode cX4_last 26 = .ok (.goto (-22), 3) := by decide +kernel
theorem dX4_last_29 : decode cX4_last 29 = .ok (.iload_n 1, 1) := by decide +kernel
theorem dX4_last_30 : decode cX4_last 30 = .ok (.ireturn, 1) := by decide +kernel
theorem dX4_fit_0 : decode cX4_fit 0 = .ok (.iconst 0, 1) := by decide +kernel
theorem dX4_fit_1 : decode cX4_fit 1 = .ok (.istore_n 3, 1) := by decide +kernel
theorem dX4_fit_2 : decode cX4_fit 2 = .ok (.iload_n 3, 1) := by decide +kernel
theorem dX4_fit_3 : decode cX4_fit 3 = .ok (.aload_n 0, 1) := by decide +kernel
theorem dX4_fit_4 : decode cX4_fit 4 = .ok (.getfield 21, 3) := by decide +kernel
theorem dX4_fit_7 : decode cX4_fit 7 = .ok (.if_icmp .ge 49, 3) := by decide +kernel
theorem dX4_fit_10 : decode cX4_fit 10 = .ok (.aload_n 0, 1) := by decide +kernel
theorem dX4_fit_11 : decode cX4_fit 11 = .ok (.getfield 9, 3) := by decide +kernel
theorem dX4_fit_14 : decode cX4_fit 14 = .ok (.iload_n 3, 1) := by decide +kernel
theorem dX4_fit_15 : decode cX4_fit 15 = .ok (.iaload, 1) := by decide +kernel
theorem dX4_fit_16 : decode cX4_fit 16 = .ok (.iload_n 2, 1) := by decide +kernel
theorem dX4_fit_17 : decode cX4_fit 17 = .ok (.if_icmp .ne 33, 3) := by decide +kernel
theorem dX4_fit_20 : decode cX4_fit 20 = .ok (.aload_n 1, 1) := by decide +kernel
theorem dX4_fit_21 : decode cX4_fit 21 = .ok (.getfield 37, 3) := by decide +kernel
theorem dX4_fit_24 : decode cX4_fit 24 = .ok (.aload_n 0, 1) := by decide +kernel
theorem dX4_fit_25 : decode cX4_fit 25 = .ok (.getfield 15, 3) := by decide +kernel
theorem dX4_fit_28 : decode cX4_fit 28 = .ok (.iload_n 3, 1) := by decide +kernel
theorem dX4_fit_29 : decode cX4_fit 29 = .ok (.iaload, 1) := by decide +kernel
theorem dX4_fit_30 : decode cX4_fit 30 = .ok (.aaload, 1) := by decide +kernel
theorem dX4_fit_31 : decode cX4_fit 31 = .ok (.getfield 43, 3) := by decide +kernel
theorem dX4_fit_34 : decode cX4_fit 34 = .ok (.bipush 8, 2) := by decide +kernel
theorem dX4_fit_36 : decode cX4_fit 36 = .ok (.invokestatic 48, 3) := by decide +kernel
theorem dX4_fit_39 : decode cX4_fit 39 = .ok (.aload_n 0, 1) := by decide +kernel
theorem dX4_fit_40 : decode cX4_fit 40 = .ok (.getfield 18, 3) := by decide +kernel
theorem dX4_fit_43 : decode cX4_fit 43 = .ok (.iload_n 3, 1) := by decide +kernel
theorem dX4_fit_44 : decode cX4_fit 44 = .ok (.iaload, 1) := by decide +kernel
theorem dX4_fit_45 : decode cX4_fit 45 = .ok (.if_icmp .eq 5, 3) := by decide +kernel
theorem dX4_fit_48 : decode cX4_fit 48 = .ok (.iconst 0, 1) := by decide +kernel
theorem dX4_fit_49 : decode cX4_fit 49 = .ok (.ireturn, 1) := by decide +kernel
theorem dX4_fit_50 : decode cX4_fit 50 = .ok (.iinc 3 1, 3) := by decide +kernel
theorem dX4_fit_53 : decode cX4_fit 53 = .ok (.goto (-51), 3) := by decide +kernel
theorem dX4_fit_56 : decode cX4_fit 56 = .ok (.iconst 1, 1) := by decide +kernel
theorem dX4_fit_57 : decode cX4_fit 57 = .ok (.ireturn, 1) := by decide +kernel
theorem dX5_init_0 : decode cX5_init 0 = .ok (.aload_n 0, 1) := by decide +kernel
theorem dX5_init_1 : decode cX5_init 1 = .ok (.invokespecial 3, 3) := by decide +kernel
theorem dX5_init_4 : decode cX5_init 4 = .ok (.aload_n 0, 1) := by decide +kernel
theorem dX5_init_5 : decode cX5_init 5 = .ok (.sipush 160, 3) := by decide +kernel
theorem dX5_init_8 : decode cX5_init 8 = .ok (.newarray .byte, 2) := by decide +kernel
theorem dX5_init_10 : decode cX5_init 10 = .ok (.putfield 9, 3) := by decide +kernel
theorem dX5_init_13 : decode cX5_init 13 = .ok (.aload_n 0, 1) := by decide +kernel
theorem dX5_init_14 : decode cX5_init 14 = .ok (.new 15, 3) := by decide +kernel
theorem dX5_init_17 : decode cX5_init 17 = .ok (.dup, 1) := by decide +kernel
theorem dX5_init_18 : decode cX5_init 18 = .ok (.invokespecial 17, 3) := by decide +kernel
theorem dX5_init_21 : decode cX5_init 21 = .ok (.putfield 18, 3) := by decide +kernel
theorem dX5_init_24 : decode cX5_init 24 = .ok (.return_, 1) := by decide +kernel
theorem dX5_takeLines_0 : decode cX5_takeLines 0 = .ok (.aload_n 0, 1) := by decide +kernel
theorem dX5_takeLines_1 : decode cX5_takeLines 1 = .ok (.getfield 18, 3) := by decide +kernel
theorem dX5_takeLines_4 : decode cX5_takeLines 4 = .ok (.invokevirtual 22, 3) := by decide +kernel
theorem dX5_takeLines_7 : decode cX5_takeLines 7 = .ok (.aload_n 0, 1) := by decide +kernel
theorem dX5_takeLines_8 : decode cX5_takeLines 8 = .ok (.iconst 0, 1) := by decide +kernel
theorem dX5_takeLines_9 : decode cX5_takeLines 9 = .ok (.putfield 25, 3) := by decide +kernel
theorem dX5_takeLines_12 : decode cX5_takeLines 12 = .ok (.aload_n 0, 1) := by decide +kernel
theorem dX5_takeLines_13 : decode cX5_takeLines 13 = .ok (.iconst 0, 1) := by decide +kernel
theorem dX5_takeLines_14 : decode cX5_takeLines 14 = .ok (.putfield 29, 3) := by decide +kernel
theorem dX5_takeLines_17 : decode cX5_takeLines 17 = .ok (.aload_n 0, 1) := by decide +kernel
theorem dX5_takeLines_18 : decode cX5_takeLines 18 = .ok (.iconst 0, 1) := by decide +kernel
theorem dX5_takeLines_19 : decode cX5_takeLines 19 = .ok (.putfield 32, 3) := by decide +kernel
theorem dX5_takeLines_22 : decode cX5_takeLines 22 = .ok (.aload_n 0, 1) := by decide +kernel
theorem dX5_takeLines_23 : decode cX5_takeLines 23 = .ok (.iconst 0, 1) := by decide +kernel
theorem dX5_takeLines_24 : decode cX5_takeLines 24 = .ok (.putfield 35, 3) := by decide +kernel
theorem dX5_takeLines_27 : decode cX5_takeLines 27 = .ok (.aload_n 0, 1) := by decide +kernel
theorem dX5_takeLines_28 : decode cX5_takeLines 28 = .ok (.iconst 0, 1) := by decide +kernel
theorem dX5_takeLines_29 : decode cX5_takeLines 29 = .ok (.putfield 39, 3) := by decide +kernel
theorem dX5_takeLines_32 : decode cX5_takeLines 32 = .ok (.iconst 0, 1) := by decide +kernel
theorem dX5_takeLines_33 : decode cX5_takeLines 33 = .ok (.istore_n 1, 1) := by decide +kernel
theorem dX5_takeLines_34 : decode cX5_takeLines 34 = .ok (.iload_n 1, 1) := by decide +kernel
theorem dX5_takeLines_35 : decode cX5_takeLines 35 = .ok (.sipush 160, 3) := by decide +kernel
theorem dX5_takeLines_38 : decode cX5_takeLines 38 = .ok (.if_icmp .gt 33, 3) := by decide +kernel
theorem dX5_takeLines_41 : decode cX5_takeLines 41 = .ok (.aload_n 0, 1) := by decide +kernel
theorem dX5_takeLines_42 : decode cX5_takeLines 42 = .ok (.invokevirtual 42, 3) := by decide +kernel
theorem dX5_takeLines_45 : decode cX5_takeLines 45 = .ok (.ifCond .eq 26, 3) := by decide +kernel
theorem dX5_takeLines_48 : decode cX5_takeLines 48 = .ok (.aload_n 0, 1) := by decide +kernel
theorem dX5_takeLines_49 : decode cX5_takeLines 49 = .ok (.getfield 46, 3) := by decide +kernel
theorem dX5_takeLines_52 : decode cX5_takeLines 52 = .ok (.ifCond .eq 19, 3) := by decide +kernel
theorem dX5_takeLines_55 : decode cX5_takeLines 55 = .ok (.aload_n 0, 1) := by decide +kernel
theorem dX5_takeLines_56 : decode cX5_takeLines 56 = .ok (.invokevirtual 49, 3) := by decide +kernel
theorem dX5_takeLines_59 : decode cX5_takeLines 59 = .ok (.ifCond .ne 6, 3) := by decide +kernel
theorem dX5_takeLines_62 : decode cX5_takeLines 62 = .ok (.goto 9, 3) := by decide +kernel
theorem dX5_takeLines_65 : decode cX5_takeLines 65 = .ok (.iinc 1 1, 3) := by decide +kernel
theorem dX5_takeLines_68 : decode cX5_takeLines 68 = .ok (.goto (-34), 3) := by decide +kernel
theorem dX5_takeLines_71 : decode cX5_takeLines 71 = .ok (.iload_n 1, 1) := by decide +kernel
theorem dX5_takeLines_72 : decode cX5_takeLines 72 = .ok (.ireturn, 1) := by decide +kernel
theorem dX5_takeLine_0 : decode cX5_takeLine 0 = .ok (.aload_n 0, 1) := by decide +kernel
theorem dX5_takeLine_1 : decode cX5_takeLine 1 = .ok (.getfield 46, 3) := by decide +kernel
theorem dX5_takeLine_4 : decode cX5_takeLine 4 = .ok (.iconst 1, 1) := by decide +kernel
theorem dX5_takeLine_5 : decode cX5_takeLine 5 = .ok (.if_icmp .eq 9, 3) := by decide +kernel
theorem dX5_takeLine_8 : decode cX5_takeLine 8 = .ok (.aload_n 0, 1) := by decide +kernel
theorem dX5_takeLine_9 : decode cX5_takeLine 9 = .ok (.iconst 2, 1) := by decide +kernel
theorem dX5_takeLine_10 : decode cX5_takeLine 10 = .ok (.invokevirtual 52, 3) := by decide +kernel
theorem dX5_takeLine_13 : decode cX5_takeLine 13 = .ok (.ireturn, 1) := by decide +kernel
theorem dX5_takeLine_14 : decode cX5_takeLine 14 = .ok (.aload_n 0, 1) := by decide +kernel
theorem dX5_takeLine_15 : decode cX5_takeLine 15 = .ok (.invokevirtual 56, 3) := by decide +kernel
theorem dX5_takeLine_18 : decode cX5_takeLine 18 = .ok (.istore_n 1, 1) := by decide +kernel
theorem dX5_takeLine_19 : decode cX5_takeLine 19 = .ok (.iload_n 1, 1) := by decide +kernel
theorem dX5_takeLine_20 : decode cX5_takeLine 20 = .ok (.ifCond .lt 9, 3) := by decide +kernel
theorem dX5_takeLine_23 : decode cX5_takeLine 23 = .ok (.aload_n 0, 1) := by decide +kernel
theorem dX5_takeLine_24 : decode cX5_takeLine 24 = .ok (.iload_n 1, 1) := by decide +kernel
theorem dX5_takeLine_25 : decode cX5_takeLine 25 = .ok (.invokevirtual 60, 3) := by decide +kernel
theorem dX5_takeLine_28 : decode cX5_takeLine 28 = .ok (.ireturn, 1) := by decide +kernel
theorem dX5_takeLine_29 : decode cX5_takeLine 29 = .ok (.aload_n 0, 1) := by decide +kernel
theorem dX5_takeLine_30 : decode cX5_takeLine 30 = .ok (.ldc 63, 2) := by decide +kernel
theorem dX5_takeLine_32 : decode cX5_takeLine 32 = .ok (.invokevirtual 65, 3) := by decide +kernel
theorem dX5_takeLine_35 : decode cX5_takeLine 35 = .ok (.ifCond .eq 8, 3) := by decide +kernel
theorem dX5_takeLine_38 : decode cX5_takeLine 38 = .ok (.aload_n 0, 1) := by decide +kernel
theorem dX5_takeLine_39 : decode cX5_takeLine 39 = .ok (.invokevirtual 69, 3) := by decide +kernel
theorem dX5_takeLine_42 : decode cX5_takeLine 42 = .ok (.ireturn, 1) := by decide +kernel
theorem dX5_takeLine_43 : decode cX5_takeLine 43 = .ok (.aload_n 0, 1) := by decide +kernel
theorem dX5_takeLine_44 : decode cX5_takeLine 44 = .ok (.ldc 72, 2) := by decide +kernel
theorem dX5_takeLine_46 : decode cX5_takeLine 46 = .ok (.invokevirtual 65, 3) := by decide +kernel
theorem dX5_takeLine_49 : decode cX5_takeLine 49 = .ok (.ifCond .eq 8, 3) := by decide +kernel
theorem dX5_takeLine_52 : decode cX5_takeLine 52 = .ok (.aload_n 0, 1) := by decide +kernel
theorem dX5_takeLine_53 : decode cX5_takeLine 53 = .ok (.invokevirtual 74, 3) := by decide +kernel
theorem dX5_takeLine_56 : decode cX5_takeLine 56 = .ok (.ireturn, 1) := by decide +kernel
theorem dX5_takeLine_57 : decode cX5_takeLine 57 = .ok (.aload_n 0, 1) := by decide +kernel
theorem dX5_takeLine_58 : decode cX5_takeLine 58 = .ok (.iconst 2, 1) := by decide +kernel
theorem dX5_takeLine_59 : decode cX5_takeLine 59 = .ok (.invokevirtual 52, 3) := by decide +kernel
theorem dX5_takeLine_62 : decode cX5_takeLine 62 = .ok (.ireturn, 1) := by decide +kernel
theorem dX5_takeRotor_0 : decode cX5_takeRotor 0 = .ok (.aload_n 0, 1) := by decide +kernel
theorem dX5_takeRotor_1 : decode cX5_takeRotor 1 = .ok (.getfield 18, 3) := by decide +kernel
theorem dX5_takeRotor_4 : decode cX5_takeRotor 4 = .ok (.getfield 77, 3) := by decide +kernel
theorem dX5_takeRotor_7 : decode cX5_takeRotor 7 = .ok (.iconst 4, 1) := by decide +kernel
theorem dX5_takeRotor_8 : decode cX5_takeRotor 8 = .ok (.if_icmp .lt 9, 3) := by decide +kernel
theorem dX5_takeRotor_11 : decode cX5_takeRotor 11 = .ok (.aload_n 0, 1) := by decide +kernel
theorem dX5_takeRotor_12 : decode cX5_takeRotor 12 = .ok (.iconst 5, 1) := by decide +kernel
theorem dX5_takeRotor_13 : decode cX5_takeRotor 13 = .ok (.invokevirtual 52, 3) := by decide +kernel
theorem dX5_takeRotor_16 : decode cX5_takeRotor 16 = .ok (.ireturn, 1) := by decide +kernel
theorem dX5_takeRotor_17 : decode cX5_takeRotor 17 = .ok (.aload_n 0, 1) := by decide +kernel
theorem dX5_takeRotor_18 : decode cX5_takeRotor 18 = .ok (.iconst 0, 1) := by decide +kernel
theorem dX5_takeRotor_19 : decode cX5_takeRotor 19 = .ok (.iconst 3, 1) := by decide +kernel
theorem dX5_takeRotor_20 : decode cX5_takeRotor 20 = .ok (.invokevirtual 80, 3) := by decide +kernel
theorem dX5_takeRotor_23 : decode cX5_takeRotor 23 = .ok (.ifCond .ne 5, 3) := by decide +kernel
theorem dX5_takeRotor_26 : decode cX5_takeRotor 26 = .ok (.iconst 0, 1) := by decide +kernel
theorem dX5_takeRotor_27 : decode cX5_takeRotor 27 = .ok (.ireturn, 1) := by decide +kernel
theorem dX5_takeRotor_28 : decode cX5_takeRotor 28 = .ok (.aload_n 0, 1) := by decide +kernel
theorem dX5_takeRotor_29 : decode cX5_takeRotor 29 = .ok (.getfield 84, 3) := by decide +kernel
theorem dX5_takeRotor_32 : decode cX5_takeRotor 32 = .ok (.istore_n 2, 1) := by decide +kernel
theorem dX5_takeRotor_33 : decode cX5_takeRotor 33 = .ok (.aload_n 0, 1) := by decide +kernel
theorem dX5_takeRotor_34 : decode cX5_takeRotor 34 = .ok (.iconst 0, 1) := by decide +kernel
theorem dX5_takeRotor_35 : decode cX5_takeRotor 35 = .ok (.bipush 7, 2) := by decide +kernel
theorem dX5_takeRotor_37 : decode cX5_takeRotor 37 = .ok (.invokevirtual 80, 3) := by decide +kernel
theorem dX5_takeRotor_40 : decode cX5_takeRotor 40 = .ok (.ifCond .ne 5, 3) := by decide +kernel
theorem dX5_takeRotor_43 : decode cX5_takeRotor 43 = .ok (.iconst 0, 1) := by decide +kernel
theorem dX5_takeRotor_44 : decode cX5_takeRotor 44 = .ok (.ireturn, 1) := by decide +kernel
theorem dX5_takeRotor_45 : decode cX5_takeRotor 45 = .ok (.aload_n 0, 1) := by decide +kernel
theorem dX5_takeRotor_46 : decode cX5_takeRotor 46 = .ok (.getfield 18, 3) := by decide +kernel
theorem dX5_takeRotor_49 : decode cX5_takeRotor 49 = .ok (.iload_n 1, 1) := by decide +kernel
theorem dX5_takeRotor_50 : decode cX5_takeRotor 50 = .ok (.iload_n 2, 1) := by decide +kernel
theorem dX5_takeRotor_51 : decode cX5_takeRotor 51 = .ok (.aload_n 0, 1) := by decide +kernel
theorem dX5_takeRotor_52 : decode cX5_takeRotor 52 = .ok (.getfield 84, 3) := by decide +kernel
theorem dX5_takeRotor_55 : decode cX5_takeRotor 55 = .ok (.invokevirtual 87, 3) := by decide +kernel
theorem dX5_takeRotor_58 : decode cX5_takeRotor 58 = .ok (.aload_n 0, 1) := by decide +kernel
theorem dX5_takeRotor_59 : decode cX5_takeRotor 59 = .ok (.invokevirtual 91, 3) := by decide +kernel
theorem dX5_takeRotor_62 : decode cX5_takeRotor 62 = .ok (.ireturn, 1) := by decide +kernel
theorem dX5_takeSigns_0 : decode cX5_takeSigns 0 = .ok (.aload_n 0, 1) := by decide +kernel
theorem dX5_takeSigns_1 : decode cX5_takeSigns 1 = .ok (.getfield 35, 3) := by decide +kernel
theorem dX5_takeSigns_4 : decode cX5_takeSigns 4 = .ok (.ifCond .eq 9, 3) := by decide +kernel
theorem dX5_takeSigns_7 : decode cX5_takeSigns 7 = .ok (.aload_n 0, 1) := by decide +kernel
theorem dX5_takeSigns_8 : decode cX5_takeSigns 8 = .ok (.iconst 4, 1) := by decide +kernel
theorem dX5_takeSigns_9 : decode cX5_takeSigns 9 = .ok (.invokevirtual 52, 3) := by decide +kernel
theorem dX5_takeSigns_12 : decode cX5_takeSigns 12 = .ok (.ireturn, 1) := by decide +kernel
theorem dX5_takeSigns_13 : decode cX5_takeSigns 13 = .ok (.aload_n 0, 1) := by decide +kernel
theorem dX5_takeSigns_14 : decode cX5_takeSigns 14 = .ok (.iconst 1, 1) := by decide +kernel
theorem dX5_takeSigns_15 : decode cX5_takeSigns 15 = .ok (.putfield 35, 3) := by decide +kernel
theorem dX5_takeSigns_18 : decode cX5_takeSigns 18 = .ok (.iconst 0, 1) := by decide +kernel
theorem dX5_takeSigns_19 : decode cX5_takeSigns 19 = .ok (.istore_n 1, 1) := by decide +kernel
theorem dX5_takeSigns_20 : decode cX5_takeSigns 20 = .ok (.iload_n 1, 1) := by decide +kernel
theorem dX5_takeSigns_21 : decode cX5_takeSigns 21 = .ok (.bipush 16, 2) := by decide +kernel
theorem dX5_takeSigns_23 : decode cX5_takeSigns 23 = .ok (.if_icmp .ge 55, 3) := by decide +kernel
theorem dX5_takeSigns_26 : decode cX5_takeSigns 26 = .ok (.aload_n 0, 1) := by decide +kernel
theorem dX5_takeSigns_27 : decode cX5_takeSigns 27 = .ok (.invokevirtual 42, 3) := by decide +kernel
theorem dX5_takeSigns_30 : decode cX5_takeSigns 30 = .ok (.ifCond .ne 5, 3) := by decide +kernel
theorem dX5_takeSigns_33 : decode cX5_takeSigns 33 = .ok (.iconst 0, 1) := by decide +kernel
theorem dX5_takeSigns_34 : decode cX5_takeSigns 34 = .ok (.ireturn, 1) := by decide +kernel
theorem dX5_takeSigns_35 : decode cX5_takeSigns 35 = .ok (.iload_n 1, 1) := by decide +kernel
theorem dX5_takeSigns_36 : decode cX5_takeSigns 36 = .ok (.ifCond .le 13, 3) := by decide +kernel
theorem dX5_takeSigns_39 : decode cX5_takeSigns 39 = .ok (.aload_n 0, 1) := by decide +kernel
theorem dX5_takeSigns_40 : decode cX5_takeSigns 40 = .ok (.getfield 46, 3) := by decide +kernel
theorem dX5_takeSigns_43 : decode cX5_takeSigns 43 = .ok (.iconst 3, 1) := by decide +kernel
theorem dX5_takeSigns_44 : decode cX5_takeSigns 44 = .ok (.if_icmp .ne 5, 3) := by decide +kernel
theorem dX5_takeSigns_47 : decode cX5_takeSigns 47 = .ok (.iconst 1, 1) := by decide +kernel
theorem dX5_takeSigns_48 : decode cX5_takeSigns 48 = .ok (.ireturn, 1) := by decide +kernel
theorem dX5_takeSigns_49 : decode cX5_takeSigns 49 = .ok (.aload_n 0, 1) := by decide +kernel
theorem dX5_takeSigns_50 : decode cX5_takeSigns 50 = .ok (.iconst 0, 1) := by decide +kernel
theorem dX5_takeSigns_51 : decode cX5_takeSigns 51 = .ok (.iconst 3, 1) := by decide +kernel
theorem dX5_takeSigns_52 : decode cX5_takeSigns 52 = .ok (.invokevirtual 94, 3) := by decide +kernel
theorem dX5_takeSigns_55 : decode cX5_takeSigns 55 = .ok (.ifCond .ne 5, 3) := by decide +kernel
theorem dX5_takeSigns_58 : decode cX5_takeSigns 58 = .ok (.iconst 0, 1) := by decide +kernel
theorem dX5_takeSigns_59 : decode cX5_takeSigns 59 = .ok (.ireturn, 1) := by decide +kernel
theorem dX5_takeSigns_60 : decode cX5_takeSigns 60 = .ok (.aload_n 0, 1) := by decide +kernel
theorem dX5_takeSigns_61 : decode cX5_takeSigns 61 = .ok (.getfield 18, 3) := by decide +kernel
theorem dX5_takeSigns_64 : decode cX5_takeSigns 64 = .ok (.aload_n 0, 1) := by decide +kernel
theorem dX5_takeSigns_65 : decode cX5_takeSigns 65 = .ok (.getfield 84, 3) := by decide +kernel
theorem dX5_takeSigns_68 : decode cX5_takeSigns 68 = .ok (.invokevirtual 97, 3) := by decide +kernel
theorem dX5_takeSigns_71 : decode cX5_takeSigns 71 = .ok (.pop, 1) := by decide +kernel
theorem dX5_takeSigns_72 : decode cX5_takeSigns 72 = .ok (.iinc 1 1, 3) := by decide +kernel
theorem dX5_takeSigns_75 : decode cX5_takeSigns 75 = .ok (.goto (-55), 3) := by decide +kernel
theorem dX5_takeSigns_78 : decode cX5_takeSigns 78 = .ok (.aload_n 0, 1) := by decide +kernel
theorem dX5_takeSigns_79 : decode cX5_takeSigns 79 = .ok (.invokevirtual 42, 3) := by decide +kernel
theorem dX5_takeSigns_82 : decode cX5_takeSigns 82 = .ok (.ifCond .eq 35, 3) := by decide +kernel
theorem dX5_takeSigns_85 : decode cX5_takeSigns 85 = .ok (.aload_n 0, 1) := by decide +kernel
theorem dX5_takeSigns_86 : decode cX5_takeSigns 86 = .ok (.getfield 46, 3) := by decide +kernel
theorem dX5_takeSigns_89 : decode cX5_takeSigns 89 = .ok (.iconst 3, 1) := by decide +kernel
theorem dX5_takeSigns_90 : decode cX5_takeSigns 90 = .ok (.if_icmp .eq 23, 3) := by decide +kernel
theorem dX5_takeSigns_93 : decode cX5_takeSigns 93 = .ok (.aload_n 0, 1) := by decide +kernel
theorem dX5_takeSigns_94 : decode cX5_takeSigns 94 = .ok (.aload_n 0, 1) := by decide +kernel
theorem dX5_takeSigns_95 : decode cX5_takeSigns 95 = .ok (.getfield 46, 3) := by decide +kernel
theorem dX5_takeSigns_98 : decode cX5_takeSigns 98 = .ok (.iconst 2, 1) := by decide +kernel
theorem dX5_takeSigns_99 : decode cX5_takeSigns 99 = .ok (.if_icmp .ne 7, 3) := by decide +kernel
theorem dX5_takeSigns_102 : decode cX5_takeSigns 102 = .ok (.iconst 5, 1) := by decide +kernel
theorem dX5_takeSigns_103 : decode cX5_takeSigns 103 = .ok (.goto 4, 3) := by decide +kernel
theorem dX5_takeSigns_106 : decode cX5_takeSigns 106 = .ok (.iconst 2, 1) := by decide +kernel
theorem dX5_takeSigns_107 : decode cX5_takeSigns 107 = .ok (.invokevirtual 52, 3) := by decide +kernel
theorem dX5_takeSigns_110 : decode cX5_takeSigns 110 = .ok (.ifCond .eq 7, 3) := by decide +kernel
theorem dX5_takeSigns_113 : decode cX5_takeSigns 113 = .ok (.iconst 1, 1) := by decide +kernel
theorem dX5_takeSigns_114 : decode cX5_takeSigns 114 = .ok (.goto 4, 3) := by decide +kernel
theorem dX5_takeSigns_117 : decode cX5_takeSigns 117 = .ok (.iconst 0, 1) := by decide +kernel
theorem dX5_takeSigns_118 : decode cX5_takeSigns 118 = .ok (.ireturn, 1) := by decide +kernel
theorem dX5_takeEvery_0 : decode cX5_takeEvery 0 = .ok (.aload_n 0, 1) := by decide +kernel
theorem dX5_takeEvery_1 : decode cX5_takeEvery 1 = .ok (.getfield 39, 3) := by decide +kernel
theorem dX5_takeEvery_4 : decode cX5_takeEvery 4 = .ok (.ifCond .eq 9, 3) := by decide +kernel
theorem dX5_takeEvery_7 : decode cX5_takeEvery 7 = .ok (.aload_n 0, 1) := by decide +kernel
theorem dX5_takeEvery_8 : decode cX5_takeEvery 8 = .ok (.iconst 4, 1) := by decide +kernel
theorem dX5_takeEvery_9 : decode cX5_takeEvery 9 = .ok (.invokevirtual 52, 3) := by decide +kernel
theorem dX5_takeEvery_12 : decode cX5_takeEvery 12 = .ok (.ireturn, 1) := by decide +kernel
theorem dX5_takeEvery_13 : decode cX5_takeEvery 13 = .ok (.aload_n 0, 1) := by decide +kernel
theorem dX5_takeEvery_14 : decode cX5_takeEvery 14 = .ok (.iconst 1, 1) := by decide +kernel
theorem dX5_takeEvery_15 : decode cX5_takeEvery 15 = .ok (.putfield 39, 3) := by decide +kernel
theorem dX5_takeEvery_18 : decode cX5_takeEvery 18 = .ok (.aload_n 0, 1) := by decide +kernel
theorem dX5_takeEvery_19 : decode cX5_takeEvery 19 = .ok (.iconst 1, 1) := by decide +kernel
theorem dX5_takeEvery_20 : decode cX5_takeEvery 20 = .ok (.bipush 9, 2) := by decide +kernel
theorem dX5_takeEvery_22 : decode cX5_takeEvery 22 = .ok (.invokevirtual 80, 3) := by decide +kernel
theorem dX5_takeEvery_25 : decode cX5_takeEvery 25 = .ok (.ifCond .ne 5, 3) := by decide +kernel
theorem dX5_takeEvery_28 : decode cX5_takeEvery 28 = .ok (.iconst 0, 1) := by decide +kernel
theorem dX5_takeEvery_29 : decode cX5_takeEvery 29 = .ok (.ireturn, 1) := by decide +kernel
theorem dX5_takeEvery_30 : decode cX5_takeEvery 30 = .ok (.aload_n 0, 1) := by decide +kernel
theorem dX5_takeEvery_31 : decode cX5_takeEvery 31 = .ok (.getfield 18, 3) := by decide +kernel
theorem dX5_takeEvery_34 : decode cX5_takeEvery 34 = .ok (.aload_n 0, 1) := by decide +kernel
theorem dX5_takeEvery_35 : decode cX5_takeEvery 35 = .ok (.getfield 84, 3) := by decide +kernel
theorem dX5_takeEvery_38 : decode cX5_takeEvery 38 = .ok (.putfield 100, 3) := by decide +kernel
theorem dX5_takeEvery_41 : decode cX5_takeEvery 41 = .ok (.aload_n 0, 1) := by decide +kernel
theorem dX5_takeEvery_42 : decode cX5_takeEvery 42 = .ok (.invokevirtual 91, 3) := by decide +kernel
theorem dX5_takeEvery_45 : decode cX5_takeEvery 45 = .ok (.ireturn, 1) := by decide +kernel
theorem dX5_takeNumber_0 : decode cX5_takeNumber 0 = .ok (.aload_n 0, 1) := by decide +kernel
theorem dX5_takeNumber_1 : decode cX5_takeNumber 1 = .ok (.invokevirtual 42, 3) := by decide +kernel
theorem dX5_takeNumber_4 : decode cX5_takeNumber 4 = .ok (.ifCond .eq 16, 3) := by decide +kernel
theorem dX5_takeNumber_7 : decode cX5_takeNumber 7 = .ok (.aload_n 0, 1) := by decide +kernel
theorem dX5_takeNumber_8 : decode cX5_takeNumber 8 = .ok (.iload_n 1, 1) := by decide +kernel
theorem dX5_takeNumber_9 : decode cX5_takeNumber 9 = .ok (.iload_n 2, 1) := by decide +kernel
theorem dX5_takeNumber_10 : decode cX5_takeNumber 10 = .ok (.invokevirtual 94, 3) := by decide +kernel
theorem dX5_takeNumber_13 : decode cX5_takeNumber 13 = .ok (.ifCond .eq 7, 3) := by decide +kernel
theorem dX5_takeNumber_16 : decode cX5_takeNumber 16 = .ok (.iconst 1, 1) := by decide +kernel
theorem dX5_takeNumber_17 : decode cX5_takeNumber 17 = .ok (.goto 4, 3) := by decide +kernel
theorem dX5_takeNumber_20 : decode cX5_takeNumber 20 = .ok (.iconst 0, 1) := by decide +kernel
theorem dX5_takeNumber_21 : decode cX5_takeNumber 21 = .ok (.ireturn, 1) := by decide +kernel
theorem dX5_isNumber_0 : decode cX5_isNumber 0 = .ok (.aload_n 0, 1) := by decide +kernel
theorem dX5_isNumber_1 : decode cX5_isNumber 1 = .ok (.getfield 46, 3) := by decide +kernel
theorem dX5_isNumber_4 : decode cX5_isNumber 4 = .ok (.iconst 2, 1) := by decide +kernel
theorem dX5_isNumber_5 : decode cX5_isNumber 5 = .ok (.if_icmp .eq 9, 3) := by decide +kernel
theorem dX5_isNumber_8 : decode cX5_isNumber 8 = .ok (.aload_n 0, 1) := by decide +kernel
theorem dX5_isNumber_9 : decode cX5_isNumber 9 = .ok (.iconst 2, 1) := by decide +kernel
theorem dX5_isNumber_10 : decode cX5_isNumber 10 = .ok (.invokevirtual 52, 3) := by decide +kernel
theorem dX5_isNumber_13 : decode cX5_isNumber 13 = .ok (.ireturn, 1) := by decide +kernel
theorem dX5_isNumber_14 : decode cX5_isNumber 14 = .ok (.aload_n 0, 1) := by decide +kernel
theorem dX5_isNumber_15 : decode cX5_isNumber 15 = .ok (.getfield 84, 3) := by decide +kernel
theorem dX5_isNumber_18 : decode cX5_isNumber 18 = .ok (.iload_n 1, 1) := by decide +kernel
theorem dX5_isNumber_19 : decode cX5_isNumber 19 = .ok (.if_icmp .lt 11, 3) := by decide +kernel
theorem dX5_isNumber_22 : decode cX5_isNumber 22 = .ok (.aload_n 0, 1) := by decide +kernel
theorem dX5_isNumber_23 : decode cX5_isNumber 23 = .ok (.getfield 84, 3) := by decide +kernel
theorem dX5_isNumber_26 : decode cX5_isNumber 26 = .ok (.iload_n 2, 1) := by decide +kernel
theorem dX5_isNumber_27 : decode cX5_isNumber 27 = .ok (.if_icmp .le 11, 3) := by decide +kernel
theorem dX5_isNumber_30 : decode cX5_isNumber 30 = .ok (.aload_n 0, 1) := by decide +kernel
theorem dX5_isNumber_31 : decode cX5_isNumber 31 = .ok (.iconst 3, 1) := by decide +kernel
theorem dX5_isNumber_32 : decode cX5_isNumber 32 = .ok (.invokevirtual 52, 3) := by decide +kernel
theorem dX5_isNumber_35 : decode cX5_isNumber 35 = .ok (.ifCond .eq 7, 3) := by decide +kernel
theorem dX5_isNumber_38 : decode cX5_isNumber 38 = .ok (.iconst 1, 1) := by decide +kernel
theorem dX5_isNumber_39 : decode cX5_isNumber 39 = .ok (.goto 4, 3) := by decide +kernel
theorem dX5_isNumber_42 : decode cX5_isNumber 42 = .ok (.iconst 0, 1) := by decide +kernel
theorem dX5_isNumber_43 : decode cX5_isNumber 43 = .ok (.ireturn, 1) := by decide +kernel
theorem dX5_takeStop_0 : decode cX5_takeStop 0 = .ok (.aload_n 0, 1) := by decide +kernel
theorem dX5_takeStop_1 : decode cX5_takeStop 1 = .ok (.invokevirtual 42, 3) := by decide +kernel
theorem dX5_takeStop_4 : decode cX5_takeStop 4 = .ok (.ifCond .eq 23, 3) := by decide +kernel
theorem dX5_takeStop_7 : decode cX5_takeStop 7 = .ok (.aload_n 0, 1) := by decide +kernel
theorem dX5_takeStop_8 : decode cX5_takeStop 8 = .ok (.getfield 46, 3) := by decide +kernel
theorem dX5_takeStop_11 : decode cX5_takeStop 11 = .ok (.iconst 3, 1) := by decide +kernel
theorem dX5_takeStop_12 : decode cX5_takeStop 12 = .ok (.if_icmp .eq 11, 3) := by decide +kernel
theorem dX5_takeStop_15 : decode cX5_takeStop 15 = .ok (.aload_n 0, 1) := by decide +kernel
theorem dX5_takeStop_16 : decode cX5_takeStop 16 = .ok (.iconst 2, 1) := by decide +kernel
theorem dX5_takeStop_17 : decode cX5_takeStop 17 = .ok (.invokevirtual 52, 3) := by decide +kernel
theorem dX5_takeStop_20 : decode cX5_takeStop 20 = .ok (.ifCond .eq 7, 3) := by decide +kernel
theorem dX5_takeStop_23 : decode cX5_takeStop 23 = .ok (.iconst 1, 1) := by decide +kernel
theorem dX5_takeStop_24 : decode cX5_takeStop 24 = .ok (.goto 4, 3) := by decide +kernel
theorem dX5_takeStop_27 : decode cX5_takeStop 27 = .ok (.iconst 0, 1) := by decide +kernel
theorem dX5_takeStop_28 : decode cX5_takeStop 28 = .ok (.ireturn, 1) := by decide +kernel
theorem dX5_readToken_0 : decode cX5_readToken 0 = .ok (.aload_n 0, 1) := by decide +kernel
theorem dX5_readToken_1 : decode cX5_readToken 1 = .ok (.aload_n 0, 1) := by decide +kernel
theorem dX5_readToken_2 : decode cX5_readToken 2 = .ok (.aload_n 0, 1) := by decide +kernel
theorem dX5_readToken_3 : decode cX5_readToken 3 = .ok (.getfield 32, 3) := by decide +kernel
theorem dX5_readToken_6 : decode cX5_readToken 6 = .ok (.bipush 32, 2) := by decide +kernel
theorem dX5_readToken_8 : decode cX5_readToken 8 = .ok (.bipush 32, 2) := by decide +kernel
theorem dX5_readToken_10 : decode cX5_readToken 10 = .ok (.invokevirtual 103, 3) := by decide +kernel
theorem dX5_readToken_13 : decode cX5_readToken 13 = .ok (.putfield 107, 3) := by decide +kernel
theorem dX5_readToken_16 : decode cX5_readToken 16 = .ok (.aload_n 0, 1) := by decide +kernel
theorem dX5_readToken_17 : decode cX5_readToken 17 = .ok (.aload_n 0, 1) := by decide +kernel
theorem dX5_readToken_18 : decode cX5_readToken 18 = .ok (.getfield 107, 3) := by decide +kernel
theorem dX5_readToken_21 : decode cX5_readToken 21 = .ok (.putfield 32, 3) := by decide +kernel
theorem dX5_readToken_24 : decode cX5_readToken 24 = .ok (.aload_n 0, 1) := by decide +kernel
theorem dX5_readToken_25 : decode cX5_readToken 25 = .ok (.getfield 107, 3) := by decide +kernel
theorem dX5_readToken_28 : decode cX5_readToken 28 = .ok (.aload_n 0, 1) := by decide +kernel
theorem dX5_readToken_29 : decode cX5_readToken 29 = .ok (.getfield 110, 3) := by decide +kernel
theorem dX5_readToken_32 : decode cX5_readToken 32 = .ok (.if_icmp .lt 10, 3) := by decide +kernel
theorem dX5_readToken_35 : decode cX5_readToken 35 = .ok (.aload_n 0, 1) := by decide +kernel
theorem dX5_readToken_36 : decode cX5_readToken 36 = .ok (.iconst 0, 1) := by decide +kernel
theorem dX5_readToken_37 : decode cX5_readToken 37 = .ok (.putfield 46, 3) := by decide +kernel
theorem dX5_readToken_40 : decode cX5_readToken 40 = .ok (.iconst 1, 1) := by decide +kernel
theorem dX5_readToken_41 : decode cX5_readToken 41 = .ok (.ireturn, 1) := by decide +kernel
theorem dX5_readToken_42 : decode cX5_readToken 42 = .ok (.aload_n 0, 1) := by decide +kernel
theorem dX5_readToken_43 : decode cX5_readToken 43 = .ok (.getfield 9, 3) := by decide +kernel
theorem dX5_readToken_46 : decode cX5_readToken 46 = .ok (.aload_n 0, 1) := by decide +kernel
theorem dX5_readToken_47 : decode cX5_readToken 47 = .ok (.getfield 107, 3) := by decide +kernel
theorem dX5_readToken_50 : decode cX5_readToken 50 = .ok (.baload, 1) := by decide +kernel
theorem dX5_readToken_51 : decode cX5_readToken 51 = .ok (.istore_n 1, 1) := by decide +kernel
theorem dX5_readToken_52 : decode cX5_readToken 52 = .ok (.iload_n 1, 1) := by decide +kernel
theorem dX5_readToken_53 : decode cX5_readToken 53 = .ok (.bipush 59, 2) := by decide +kernel
theorem dX5_readToken_55 : decode cX5_readToken 55 = .ok (.if_icmp .ne 20, 3) := by decide +kernel
theorem dX5_readToken_58 : decode cX5_readToken 58 = .ok (.aload_n 0, 1) := by decide +kernel
theorem dX5_readToken_59 : decode cX5_readToken 59 = .ok (.iconst 3, 1) := by decide +kernel
theorem dX5_readToken_60 : decode cX5_readToken 60 = .ok (.putfield 46, 3) := by decide +kernel
theorem dX5_readToken_63 : decode cX5_readToken 63 = .ok (.aload_n 0, 1) := by decide +kernel
theorem dX5_readToken_64 : decode cX5_readToken 64 = .ok (.aload_n 0, 1) := by decide +kernel
theorem dX5_readToken_65 : decode cX5_readToken 65 = .ok (.getfield 107, 3) := by decide +kernel
theorem dX5_readToken_68 : decode cX5_readToken 68 = .ok (.iconst 1, 1) := by decide +kernel
theorem dX5_readToken_69 : decode cX5_readToken 69 = .ok (.iadd, 1) := by decide +kernel
theorem dX5_readToken_70 : decode cX5_readToken 70 = .ok (.putfield 32, 3) := by decide +kernel
theorem dX5_readToken_73 : decode cX5_readToken 73 = .ok (.iconst 1, 1) := by decide +kernel
theorem dX5_readToken_74 : decode cX5_readToken 74 = .ok (.ireturn, 1) := by decide +kernel
theorem dX5_readToken_75 : decode cX5_readToken 75 = .ok (.iload_n 1, 1) := by decide +kernel
theorem dX5_readToken_76 : decode cX5_readToken 76 = .ok (.bipush 97, 2) := by decide +kernel
theorem dX5_readToken_78 : decode cX5_readToken 78 = .ok (.if_icmp .lt 32, 3) := by decide +kernel
theorem dX5_readToken_81 : decode cX5_readToken 81 = .ok (.iload_n 1, 1) := by decide +kernel
theorem dX5_readToken_82 : decode cX5_readToken 82 = .ok (.bipush 122, 2) := by decide +kernel
theorem dX5_readToken_84 : decode cX5_readToken 84 = .ok (.if_icmp .gt 26, 3) := by decide +kernel
theorem dX5_readToken_87 : decode cX5_readToken 87 = .ok (.aload_n 0, 1) := by decide +kernel
theorem dX5_readToken_88 : decode cX5_readToken 88 = .ok (.iconst 1, 1) := by decide +kernel
theorem dX5_readToken_89 : decode cX5_readToken 89 = .ok (.putfield 46, 3) := by decide +kernel
theorem dX5_readToken_92 : decode cX5_readToken 92 = .ok (.aload_n 0, 1) := by decide +kernel
theorem dX5_readToken_93 : decode cX5_readToken 93 = .ok (.aload_n 0, 1) := by decide +kernel
theorem dX5_readToken_94 : decode cX5_readToken 94 = .ok (.aload_n 0, 1) := by decide +kernel
theorem dX5_readToken_95 : decode cX5_readToken 95 = .ok (.getfield 107, 3) := by decide +kernel
theorem dX5_readToken_98 : decode cX5_readToken 98 = .ok (.bipush 97, 2) := by decide +kernel
theorem dX5_readToken_100 : decode cX5_readToken 100 = .ok (.bipush 122, 2) := by decide +kernel
theorem dX5_readToken_102 : decode cX5_readToken 102 = .ok (.invokevirtual 103, 3) := by decide +kernel
theorem dX5_readToken_105 : decode cX5_readToken 105 = .ok (.putfield 32, 3) := by decide +kernel
theorem dX5_readToken_108 : decode cX5_readToken 108 = .ok (.iconst 1, 1) := by decide +kernel
theorem dX5_readToken_109 : decode cX5_readToken 109 = .ok (.ireturn, 1) := by decide +kernel
theorem dX5_readToken_110 : decode cX5_readToken 110 = .ok (.iload_n 1, 1) := by decide +kernel
theorem dX5_readToken_111 : decode cX5_readToken 111 = .ok (.bipush 48, 2) := by decide +kernel
theorem dX5_readToken_113 : decode cX5_readToken 113 = .ok (.if_icmp .lt 56, 3) := by decide +kernel
theorem dX5_readToken_116 : decode cX5_readToken 116 = .ok (.iload_n 1, 1) := by decide +kernel
theorem dX5_readToken_117 : decode cX5_readToken 117 = .ok (.bipush 57, 2) := by decide +kernel
theorem dX5_readToken_119 : decode cX5_readToken 119 = .ok (.if_icmp .gt 50, 3) := by decide +kernel
theorem dX5_readToken_122 : decode cX5_readToken 122 = .ok (.aload_n 0, 1) := by decide +kernel
theorem dX5_readToken_123 : decode cX5_readToken 123 = .ok (.iconst 2, 1) := by decide +kernel
theorem dX5_readToken_124 : decode cX5_readToken 124 = .ok (.putfield 46, 3) := by decide +kernel
theorem dX5_readToken_127 : decode cX5_readToken 127 = .ok (.aload_n 0, 1) := by decide +kernel
theorem dX5_readToken_128 : decode cX5_readToken 128 = .ok (.aload_n 0, 1) := by decide +kernel
theorem dX5_readToken_129 : decode cX5_readToken 129 = .ok (.aload_n 0, 1) := by decide +kernel
theorem dX5_readToken_130 : decode cX5_readToken 130 = .ok (.getfield 107, 3) := by decide +kernel
theorem dX5_readToken_133 : decode cX5_readToken 133 = .ok (.bipush 48, 2) := by decide +kernel
theorem dX5_readToken_135 : decode cX5_readToken 135 = .ok (.bipush 57, 2) := by decide +kernel
theorem dX5_readToken_137 : decode cX5_readToken 137 = .ok (.invokevirtual 103, 3) := by decide +kernel
theorem dX5_readToken_140 : decode cX5_readToken 140 = .ok (.putfield 32, 3) := by decide +kernel
theorem dX5_readToken_143 : decode cX5_readToken 143 = .ok (.aload_n 0, 1) := by decide +kernel
theorem dX5_readToken_144 : decode cX5_readToken 144 = .ok (.getfield 32, 3) := by decide +kernel
theorem dX5_readToken_147 : decode cX5_readToken 147 = .ok (.aload_n 0, 1) := by decide +kernel
theorem dX5_readToken_148 : decode cX5_readToken 148 = .ok (.getfield 107, 3) := by decide +kernel
theorem dX5_readToken_151 : decode cX5_readToken 151 = .ok (.isub, 1) := by decide +kernel
theorem dX5_readToken_152 : decode cX5_readToken 152 = .ok (.iconst 2, 1) := by decide +kernel
theorem dX5_readToken_153 : decode cX5_readToken 153 = .ok (.if_icmp .gt 10, 3) := by decide +kernel
theorem dX5_readToken_156 : decode cX5_readToken 156 = .ok (.aload_n 0, 1) := by decide +kernel
theorem dX5_readToken_157 : decode cX5_readToken 157 = .ok (.invokevirtual 113, 3) := by decide +kernel
theorem dX5_readToken_160 : decode cX5_readToken 160 = .ok (.goto 8, 3) := by decide +kernel
theorem dX5_readToken_163 : decode cX5_readToken 163 = .ok (.aload_n 0, 1) := by decide +kernel
theorem dX5_readToken_164 : decode cX5_readToken 164 = .ok (.iconst 1, 1) := by decide +kernel
theorem dX5_readToken_165 : decode cX5_readToken 165 = .ok (.invokevirtual 52, 3) := by decide +kernel
theorem dX5_readToken_168 : decode cX5_readToken 168 = .ok (.ireturn, 1) := by decide +kernel
theorem dX5_readToken_169 : decode cX5_readToken 169 = .ok (.aload_n 0, 1) := by decide +kernel
theorem dX5_readToken_170 : decode cX5_readToken 170 = .ok (.iconst 1, 1) := by decide +kernel
theorem dX5_readToken_171 : decode cX5_readToken 171 = .ok (.invokevirtual 52, 3) := by decide +kernel
theorem dX5_readToken_174 : decode cX5_readToken 174 = .ok (.ireturn, 1) := by decide +kernel
theorem dX5_readValue_0 : decode cX5_readValue 0 = .ok (.aload_n 0, 1) := by decide +kernel
theorem dX5_readValue_1 : decode cX5_readValue 1 = .ok (.iconst 0, 1) := by decide +kernel
theorem dX5_readValue_2 : decode cX5_readValue 2 = .ok (.putfield 84, 3) := by decide +kernel
theorem dX5_readValue_5 : decode cX5_readValue 5 = .ok (.aload_n 0, 1) := by decide +kernel
theorem dX5_readValue_6 : decode cX5_readValue 6 = .ok (.getfield 107, 3) := by decide +kernel
theorem dX5_readValue_9 : decode cX5_readValue 9 = .ok (.istore_n 1, 1) := by decide +kernel
theorem dX5_readValue_10 : decode cX5_readValue 10 = .ok (.iload_n 1, 1) := by decide +kernel
theorem dX5_readValue_11 : decode cX5_readValue 11 = .ok (.aload_n 0, 1) := by decide +kernel
theorem dX5_readValue_12 : decode cX5_readValue 12 = .ok (.getfield 32, 3) := by decide +kernel
theorem dX5_readValue_15 : decode cX5_readValue 15 = .ok (.if_icmp .ge 30, 3) := by decide +kernel
theorem dX5_readValue_18 : decode cX5_readValue 18 = .ok (.aload_n 0, 1) := by decide +kernel
theorem dX5_readValue_19 : decode cX5_readValue 19 = .ok (.bipush 10, 2) := by decide +kernel
theorem dX5_readValue_21 : decode cX5_readValue 21 = .ok (.aload_n 0, 1) := by decide +kernel
theorem dX5_readValue_22 : decode cX5_readValue 22 = .ok (.getfield 84, 3) := by decide +kernel
theorem dX5_readValue_25 : decode cX5_readValue 25 = .ok (.imul, 1) := by decide +kernel
theorem dX5_readValue_26 : decode cX5_readValue 26 = .ok (.aload_n 0, 1) := by decide +kernel
theorem dX5_readValue_27 : decode cX5_readValue 27 = .ok (.getfield 9, 3) := by decide +kernel
theorem dX5_readValue_30 : decode cX5_readValue 30 = .ok (.iload_n 1, 1) := by decide +kernel
theorem dX5_readValue_31 : decode cX5_readValue 31 = .ok (.baload, 1) := by decide +kernel
theorem dX5_readValue_32 : decode cX5_readValue 32 = .ok (.iadd, 1) := by decide +kernel
theorem dX5_readValue_33 : decode cX5_readValue 33 = .ok (.bipush 48, 2) := by decide +kernel
theorem dX5_readValue_35 : decode cX5_readValue 35 = .ok (.isub, 1) := by decide +kernel
theorem dX5_readValue_36 : decode cX5_readValue 36 = .ok (.putfield 84, 3) := by decide +kernel
theorem dX5_readValue_39 : decode cX5_readValue 39 = .ok (.iinc 1 1, 3) := by decide +kernel
theorem dX5_readValue_42 : decode cX5_readValue 42 = .ok (.goto (-32), 3) := by decide +kernel
theorem dX5_readValue_45 : decode cX5_readValue 45 = .ok (.iconst 1, 1) := by decide +kernel
theorem dX5_readValue_46 : decode cX5_readValue 46 = .ok (.ireturn, 1) := by decide +kernel
theorem dX5_endOfRun_0 : decode cX5_endOfRun 0 = .ok (.iload_n 1, 1) := by decide +kernel
theorem dX5_endOfRun_1 : decode cX5_endOfRun 1 = .ok (.istore 4, 2) := by decide +kernel
theorem dX5_endOfRun_3 : decode cX5_endOfRun 3 = .ok (.iload 4, 2) := by decide +kernel
theorem dX5_endOfRun_5 : decode cX5_endOfRun 5 = .ok (.aload_n 0, 1) := by decide +kernel
theorem dX5_endOfRun_6 : decode cX5_endOfRun 6 = .ok (.getfield 110, 3) := by decide +kernel
theorem dX5_endOfRun_9 : decode cX5_endOfRun 9 = .ok (.if_icmp .ge 31, 3) := by decide +kernel
theorem dX5_endOfRun_12 : decode cX5_endOfRun 12 = .ok (.aload_n 0, 1) := by decide +kernel
theorem dX5_endOfRun_13 : decode cX5_endOfRun 13 = .ok (.getfield 9, 3) := by decide +kernel
theorem dX5_endOfRun_16 : decode cX5_endOfRun 16 = .ok (.iload 4, 2) := by decide +kernel
theorem dX5_endOfRun_18 : decode cX5_endOfRun 18 = .ok (.baload, 1) := by decide +kernel
theorem dX5_endOfRun_19 : decode cX5_endOfRun 19 = .ok (.iload_n 2, 1) := by decide +kernel
theorem dX5_endOfRun_20 : decode cX5_endOfRun 20 = .ok (.if_icmp .lt 20, 3) := by decide +kernel
theorem dX5_endOfRun_23 : decode cX5_endOfRun 23 = .ok (.aload_n 0, 1) := by decide +kernel
theorem dX5_endOfRun_24 : decode cX5_endOfRun 24 = .ok (.getfield 9, 3) := by decide +kernel
theorem dX5_endOfRun_27 : decode cX5_endOfRun 27 = .ok (.iload 4, 2) := by decide +kernel
theorem dX5_endOfRun_29 : decode cX5_endOfRun 29 = .ok (.baload, 1) := by decide +kernel
theorem dX5_endOfRun_30 : decode cX5_endOfRun 30 = .ok (.iload_n 3, 1) := by decide +kernel
theorem dX5_endOfRun_31 : decode cX5_endOfRun 31 = .ok (.if_icmp .gt 9, 3) := by decide +kernel
theorem dX5_endOfRun_34 : decode cX5_endOfRun 34 = .ok (.iinc 4 1, 3) := by decide +kernel
theorem dX5_endOfRun_37 : decode cX5_endOfRun 37 = .ok (.goto (-34), 3) := by decide +kernel
theorem dX5_endOfRun_40 : decode cX5_endOfRun 40 = .ok (.iload 4, 2) := by decide +kernel
theorem dX5_endOfRun_42 : decode cX5_endOfRun 42 = .ok (.ireturn, 1) := by decide +kernel
theorem dX5_sortNamed_0 : decode cX5_sortNamed 0 = .ok (.aload_n 0, 1) := by decide +kernel
theorem dX5_sortNamed_1 : decode cX5_sortNamed 1 = .ok (.ldc 116, 2) := by decide +kernel
theorem dX5_sortNamed_3 : decode cX5_sortNamed 3 = .ok (.invokevirtual 65, 3) := by decide +kernel
theorem dX5_sortNamed_6 : decode cX5_sortNamed 6 = .ok (.ifCond .eq 5, 3) := by decide +kernel
theorem dX5_sortNamed_9 : decode cX5_sortNamed 9 = .ok (.iconst 0, 1) := by decide +kernel
theorem dX5_sortNamed_10 : decode cX5_sortNamed 10 = .ok (.ireturn, 1) := by decide +kernel
theorem dX5_sortNamed_11 : decode cX5_sortNamed 11 = .ok (.aload_n 0, 1) := by decide +kernel
theorem dX5_sortNamed_12 : decode cX5_sortNamed 12 = .ok (.ldc 120, 2) := by decide +kernel
theorem dX5_sortNamed_14 : decode cX5_sortNamed 14 = .ok (.invokevirtual 65, 3) := by decide +kernel
theorem dX5_sortNamed_17 : decode cX5_sortNamed 17 = .ok (.ifCond .eq 5, 3) := by decide +kernel
theorem dX5_sortNamed_20 : decode cX5_sortNamed 20 = .ok (.iconst 1, 1) := by decide +kernel
theorem dX5_sortNamed_21 : decode cX5_sortNamed 21 = .ok (.ireturn, 1) := by decide +kernel
theorem dX5_sortNamed_22 : decode cX5_sortNamed 22 = .ok (.aload_n 0, 1) := by decide +kernel
theorem dX5_sortNamed_23 : decode cX5_sortNamed 23 = .ok (.ldc 122, 2) := by decide +kernel
theorem dX5_sortNamed_25 : decode cX5_sortNamed 25 = .ok (.invokevirtual 65, 3) := by decide +kernel
theorem dX5_sortNamed_28 : decode cX5_sortNamed 28 = .ok (.ifCond .eq 5, 3) := by decide +kernel
theorem dX5_sortNamed_31 : decode cX5_sortNamed 31 = .ok (.iconst 2, 1) := by decide +kernel
theorem dX5_sortNamed_32 : decode cX5_sortNamed 32 = .ok (.ireturn, 1) := by decide +kernel
theorem dX5_sortNamed_33 : decode cX5_sortNamed 33 = .ok (.aload_n 0, 1) := by decide +kernel
theorem dX5_sortNamed_34 : decode cX5_sortNamed 34 = .ok (.ldc 124, 2) := by decide +kernel
theorem dX5_sortNamed_36 : decode cX5_sortNamed 36 = .ok (.invokevirtual 65, 3) := by decide +kernel
theorem dX5_sortNamed_39 : decode cX5_sortNamed 39 = .ok (.ifCond .eq 7, 3) := by decide +kernel
theorem dX5_sortNamed_42 : decode cX5_sortNamed 42 = .ok (.iconst 3, 1) := by decide +kernel
theorem dX5_sortNamed_43 : decode cX5_sortNamed 43 = .ok (.goto 4, 3) := by decide +kernel
theorem dX5_sortNamed_46 : decode cX5_sortNamed 46 = .ok (.iconst (-1), 1) := by decide +kernel
theorem dX5_sortNamed_47 : decode cX5_sortNamed 47 = .ok (.ireturn, 1) := by decide +kernel
theorem dX5_isNamed_0 : decode cX5_isNamed 0 = .ok (.aload_n 0, 1) := by decide +kernel
theorem dX5_isNamed_1 : decode cX5_isNamed 1 = .ok (.getfield 32, 3) := by decide +kernel
theorem dX5_isNamed_4 : decode cX5_isNamed 4 = .ok (.aload_n 0, 1) := by decide +kernel
theorem dX5_isNamed_5 : decode cX5_isNamed 5 = .ok (.getfield 107, 3) := by decide +kernel
theorem dX5_isNamed_8 : decode cX5_isNamed 8 = .ok (.isub, 1) := by decide +kernel
theorem dX5_isNamed_9 : decode cX5_isNamed 9 = .ok (.aload_n 1, 1) := by decide +kernel
theorem dX5_isNamed_10 : decode cX5_isNamed 10 = .ok (.invokevirtual 126, 3) := by decide +kernel
theorem dX5_isNamed_13 : decode cX5_isNamed 13 = .ok (.if_icmp .eq 5, 3) := by decide +kernel
theorem dX5_isNamed_16 : decode cX5_isNamed 16 = .ok (.iconst 0, 1) := by decide +kernel
theorem dX5_isNamed_17 : decode cX5_isNamed 17 = .ok (.ireturn, 1) := by decide +kernel
theorem dX5_isNamed_18 : decode cX5_isNamed 18 = .ok (.iconst 0, 1) := by decide +kernel
theorem dX5_isNamed_19 : decode cX5_isNamed 19 = .ok (.istore_n 2, 1) := by decide +kernel
theorem dX5_isNamed_20 : decode cX5_isNamed 20 = .ok (.iload_n 2, 1) := by decide +kernel
theorem dX5_isNamed_21 : decode cX5_isNamed 21 = .ok (.aload_n 1, 1) := by decide +kernel
theorem dX5_isNamed_22 : decode cX5_isNamed 22 = .ok (.invokevirtual 126, 3) := by decide +kernel
theorem dX5_isNamed_25 : decode cX5_isNamed 25 = .ok (.if_icmp .ge 30, 3) := by decide +kernel
theorem dX5_isNamed_28 : decode cX5_isNamed 28 = .ok (.aload_n 0, 1) := by decide +kernel
theorem dX5_isNamed_29 : decode cX5_isNamed 29 = .ok (.getfield 9, 3) := by decide +kernel
theorem dX5_isNamed_32 : decode cX5_isNamed 32 = .ok (.aload_n 0, 1) := by decide +kernel
theorem dX5_isNamed_33 : decode cX5_isNamed 33 = .ok (.getfield 107, 3) := by decide +kernel
theorem dX5_isNamed_36 : decode cX5_isNamed 36 = .ok (.iload_n 2, 1) := by decide +kernel
theorem dX5_isNamed_37 : decode cX5_isNamed 37 = .ok (.iadd, 1) := by decide +kernel
theorem dX5_isNamed_38 : decode cX5_isNamed 38 = .ok (.baload, 1) := by decide +kernel
theorem dX5_isNamed_39 : decode cX5_isNamed 39 = .ok (.aload_n 1, 1) := by decide +kernel
theorem dX5_isNamed_40 : decode cX5_isNamed 40 = .ok (.iload_n 2, 1) := by decide +kernel
theorem dX5_isNamed_41 : decode cX5_isNamed 41 = .ok (.invokevirtual 130, 3) := by decide +kernel
theorem dX5_isNamed_44 : decode cX5_isNamed 44 = .ok (.if_icmp .eq 5, 3) := by decide +kernel
theorem dX5_isNamed_47 : decode cX5_isNamed 47 = .ok (.iconst 0, 1) := by decide +kernel
theorem dX5_isNamed_48 : decode cX5_isNamed 48 = .ok (.ireturn, 1) := by decide +kernel
theorem dX5_isNamed_49 : decode cX5_isNamed 49 = .ok (.iinc 2 1, 3) := by decide +kernel
theorem dX5_isNamed_52 : decode cX5_isNamed 52 = .ok (.goto (-32), 3) := by decide +kernel
theorem dX5_isNamed_55 : decode cX5_isNamed 55 = .ok (.iconst 1, 1) := by decide +kernel
theorem dX5_isNamed_56 : decode cX5_isNamed 56 = .ok (.ireturn, 1) := by decide +kernel
theorem dX5_refuse_0 : decode cX5_refuse 0 = .ok (.aload_n 0, 1) := by decide +kernel
theorem dX5_refuse_1 : decode cX5_refuse 1 = .ok (.iload_n 1, 1) := by decide +kernel
theorem dX5_refuse_2 : decode cX5_refuse 2 = .ok (.putfield 25, 3) := by decide +kernel
theorem dX5_refuse_5 : decode cX5_refuse 5 = .ok (.aload_n 0, 1) := by decide +kernel
theorem dX5_refuse_6 : decode cX5_refuse 6 = .ok (.aload_n 0, 1) := by decide +kernel
theorem dX5_refuse_7 : decode cX5_refuse 7 = .ok (.getfield 107, 3) := by decide +kernel
theorem dX5_refuse_10 : decode cX5_refuse 10 = .ok (.putfield 29, 3) := by decide +kernel
theorem dX5_refuse_13 : decode cX5_refuse 13 = .ok (.iconst 0, 1) := by decide +kernel
theorem dX5_refuse_14 : decode cX5_refuse 14 = .ok (.ireturn, 1) := by decide +kernel
theorem dX6_init_0 : decode cX6_init 0 = .ok (.aload_n 0, 1) := by decide +kernel
theorem dX6_init_1 : decode cX6_init 1 = .ok (.invokespecial 1, 3) := by decide +kernel
theorem dX6_init_4 : decode cX6_init 4 = .ok (.aload_n 0, 1) := by decide +kernel
theorem dX6_init_5 : decode cX6_init 5 = .ok (.new 7, 3) := by decide +kernel
theorem dX6_init_8 : decode cX6_init 8 = .ok (.dup, 1) := by decide +kernel
theorem dX6_init_9 : decode cX6_init 9 = .ok (.invokespecial 9, 3) := by decide +kernel
theorem dX6_init_12 : decode cX6_init 12 = .ok (.putfield 10, 3) := by decide +kernel
theorem dX6_init_15 : decode cX6_init 15 = .ok (.aload_n 0, 1) := by decide +kernel
theorem dX6_init_16 : decode cX6_init 16 = .ok (.new 16, 3) := by decide +kernel
theorem dX6_init_19 : decode cX6_init 19 = .ok (.dup, 1) := by decide +kernel
theorem dX6_init_20 : decode cX6_init 20 = .ok (.invokespecial 18, 3) := by decide +kernel
theorem dX6_init_23 : decode cX6_init 23 = .ok (.putfield 19, 3) := by decide +kernel
theorem dX6_init_26 : decode cX6_init 26 = .ok (.aload_n 0, 1) := by decide +kernel
theorem dX6_init_27 : decode cX6_init 27 = .ok (.new 16, 3) := by decide +kernel
theorem dX6_init_30 : decode cX6_init 30 = .ok (.dup, 1) := by decide +kernel
theorem dX6_init_31 : decode cX6_init 31 = .ok (.invokespecial 18, 3) := by decide +kernel
theorem dX6_init_34 : decode cX6_init 34 = .ok (.putfield 23, 3) := by decide +kernel
theorem dX6_init_37 : decode cX6_init 37 = .ok (.aload_n 0, 1) := by decide +kernel
theorem dX6_init_38 : decode cX6_init 38 = .ok (.new 26, 3) := by decide +kernel
theorem dX6_init_41 : decode cX6_init 41 = .ok (.dup, 1) := by decide +kernel
theorem dX6_init_42 : decode cX6_init 42 = .ok (.invokespecial 28, 3) := by decide +kernel
theorem dX6_init_45 : decode cX6_init 45 = .ok (.putfield 29, 3) := by decide +kernel
theorem dX6_init_48 : decode cX6_init 48 = .ok (.aload_n 0, 1) := by decide +kernel
theorem dX6_init_49 : decode cX6_init 49 = .ok (.iconst 2, 1) := by decide +kernel
theorem dX6_init_50 : decode cX6_init 50 = .ok (.anewarray 33, 3) := by decide +kernel
theorem dX6_init_53 : decode cX6_init 53 = .ok (.putfield 35, 3) := by decide +kernel
theorem dX6_init_56 : decode cX6_init 56 = .ok (.iconst 0, 1) := by decide +kernel
theorem dX6_init_57 : decode cX6_init 57 = .ok (.istore_n 1, 1) := by decide +kernel
theorem dX6_init_58 : decode cX6_init 58 = .ok (.iload_n 1, 1) := by decide +kernel
theorem dX6_init_59 : decode cX6_init 59 = .ok (.iconst 2, 1) := by decide +kernel
theorem dX6_init_60 : decode cX6_init 60 = .ok (.if_icmp .ge 22, 3) := by decide +kernel
theorem dX6_init_63 : decode cX6_init 63 = .ok (.aload_n 0, 1) := by decide +kernel
theorem dX6_init_64 : decode cX6_init 64 = .ok (.getfield 35, 3) := by decide +kernel
theorem dX6_init_67 : decode cX6_init 67 = .ok (.iload_n 1, 1) := by decide +kernel
theorem dX6_init_68 : decode cX6_init 68 = .ok (.new 33, 3) := by decide +kernel
theorem dX6_init_71 : decode cX6_init 71 = .ok (.dup, 1) := by decide +kernel
theorem dX6_init_72 : decode cX6_init 72 = .ok (.invokespecial 39, 3) := by decide +kernel
theorem dX6_init_75 : decode cX6_init 75 = .ok (.aastore, 1) := by decide +kernel
theorem dX6_init_76 : decode cX6_init 76 = .ok (.iinc 1 1, 3) := by decide +kernel
theorem dX6_init_79 : decode cX6_init 79 = .ok (.goto (-21), 3) := by decide +kernel
theorem dX6_init_82 : decode cX6_init 82 = .ok (.aload_n 0, 1) := by decide +kernel
theorem dX6_init_83 : decode cX6_init 83 = .ok (.iconst 4, 1) := by decide +kernel
theorem dX6_init_84 : decode cX6_init 84 = .ok (.anewarray 40, 3) := by decide +kernel
theorem dX6_init_87 : decode cX6_init 87 = .ok (.putfield 42, 3) := by decide +kernel
theorem dX6_init_90 : decode cX6_init 90 = .ok (.iconst 0, 1) := by decide +kernel
theorem dX6_init_91 : decode cX6_init 91 = .ok (.istore_n 1, 1) := by decide +kernel
theorem dX6_init_92 : decode cX6_init 92 = .ok (.iload_n 1, 1) := by decide +kernel
theorem dX6_init_93 : decode cX6_init 93 = .ok (.iconst 4, 1) := by decide +kernel
theorem dX6_init_94 : decode cX6_init 94 = .ok (.if_icmp .ge 22, 3) := by decide +kernel
theorem dX6_init_97 : decode cX6_init 97 = .ok (.aload_n 0, 1) := by decide +kernel
theorem dX6_init_98 : decode cX6_init 98 = .ok (.getfield 42, 3) := by decide +kernel
theorem dX6_init_101 : decode cX6_init 101 = .ok (.iload_n 1, 1) := by decide +kernel
theorem dX6_init_102 : decode cX6_init 102 = .ok (.new 40, 3) := by decide +kernel
theorem dX6_init_105 : decode cX6_init 105 = .ok (.dup, 1) := by decide +kernel
theorem dX6_init_106 : decode cX6_init 106 = .ok (.invokespecial 46, 3) := by decide +kernel
theorem dX6_init_109 : decode cX6_init 109 = .ok (.aastore, 1) := by decide +kernel
theorem dX6_init_110 : decode cX6_init 110 = .ok (.iinc 1 1, 3) := by decide +kernel
theorem dX6_init_113 : decode cX6_init 113 = .ok (.goto (-21), 3) := by decide +kernel
theorem dX6_init_116 : decode cX6_init 116 = .ok (.return_, 1) := by decide +kernel
theorem dX6_feed_0 : decode cX6_feed 0 = .ok (.iload_n 1, 1) := by decide +kernel
theorem dX6_feed_1 : decode cX6_feed 1 = .ok (.bipush 127, 2) := by decide +kernel
theorem dX6_feed_3 : decode cX6_feed 3 = .ok (.invokestatic 47, 3) := by decide +kernel
theorem dX6_feed_6 : decode cX6_feed 6 = .ok (.ifCond .ne 5, 3) := by decide +kernel
theorem dX6_feed_9 : decode cX6_feed 9 = .ok (.iconst (-1), 1) := by decide +kernel
theorem dX6_feed_10 : decode cX6_feed 10 = .ok (.ireturn, 1) := by decide +kernel
theorem dX6_feed_11 : decode cX6_feed 11 = .ok (.aload_n 0, 1) := by decide +kernel
theorem dX6_feed_12 : decode cX6_feed 12 = .ok (.getfield 10, 3) := by decide +kernel
theorem dX6_feed_15 : decode cX6_feed 15 = .ok (.getfield 51, 3) := by decide +kernel
theorem dX6_feed_18 : decode cX6_feed 18 = .ok (.sipush 160, 3) := by decide +kernel
theorem dX6_feed_21 : decode cX6_feed 21 = .ok (.if_icmp .lt 6, 3) := by decide +kernel
theorem dX6_feed_24 : decode cX6_feed 24 = .ok (.bipush (-3), 2) := by decide +kernel
theorem dX6_feed_26 : decode cX6_feed 26 = .ok (.ireturn, 1) := by decide +kernel
theorem dX6_feed_27 : decode cX6_feed 27 = .ok (.aload_n 0, 1) := by decide +kernel
theorem dX6_feed_28 : decode cX6_feed 28 = .ok (.getfield 10, 3) := by decide +kernel
theorem dX6_feed_31 : decode cX6_feed 31 = .ok (.getfield 55, 3) := by decide +kernel
theorem dX6_feed_34 : decode cX6_feed 34 = .ok (.aload_n 0, 1) := by decide +kernel
theorem dX6_feed_35 : decode cX6_feed 35 = .ok (.getfield 10, 3) := by decide +kernel
theorem dX6_feed_38 : decode cX6_feed 38 = .ok (.getfield 51, 3) := by decide +kernel
theorem dX6_feed_41 : decode cX6_feed 41 = .ok (.iload_n 1, 1) := by decide +kernel
theorem dX6_feed_42 : decode cX6_feed 42 = .ok (.i2b, 1) := by decide +kernel
theorem dX6_feed_43 : decode cX6_feed 43 = .ok (.bastore, 1) := by decide +kernel
theorem dX6_feed_44 : decode cX6_feed 44 = .ok (.aload_n 0, 1) := by decide +kernel
theorem dX6_feed_45 : decode cX6_feed 45 = .ok (.getfield 10, 3) := by decide +kernel
theorem dX6_feed_48 : decode cX6_feed 48 = .ok (.dup, 1) := by decide +kernel
theorem dX6_feed_49 : decode cX6_feed 49 = .ok (.getfield 51, 3) := by decide +kernel
theorem dX6_feed_52 : decode cX6_feed 52 = .ok (.iconst 1, 1) := by decide +kernel
theorem dX6_feed_53 : decode cX6_feed 53 = .ok (.iadd, 1) := by decide +kernel
theorem dX6_feed_54 : decode cX6_feed 54 = .ok (.putfield 51, 3) := by decide +kernel
theorem dX6_feed_57 : decode cX6_feed 57 = .ok (.aload_n 0, 1) := by decide +kernel
theorem dX6_feed_58 : decode cX6_feed 58 = .ok (.getfield 10, 3) := by decide +kernel
theorem dX6_feed_61 : decode cX6_feed 61 = .ok (.getfield 51, 3) := by decide +kernel
theorem dX6_feed_64 : decode cX6_feed 64 = .ok (.ireturn, 1) := by decide +kernel
theorem dX6_end_0 : decode cX6_end 0 = .ok (.iload_n 1, 1) := by decide +kernel
theorem dX6_end_1 : decode cX6_end 1 = .ok (.aload_n 0, 1) := by decide +kernel
theorem dX6_end_2 : decode cX6_end 2 = .ok (.getfield 10, 3) := by decide +kernel
theorem dX6_end_5 : decode cX6_end 5 = .ok (.getfield 51, 3) := by decide +kernel
theorem dX6_end_8 : decode cX6_end 8 = .ok (.invokestatic 47, 3) := by decide +kernel
theorem dX6_end_11 : decode cX6_end 11 = .ok (.ifCond .ne 5, 3) := by decide +kernel
theorem dX6_end_14 : decode cX6_end 14 = .ok (.iconst (-1), 1) := by decide +kernel
theorem dX6_end_15 : decode cX6_end 15 = .ok (.ireturn, 1) := by decide +kernel
theorem dX6_end_16 : decode cX6_end 16 = .ok (.aload_n 0, 1) := by decide +kernel
theorem dX6_end_17 : decode cX6_end 17 = .ok (.getfield 10, 3) := by decide +kernel
theorem dX6_end_20 : decode cX6_end 20 = .ok (.getfield 51, 3) := by decide +kernel
theorem dX6_end_23 : decode cX6_end 23 = .ok (.istore_n 2, 1) := by decide +kernel
theorem dX6_end_24 : decode cX6_end 24 = .ok (.aload_n 0, 1) := by decide +kernel
theorem dX6_end_25 : decode cX6_end 25 = .ok (.getfield 10, 3) := by decide +kernel
theorem dX6_end_28 : decode cX6_end 28 = .ok (.iload_n 1, 1) := by decide +kernel
theorem dX6_end_29 : decode cX6_end 29 = .ok (.putfield 51, 3) := by decide +kernel
theorem dX6_end_32 : decode cX6_end 32 = .ok (.iload_n 2, 1) := by decide +kernel
theorem dX6_end_33 : decode cX6_end 33 = .ok (.ireturn, 1) := by decide +kernel
theorem dX6_text_0 : decode cX6_text 0 = .ok (.aload_n 0, 1) := by decide +kernel
theorem dX6_text_1 : decode cX6_text 1 = .ok (.getfield 10, 3) := by decide +kernel
theorem dX6_text_4 : decode cX6_text 4 = .ok (.invokevirtual 59, 3) := by decide +kernel
theorem dX6_text_7 : decode cX6_text 7 = .ok (.istore_n 1, 1) := by decide +kernel
theorem dX6_text_8 : decode cX6_text 8 = .ok (.aload_n 0, 1) := by decide +kernel
theorem dX6_text_9 : decode cX6_text 9 = .ok (.getfield 10, 3) := by decide +kernel
theorem dX6_text_12 : decode cX6_text 12 = .ok (.iconst 0, 1) := by decide +kernel
theorem dX6_text_13 : decode cX6_text 13 = .ok (.putfield 51, 3) := by decide +kernel
theorem dX6_text_16 : decode cX6_text 16 = .ok (.aload_n 0, 1) := by decide +kernel
theorem dX6_text_17 : decode cX6_text 17 = .ok (.getfield 10, 3) := by decide +kernel
theorem dX6_text_20 : decode cX6_text 20 = .ok (.getfield 63, 3) := by decide +kernel
theorem dX6_text_23 : decode cX6_text 23 = .ok (.ifCond .eq 14, 3) := by decide +kernel
theorem dX6_text_26 : decode cX6_text 26 = .ok (.bipush (-10), 2) := by decide +kernel
theorem dX6_text_28 : decode cX6_text 28 = .ok (.aload_n 0, 1) := by decide +kernel
theorem dX6_text_29 : decode cX6_text 29 = .ok (.getfield 10, 3) := by decide +kernel
theorem dX6_text_32 : decode cX6_text 32 = .ok (.getfield 66, 3) := by decide +kernel
theorem dX6_text_35 : decode cX6_text 35 = .ok (.isub, 1) := by decide +kernel
theorem dX6_text_36 : decode cX6_text 36 = .ok (.ireturn, 1) := by decide +kernel
theorem dX6_text_37 : decode cX6_text 37 = .ok (.aload_n 0, 1) := by decide +kernel
theorem dX6_text_38 : decode cX6_text 38 = .ok (.getfield 19, 3) := by decide +kernel
theorem dX6_text_41 : decode cX6_text 41 = .ok (.aload_n 0, 1) := by decide +kernel
theorem dX6_text_42 : decode cX6_text 42 = .ok (.getfield 10, 3) := by decide +kernel
theorem dX6_text_45 : decode cX6_text 45 = .ok (.getfield 69, 3) := by decide +kernel
theorem dX6_text_48 : decode cX6_text 48 = .ok (.invokevirtual 72, 3) := by decide +kernel
theorem dX6_text_51 : decode cX6_text 51 = .ok (.aload_n 0, 1) := by decide +kernel
theorem dX6_text_52 : decode cX6_text 52 = .ok (.getfield 29, 3) := by decide +kernel
theorem dX6_text_55 : decode cX6_text 55 = .ok (.iconst 0, 1) := by decide +kernel
theorem dX6_text_56 : decode cX6_text 56 = .ok (.putfield 76, 3) := by decide +kernel
theorem dX6_text_59 : decode cX6_text 59 = .ok (.iconst 0, 1) := by decide +kernel
theorem dX6_text_60 : decode cX6_text 60 = .ok (.istore_n 2, 1) := by decide +kernel
theorem dX6_text_61 : decode cX6_text 61 = .ok (.iload_n 2, 1) := by decide +kernel
theorem dX6_text_62 : decode cX6_text 62 = .ok (.iconst 2, 1) := by decide +kernel
theorem dX6_text_63 : decode cX6_text 63 = .ok (.if_icmp .ge 19, 3) := by decide +kernel
theorem dX6_text_66 : decode cX6_text 66 = .ok (.aload_n 0, 1) := by decide +kernel
theorem dX6_text_67 : decode cX6_text 67 = .ok (.getfield 35, 3) := by decide +kernel
theorem dX6_text_70 : decode cX6_text 70 = .ok (.iload_n 2, 1) := by decide +kernel
theorem dX6_text_71 : decode cX6_text 71 = .ok (.aaload, 1) := by decide +kernel
theorem dX6_text_72 : decode cX6_text 72 = .ok (.iconst 0, 1) := by decide +kernel
theorem dX6_text_73 : decode cX6_text 73 = .ok (.putfield 79, 3) := by decide +kernel
theorem dX6_text_76 : decode cX6_text 76 = .ok (.iinc 2 1, 3) := by decide +kernel
theorem dX6_text_79 : decode cX6_text 79 = .ok (.goto (-18), 3) := by decide +kernel
theorem dX6_text_82 : decode cX6_text 82 = .ok (.iload_n 1, 1) := by decide +kernel
theorem dX6_text_83 : decode cX6_text 83 = .ok (.ireturn, 1) := by decide +kernel
theorem dX6_fault_0 : decode cX6_fault 0 = .ok (.aload_n 0, 1) := by decide +kernel
theorem dX6_fault_1 : decode cX6_fault 1 = .ok (.getfield 10, 3) := by decide +kernel
theorem dX6_fault_4 : decode cX6_fault 4 = .ok (.getfield 63, 3) := by decide +kernel
theorem dX6_fault_7 : decode cX6_fault 7 = .ok (.ireturn, 1) := by decide +kernel
theorem dX6_rule_0 : decode cX6_rule 0 = .ok (.iload_n 1, 1) := by decide +kernel
theorem dX6_rule_1 : decode cX6_rule 1 = .ok (.tableswitch 102 0 6 #[43, 51, 59, 67, 75, 86, 94], 43) := by decide +kernel
theorem dX6_rule_44 : decode cX6_rule 44 = .ok (.aload_n 0, 1) := by decide +kernel
theorem dX6_rule_45 : decode cX6_rule 45 = .ok (.getfield 19, 3) := by decide +kernel
theorem dX6_rule_48 : decode cX6_rule 48 = .ok (.getfield 83, 3) := by decide +kernel
theorem dX6_rule_51 : decode cX6_rule 51 = .ok (.ireturn, 1) := by decide +kernel
theorem dX6_rule_52 : decode cX6_rule 52 = .ok (.aload_n 0, 1) := by decide +kernel
theorem dX6_rule_53 : decode cX6_rule 53 = .ok (.getfield 19, 3) := by decide +kernel
theorem dX6_rule_56 : decode cX6_rule 56 = .ok (.getfield 86, 3) := by decide +kernel
theorem dX6_rule_59 : decode cX6_rule 59 = .ok (.ireturn, 1) := by decide +kernel
theorem dX6_rule_60 : decode cX6_rule 60 = .ok (.aload_n 0, 1) := by decide +kernel
theorem dX6_rule_61 : decode cX6_rule 61 = .ok (.getfield 19, 3) := by decide +kernel
theorem dX6_rule_64 : decode cX6_rule 64 = .ok (.getfield 89, 3) := by decide +kernel
theorem dX6_rule_67 : decode cX6_rule 67 = .ok (.ireturn, 1) := by decide +kernel
theorem dX6_rule_68 : decode cX6_rule 68 = .ok (.aload_n 0, 1) := by decide +kernel
theorem dX6_rule_69 : decode cX6_rule 69 = .ok (.getfield 19, 3) := by decide +kernel
theorem dX6_rule_72 : decode cX6_rule 72 = .ok (.getfield 92, 3) := by decide +kernel
theorem dX6_rule_75 : decode cX6_rule 75 = .ok (.ireturn, 1) := by decide +kernel
theorem dX6_rule_76 : decode cX6_rule 76 = .ok (.ldc 95, 2) := by decide +kernel
theorem dX6_rule_78 : decode cX6_rule 78 = .ok (.aload_n 0, 1) := by decide +kernel
theorem dX6_rule_79 : decode cX6_rule 79 = .ok (.getfield 19, 3) := by decide +kernel
theorem dX6_rule_82 : decode cX6_rule 82 = .ok (.getfield 96, 3) := by decide +kernel
theorem dX6_rule_85 : decode cX6_rule 85 = .ok (.iadd, 1) := by decide +kernel
theorem dX6_rule_86 : decode cX6_rule 86 = .ok (.ireturn, 1) := by decide +kernel
theorem dX6_rule_87 : decode cX6_rule 87 = .ok (.aload_n 0, 1) := by decide +kernel
theorem dX6_rule_88 : decode cX6_rule 88 = .ok (.getfield 19, 3) := by decide +kernel
theorem dX6_rule_91 : decode cX6_rule 91 = .ok (.invokevirtual 99, 3) := by decide +kernel
theorem dX6_rule_94 : decode cX6_rule 94 = .ok (.ireturn, 1) := by decide +kernel
theorem dX6_rule_95 : decode cX6_rule 95 = .ok (.aload_n 0, 1) := by decide +kernel
theorem dX6_rule_96 : decode cX6_rule 96 = .ok (.getfield 19, 3) := by decide +kernel
theorem dX6_rule_99 : decode cX6_rule 99 = .ok (.invokevirtual 102, 3) := by decide +kernel
theorem dX6_rule_102 : decode cX6_rule 102 = .ok (.ireturn, 1) := by decide +kernel
theorem dX6_rule_103 : decode cX6_rule 103 = .ok (.iconst (-1), 1) := by decide +kernel
theorem dX6_rule_104 : decode cX6_rule 104 = .ok (.ireturn, 1) := by decide +kernel
theorem dX6_rotor_0 : decode cX6_rotor 0 = .ok (.aload_n 0, 1) := by decide +kernel
theorem dX6_rotor_1 : decode cX6_rotor 1 = .ok (.iload_n 1, 1) := by decide +kernel
theorem dX6_rotor_2 : decode cX6_rotor 2 = .ok (.invokevirtual 105, 3) := by decide +kernel
theorem dX6_rotor_5 : decode cX6_rotor 5 = .ok (.ifCond .ne 5, 3) := by decide +kernel
theorem dX6_rotor_8 : decode cX6_rotor 8 = .ok (.iconst (-1), 1) := by decide +kernel
theorem dX6_rotor_9 : decode cX6_rotor 9 = .ok (.ireturn, 1) := by decide +kernel
theorem dX6_rotor_10 : decode cX6_rotor 10 = .ok (.aload_n 0, 1) := by decide +kernel
theorem dX6_rotor_11 : decode cX6_rotor 11 = .ok (.getfield 19, 3) := by decide +kernel
theorem dX6_rotor_14 : decode cX6_rotor 14 = .ok (.getfield 109, 3) := by decide +kernel
theorem dX6_rotor_17 : decode cX6_rotor 17 = .ok (.iload_n 1, 1) := by decide +kernel
theorem dX6_rotor_18 : decode cX6_rotor 18 = .ok (.aaload, 1) := by decide +kernel
theorem dX6_rotor_19 : decode cX6_rotor 19 = .ok (.astore_n 3, 1) := by decide +kernel
theorem dX6_rotor_20 : decode cX6_rotor 20 = .ok (.iload_n 2, 1) := by decide +kernel
theorem dX6_rotor_21 : decode cX6_rotor 21 = .ok (.tableswitch 95 0 5 #[39, 44, 49, 57, 65, 80], 39) := by decide +kernel
theorem dX6_rotor_60 : decode cX6_rotor 60 = .ok (.aload_n 3, 1) := by decide +kernel
theorem dX6_rotor_61 : decode cX6_rotor 61 = .ok (.getfield 113, 3) := by decide +kernel
theorem dX6_rotor_64 : decode cX6_rotor 64 = .ok (.ireturn, 1) := by decide +kernel
theorem dX6_rotor_65 : decode cX6_rotor 65 = .ok (.aload_n 3, 1) := by decide +kernel
theorem dX6_rotor_66 : decode cX6_rotor 66 = .ok (.getfield 118, 3) := by decide +kernel
theorem dX6_rotor_69 : decode cX6_rotor 69 = .ok (.ireturn, 1) := by decide +kernel
theorem dX6_rotor_70 : decode cX6_rotor 70 = .ok (.ldc 95, 2) := by decide +kernel
theorem dX6_rotor_72 : decode cX6_rotor 72 = .ok (.aload_n 3, 1) := by decide +kernel
theorem dX6_rotor_73 : decode cX6_rotor 73 = .ok (.getfield 121, 3) := by decide +kernel
theorem dX6_rotor_76 : decode cX6_rotor 76 = .ok (.iadd, 1) := by decide +kernel
theorem dX6_rotor_77 : decode cX6_rotor 77 = .ok (.ireturn, 1) := by decide +kernel
theorem dX6_rotor_78 : decode cX6_rotor 78 = .ok (.bipush 10, 2) := by decide +kernel
theorem dX6_rotor_80 : decode cX6_rotor 80 = .ok (.aload_n 3, 1) := by decide +kernel
theorem dX6_rotor_81 : decode cX6_rotor 81 = .ok (.getfield 124, 3) := by decide +kernel
theorem dX6_rotor_84 : decode cX6_rotor 84 = .ok (.iadd, 1) := by decide +kernel
theorem dX6_rotor_85 : decode cX6_rotor 85 = .ok (.ireturn, 1) := by decide +kernel
theorem dX6_rotor_86 : decode cX6_rotor 86 = .ok (.bipush 10, 2) := by decide +kernel
theorem dX6_rotor_88 : decode cX6_rotor 88 = .ok (.aload_n 3, 1) := by decide +kernel
theorem dX6_rotor_89 : decode cX6_rotor 89 = .ok (.aload_n 0, 1) := by decide +kernel
theorem dX6_rotor_90 : decode cX6_rotor 90 = .ok (.getfield 19, 3) := by decide +kernel
theorem dX6_rotor_93 : decode cX6_rotor 93 = .ok (.getfield 96, 3) := by decide +kernel
theorem dX6_rotor_96 : decode cX6_rotor 96 = .ok (.invokevirtual 127, 3) := by decide +kernel
theorem dX6_rotor_99 : decode cX6_rotor 99 = .ok (.iadd, 1) := by decide +kernel
theorem dX6_rotor_100 : decode cX6_rotor 100 = .ok (.ireturn, 1) := by decide +kernel
theorem dX6_rotor_101 : decode cX6_rotor 101 = .ok (.ldc 95, 2) := by decide +kernel
theorem dX6_rotor_103 : decode cX6_rotor 103 = .ok (.aload_n 3, 1) := by decide +kernel
theorem dX6_rotor_104 : decode cX6_rotor 104 = .ok (.aload_n 0, 1) := by decide +kernel
theorem dX6_rotor_105 : decode cX6_rotor 105 = .ok (.getfield 19, 3) := by decide +kernel
theorem dX6_rotor_108 : decode cX6_rotor 108 = .ok (.getfield 96, 3) := by decide +kernel
theorem dX6_rotor_111 : decode cX6_rotor 111 = .ok (.invokevirtual 131, 3) := by decide +kernel
theorem dX6_rotor_114 : decode cX6_rotor 114 = .ok (.iadd, 1) := by decide +kernel
theorem dX6_rotor_115 : decode cX6_rotor 115 = .ok (.ireturn, 1) := by decide +kernel
theorem dX6_rotor_116 : decode cX6_rotor 116 = .ok (.iconst (-1), 1) := by decide +kernel
theorem dX6_rotor_117 : decode cX6_rotor 117 = .ok (.ireturn, 1) := by decide +kernel
theorem dX6_sign_0 : decode cX6_sign 0 = .ok (.aload_n 0, 1) := by decide +kernel
theorem dX6_sign_1 : decode cX6_sign 1 = .ok (.iload_n 1, 1) := by decide +kernel
theorem dX6_sign_2 : decode cX6_sign 2 = .ok (.invokevirtual 134, 3) := by decide +kernel
theorem dX6_sign_5 : decode cX6_sign 5 = .ok (.ifCond .eq 15, 3) := by decide +kernel
theorem dX6_sign_8 : decode cX6_sign 8 = .ok (.aload_n 0, 1) := by decide +kernel
theorem dX6_sign_9 : decode cX6_sign 9 = .ok (.getfield 19, 3) := by decide +kernel
theorem dX6_sign_12 : decode cX6_sign 12 = .ok (.getfield 137, 3) := by decide +kernel
theorem dX6_sign_15 : decode cX6_sign 15 = .ok (.iload_n 1, 1) := by decide +kernel
theorem dX6_sign_16 : decode cX6_sign 16 = .ok (.iaload, 1) := by decide +kernel
theorem dX6_sign_17 : decode cX6_sign 17 = .ok (.goto 4, 3) := by decide +kernel
theorem dX6_sign_20 : decode cX6_sign 20 = .ok (.iconst (-1), 1) := by decide +kernel
theorem dX6_sign_21 : decode cX6_sign 21 = .ok (.ireturn, 1) := by decide +kernel
theorem dX6_alter_0 : decode cX6_alter 0 = .ok (.aload_n 0, 1) := by decide +kernel
theorem dX6_alter_1 : decode cX6_alter 1 = .ok (.iload_n 1, 1) := by decide +kernel
theorem dX6_alter_2 : decode cX6_alter 2 = .ok (.invokevirtual 105, 3) := by decide +kernel
theorem dX6_alter_5 : decode cX6_alter 5 = .ok (.ifCond .eq 27, 3) := by decide +kernel
theorem dX6_alter_8 : decode cX6_alter 8 = .ok (.iload_n 2, 1) := by decide +kernel
theorem dX6_alter_9 : decode cX6_alter 9 = .ok (.iconst 1, 1) := by decide +kernel
theorem dX6_alter_10 : decode cX6_alter 10 = .ok (.invokestatic 47, 3) := by decide +kernel
theorem dX6_alter_13 : decode cX6_alter 13 = .ok (.ifCond .eq 19, 3) := by decide +kernel
theorem dX6_alter_16 : decode cX6_alter 16 = .ok (.iload_n 3, 1) := by decide +kernel
theorem dX6_alter_17 : decode cX6_alter 17 = .ok (.iload_n 2, 1) := by decide +kernel
theorem dX6_alter_18 : decode cX6_alter 18 = .ok (.ifCond .ne 7, 3) := by decide +kernel
theorem dX6_alter_21 : decode cX6_alter 21 = .ok (.iconst 3, 1) := by decide +kernel
theorem dX6_alter_22 : decode cX6_alter 22 = .ok (.goto 4, 3) := by decide +kernel
theorem dX6_alter_25 : decode cX6_alter 25 = .ok (.iconst 3, 1) := by decide +kernel
theorem dX6_alter_26 : decode cX6_alter 26 = .ok (.invokestatic 47, 3) := by decide +kernel
theorem dX6_alter_29 : decode cX6_alter 29 = .ok (.ifCond .ne 5, 3) := by decide +kernel
theorem dX6_alter_32 : decode cX6_alter 32 = .ok (.iconst (-1), 1) := by decide +kernel
theorem dX6_alter_33 : decode cX6_alter 33 = .ok (.ireturn, 1) := by decide +kernel
theorem dX6_alter_34 : decode cX6_alter 34 = .ok (.aload_n 0, 1) := by decide +kernel
theorem dX6_alter_35 : decode cX6_alter 35 = .ok (.getfield 19, 3) := by decide +kernel
theorem dX6_alter_38 : decode cX6_alter 38 = .ok (.getfield 109, 3) := by decide +kernel
theorem dX6_alter_41 : decode cX6_alter 41 = .ok (.iload_n 1, 1) := by decide +kernel
theorem dX6_alter_42 : decode cX6_alter 42 = .ok (.aaload, 1) := by decide +kernel
theorem dX6_alter_43 : decode cX6_alter 43 = .ok (.astore 4, 2) := by decide +kernel
theorem dX6_alter_45 : decode cX6_alter 45 = .ok (.iload_n 2, 1) := by decide +kernel
theorem dX6_alter_46 : decode cX6_alter 46 = .ok (.ifCond .ne 19, 3) := by decide +kernel
theorem dX6_alter_49 : decode cX6_alter 49 = .ok (.aload 4, 2) := by decide +kernel
theorem dX6_alter_51 : decode cX6_alter 51 = .ok (.getfield 113, 3) := by decide +kernel
theorem dX6_alter_54 : decode cX6_alter 54 = .ok (.istore 5, 2) := by decide +kernel
theorem dX6_alter_56 : decode cX6_alter 56 = .ok (.aload 4, 2) := by decide +kernel
theorem dX6_alter_58 : decode cX6_alter 58 = .ok (.iload_n 3, 1) := by decide +kernel
theorem dX6_alter_59 : decode cX6_alter 59 = .ok (.putfield 113, 3) := by decide +kernel
theorem dX6_alter_62 : decode cX6_alter 62 = .ok (.goto 16, 3) := by decide +kernel
theorem dX6_alter_65 : decode cX6_alter 65 = .ok (.aload 4, 2) := by decide +kernel
theorem dX6_alter_67 : decode cX6_alter 67 = .ok (.getfield 118, 3) := by decide +kernel
theorem dX6_alter_70 : decode cX6_alter 70 = .ok (.istore 5, 2) := by decide +kernel
theorem dX6_alter_72 : decode cX6_alter 72 = .ok (.aload 4, 2) := by decide +kernel
theorem dX6_alter_74 : decode cX6_alter 74 = .ok (.iload_n 3, 1) := by decide +kernel
theorem dX6_alter_75 : decode cX6_alter 75 = .ok (.putfield 118, 3) := by decide +kernel
theorem dX6_alter_78 : decode cX6_alter 78 = .ok (.iload 5, 2) := by decide +kernel
theorem dX6_alter_80 : decode cX6_alter 80 = .ok (.ireturn, 1) := by decide +kernel
theorem dX6_turn_0 : decode cX6_turn 0 = .ok (.aload_n 0, 1) := by decide +kernel
theorem dX6_turn_1 : decode cX6_turn 1 = .ok (.iload_n 1, 1) := by decide +kernel
theorem dX6_turn_2 : decode cX6_turn 2 = .ok (.invokevirtual 105, 3) := by decide +kernel
theorem dX6_turn_5 : decode cX6_turn 5 = .ok (.ifCond .eq 12, 3) := by decide +kernel
theorem dX6_turn_8 : decode cX6_turn 8 = .ok (.iload_n 2, 1) := by decide +kernel
theorem dX6_turn_9 : decode cX6_turn 9 = .ok (.bipush 16, 2) := by decide +kernel
theorem dX6_turn_11 : decode cX6_turn 11 = .ok (.invokestatic 47, 3) := by decide +kernel
theorem dX6_turn_14 : decode cX6_turn 14 = .ok (.ifCond .ne 5, 3) := by decide +kernel
theorem dX6_turn_17 : decode cX6_turn 17 = .ok (.iconst (-1), 1) := by decide +kernel
theorem dX6_turn_18 : decode cX6_turn 18 = .ok (.ireturn, 1) := by decide +kernel
theorem dX6_turn_19 : decode cX6_turn 19 = .ok (.aload_n 0, 1) := by decide +kernel
theorem dX6_turn_20 : decode cX6_turn 20 = .ok (.getfield 19, 3) := by decide +kernel
theorem dX6_turn_23 : decode cX6_turn 23 = .ok (.getfield 109, 3) := by decide +kernel
theorem dX6_turn_26 : decode cX6_turn 26 = .ok (.iload_n 1, 1) := by decide +kernel
theorem dX6_turn_27 : decode cX6_turn 27 = .ok (.aaload, 1) := by decide +kernel
theorem dX6_turn_28 : decode cX6_turn 28 = .ok (.astore_n 3, 1) := by decide +kernel
theorem dX6_turn_29 : decode cX6_turn 29 = .ok (.aload_n 3, 1) := by decide +kernel
theorem dX6_turn_30 : decode cX6_turn 30 = .ok (.getfield 121, 3) := by decide +kernel
theorem dX6_turn_33 : decode cX6_turn 33 = .ok (.iload_n 2, 1) := by decide +kernel
theorem dX6_turn_34 : decode cX6_turn 34 = .ok (.iadd, 1) := by decide +kernel
theorem dX6_turn_35 : decode cX6_turn 35 = .ok (.bipush 8, 2) := by decide +kernel
theorem dX6_turn_37 : decode cX6_turn 37 = .ok (.isub, 1) := by decide +kernel
theorem dX6_turn_38 : decode cX6_turn 38 = .ok (.istore 4, 2) := by decide +kernel
theorem dX6_turn_40 : decode cX6_turn 40 = .ok (.iload 4, 2) := by decide +kernel
theorem dX6_turn_42 : decode cX6_turn 42 = .ok (.invokestatic 141, 3) := by decide +kernel
theorem dX6_turn_45 : decode cX6_turn 45 = .ok (.sipush 30000, 3) := by decide +kernel
theorem dX6_turn_48 : decode cX6_turn 48 = .ok (.if_icmp .le 6, 3) := by decide +kernel
theorem dX6_turn_51 : decode cX6_turn 51 = .ok (.bipush (-3), 2) := by decide +kernel
theorem dX6_turn_53 : decode cX6_turn 53 = .ok (.ireturn, 1) := by decide +kernel
theorem dX6_turn_54 : decode cX6_turn 54 = .ok (.aload_n 3, 1) := by decide +kernel
theorem dX6_turn_55 : decode cX6_turn 55 = .ok (.iload 4, 2) := by decide +kernel
theorem dX6_turn_57 : decode cX6_turn 57 = .ok (.putfield 121, 3) := by decide +kernel
theorem dX6_turn_60 : decode cX6_turn 60 = .ok (.aload_n 3, 1) := by decide +kernel
theorem dX6_turn_61 : decode cX6_turn 61 = .ok (.iconst 0, 1) := by decide +kernel
theorem dX6_turn_62 : decode cX6_turn 62 = .ok (.putfield 124, 3) := by decide +kernel
theorem dX6_turn_65 : decode cX6_turn 65 = .ok (.ldc 95, 2) := by decide +kernel
theorem dX6_turn_67 : decode cX6_turn 67 = .ok (.iload 4, 2) := by decide +kernel
theorem dX6_turn_69 : decode cX6_turn 69 = .ok (.iadd, 1) := by decide +kernel
theorem dX6_turn_70 : decode cX6_turn 70 = .ok (.ireturn, 1) := by decide +kernel
theorem dX6_set_0 : decode cX6_set 0 = .ok (.aload_n 0, 1) := by decide +kernel
theorem dX6_set_1 : decode cX6_set 1 = .ok (.iload_n 1, 1) := by decide +kernel
theorem dX6_set_2 : decode cX6_set 2 = .ok (.iload_n 2, 1) := by decide +kernel
theorem dX6_set_3 : decode cX6_set 3 = .ok (.invokevirtual 146, 3) := by decide +kernel
theorem dX6_set_6 : decode cX6_set 6 = .ok (.ifCond .ne 5, 3) := by decide +kernel
theorem dX6_set_9 : decode cX6_set 9 = .ok (.iconst (-1), 1) := by decide +kernel
theorem dX6_set_10 : decode cX6_set 10 = .ok (.ireturn, 1) := by decide +kernel
theorem dX6_set_11 : decode cX6_set 11 = .ok (.aload_n 0, 1) := by decide +kernel
theorem dX6_set_12 : decode cX6_set 12 = .ok (.getfield 19, 3) := by decide +kernel
theorem dX6_set_15 : decode cX6_set 15 = .ok (.getfield 137, 3) := by decide +kernel
theorem dX6_set_18 : decode cX6_set 18 = .ok (.iload_n 1, 1) := by decide +kernel
theorem dX6_set_19 : decode cX6_set 19 = .ok (.iaload, 1) := by decide +kernel
theorem dX6_set_20 : decode cX6_set 20 = .ok (.istore_n 3, 1) := by decide +kernel
theorem dX6_set_21 : decode cX6_set 21 = .ok (.aload_n 0, 1) := by decide +kernel
theorem dX6_set_22 : decode cX6_set 22 = .ok (.getfield 19, 3) := by decide +kernel
theorem dX6_set_25 : decode cX6_set 25 = .ok (.getfield 137, 3) := by decide +kernel
theorem dX6_set_28 : decode cX6_set 28 = .ok (.iload_n 1, 1) := by decide +kernel
theorem dX6_set_29 : decode cX6_set 29 = .ok (.iload_n 2, 1) := by decide +kernel
theorem dX6_set_30 : decode cX6_set 30 = .ok (.iastore, 1) := by decide +kernel
theorem dX6_set_31 : decode cX6_set 31 = .ok (.iload_n 3, 1) := by decide +kernel
theorem dX6_set_32 : decode cX6_set 32 = .ok (.ireturn, 1) := by decide +kernel
theorem dX6_every_0 : decode cX6_every 0 = .ok (.iload_n 1, 1) := by decide +kernel
theorem dX6_every_1 : decode cX6_every 1 = .ok (.iconst 1, 1) := by decide +kernel
theorem dX6_every_2 : decode cX6_every 2 = .ok (.if_icmp .lt 9, 3) := by decide +kernel
theorem dX6_every_5 : decode cX6_every 5 = .ok (.iload_n 1, 1) := by decide +kernel
theorem dX6_every_6 : decode cX6_every 6 = .ok (.bipush 9, 2) := by decide +kernel
theorem dX6_every_8 : decode cX6_every 8 = .ok (.if_icmp .le 5, 3) := by decide +kernel
theorem dX6_every_11 : decode cX6_every 11 = .ok (.iconst (-1), 1) := by decide +kernel
theorem dX6_every_12 : decode cX6_every 12 = .ok (.ireturn, 1) := by decide +kernel
theorem dX6_every_13 : decode cX6_every 13 = .ok (.aload_n 0, 1) := by decide +kernel
theorem dX6_every_14 : decode cX6_every 14 = .ok (.getfield 19, 3) := by decide +kernel
theorem dX6_every_17 : decode cX6_every 17 = .ok (.getfield 92, 3) := by decide +kernel
theorem dX6_every_20 : decode cX6_every 20 = .ok (.istore_n 2, 1) := by decide +kernel
theorem dX6_every_21 : decode cX6_every 21 = .ok (.aload_n 0, 1) := by decide +kernel
theorem dX6_every_22 : decode cX6_every 22 = .ok (.getfield 19, 3) := by decide +kernel
theorem dX6_every_25 : decode cX6_every 25 = .ok (.iload_n 1, 1) := by decide +kernel
theorem dX6_every_26 : decode cX6_every 26 = .ok (.putfield 92, 3) := by decide +kernel
theorem dX6_every_29 : decode cX6_every 29 = .ok (.iload_n 2, 1) := by decide +kernel
theorem dX6_every_30 : decode cX6_every 30 = .ok (.ireturn, 1) := by decide +kernel
theorem dX6_add_0 : decode cX6_add 0 = .ok (.iload_n 1, 1) := by decide +kernel
theorem dX6_add_1 : decode cX6_add 1 = .ok (.iconst 3, 1) := by decide +kernel
theorem dX6_add_2 : decode cX6_add 2 = .ok (.invokestatic 47, 3) := by decide +kernel
theorem dX6_add_5 : decode cX6_add 5 = .ok (.ifCond .ne 5, 3) := by decide +kernel
theorem dX6_add_8 : decode cX6_add 8 = .ok (.iconst (-1), 1) := by decide +kernel
theorem dX6_add_9 : decode cX6_add 9 = .ok (.ireturn, 1) := by decide +kernel
theorem dX6_add_10 : decode cX6_add 10 = .ok (.aload_n 0, 1) := by decide +kernel
theorem dX6_add_11 : decode cX6_add 11 = .ok (.getfield 19, 3) := by decide +kernel
theorem dX6_add_14 : decode cX6_add 14 = .ok (.iload_n 1, 1) := by decide +kernel
theorem dX6_add_15 : decode cX6_add 15 = .ok (.invokevirtual 149, 3) := by decide +kernel
theorem dX6_add_18 : decode cX6_add 18 = .ok (.ifCond .eq 13, 3) := by decide +kernel
theorem dX6_add_21 : decode cX6_add 21 = .ok (.aload_n 0, 1) := by decide +kernel
theorem dX6_add_22 : decode cX6_add 22 = .ok (.getfield 19, 3) := by decide +kernel
theorem dX6_add_25 : decode cX6_add 25 = .ok (.getfield 86, 3) := by decide +kernel
theorem dX6_add_28 : decode cX6_add 28 = .ok (.goto 5, 3) := by decide +kernel
theorem dX6_add_31 : decode cX6_add 31 = .ok (.bipush (-3), 2) := by decide +kernel
theorem dX6_add_33 : decode cX6_add 33 = .ok (.ireturn, 1) := by decide +kernel
theorem dX6_cut_0 : decode cX6_cut 0 = .ok (.iload_n 1, 1) := by decide +kernel
theorem dX6_cut_1 : decode cX6_cut 1 = .ok (.aload_n 0, 1) := by decide +kernel
theorem dX6_cut_2 : decode cX6_cut 2 = .ok (.getfield 19, 3) := by decide +kernel
theorem dX6_cut_5 : decode cX6_cut 5 = .ok (.getfield 86, 3) := by decide +kernel
theorem dX6_cut_8 : decode cX6_cut 8 = .ok (.invokestatic 47, 3) := by decide +kernel
theorem dX6_cut_11 : decode cX6_cut 11 = .ok (.ifCond .ne 5, 3) := by decide +kernel
theorem dX6_cut_14 : decode cX6_cut 14 = .ok (.iconst (-1), 1) := by decide +kernel
theorem dX6_cut_15 : decode cX6_cut 15 = .ok (.ireturn, 1) := by decide +kernel
theorem dX6_cut_16 : decode cX6_cut 16 = .ok (.aload_n 0, 1) := by decide +kernel
theorem dX6_cut_17 : decode cX6_cut 17 = .ok (.getfield 19, 3) := by decide +kernel
theorem dX6_cut_20 : decode cX6_cut 20 = .ok (.getfield 86, 3) := by decide +kernel
theorem dX6_cut_23 : decode cX6_cut 23 = .ok (.istore_n 2, 1) := by decide +kernel
theorem dX6_cut_24 : decode cX6_cut 24 = .ok (.aload_n 0, 1) := by decide +kernel
theorem dX6_cut_25 : decode cX6_cut 25 = .ok (.getfield 19, 3) := by decide +kernel
theorem dX6_cut_28 : decode cX6_cut 28 = .ok (.iload_n 1, 1) := by decide +kernel
theorem dX6_cut_29 : decode cX6_cut 29 = .ok (.putfield 86, 3) := by decide +kernel
theorem dX6_cut_32 : decode cX6_cut 32 = .ok (.iload_n 2, 1) := by decide +kernel
theorem dX6_cut_33 : decode cX6_cut 33 = .ok (.ireturn, 1) := by decide +kernel
theorem dX6_ticks_0 : decode cX6_ticks 0 = .ok (.iload_n 1, 1) := by decide +kernel
theorem dX6_ticks_1 : decode cX6_ticks 1 = .ok (.bipush 100, 2) := by decide +kernel
theorem dX6_ticks_3 : decode cX6_ticks 3 = .ok (.invokestatic 47, 3) := by decide +kernel
theorem dX6_ticks_6 : decode cX6_ticks 6 = .ok (.ifCond .ne 5, 3) := by decide +kernel
theorem dX6_ticks_9 : decode cX6_ticks 9 = .ok (.iconst (-1), 1) := by decide +kernel
theorem dX6_ticks_10 : decode cX6_ticks 10 = .ok (.ireturn, 1) := by decide +kernel
theorem dX6_ticks_11 : decode cX6_ticks 11 = .ok (.aload_n 0, 1) := by decide +kernel
theorem dX6_ticks_12 : decode cX6_ticks 12 = .ok (.getfield 19, 3) := by decide +kernel
theorem dX6_ticks_15 : decode cX6_ticks 15 = .ok (.getfield 89, 3) := by decide +kernel
theorem dX6_ticks_18 : decode cX6_ticks 18 = .ok (.iload_n 1, 1) := by decide +kernel
theorem dX6_ticks_19 : decode cX6_ticks 19 = .ok (.iadd, 1) := by decide +kernel
theorem dX6_ticks_20 : decode cX6_ticks 20 = .ok (.sipush 10000, 3) := by decide +kernel
theorem dX6_ticks_23 : decode cX6_ticks 23 = .ok (.if_icmp .lt 6, 3) := by decide +kernel
theorem dX6_ticks_26 : decode cX6_ticks 26 = .ok (.bipush (-3), 2) := by decide +kernel
theorem dX6_ticks_28 : decode cX6_ticks 28 = .ok (.ireturn, 1) := by decide +kernel
theorem dX6_ticks_29 : decode cX6_ticks 29 = .ok (.aload_n 0, 1) := by decide +kernel
theorem dX6_ticks_30 : decode cX6_ticks 30 = .ok (.getfield 19, 3) := by decide +kernel
theorem dX6_ticks_33 : decode cX6_ticks 33 = .ok (.iload_n 1, 1) := by decide +kernel
theorem dX6_ticks_34 : decode cX6_ticks 34 = .ok (.invokevirtual 152, 3) := by decide +kernel
theorem dX6_ticks_37 : decode cX6_ticks 37 = .ok (.ireturn, 1) := by decide +kernel
theorem dX6_runs_0 : decode cX6_runs 0 = .ok (.iload_n 1, 1) := by decide +kernel
theorem dX6_runs_1 : decode cX6_runs 1 = .ok (.sipush 200, 3) := by decide +kernel
theorem dX6_runs_4 : decode cX6_runs 4 = .ok (.invokestatic 47, 3) := by decide +kernel
theorem dX6_runs_7 : decode cX6_runs 7 = .ok (.ifCond .eq 11, 3) := by decide +kernel
theorem dX6_runs_10 : decode cX6_runs 10 = .ok (.iload_n 2, 1) := by decide +kernel
theorem dX6_runs_11 : decode cX6_runs 11 = .ok (.iconst 3, 1) := by decide +kernel
theorem dX6_runs_12 : decode cX6_runs 12 = .ok (.invokestatic 47, 3) := by decide +kernel
theorem dX6_runs_15 : decode cX6_runs 15 = .ok (.ifCond .ne 5, 3) := by decide +kernel
theorem dX6_runs_18 : decode cX6_runs 18 = .ok (.iconst (-1), 1) := by decide +kernel
theorem dX6_runs_19 : decode cX6_runs 19 = .ok (.ireturn, 1) := by decide +kernel
theorem dX6_runs_20 : decode cX6_runs 20 = .ok (.aload_n 0, 1) := by decide +kernel
theorem dX6_runs_21 : decode cX6_runs 21 = .ok (.getfield 23, 3) := by decide +kernel
theorem dX6_runs_24 : decode cX6_runs 24 = .ok (.aload_n 0, 1) := by decide +kernel
theorem dX6_runs_25 : decode cX6_runs 25 = .ok (.getfield 19, 3) := by decide +kernel
theorem dX6_runs_28 : decode cX6_runs 28 = .ok (.invokevirtual 72, 3) := by decide +kernel
theorem dX6_runs_31 : decode cX6_runs 31 = .ok (.iconst 0, 1) := by decide +kernel
theorem dX6_runs_32 : decode cX6_runs 32 = .ok (.istore_n 3, 1) := by decide +kernel
theorem dX6_runs_33 : decode cX6_runs 33 = .ok (.iconst 0, 1) := by decide +kernel
theorem dX6_runs_34 : decode cX6_runs 34 = .ok (.istore 4, 2) := by decide +kernel
theorem dX6_runs_36 : decode cX6_runs 36 = .ok (.iconst 0, 1) := by decide +kernel
theorem dX6_runs_37 : decode cX6_runs 37 = .ok (.istore 5, 2) := by decide +kernel
theorem dX6_runs_39 : decode cX6_runs 39 = .ok (.iload 5, 2) := by decide +kernel
theorem dX6_runs_41 : decode cX6_runs 41 = .ok (.iload_n 1, 1) := by decide +kernel
theorem dX6_runs_42 : decode cX6_runs 42 = .ok (.if_icmp .ge 39, 3) := by decide +kernel
theorem dX6_runs_45 : decode cX6_runs 45 = .ok (.aload_n 0, 1) := by decide +kernel
theorem dX6_runs_46 : decode cX6_runs 46 = .ok (.getfield 23, 3) := by decide +kernel
theorem dX6_runs_49 : decode cX6_runs 49 = .ok (.invokevirtual 155, 3) := by decide +kernel
theorem dX6_runs_52 : decode cX6_runs 52 = .ok (.aload_n 0, 1) := by decide +kernel
theorem dX6_runs_53 : decode cX6_runs 53 = .ok (.getfield 23, 3) := by decide +kernel
theorem dX6_runs_56 : decode cX6_runs 56 = .ok (.invokevirtual 99, 3) := by decide +kernel
theorem dX6_runs_59 : decode cX6_runs 59 = .ok (.ifCond .eq 6, 3) := by decide +kernel
theorem dX6_runs_62 : decode cX6_runs 62 = .ok (.iinc 4 1, 3) := by decide +kernel
theorem dX6_runs_65 : decode cX6_runs 65 = .ok (.iload_n 3, 1) := by decide +kernel
theorem dX6_runs_66 : decode cX6_runs 66 = .ok (.aload_n 0, 1) := by decide +kernel
theorem dX6_runs_67 : decode cX6_runs 67 = .ok (.getfield 23, 3) := by decide +kernel
theorem dX6_runs_70 : decode cX6_runs 70 = .ok (.invokevirtual 158, 3) := by decide +kernel
theorem dX6_runs_73 : decode cX6_runs 73 = .ok (.iadd, 1) := by decide +kernel
theorem dX6_runs_74 : decode cX6_runs 74 = .ok (.istore_n 3, 1) := by decide +kernel
theorem dX6_runs_75 : decode cX6_runs 75 = .ok (.iinc 5 1, 3) := by decide +kernel
theorem dX6_runs_78 : decode cX6_runs 78 = .ok (.goto (-39), 3) := by decide +kernel
theorem dX6_runs_81 : decode cX6_runs 81 = .ok (.iload_n 2, 1) := by decide +kernel
theorem dX6_runs_82 : decode cX6_runs 82 = .ok (.tableswitch 47 0 2 #[26, 28, 39], 26) := by decide +kernel
theorem dX6_runs_108 : decode cX6_runs 108 = .ok (.iload_n 3, 1) := by decide +kernel
theorem dX6_runs_109 : decode cX6_runs 109 = .ok (.ireturn, 1) := by decide +kernel
theorem dX6_runs_110 : decode cX6_runs 110 = .ok (.ldc 95, 2) := by decide +kernel
theorem dX6_runs_112 : decode cX6_runs 112 = .ok (.aload_n 0, 1) := by decide +kernel
theorem dX6_runs_113 : decode cX6_runs 113 = .ok (.getfield 23, 3) := by decide +kernel
theorem dX6_runs_116 : decode cX6_runs 116 = .ok (.getfield 96, 3) := by decide +kernel
theorem dX6_runs_119 : decode cX6_runs 119 = .ok (.iadd, 1) := by decide +kernel
theorem dX6_runs_120 : decode cX6_runs 120 = .ok (.ireturn, 1) := by decide +kernel
theorem dX6_runs_121 : decode cX6_runs 121 = .ok (.aload_n 0, 1) := by decide +kernel
theorem dX6_runs_122 : decode cX6_runs 122 = .ok (.getfield 23, 3) := by decide +kernel
theorem dX6_runs_125 : decode cX6_runs 125 = .ok (.invokevirtual 102, 3) := by decide +kernel
theorem dX6_runs_128 : decode cX6_runs 128 = .ok (.ireturn, 1) := by decide +kernel
theorem dX6_runs_129 : decode cX6_runs 129 = .ok (.iload 4, 2) := by decide +kernel
theorem dX6_runs_131 : decode cX6_runs 131 = .ok (.ireturn, 1) := by decide +kernel
theorem dX6_ahead_0 : decode cX6_ahead 0 = .ok (.aload_n 0, 1) := by decide +kernel
theorem dX6_ahead_1 : decode cX6_ahead 1 = .ok (.iload_n 1, 1) := by decide +kernel
theorem dX6_ahead_2 : decode cX6_ahead 2 = .ok (.invokevirtual 105, 3) := by decide +kernel
theorem dX6_ahead_5 : decode cX6_ahead 5 = .ok (.ifCond .eq 21, 3) := by decide +kernel
theorem dX6_ahead_8 : decode cX6_ahead 8 = .ok (.iload_n 2, 1) := by decide +kernel
theorem dX6_ahead_9 : decode cX6_ahead 9 = .ok (.sipush 200, 3) := by decide +kernel
theorem dX6_ahead_12 : decode cX6_ahead 12 = .ok (.invokestatic 47, 3) := by decide +kernel
theorem dX6_ahead_15 : decode cX6_ahead 15 = .ok (.ifCond .eq 11, 3) := by decide +kernel
theorem dX6_ahead_18 : decode cX6_ahead 18 = .ok (.iload_n 3, 1) := by decide +kernel
theorem dX6_ahead_19 : decode cX6_ahead 19 = .ok (.iconst 1, 1) := by decide +kernel
theorem dX6_ahead_20 : decode cX6_ahead 20 = .ok (.invokestatic 47, 3) := by decide +kernel
theorem dX6_ahead_23 : decode cX6_ahead 23 = .ok (.ifCond .ne 5, 3) := by decide +kernel
theorem dX6_ahead_26 : decode cX6_ahead 26 = .ok (.iconst (-1), 1) := by decide +kernel
theorem dX6_ahead_27 : decode cX6_ahead 27 = .ok (.ireturn, 1) := by decide +kernel
theorem dX6_ahead_28 : decode cX6_ahead 28 = .ok (.aload_n 0, 1) := by decide +kernel
theorem dX6_ahead_29 : decode cX6_ahead 29 = .ok (.getfield 23, 3) := by decide +kernel
theorem dX6_ahead_32 : decode cX6_ahead 32 = .ok (.aload_n 0, 1) := by decide +kernel
theorem dX6_ahead_33 : decode cX6_ahead 33 = .ok (.getfield 19, 3) := by decide +kernel
theorem dX6_ahead_36 : decode cX6_ahead 36 = .ok (.invokevirtual 72, 3) := by decide +kernel
theorem dX6_ahead_39 : decode cX6_ahead 39 = .ok (.aload_n 0, 1) := by decide +kernel
theorem dX6_ahead_40 : decode cX6_ahead 40 = .ok (.getfield 23, 3) := by decide +kernel
theorem dX6_ahead_43 : decode cX6_ahead 43 = .ok (.iload_n 2, 1) := by decide +kernel
theorem dX6_ahead_44 : decode cX6_ahead 44 = .ok (.invokevirtual 152, 3) := by decide +kernel
theorem dX6_ahead_47 : decode cX6_ahead 47 = .ok (.pop, 1) := by decide +kernel
theorem dX6_ahead_48 : decode cX6_ahead 48 = .ok (.ldc 95, 2) := by decide +kernel
theorem dX6_ahead_50 : decode cX6_ahead 50 = .ok (.iload_n 3, 1) := by decide +kernel
theorem dX6_ahead_51 : decode cX6_ahead 51 = .ok (.ifCond .ne 18, 3) := by decide +kernel
theorem dX6_ahead_54 : decode cX6_ahead 54 = .ok (.aload_n 0, 1) := by decide +kernel
theorem dX6_ahead_55 : decode cX6_ahead 55 = .ok (.getfield 23, 3) := by decide +kernel
theorem dX6_ahead_58 : decode cX6_ahead 58 = .ok (.getfield 109, 3) := by decide +kernel
theorem dX6_ahead_61 : decode cX6_ahead 61 = .ok (.iload_n 1, 1) := by decide +kernel
theorem dX6_ahead_62 : decode cX6_ahead 62 = .ok (.aaload, 1) := by decide +kernel
theorem dX6_ahead_63 : decode cX6_ahead 63 = .ok (.getfield 121, 3) := by decide +kernel
theorem dX6_ahead_66 : decode cX6_ahead 66 = .ok (.goto 11, 3) := by decide +kernel
theorem dX6_ahead_69 : decode cX6_ahead 69 = .ok (.aload_n 0, 1) := by decide +kernel
theorem dX6_ahead_70 : decode cX6_ahead 70 = .ok (.getfield 23, 3) := by decide +kernel
theorem dX6_ahead_73 : decode cX6_ahead 73 = .ok (.iload_n 1, 1) := by decide +kernel
theorem dX6_ahead_74 : decode cX6_ahead 74 = .ok (.invokevirtual 161, 3) := by decide +kernel
theorem dX6_ahead_77 : decode cX6_ahead 77 = .ok (.iadd, 1) := by decide +kernel
theorem dX6_ahead_78 : decode cX6_ahead 78 = .ok (.ireturn, 1) := by decide +kernel
theorem dX6_when_0 : decode cX6_when 0 = .ok (.aload_n 0, 1) := by decide +kernel
theorem dX6_when_1 : decode cX6_when 1 = .ok (.iload_n 1, 1) := by decide +kernel
theorem dX6_when_2 : decode cX6_when 2 = .ok (.invokevirtual 105, 3) := by decide +kernel
theorem dX6_when_5 : decode cX6_when 5 = .ok (.ifCond .ne 5, 3) := by decide +kernel
theorem dX6_when_8 : decode cX6_when 8 = .ok (.iconst (-1), 1) := by decide +kernel
theorem dX6_when_9 : decode cX6_when 9 = .ok (.ireturn, 1) := by decide +kernel
theorem dX6_when_10 : decode cX6_when 10 = .ok (.aload_n 0, 1) := by decide +kernel
theorem dX6_when_11 : decode cX6_when 11 = .ok (.getfield 23, 3) := by decide +kernel
theorem dX6_when_14 : decode cX6_when 14 = .ok (.aload_n 0, 1) := by decide +kernel
theorem dX6_when_15 : decode cX6_when 15 = .ok (.getfield 19, 3) := by decide +kernel
theorem dX6_when_18 : decode cX6_when 18 = .ok (.invokevirtual 72, 3) := by decide +kernel
theorem dX6_when_21 : decode cX6_when 21 = .ok (.aload_n 0, 1) := by decide +kernel
theorem dX6_when_22 : decode cX6_when 22 = .ok (.getfield 19, 3) := by decide +kernel
theorem dX6_when_25 : decode cX6_when 25 = .ok (.iload_n 1, 1) := by decide +kernel
theorem dX6_when_26 : decode cX6_when 26 = .ok (.invokevirtual 161, 3) := by decide +kernel
theorem dX6_when_29 : decode cX6_when 29 = .ok (.istore_n 2, 1) := by decide +kernel
theorem dX6_when_30 : decode cX6_when 30 = .ok (.iconst 1, 1) := by decide +kernel
theorem dX6_when_31 : decode cX6_when 31 = .ok (.istore_n 3, 1) := by decide +kernel
theorem dX6_when_32 : decode cX6_when 32 = .ok (.iload_n 3, 1) := by decide +kernel
theorem dX6_when_33 : decode cX6_when 33 = .ok (.sipush 200, 3) := by decide +kernel
theorem dX6_when_36 : decode cX6_when 36 = .ok (.if_icmp .gt 32, 3) := by decide +kernel
theorem dX6_when_39 : decode cX6_when 39 = .ok (.aload_n 0, 1) := by decide +kernel
theorem dX6_when_40 : decode cX6_when 40 = .ok (.getfield 23, 3) := by decide +kernel
theorem dX6_when_43 : decode cX6_when 43 = .ok (.iconst 1, 1) := by decide +kernel
theorem dX6_when_44 : decode cX6_when 44 = .ok (.invokevirtual 152, 3) := by decide +kernel
theorem dX6_when_47 : decode cX6_when 47 = .ok (.pop, 1) := by decide +kernel
theorem dX6_when_48 : decode cX6_when 48 = .ok (.aload_n 0, 1) := by decide +kernel
theorem dX6_when_49 : decode cX6_when 49 = .ok (.getfield 23, 3) := by decide +kernel
theorem dX6_when_52 : decode cX6_when 52 = .ok (.iload_n 1, 1) := by decide +kernel
theorem dX6_when_53 : decode cX6_when 53 = .ok (.invokevirtual 161, 3) := by decide +kernel
theorem dX6_when_56 : decode cX6_when 56 = .ok (.iload_n 2, 1) := by decide +kernel
theorem dX6_when_57 : decode cX6_when 57 = .ok (.if_icmp .eq 5, 3) := by decide +kernel
theorem dX6_when_60 : decode cX6_when 60 = .ok (.iload_n 3, 1) := by decide +kernel
theorem dX6_when_61 : decode cX6_when 61 = .ok (.ireturn, 1) := by decide +kernel
theorem dX6_when_62 : decode cX6_when 62 = .ok (.iinc 3 1, 3) := by decide +kernel
theorem dX6_when_65 : decode cX6_when 65 = .ok (.goto (-33), 3) := by decide +kernel
theorem dX6_when_68 : decode cX6_when 68 = .ok (.bipush (-4), 2) := by decide +kernel
theorem dX6_when_70 : decode cX6_when 70 = .ok (.ireturn, 1) := by decide +kernel
theorem dX6_slow_0 : decode cX6_slow 0 = .ok (.aload_n 0, 1) := by decide +kernel
theorem dX6_slow_1 : decode cX6_slow 1 = .ok (.iload_n 1, 1) := by decide +kernel
theorem dX6_slow_2 : decode cX6_slow 2 = .ok (.invokevirtual 105, 3) := by decide +kernel
theorem dX6_slow_5 : decode cX6_slow 5 = .ok (.ifCond .eq 13, 3) := by decide +kernel
theorem dX6_slow_8 : decode cX6_slow 8 = .ok (.iload_n 2, 1) := by decide +kernel
theorem dX6_slow_9 : decode cX6_slow 9 = .ok (.sipush 200, 3) := by decide +kernel
theorem dX6_slow_12 : decode cX6_slow 12 = .ok (.invokestatic 47, 3) := by decide +kernel
theorem dX6_slow_15 : decode cX6_slow 15 = .ok (.ifCond .ne 5, 3) := by decide +kernel
theorem dX6_slow_18 : decode cX6_slow 18 = .ok (.iconst (-1), 1) := by decide +kernel
theorem dX6_slow_19 : decode cX6_slow 19 = .ok (.ireturn, 1) := by decide +kernel
theorem dX6_slow_20 : decode cX6_slow 20 = .ok (.iconst 1, 1) := by decide +kernel
theorem dX6_slow_21 : decode cX6_slow 21 = .ok (.istore_n 3, 1) := by decide +kernel
theorem dX6_slow_22 : decode cX6_slow 22 = .ok (.iload_n 3, 1) := by decide +kernel
theorem dX6_slow_23 : decode cX6_slow 23 = .ok (.bipush 9, 2) := by decide +kernel
theorem dX6_slow_25 : decode cX6_slow 25 = .ok (.if_icmp .gt 39, 3) := by decide +kernel
theorem dX6_slow_28 : decode cX6_slow 28 = .ok (.aload_n 0, 1) := by decide +kernel
theorem dX6_slow_29 : decode cX6_slow 29 = .ok (.getfield 23, 3) := by decide +kernel
theorem dX6_slow_32 : decode cX6_slow 32 = .ok (.aload_n 0, 1) := by decide +kernel
theorem dX6_slow_33 : decode cX6_slow 33 = .ok (.getfield 19, 3) := by decide +kernel
theorem dX6_slow_36 : decode cX6_slow 36 = .ok (.invokevirtual 72, 3) := by decide +kernel
theorem dX6_slow_39 : decode cX6_slow 39 = .ok (.aload_n 0, 1) := by decide +kernel
theorem dX6_slow_40 : decode cX6_slow 40 = .ok (.getfield 23, 3) := by decide +kernel
theorem dX6_slow_43 : decode cX6_slow 43 = .ok (.iload_n 3, 1) := by decide +kernel
theorem dX6_slow_44 : decode cX6_slow 44 = .ok (.putfield 92, 3) := by decide +kernel
theorem dX6_slow_47 : decode cX6_slow 47 = .ok (.aload_n 0, 1) := by decide +kernel
theorem dX6_slow_48 : decode cX6_slow 48 = .ok (.iload_n 1, 1) := by decide +kernel
theorem dX6_slow_49 : decode cX6_slow 49 = .ok (.iload_n 2, 1) := by decide +kernel
theorem dX6_slow_50 : decode cX6_slow 50 = .ok (.invokevirtual 164, 3) := by decide +kernel
theorem dX6_slow_53 : decode cX6_slow 53 = .ok (.ifCond .eq 5, 3) := by decide +kernel
theorem dX6_slow_56 : decode cX6_slow 56 = .ok (.iload_n 3, 1) := by decide +kernel
theorem dX6_slow_57 : decode cX6_slow 57 = .ok (.ireturn, 1) := by decide +kernel
theorem dX6_slow_58 : decode cX6_slow 58 = .ok (.iinc 3 1, 3) := by decide +kernel
theorem dX6_slow_61 : decode cX6_slow 61 = .ok (.goto (-39), 3) := by decide +kernel
theorem dX6_slow_64 : decode cX6_slow 64 = .ok (.bipush (-4), 2) := by decide +kernel
theorem dX6_slow_66 : decode cX6_slow 66 = .ok (.ireturn, 1) := by decide +kernel
theorem dX6_need_0 : decode cX6_need 0 = .ok (.aload_n 0, 1) := by decide +kernel
theorem dX6_need_1 : decode cX6_need 1 = .ok (.iload_n 1, 1) := by decide +kernel
theorem dX6_need_2 : decode cX6_need 2 = .ok (.invokevirtual 105, 3) := by decide +kernel
theorem dX6_need_5 : decode cX6_need 5 = .ok (.ifCond .eq 13, 3) := by decide +kernel
theorem dX6_need_8 : decode cX6_need 8 = .ok (.iload_n 2, 1) := by decide +kernel
theorem dX6_need_9 : decode cX6_need 9 = .ok (.sipush 200, 3) := by decide +kernel
theorem dX6_need_12 : decode cX6_need 12 = .ok (.invokestatic 47, 3) := by decide +kernel
theorem dX6_need_15 : decode cX6_need 15 = .ok (.ifCond .ne 5, 3) := by decide +kernel
theorem dX6_need_18 : decode cX6_need 18 = .ok (.iconst (-1), 1) := by decide +kernel
theorem dX6_need_19 : decode cX6_need 19 = .ok (.ireturn, 1) := by decide +kernel
theorem dX6_need_20 : decode cX6_need 20 = .ok (.iconst 0, 1) := by decide +kernel
theorem dX6_need_21 : decode cX6_need 21 = .ok (.istore_n 3, 1) := by decide +kernel
theorem dX6_need_22 : decode cX6_need 22 = .ok (.iload_n 3, 1) := by decide +kernel
theorem dX6_need_23 : decode cX6_need 23 = .ok (.iconst 3, 1) := by decide +kernel
theorem dX6_need_24 : decode cX6_need 24 = .ok (.if_icmp .gt 27, 3) := by decide +kernel
theorem dX6_need_27 : decode cX6_need 27 = .ok (.aload_n 0, 1) := by decide +kernel
theorem dX6_need_28 : decode cX6_need 28 = .ok (.iload_n 1, 1) := by decide +kernel
theorem dX6_need_29 : decode cX6_need 29 = .ok (.iconst 1, 1) := by decide +kernel
theorem dX6_need_30 : decode cX6_need 30 = .ok (.iload_n 3, 1) := by decide +kernel
theorem dX6_need_31 : decode cX6_need 31 = .ok (.invokevirtual 167, 3) := by decide +kernel
theorem dX6_need_34 : decode cX6_need 34 = .ok (.aload_n 0, 1) := by decide +kernel
theorem dX6_need_35 : decode cX6_need 35 = .ok (.iload_n 1, 1) := by decide +kernel
theorem dX6_need_36 : decode cX6_need 36 = .ok (.iload_n 2, 1) := by decide +kernel
theorem dX6_need_37 : decode cX6_need 37 = .ok (.invokevirtual 164, 3) := by decide +kernel
theorem dX6_need_40 : decode cX6_need 40 = .ok (.ifCond .eq 5, 3) := by decide +kernel
theorem dX6_need_43 : decode cX6_need 43 = .ok (.iload_n 3, 1) := by decide +kernel
theorem dX6_need_44 : decode cX6_need 44 = .ok (.ireturn, 1) := by decide +kernel
theorem dX6_need_45 : decode cX6_need 45 = .ok (.iinc 3 1, 3) := by decide +kernel
theorem dX6_need_48 : decode cX6_need 48 = .ok (.goto (-26), 3) := by decide +kernel
theorem dX6_need_51 : decode cX6_need 51 = .ok (.bipush (-4), 2) := by decide +kernel
theorem dX6_need_53 : decode cX6_need 53 = .ok (.ireturn, 1) := by decide +kernel
theorem dX6_kind_0 : decode cX6_kind 0 = .ok (.aload_n 0, 1) := by decide +kernel
theorem dX6_kind_1 : decode cX6_kind 1 = .ok (.iload_n 1, 1) := by decide +kernel
theorem dX6_kind_2 : decode cX6_kind 2 = .ok (.invokevirtual 105, 3) := by decide +kernel
theorem dX6_kind_5 : decode cX6_kind 5 = .ok (.ifCond .eq 21, 3) := by decide +kernel
theorem dX6_kind_8 : decode cX6_kind 8 = .ok (.iload_n 2, 1) := by decide +kernel
theorem dX6_kind_9 : decode cX6_kind 9 = .ok (.sipush 200, 3) := by decide +kernel
theorem dX6_kind_12 : decode cX6_kind 12 = .ok (.invokestatic 47, 3) := by decide +kernel
theorem dX6_kind_15 : decode cX6_kind 15 = .ok (.ifCond .eq 11, 3) := by decide +kernel
theorem dX6_kind_18 : decode cX6_kind 18 = .ok (.iload_n 3, 1) := by decide +kernel
theorem dX6_kind_19 : decode cX6_kind 19 = .ok (.iconst 1, 1) := by decide +kernel
theorem dX6_kind_20 : decode cX6_kind 20 = .ok (.invokestatic 47, 3) := by decide +kernel
theorem dX6_kind_23 : decode cX6_kind 23 = .ok (.ifCond .ne 5, 3) := by decide +kernel
theorem dX6_kind_26 : decode cX6_kind 26 = .ok (.iconst (-1), 1) := by decide +kernel
theorem dX6_kind_27 : decode cX6_kind 27 = .ok (.ireturn, 1) := by decide +kernel
theorem dX6_kind_28 : decode cX6_kind 28 = .ok (.aload_n 0, 1) := by decide +kernel
theorem dX6_kind_29 : decode cX6_kind 29 = .ok (.iload_n 1, 1) := by decide +kernel
theorem dX6_kind_30 : decode cX6_kind 30 = .ok (.iconst 0, 1) := by decide +kernel
theorem dX6_kind_31 : decode cX6_kind 31 = .ok (.iconst 3, 1) := by decide +kernel
theorem dX6_kind_32 : decode cX6_kind 32 = .ok (.iload_n 2, 1) := by decide +kernel
theorem dX6_kind_33 : decode cX6_kind 33 = .ok (.iload_n 3, 1) := by decide +kernel
theorem dX6_kind_34 : decode cX6_kind 34 = .ok (.invokevirtual 171, 3) := by decide +kernel
theorem dX6_kind_37 : decode cX6_kind 37 = .ok (.ireturn, 1) := by decide +kernel
theorem dX6_swap_0 : decode cX6_swap 0 = .ok (.iload_n 1, 1) := by decide +kernel
theorem dX6_swap_1 : decode cX6_swap 1 = .ok (.sipush 200, 3) := by decide +kernel
theorem dX6_swap_4 : decode cX6_swap 4 = .ok (.invokestatic 47, 3) := by decide +kernel
theorem dX6_swap_7 : decode cX6_swap 7 = .ok (.ifCond .eq 11, 3) := by decide +kernel
theorem dX6_swap_10 : decode cX6_swap 10 = .ok (.iload_n 2, 1) := by decide +kernel
theorem dX6_swap_11 : decode cX6_swap 11 = .ok (.iconst 1, 1) := by decide +kernel
theorem dX6_swap_12 : decode cX6_swap 12 = .ok (.invokestatic 47, 3) := by decide +kernel
theorem dX6_swap_15 : decode cX6_swap 15 = .ok (.ifCond .ne 5, 3) := by decide +kernel
theorem dX6_swap_18 : decode cX6_swap 18 = .ok (.iconst (-1), 1) := by decide +kernel
theorem dX6_swap_19 : decode cX6_swap 19 = .ok (.ireturn, 1) := by decide +kernel
theorem dX6_swap_20 : decode cX6_swap 20 = .ok (.aload_n 0, 1) := by decide +kernel
theorem dX6_swap_21 : decode cX6_swap 21 = .ok (.getfield 23, 3) := by decide +kernel
theorem dX6_swap_24 : decode cX6_swap 24 = .ok (.aload_n 0, 1) := by decide +kernel
theorem dX6_swap_25 : decode cX6_swap 25 = .ok (.getfield 19, 3) := by decide +kernel
theorem dX6_swap_28 : decode cX6_swap 28 = .ok (.invokevirtual 72, 3) := by decide +kernel
theorem dX6_swap_31 : decode cX6_swap 31 = .ok (.aload_n 0, 1) := by decide +kernel
theorem dX6_swap_32 : decode cX6_swap 32 = .ok (.iload_n 1, 1) := by decide +kernel
theorem dX6_swap_33 : decode cX6_swap 33 = .ok (.invokevirtual 175, 3) := by decide +kernel
theorem dX6_swap_36 : decode cX6_swap 36 = .ok (.istore_n 3, 1) := by decide +kernel
theorem dX6_swap_37 : decode cX6_swap 37 = .ok (.bipush (-4), 2) := by decide +kernel
theorem dX6_swap_39 : decode cX6_swap 39 = .ok (.istore 4, 2) := by decide +kernel
theorem dX6_swap_41 : decode cX6_swap 41 = .ok (.iconst 0, 1) := by decide +kernel
theorem dX6_swap_42 : decode cX6_swap 42 = .ok (.istore 5, 2) := by decide +kernel
theorem dX6_swap_44 : decode cX6_swap 44 = .ok (.iload 5, 2) := by decide +kernel
theorem dX6_swap_46 : decode cX6_swap 46 = .ok (.aload_n 0, 1) := by decide +kernel
theorem dX6_swap_47 : decode cX6_swap 47 = .ok (.getfield 19, 3) := by decide +kernel
theorem dX6_swap_50 : decode cX6_swap 50 = .ok (.getfield 86, 3) := by decide +kernel
theorem dX6_swap_53 : decode cX6_swap 53 = .ok (.if_icmp .ge 133, 3) := by decide +kernel
theorem dX6_swap_56 : decode cX6_swap 56 = .ok (.iload 5, 2) := by decide +kernel
theorem dX6_swap_58 : decode cX6_swap 58 = .ok (.iconst 1, 1) := by decide +kernel
theorem dX6_swap_59 : decode cX6_swap 59 = .ok (.iadd, 1) := by decide +kernel
theorem dX6_swap_60 : decode cX6_swap 60 = .ok (.istore 6, 2) := by decide +kernel
theorem dX6_swap_62 : decode cX6_swap 62 = .ok (.iload 6, 2) := by decide +kernel
theorem dX6_swap_64 : decode cX6_swap 64 = .ok (.aload_n 0, 1) := by decide +kernel
theorem dX6_swap_65 : decode cX6_swap 65 = .ok (.getfield 19, 3) := by decide +kernel
theorem dX6_swap_68 : decode cX6_swap 68 = .ok (.getfield 86, 3) := by decide +kernel
theorem dX6_swap_71 : decode cX6_swap 71 = .ok (.if_icmp .ge 109, 3) := by decide +kernel
theorem dX6_swap_74 : decode cX6_swap 74 = .ok (.aload_n 0, 1) := by decide +kernel
theorem dX6_swap_75 : decode cX6_swap 75 = .ok (.getfield 19, 3) := by decide +kernel
theorem dX6_swap_78 : decode cX6_swap 78 = .ok (.getfield 137, 3) := by decide +kernel
theorem dX6_swap_81 : decode cX6_swap 81 = .ok (.iload 5, 2) := by decide +kernel
theorem dX6_swap_83 : decode cX6_swap 83 = .ok (.iaload, 1) := by decide +kernel
theorem dX6_swap_84 : decode cX6_swap 84 = .ok (.aload_n 0, 1) := by decide +kernel
theorem dX6_swap_85 : decode cX6_swap 85 = .ok (.getfield 19, 3) := by decide +kernel
theorem dX6_swap_88 : decode cX6_swap 88 = .ok (.getfield 137, 3) := by decide +kernel
theorem dX6_swap_91 : decode cX6_swap 91 = .ok (.iload 6, 2) := by decide +kernel
theorem dX6_swap_93 : decode cX6_swap 93 = .ok (.iaload, 1) := by decide +kernel
theorem dX6_swap_94 : decode cX6_swap 94 = .ok (.if_icmp .eq 80, 3) := by decide +kernel
theorem dX6_swap_97 : decode cX6_swap 97 = .ok (.aload_n 0, 1) := by decide +kernel
theorem dX6_swap_98 : decode cX6_swap 98 = .ok (.getfield 23, 3) := by decide +kernel
theorem dX6_swap_101 : decode cX6_swap 101 = .ok (.aload_n 0, 1) := by decide +kernel
theorem dX6_swap_102 : decode cX6_swap 102 = .ok (.getfield 19, 3) := by decide +kernel
theorem dX6_swap_105 : decode cX6_swap 105 = .ok (.invokevirtual 72, 3) := by decide +kernel
theorem dX6_swap_108 : decode cX6_swap 108 = .ok (.aload_n 0, 1) := by decide +kernel
theorem dX6_swap_109 : decode cX6_swap 109 = .ok (.getfield 23, 3) := by decide +kernel
theorem dX6_swap_112 : decode cX6_swap 112 = .ok (.getfield 137, 3) := by decide +kernel
theorem dX6_swap_115 : decode cX6_swap 115 = .ok (.iload 5, 2) := by decide +kernel
theorem dX6_swap_117 : decode cX6_swap 117 = .ok (.aload_n 0, 1) := by decide +kernel
theorem dX6_swap_118 : decode cX6_swap 118 = .ok (.getfield 19, 3) := by decide +kernel
theorem dX6_swap_121 : decode cX6_swap 121 = .ok (.getfield 137, 3) := by decide +kernel
theorem dX6_swap_124 : decode cX6_swap 124 = .ok (.iload 6, 2) := by decide +kernel
theorem dX6_swap_126 : decode cX6_swap 126 = .ok (.iaload, 1) := by decide +kernel
theorem dX6_swap_127 : decode cX6_swap 127 = .ok (.iastore, 1) := by decide +kernel
theorem dX6_swap_128 : decode cX6_swap 128 = .ok (.aload_n 0, 1) := by decide +kernel
theorem dX6_swap_129 : decode cX6_swap 129 = .ok (.getfield 23, 3) := by decide +kernel
theorem dX6_swap_132 : decode cX6_swap 132 = .ok (.getfield 137, 3) := by decide +kernel
theorem dX6_swap_135 : decode cX6_swap 135 = .ok (.iload 6, 2) := by decide +kernel
theorem dX6_swap_137 : decode cX6_swap 137 = .ok (.aload_n 0, 1) := by decide +kernel
theorem dX6_swap_138 : decode cX6_swap 138 = .ok (.getfield 19, 3) := by decide +kernel
theorem dX6_swap_141 : decode cX6_swap 141 = .ok (.getfield 137, 3) := by decide +kernel
theorem dX6_swap_144 : decode cX6_swap 144 = .ok (.iload 5, 2) := by decide +kernel
theorem dX6_swap_146 : decode cX6_swap 146 = .ok (.iaload, 1) := by decide +kernel
theorem dX6_swap_147 : decode cX6_swap 147 = .ok (.iastore, 1) := by decide +kernel
theorem dX6_swap_148 : decode cX6_swap 148 = .ok (.aload_n 0, 1) := by decide +kernel
theorem dX6_swap_149 : decode cX6_swap 149 = .ok (.iload_n 1, 1) := by decide +kernel
theorem dX6_swap_150 : decode cX6_swap 150 = .ok (.invokevirtual 175, 3) := by decide +kernel
theorem dX6_swap_153 : decode cX6_swap 153 = .ok (.istore 7, 2) := by decide +kernel
theorem dX6_swap_155 : decode cX6_swap 155 = .ok (.iload 7, 2) := by decide +kernel
theorem dX6_swap_157 : decode cX6_swap 157 = .ok (.iload_n 3, 1) := by decide +kernel
theorem dX6_swap_158 : decode cX6_swap 158 = .ok (.if_icmp .ge 16, 3) := by decide +kernel
theorem dX6_swap_161 : decode cX6_swap 161 = .ok (.iload 7, 2) := by decide +kernel
theorem dX6_swap_163 : decode cX6_swap 163 = .ok (.istore_n 3, 1) := by decide +kernel
theorem dX6_swap_164 : decode cX6_swap 164 = .ok (.bipush 100, 2) := by decide +kernel
theorem dX6_swap_166 : decode cX6_swap 166 = .ok (.iload 5, 2) := by decide +kernel
theorem dX6_swap_168 : decode cX6_swap 168 = .ok (.imul, 1) := by decide +kernel
theorem dX6_swap_169 : decode cX6_swap 169 = .ok (.iload 6, 2) := by decide +kernel
theorem dX6_swap_171 : decode cX6_swap 171 = .ok (.iadd, 1) := by decide +kernel
theorem dX6_swap_172 : decode cX6_swap 172 = .ok (.istore 4, 2) := by decide +kernel
theorem dX6_swap_174 : decode cX6_swap 174 = .ok (.iinc 6 1, 3) := by decide +kernel
theorem dX6_swap_177 : decode cX6_swap 177 = .ok (.goto (-115), 3) := by decide +kernel
theorem dX6_swap_180 : decode cX6_swap 180 = .ok (.iinc 5 1, 3) := by decide +kernel
theorem dX6_swap_183 : decode cX6_swap 183 = .ok (.goto (-139), 3) := by decide +kernel
theorem dX6_swap_186 : decode cX6_swap 186 = .ok (.iload 4, 2) := by decide +kernel
theorem dX6_swap_188 : decode cX6_swap 188 = .ok (.bipush (-4), 2) := by decide +kernel
theorem dX6_swap_190 : decode cX6_swap 190 = .ok (.if_icmp .eq 7, 3) := by decide +kernel
theorem dX6_swap_193 : decode cX6_swap 193 = .ok (.iload_n 2, 1) := by decide +kernel
theorem dX6_swap_194 : decode cX6_swap 194 = .ok (.ifCond .ne 8, 3) := by decide +kernel
theorem dX6_swap_197 : decode cX6_swap 197 = .ok (.iload 4, 2) := by decide +kernel
theorem dX6_swap_199 : decode cX6_swap 199 = .ok (.goto 4, 3) := by decide +kernel
theorem dX6_swap_202 : decode cX6_swap 202 = .ok (.iload_n 3, 1) := by decide +kernel
theorem dX6_swap_203 : decode cX6_swap 203 = .ok (.ireturn, 1) := by decide +kernel
theorem dX6_ease_0 : decode cX6_ease 0 = .ok (.iload_n 1, 1) := by decide +kernel
theorem dX6_ease_1 : decode cX6_ease 1 = .ok (.sipush 200, 3) := by decide +kernel
theorem dX6_ease_4 : decode cX6_ease 4 = .ok (.invokestatic 47, 3) := by decide +kernel
theorem dX6_ease_7 : decode cX6_ease 7 = .ok (.ifCond .eq 11, 3) := by decide +kernel
theorem dX6_ease_10 : decode cX6_ease 10 = .ok (.iload_n 2, 1) := by decide +kernel
theorem dX6_ease_11 : decode cX6_ease 11 = .ok (.iconst 1, 1) := by decide +kernel
theorem dX6_ease_12 : decode cX6_ease 12 = .ok (.invokestatic 47, 3) := by decide +kernel
theorem dX6_ease_15 : decode cX6_ease 15 = .ok (.ifCond .ne 5, 3) := by decide +kernel
theorem dX6_ease_18 : decode cX6_ease 18 = .ok (.iconst (-1), 1) := by decide +kernel
theorem dX6_ease_19 : decode cX6_ease 19 = .ok (.ireturn, 1) := by decide +kernel
theorem dX6_ease_20 : decode cX6_ease 20 = .ok (.aload_n 0, 1) := by decide +kernel
theorem dX6_ease_21 : decode cX6_ease 21 = .ok (.getfield 23, 3) := by decide +kernel
theorem dX6_ease_24 : decode cX6_ease 24 = .ok (.aload_n 0, 1) := by decide +kernel
theorem dX6_ease_25 : decode cX6_ease 25 = .ok (.getfield 19, 3) := by decide +kernel
theorem dX6_ease_28 : decode cX6_ease 28 = .ok (.invokevirtual 72, 3) := by decide +kernel
theorem dX6_ease_31 : decode cX6_ease 31 = .ok (.aload_n 0, 1) := by decide +kernel
theorem dX6_ease_32 : decode cX6_ease 32 = .ok (.iload_n 1, 1) := by decide +kernel
theorem dX6_ease_33 : decode cX6_ease 33 = .ok (.invokevirtual 175, 3) := by decide +kernel
theorem dX6_ease_36 : decode cX6_ease 36 = .ok (.istore_n 3, 1) := by decide +kernel
theorem dX6_ease_37 : decode cX6_ease 37 = .ok (.bipush (-4), 2) := by decide +kernel
theorem dX6_ease_39 : decode cX6_ease 39 = .ok (.istore 4, 2) := by decide +kernel
theorem dX6_ease_41 : decode cX6_ease 41 = .ok (.iconst 0, 1) := by decide +kernel
theorem dX6_ease_42 : decode cX6_ease 42 = .ok (.istore 5, 2) := by decide +kernel
theorem dX6_ease_44 : decode cX6_ease 44 = .ok (.iload 5, 2) := by decide +kernel
theorem dX6_ease_46 : decode cX6_ease 46 = .ok (.aload_n 0, 1) := by decide +kernel
theorem dX6_ease_47 : decode cX6_ease 47 = .ok (.getfield 19, 3) := by decide +kernel
theorem dX6_ease_50 : decode cX6_ease 50 = .ok (.getfield 86, 3) := by decide +kernel
theorem dX6_ease_53 : decode cX6_ease 53 = .ok (.if_icmp .ge 51, 3) := by decide +kernel
theorem dX6_ease_56 : decode cX6_ease 56 = .ok (.aload_n 0, 1) := by decide +kernel
theorem dX6_ease_57 : decode cX6_ease 57 = .ok (.getfield 23, 3) := by decide +kernel
theorem dX6_ease_60 : decode cX6_ease 60 = .ok (.aload_n 0, 1) := by decide +kernel
theorem dX6_ease_61 : decode cX6_ease 61 = .ok (.getfield 19, 3) := by decide +kernel
theorem dX6_ease_64 : decode cX6_ease 64 = .ok (.invokevirtual 72, 3) := by decide +kernel
theorem dX6_ease_67 : decode cX6_ease 67 = .ok (.aload_n 0, 1) := by decide +kernel
theorem dX6_ease_68 : decode cX6_ease 68 = .ok (.getfield 23, 3) := by decide +kernel
theorem dX6_ease_71 : decode cX6_ease 71 = .ok (.getfield 137, 3) := by decide +kernel
theorem dX6_ease_74 : decode cX6_ease 74 = .ok (.iload 5, 2) := by decide +kernel
theorem dX6_ease_76 : decode cX6_ease 76 = .ok (.iconst 0, 1) := by decide +kernel
theorem dX6_ease_77 : decode cX6_ease 77 = .ok (.iastore, 1) := by decide +kernel
theorem dX6_ease_78 : decode cX6_ease 78 = .ok (.aload_n 0, 1) := by decide +kernel
theorem dX6_ease_79 : decode cX6_ease 79 = .ok (.iload_n 1, 1) := by decide +kernel
theorem dX6_ease_80 : decode cX6_ease 80 = .ok (.invokevirtual 175, 3) := by decide +kernel
theorem dX6_ease_83 : decode cX6_ease 83 = .ok (.istore 6, 2) := by decide +kernel
theorem dX6_ease_85 : decode cX6_ease 85 = .ok (.iload 6, 2) := by decide +kernel
theorem dX6_ease_87 : decode cX6_ease 87 = .ok (.iload_n 3, 1) := by decide +kernel
theorem dX6_ease_88 : decode cX6_ease 88 = .ok (.if_icmp .ge 10, 3) := by decide +kernel
theorem dX6_ease_91 : decode cX6_ease 91 = .ok (.iload 6, 2) := by decide +kernel
theorem dX6_ease_93 : decode cX6_ease 93 = .ok (.istore_n 3, 1) := by decide +kernel
theorem dX6_ease_94 : decode cX6_ease 94 = .ok (.iload 5, 2) := by decide +kernel
theorem dX6_ease_96 : decode cX6_ease 96 = .ok (.istore 4, 2) := by decide +kernel
theorem dX6_ease_98 : decode cX6_ease 98 = .ok (.iinc 5 1, 3) := by decide +kernel
theorem dX6_ease_101 : decode cX6_ease 101 = .ok (.goto (-57), 3) := by decide +kernel
theorem dX6_ease_104 : decode cX6_ease 104 = .ok (.iload 4, 2) := by decide +kernel
theorem dX6_ease_106 : decode cX6_ease 106 = .ok (.bipush (-4), 2) := by decide +kernel
theorem dX6_ease_108 : decode cX6_ease 108 = .ok (.if_icmp .eq 7, 3) := by decide +kernel
theorem dX6_ease_111 : decode cX6_ease 111 = .ok (.iload_n 2, 1) := by decide +kernel
theorem dX6_ease_112 : decode cX6_ease 112 = .ok (.ifCond .ne 8, 3) := by decide +kernel
theorem dX6_ease_115 : decode cX6_ease 115 = .ok (.iload 4, 2) := by decide +kernel
theorem dX6_ease_117 : decode cX6_ease 117 = .ok (.goto 4, 3) := by decide +kernel
theorem dX6_ease_120 : decode cX6_ease 120 = .ok (.iload_n 3, 1) := by decide +kernel
theorem dX6_ease_121 : decode cX6_ease 121 = .ok (.ireturn, 1) := by decide +kernel
theorem dX6_begin_0 : decode cX6_begin 0 = .ok (.aload_n 0, 1) := by decide +kernel
theorem dX6_begin_1 : decode cX6_begin 1 = .ok (.iload_n 1, 1) := by decide +kernel
theorem dX6_begin_2 : decode cX6_begin 2 = .ok (.invokevirtual 105, 3) := by decide +kernel
theorem dX6_begin_5 : decode cX6_begin 5 = .ok (.ifCond .eq 21, 3) := by decide +kernel
theorem dX6_begin_8 : decode cX6_begin 8 = .ok (.iload_n 2, 1) := by decide +kernel
theorem dX6_begin_9 : decode cX6_begin 9 = .ok (.sipush 200, 3) := by decide +kernel
theorem dX6_begin_12 : decode cX6_begin 12 = .ok (.invokestatic 47, 3) := by decide +kernel
theorem dX6_begin_15 : decode cX6_begin 15 = .ok (.ifCond .eq 11, 3) := by decide +kernel
theorem dX6_begin_18 : decode cX6_begin 18 = .ok (.iload_n 3, 1) := by decide +kernel
theorem dX6_begin_19 : decode cX6_begin 19 = .ok (.iconst 1, 1) := by decide +kernel
theorem dX6_begin_20 : decode cX6_begin 20 = .ok (.invokestatic 47, 3) := by decide +kernel
theorem dX6_begin_23 : decode cX6_begin 23 = .ok (.ifCond .ne 5, 3) := by decide +kernel
theorem dX6_begin_26 : decode cX6_begin 26 = .ok (.iconst (-1), 1) := by decide +kernel
theorem dX6_begin_27 : decode cX6_begin 27 = .ok (.ireturn, 1) := by decide +kernel
theorem dX6_begin_28 : decode cX6_begin 28 = .ok (.aload_n 0, 1) := by decide +kernel
theorem dX6_begin_29 : decode cX6_begin 29 = .ok (.iload_n 1, 1) := by decide +kernel
theorem dX6_begin_30 : decode cX6_begin 30 = .ok (.iconst 2, 1) := by decide +kernel
theorem dX6_begin_31 : decode cX6_begin 31 = .ok (.bipush 7, 2) := by decide +kernel
theorem dX6_begin_33 : decode cX6_begin 33 = .ok (.iload_n 2, 1) := by decide +kernel
theorem dX6_begin_34 : decode cX6_begin 34 = .ok (.iload_n 3, 1) := by decide +kernel
theorem dX6_begin_35 : decode cX6_begin 35 = .ok (.invokevirtual 171, 3) := by decide +kernel
theorem dX6_begin_38 : decode cX6_begin 38 = .ok (.ireturn, 1) := by decide +kernel
theorem dX6_luck_0 : decode cX6_luck 0 = .ok (.iload_n 1, 1) := by decide +kernel
theorem dX6_luck_1 : decode cX6_luck 1 = .ok (.bipush 10, 2) := by decide +kernel
theorem dX6_luck_3 : decode cX6_luck 3 = .ok (.invokestatic 47, 3) := by decide +kernel
theorem dX6_luck_6 : decode cX6_luck 6 = .ok (.ifCond .eq 29, 3) := by decide +kernel
theorem dX6_luck_9 : decode cX6_luck 9 = .ok (.aload_n 0, 1) := by decide +kernel
theorem dX6_luck_10 : decode cX6_luck 10 = .ok (.iload_n 2, 1) := by decide +kernel
theorem dX6_luck_11 : decode cX6_luck 11 = .ok (.invokevirtual 105, 3) := by decide +kernel
theorem dX6_luck_14 : decode cX6_luck 14 = .ok (.ifCond .eq 21, 3) := by decide +kernel
theorem dX6_luck_17 : decode cX6_luck 17 = .ok (.iload_n 3, 1) := by decide +kernel
theorem dX6_luck_18 : decode cX6_luck 18 = .ok (.bipush 8, 2) := by decide +kernel
theorem dX6_luck_20 : decode cX6_luck 20 = .ok (.invokestatic 47, 3) := by decide +kernel
theorem dX6_luck_23 : decode cX6_luck 23 = .ok (.ifCond .eq 12, 3) := by decide +kernel
theorem dX6_luck_26 : decode cX6_luck 26 = .ok (.iload 4, 2) := by decide +kernel
theorem dX6_luck_28 : decode cX6_luck 28 = .ok (.iconst 1, 1) := by decide +kernel
theorem dX6_luck_29 : decode cX6_luck 29 = .ok (.invokestatic 47, 3) := by decide +kernel
theorem dX6_luck_32 : decode cX6_luck 32 = .ok (.ifCond .ne 7, 3) := by decide +kernel
theorem dX6_luck_35 : decode cX6_luck 35 = .ok (.ldc2_w 178, 3) := by decide +kernel
theorem dX6_luck_38 : decode cX6_luck 38 = .ok (.lreturn, 1) := by decide +kernel
theorem dX6_luck_39 : decode cX6_luck 39 = .ok (.lconst 0, 1) := by decide +kernel
theorem dX6_luck_40 : decode cX6_luck 40 = .ok (.lstore 5, 2) := by decide +kernel
theorem dX6_luck_42 : decode cX6_luck 42 = .ok (.iconst 0, 1) := by decide +kernel
theorem dX6_luck_43 : decode cX6_luck 43 = .ok (.istore 7, 2) := by decide +kernel
theorem dX6_luck_45 : decode cX6_luck 45 = .ok (.iload 7, 2) := by decide +kernel
theorem dX6_luck_47 : decode cX6_luck 47 = .ok (.iconst 1, 1) := by decide +kernel
theorem dX6_luck_48 : decode cX6_luck 48 = .ok (.iload_n 3, 1) := by decide +kernel
theorem dX6_luck_49 : decode cX6_luck 49 = .ok (.ishl, 1) := by decide +kernel
theorem dX6_luck_50 : decode cX6_luck 50 = .ok (.if_icmp .ge 68, 3) := by decide +kernel
theorem dX6_luck_53 : decode cX6_luck 53 = .ok (.aload_n 0, 1) := by decide +kernel
theorem dX6_luck_54 : decode cX6_luck 54 = .ok (.getfield 23, 3) := by decide +kernel
theorem dX6_luck_57 : decode cX6_luck 57 = .ok (.aload_n 0, 1) := by decide +kernel
theorem dX6_luck_58 : decode cX6_luck 58 = .ok (.getfield 19, 3) := by decide +kernel
theorem dX6_luck_61 : decode cX6_luck 61 = .ok (.invokevirtual 72, 3) := by decide +kernel
theorem dX6_luck_64 : decode cX6_luck 64 = .ok (.aload_n 0, 1) := by decide +kernel
theorem dX6_luck_65 : decode cX6_luck 65 = .ok (.getfield 23, 3) := by decide +kernel
theorem dX6_luck_68 : decode cX6_luck 68 = .ok (.iload_n 3, 1) := by decide +kernel
theorem dX6_luck_69 : decode cX6_luck 69 = .ok (.iload 7, 2) := by decide +kernel
theorem dX6_luck_71 : decode cX6_luck 71 = .ok (.invokevirtual 180, 3) := by decide +kernel
theorem dX6_luck_74 : decode cX6_luck 74 = .ok (.pop, 1) := by decide +kernel
theorem dX6_luck_75 : decode cX6_luck 75 = .ok (.aload_n 0, 1) := by decide +kernel
theorem dX6_luck_76 : decode cX6_luck 76 = .ok (.getfield 23, 3) := by decide +kernel
theorem dX6_luck_79 : decode cX6_luck 79 = .ok (.getfield 109, 3) := by decide +kernel
theorem dX6_luck_82 : decode cX6_luck 82 = .ok (.iload_n 2, 1) := by decide +kernel
theorem dX6_luck_83 : decode cX6_luck 83 = .ok (.aaload, 1) := by decide +kernel
theorem dX6_luck_84 : decode cX6_luck 84 = .ok (.aload_n 0, 1) := by decide +kernel
theorem dX6_luck_85 : decode cX6_luck 85 = .ok (.getfield 23, 3) := by decide +kernel
theorem dX6_luck_88 : decode cX6_luck 88 = .ok (.getfield 96, 3) := by decide +kernel
theorem dX6_luck_91 : decode cX6_luck 91 = .ok (.invokevirtual 127, 3) := by decide +kernel
theorem dX6_luck_94 : decode cX6_luck 94 = .ok (.ifCond .ne 18, 3) := by decide +kernel
theorem dX6_luck_97 : decode cX6_luck 97 = .ok (.lload 5, 2) := by decide +kernel
theorem dX6_luck_99 : decode cX6_luck 99 = .ok (.iload_n 1, 1) := by decide +kernel
theorem dX6_luck_100 : decode cX6_luck 100 = .ok (.iload_n 3, 1) := by decide +kernel
theorem dX6_luck_101 : decode cX6_luck 101 = .ok (.iload 7, 2) := by decide +kernel
theorem dX6_luck_103 : decode cX6_luck 103 = .ok (.invokestatic 184, 3) := by decide +kernel
theorem dX6_luck_106 : decode cX6_luck 106 = .ok (.invokestatic 189, 3) := by decide +kernel
theorem dX6_luck_109 : decode cX6_luck 109 = .ok (.ladd, 1) := by decide +kernel
theorem dX6_luck_110 : decode cX6_luck 110 = .ok (.lstore 5, 2) := by decide +kernel
theorem dX6_luck_112 : decode cX6_luck 112 = .ok (.iinc 7 1, 3) := by decide +kernel
theorem dX6_luck_115 : decode cX6_luck 115 = .ok (.goto (-70), 3) := by decide +kernel
theorem dX6_luck_118 : decode cX6_luck 118 = .ok (.lload 5, 2) := by decide +kernel
theorem dX6_luck_120 : decode cX6_luck 120 = .ok (.bipush 10, 2) := by decide +kernel
theorem dX6_luck_122 : decode cX6_luck 122 = .ok (.iload_n 3, 1) := by decide +kernel
theorem dX6_luck_123 : decode cX6_luck 123 = .ok (.invokestatic 193, 3) := by decide +kernel
theorem dX6_luck_126 : decode cX6_luck 126 = .ok (.iload 4, 2) := by decide +kernel
theorem dX6_luck_128 : decode cX6_luck 128 = .ok (.invokestatic 197, 3) := by decide +kernel
theorem dX6_luck_131 : decode cX6_luck 131 = .ok (.lreturn, 1) := by decide +kernel
theorem dX6_mean_0 : decode cX6_mean 0 = .ok (.iload_n 1, 1) := by decide +kernel
theorem dX6_mean_1 : decode cX6_mean 1 = .ok (.bipush 10, 2) := by decide +kernel
theorem dX6_mean_3 : decode cX6_mean 3 = .ok (.invokestatic 47, 3) := by decide +kernel
theorem dX6_mean_6 : decode cX6_mean 6 = .ok (.ifCond .eq 20, 3) := by decide +kernel
theorem dX6_mean_9 : decode cX6_mean 9 = .ok (.iload_n 2, 1) := by decide +kernel
theorem dX6_mean_10 : decode cX6_mean 10 = .ok (.bipush 8, 2) := by decide +kernel
theorem dX6_mean_12 : decode cX6_mean 12 = .ok (.invokestatic 47, 3) := by decide +kernel
theorem dX6_mean_15 : decode cX6_mean 15 = .ok (.ifCond .eq 11, 3) := by decide +kernel
theorem dX6_mean_18 : decode cX6_mean 18 = .ok (.iload_n 3, 1) := by decide +kernel
theorem dX6_mean_19 : decode cX6_mean 19 = .ok (.iconst 1, 1) := by decide +kernel
theorem dX6_mean_20 : decode cX6_mean 20 = .ok (.invokestatic 47, 3) := by decide +kernel
theorem dX6_mean_23 : decode cX6_mean 23 = .ok (.ifCond .ne 7, 3) := by decide +kernel
theorem dX6_mean_26 : decode cX6_mean 26 = .ok (.ldc2_w 178, 3) := by decide +kernel
theorem dX6_mean_29 : decode cX6_mean 29 = .ok (.lreturn, 1) := by decide +kernel
theorem dX6_mean_30 : decode cX6_mean 30 = .ok (.lconst 0, 1) := by decide +kernel
theorem dX6_mean_31 : decode cX6_mean 31 = .ok (.lstore 4, 2) := by decide +kernel
theorem dX6_mean_33 : decode cX6_mean 33 = .ok (.iconst 0, 1) := by decide +kernel
theorem dX6_mean_34 : decode cX6_mean 34 = .ok (.istore 6, 2) := by decide +kernel
theorem dX6_mean_36 : decode cX6_mean 36 = .ok (.iload 6, 2) := by decide +kernel
theorem dX6_mean_38 : decode cX6_mean 38 = .ok (.iconst 1, 1) := by decide +kernel
theorem dX6_mean_39 : decode cX6_mean 39 = .ok (.iload_n 2, 1) := by decide +kernel
theorem dX6_mean_40 : decode cX6_mean 40 = .ok (.ishl, 1) := by decide +kernel
theorem dX6_mean_41 : decode cX6_mean 41 = .ok (.if_icmp .ge 51, 3) := by decide +kernel
theorem dX6_mean_44 : decode cX6_mean 44 = .ok (.aload_n 0, 1) := by decide +kernel
theorem dX6_mean_45 : decode cX6_mean 45 = .ok (.getfield 23, 3) := by decide +kernel
theorem dX6_mean_48 : decode cX6_mean 48 = .ok (.aload_n 0, 1) := by decide +kernel
theorem dX6_mean_49 : decode cX6_mean 49 = .ok (.getfield 19, 3) := by decide +kernel
theorem dX6_mean_52 : decode cX6_mean 52 = .ok (.invokevirtual 72, 3) := by decide +kernel
theorem dX6_mean_55 : decode cX6_mean 55 = .ok (.aload_n 0, 1) := by decide +kernel
theorem dX6_mean_56 : decode cX6_mean 56 = .ok (.getfield 23, 3) := by decide +kernel
theorem dX6_mean_59 : decode cX6_mean 59 = .ok (.iload_n 2, 1) := by decide +kernel
theorem dX6_mean_60 : decode cX6_mean 60 = .ok (.iload 6, 2) := by decide +kernel
theorem dX6_mean_62 : decode cX6_mean 62 = .ok (.invokevirtual 180, 3) := by decide +kernel
theorem dX6_mean_65 : decode cX6_mean 65 = .ok (.istore 7, 2) := by decide +kernel
theorem dX6_mean_67 : decode cX6_mean 67 = .ok (.lload 4, 2) := by decide +kernel
theorem dX6_mean_69 : decode cX6_mean 69 = .ok (.iload 7, 2) := by decide +kernel
theorem dX6_mean_71 : decode cX6_mean 71 = .ok (.i2l, 1) := by decide +kernel
theorem dX6_mean_72 : decode cX6_mean 72 = .ok (.iload_n 1, 1) := by decide +kernel
theorem dX6_mean_73 : decode cX6_mean 73 = .ok (.iload_n 2, 1) := by decide +kernel
theorem dX6_mean_74 : decode cX6_mean 74 = .ok (.iload 6, 2) := by decide +kernel
theorem dX6_mean_76 : decode cX6_mean 76 = .ok (.invokestatic 184, 3) := by decide +kernel
theorem dX6_mean_79 : decode cX6_mean 79 = .ok (.invokestatic 189, 3) := by decide +kernel
theorem dX6_mean_82 : decode cX6_mean 82 = .ok (.lmul, 1) := by decide +kernel
theorem dX6_mean_83 : decode cX6_mean 83 = .ok (.ladd, 1) := by decide +kernel
theorem dX6_mean_84 : decode cX6_mean 84 = .ok (.lstore 4, 2) := by decide +kernel
theorem dX6_mean_86 : decode cX6_mean 86 = .ok (.iinc 6 1, 3) := by decide +kernel
theorem dX6_mean_89 : decode cX6_mean 89 = .ok (.goto (-53), 3) := by decide +kernel
theorem dX6_mean_92 : decode cX6_mean 92 = .ok (.lload 4, 2) := by decide +kernel
theorem dX6_mean_94 : decode cX6_mean 94 = .ok (.bipush 10, 2) := by decide +kernel
theorem dX6_mean_96 : decode cX6_mean 96 = .ok (.iload_n 2, 1) := by decide +kernel
theorem dX6_mean_97 : decode cX6_mean 97 = .ok (.invokestatic 193, 3) := by decide +kernel
theorem dX6_mean_100 : decode cX6_mean 100 = .ok (.iload_n 3, 1) := by decide +kernel
theorem dX6_mean_101 : decode cX6_mean 101 = .ok (.invokestatic 197, 3) := by decide +kernel
theorem dX6_mean_104 : decode cX6_mean 104 = .ok (.lreturn, 1) := by decide +kernel
theorem dX6_see_0 : decode cX6_see 0 = .ok (.iload_n 1, 1) := by decide +kernel
theorem dX6_see_1 : decode cX6_see 1 = .ok (.bipush 40, 2) := by decide +kernel
theorem dX6_see_3 : decode cX6_see 3 = .ok (.invokestatic 47, 3) := by decide +kernel
theorem dX6_see_6 : decode cX6_see 6 = .ok (.ifCond .eq 20, 3) := by decide +kernel
theorem dX6_see_9 : decode cX6_see 9 = .ok (.aload_n 0, 1) := by decide +kernel
theorem dX6_see_10 : decode cX6_see 10 = .ok (.iload_n 2, 1) := by decide +kernel
theorem dX6_see_11 : decode cX6_see 11 = .ok (.invokevirtual 105, 3) := by decide +kernel
theorem dX6_see_14 : decode cX6_see 14 = .ok (.ifCond .eq 12, 3) := by decide +kernel
theorem dX6_see_17 : decode cX6_see 17 = .ok (.iload_n 3, 1) := by decide +kernel
theorem dX6_see_18 : decode cX6_see 18 = .ok (.bipush 7, 2) := by decide +kernel
theorem dX6_see_20 : decode cX6_see 20 = .ok (.invokestatic 47, 3) := by decide +kernel
theorem dX6_see_23 : decode cX6_see 23 = .ok (.ifCond .ne 5, 3) := by decide +kernel
theorem dX6_see_26 : decode cX6_see 26 = .ok (.iconst (-1), 1) := by decide +kernel
theorem dX6_see_27 : decode cX6_see 27 = .ok (.ireturn, 1) := by decide +kernel
theorem dX6_see_28 : decode cX6_see 28 = .ok (.aload_n 0, 1) := by decide +kernel
theorem dX6_see_29 : decode cX6_see 29 = .ok (.getfield 29, 3) := by decide +kernel
theorem dX6_see_32 : decode cX6_see 32 = .ok (.iload_n 1, 1) := by decide +kernel
theorem dX6_see_33 : decode cX6_see 33 = .ok (.iload_n 2, 1) := by decide +kernel
theorem dX6_see_34 : decode cX6_see 34 = .ok (.iload_n 3, 1) := by decide +kernel
theorem dX6_see_35 : decode cX6_see 35 = .ok (.invokevirtual 201, 3) := by decide +kernel
theorem dX6_see_38 : decode cX6_see 38 = .ok (.ifCond .eq 13, 3) := by decide +kernel
theorem dX6_see_41 : decode cX6_see 41 = .ok (.aload_n 0, 1) := by decide +kernel
theorem dX6_see_42 : decode cX6_see 42 = .ok (.getfield 29, 3) := by decide +kernel
theorem dX6_see_45 : decode cX6_see 45 = .ok (.getfield 76, 3) := by decide +kernel
theorem dX6_see_48 : decode cX6_see 48 = .ok (.goto 5, 3) := by decide +kernel
theorem dX6_see_51 : decode cX6_see 51 = .ok (.bipush (-3), 2) := by decide +kernel
theorem dX6_see_53 : decode cX6_see 53 = .ok (.ireturn, 1) := by decide +kernel
theorem dX6_forget_0 : decode cX6_forget 0 = .ok (.iload_n 1, 1) := by decide +kernel
theorem dX6_forget_1 : decode cX6_forget 1 = .ok (.aload_n 0, 1) := by decide +kernel
theorem dX6_forget_2 : decode cX6_forget 2 = .ok (.getfield 29, 3) := by decide +kernel
theorem dX6_forget_5 : decode cX6_forget 5 = .ok (.getfield 76, 3) := by decide +kernel
theorem dX6_forget_8 : decode cX6_forget 8 = .ok (.invokestatic 47, 3) := by decide +kernel
theorem dX6_forget_11 : decode cX6_forget 11 = .ok (.ifCond .ne 5, 3) := by decide +kernel
theorem dX6_forget_14 : decode cX6_forget 14 = .ok (.iconst (-1), 1) := by decide +kernel
theorem dX6_forget_15 : decode cX6_forget 15 = .ok (.ireturn, 1) := by decide +kernel
theorem dX6_forget_16 : decode cX6_forget 16 = .ok (.aload_n 0, 1) := by decide +kernel
theorem dX6_forget_17 : decode cX6_forget 17 = .ok (.getfield 29, 3) := by decide +kernel
theorem dX6_forget_20 : decode cX6_forget 20 = .ok (.getfield 76, 3) := by decide +kernel
theorem dX6_forget_23 : decode cX6_forget 23 = .ok (.istore_n 2, 1) := by decide +kernel
theorem dX6_forget_24 : decode cX6_forget 24 = .ok (.aload_n 0, 1) := by decide +kernel
theorem dX6_forget_25 : decode cX6_forget 25 = .ok (.getfield 29, 3) := by decide +kernel
theorem dX6_forget_28 : decode cX6_forget 28 = .ok (.iload_n 1, 1) := by decide +kernel
theorem dX6_forget_29 : decode cX6_forget 29 = .ok (.putfield 76, 3) := by decide +kernel
theorem dX6_forget_32 : decode cX6_forget 32 = .ok (.iload_n 2, 1) := by decide +kernel
theorem dX6_forget_33 : decode cX6_forget 33 = .ok (.ireturn, 1) := by decide +kernel
theorem dX6_kinds_0 : decode cX6_kinds 0 = .ok (.aload_n 0, 1) := by decide +kernel
theorem dX6_kinds_1 : decode cX6_kinds 1 = .ok (.iload_n 1, 1) := by decide +kernel
theorem dX6_kinds_2 : decode cX6_kinds 2 = .ok (.invokevirtual 105, 3) := by decide +kernel
theorem dX6_kinds_5 : decode cX6_kinds 5 = .ok (.ifCond .eq 13, 3) := by decide +kernel
theorem dX6_kinds_8 : decode cX6_kinds 8 = .ok (.aload_n 0, 1) := by decide +kernel
theorem dX6_kinds_9 : decode cX6_kinds 9 = .ok (.iload_n 1, 1) := by decide +kernel
theorem dX6_kinds_10 : decode cX6_kinds 10 = .ok (.iconst 0, 1) := by decide +kernel
theorem dX6_kinds_11 : decode cX6_kinds 11 = .ok (.iconst 3, 1) := by decide +kernel
theorem dX6_kinds_12 : decode cX6_kinds 12 = .ok (.invokevirtual 205, 3) := by decide +kernel
theorem dX6_kinds_15 : decode cX6_kinds 15 = .ok (.goto 4, 3) := by decide +kernel
theorem dX6_kinds_18 : decode cX6_kinds 18 = .ok (.iconst (-1), 1) := by decide +kernel
theorem dX6_kinds_19 : decode cX6_kinds 19 = .ok (.ireturn, 1) := by decide +kernel
theorem dX6_grips_0 : decode cX6_grips 0 = .ok (.aload_n 0, 1) := by decide +kernel
theorem dX6_grips_1 : decode cX6_grips 1 = .ok (.iload_n 1, 1) := by decide +kernel
theorem dX6_grips_2 : decode cX6_grips 2 = .ok (.invokevirtual 105, 3) := by decide +kernel
theorem dX6_grips_5 : decode cX6_grips 5 = .ok (.ifCond .eq 13, 3) := by decide +kernel
theorem dX6_grips_8 : decode cX6_grips 8 = .ok (.aload_n 0, 1) := by decide +kernel
theorem dX6_grips_9 : decode cX6_grips 9 = .ok (.iload_n 1, 1) := by decide +kernel
theorem dX6_grips_10 : decode cX6_grips 10 = .ok (.iconst 1, 1) := by decide +kernel
theorem dX6_grips_11 : decode cX6_grips 11 = .ok (.iconst 3, 1) := by decide +kernel
theorem dX6_grips_12 : decode cX6_grips 12 = .ok (.invokevirtual 205, 3) := by decide +kernel
theorem dX6_grips_15 : decode cX6_grips 15 = .ok (.goto 4, 3) := by decide +kernel
theorem dX6_grips_18 : decode cX6_grips 18 = .ok (.iconst (-1), 1) := by decide +kernel
theorem dX6_grips_19 : decode cX6_grips 19 = .ok (.ireturn, 1) := by decide +kernel
theorem dX6_starts_0 : decode cX6_starts 0 = .ok (.aload_n 0, 1) := by decide +kernel
theorem dX6_starts_1 : decode cX6_starts 1 = .ok (.iload_n 1, 1) := by decide +kernel
theorem dX6_starts_2 : decode cX6_starts 2 = .ok (.invokevirtual 105, 3) := by decide +kernel
theorem dX6_starts_5 : decode cX6_starts 5 = .ok (.ifCond .eq 14, 3) := by decide +kernel
theorem dX6_starts_8 : decode cX6_starts 8 = .ok (.aload_n 0, 1) := by decide +kernel
theorem dX6_starts_9 : decode cX6_starts 9 = .ok (.iload_n 1, 1) := by decide +kernel
theorem dX6_starts_10 : decode cX6_starts 10 = .ok (.iconst 2, 1) := by decide +kernel
theorem dX6_starts_11 : decode cX6_starts 11 = .ok (.bipush 7, 2) := by decide +kernel
theorem dX6_starts_13 : decode cX6_starts 13 = .ok (.invokevirtual 205, 3) := by decide +kernel
theorem dX6_starts_16 : decode cX6_starts 16 = .ok (.goto 4, 3) := by decide +kernel
theorem dX6_starts_19 : decode cX6_starts 19 = .ok (.iconst (-1), 1) := by decide +kernel
theorem dX6_starts_20 : decode cX6_starts 20 = .ok (.ireturn, 1) := by decide +kernel
theorem dX6_ask_0 : decode cX6_ask 0 = .ok (.aload_n 0, 1) := by decide +kernel
theorem dX6_ask_1 : decode cX6_ask 1 = .ok (.iload_n 1, 1) := by decide +kernel
theorem dX6_ask_2 : decode cX6_ask 2 = .ok (.invokevirtual 105, 3) := by decide +kernel
theorem dX6_ask_5 : decode cX6_ask 5 = .ok (.ifCond .eq 11, 3) := by decide +kernel
theorem dX6_ask_8 : decode cX6_ask 8 = .ok (.iload_n 2, 1) := by decide +kernel
theorem dX6_ask_9 : decode cX6_ask 9 = .ok (.iconst 1, 1) := by decide +kernel
theorem dX6_ask_10 : decode cX6_ask 10 = .ok (.invokestatic 47, 3) := by decide +kernel
theorem dX6_ask_13 : decode cX6_ask 13 = .ok (.ifCond .ne 5, 3) := by decide +kernel
theorem dX6_ask_16 : decode cX6_ask 16 = .ok (.iconst (-1), 1) := by decide +kernel
theorem dX6_ask_17 : decode cX6_ask 17 = .ok (.ireturn, 1) := by decide +kernel
theorem dX6_ask_18 : decode cX6_ask 18 = .ok (.aload_n 0, 1) := by decide +kernel
theorem dX6_ask_19 : decode cX6_ask 19 = .ok (.iload_n 1, 1) := by decide +kernel
theorem dX6_ask_20 : decode cX6_ask 20 = .ok (.iconst 2, 1) := by decide +kernel
theorem dX6_ask_21 : decode cX6_ask 21 = .ok (.bipush 7, 2) := by decide +kernel
theorem dX6_ask_23 : decode cX6_ask 23 = .ok (.invokevirtual 205, 3) := by decide +kernel
theorem dX6_ask_26 : decode cX6_ask 26 = .ok (.invokestatic 184, 3) := by decide +kernel
theorem dX6_ask_29 : decode cX6_ask 29 = .ok (.iconst 2, 1) := by decide +kernel
theorem dX6_ask_30 : decode cX6_ask 30 = .ok (.if_icmp .ge 6, 3) := by decide +kernel
theorem dX6_ask_33 : decode cX6_ask 33 = .ok (.bipush (-4), 2) := by decide +kernel
theorem dX6_ask_35 : decode cX6_ask 35 = .ok (.ireturn, 1) := by decide +kernel
theorem dX6_ask_36 : decode cX6_ask 36 = .ok (.iload_n 2, 1) := by decide +kernel
theorem dX6_ask_37 : decode cX6_ask 37 = .ok (.ifCond .ne 7, 3) := by decide +kernel
theorem dX6_ask_40 : decode cX6_ask 40 = .ok (.iconst 0, 1) := by decide +kernel
theorem dX6_ask_41 : decode cX6_ask 41 = .ok (.goto 4, 3) := by decide +kernel
theorem dX6_ask_44 : decode cX6_ask 44 = .ok (.iconst 1, 1) := by decide +kernel
theorem dX6_ask_45 : decode cX6_ask 45 = .ok (.ireturn, 1) := by decide +kernel
theorem dX6_drift_0 : decode cX6_drift 0 = .ok (.iload_n 2, 1) := by decide +kernel
theorem dX6_drift_1 : decode cX6_drift 1 = .ok (.iconst 1, 1) := by decide +kernel
theorem dX6_drift_2 : decode cX6_drift 2 = .ok (.if_icmp .lt 18, 3) := by decide +kernel
theorem dX6_drift_5 : decode cX6_drift 5 = .ok (.iload_n 2, 1) := by decide +kernel
theorem dX6_drift_6 : decode cX6_drift 6 = .ok (.sipush 200, 3) := by decide +kernel
theorem dX6_drift_9 : decode cX6_drift 9 = .ok (.if_icmp .gt 11, 3) := by decide +kernel
theorem dX6_drift_12 : decode cX6_drift 12 = .ok (.iload_n 3, 1) := by decide +kernel
theorem dX6_drift_13 : decode cX6_drift 13 = .ok (.iconst 1, 1) := by decide +kernel
theorem dX6_drift_14 : decode cX6_drift 14 = .ok (.invokestatic 47, 3) := by decide +kernel
theorem dX6_drift_17 : decode cX6_drift 17 = .ok (.ifCond .ne 5, 3) := by decide +kernel
theorem dX6_drift_20 : decode cX6_drift 20 = .ok (.iconst (-1), 1) := by decide +kernel
theorem dX6_drift_21 : decode cX6_drift 21 = .ok (.ireturn, 1) := by decide +kernel
theorem dX6_drift_22 : decode cX6_drift 22 = .ok (.aload_n 0, 1) := by decide +kernel
theorem dX6_drift_23 : decode cX6_drift 23 = .ok (.getfield 19, 3) := by decide +kernel
theorem dX6_drift_26 : decode cX6_drift 26 = .ok (.getfield 83, 3) := by decide +kernel
theorem dX6_drift_29 : decode cX6_drift 29 = .ok (.ifCond .ne 6, 3) := by decide +kernel
theorem dX6_drift_32 : decode cX6_drift 32 = .ok (.bipush (-2), 2) := by decide +kernel
theorem dX6_drift_34 : decode cX6_drift 34 = .ok (.ireturn, 1) := by decide +kernel
theorem dX6_drift_35 : decode cX6_drift 35 = .ok (.aload_n 0, 1) := by decide +kernel
theorem dX6_drift_36 : decode cX6_drift 36 = .ok (.getfield 23, 3) := by decide +kernel
theorem dX6_drift_39 : decode cX6_drift 39 = .ok (.aload_n 0, 1) := by decide +kernel
theorem dX6_drift_40 : decode cX6_drift 40 = .ok (.getfield 19, 3) := by decide +kernel
theorem dX6_drift_43 : decode cX6_drift 43 = .ok (.invokevirtual 72, 3) := by decide +kernel
theorem dX6_drift_46 : decode cX6_drift 46 = .ok (.iconst 0, 1) := by decide +kernel
theorem dX6_drift_47 : decode cX6_drift 47 = .ok (.istore 4, 2) := by decide +kernel
theorem dX6_drift_49 : decode cX6_drift 49 = .ok (.iload_n 1, 1) := by decide +kernel
theorem dX6_drift_50 : decode cX6_drift 50 = .ok (.istore 5, 2) := by decide +kernel
theorem dX6_drift_52 : decode cX6_drift 52 = .ok (.iconst 0, 1) := by decide +kernel
theorem dX6_drift_53 : decode cX6_drift 53 = .ok (.istore 6, 2) := by decide +kernel
theorem dX6_drift_55 : decode cX6_drift 55 = .ok (.iload 6, 2) := by decide +kernel
theorem dX6_drift_57 : decode cX6_drift 57 = .ok (.iload_n 2, 1) := by decide +kernel
theorem dX6_drift_58 : decode cX6_drift 58 = .ok (.if_icmp .ge 56, 3) := by decide +kernel
theorem dX6_drift_61 : decode cX6_drift 61 = .ok (.iload 5, 2) := by decide +kernel
theorem dX6_drift_63 : decode cX6_drift 63 = .ok (.ldc 209, 2) := by decide +kernel
theorem dX6_drift_65 : decode cX6_drift 65 = .ok (.imul, 1) := by decide +kernel
theorem dX6_drift_66 : decode cX6_drift 66 = .ok (.sipush 12345, 3) := by decide +kernel
theorem dX6_drift_69 : decode cX6_drift 69 = .ok (.iadd, 1) := by decide +kernel
theorem dX6_drift_70 : decode cX6_drift 70 = .ok (.istore 5, 2) := by decide +kernel
theorem dX6_drift_72 : decode cX6_drift 72 = .ok (.iload 5, 2) := by decide +kernel
theorem dX6_drift_74 : decode cX6_drift 74 = .ok (.bipush 16, 2) := by decide +kernel
theorem dX6_drift_76 : decode cX6_drift 76 = .ok (.iushr, 1) := by decide +kernel
theorem dX6_drift_77 : decode cX6_drift 77 = .ok (.sipush 32767, 3) := by decide +kernel
theorem dX6_drift_80 : decode cX6_drift 80 = .ok (.iand, 1) := by decide +kernel
theorem dX6_drift_81 : decode cX6_drift 81 = .ok (.istore 7, 2) := by decide +kernel
theorem dX6_drift_83 : decode cX6_drift 83 = .ok (.aload_n 0, 1) := by decide +kernel
theorem dX6_drift_84 : decode cX6_drift 84 = .ok (.getfield 23, 3) := by decide +kernel
theorem dX6_drift_87 : decode cX6_drift 87 = .ok (.iload 7, 2) := by decide +kernel
theorem dX6_drift_89 : decode cX6_drift 89 = .ok (.iconst 4, 1) := by decide +kernel
theorem dX6_drift_90 : decode cX6_drift 90 = .ok (.idiv, 1) := by decide +kernel
theorem dX6_drift_91 : decode cX6_drift 91 = .ok (.iconst 4, 1) := by decide +kernel
theorem dX6_drift_92 : decode cX6_drift 92 = .ok (.irem, 1) := by decide +kernel
theorem dX6_drift_93 : decode cX6_drift 93 = .ok (.invokevirtual 210, 3) := by decide +kernel
theorem dX6_drift_96 : decode cX6_drift 96 = .ok (.iload 4, 2) := by decide +kernel
theorem dX6_drift_98 : decode cX6_drift 98 = .ok (.aload_n 0, 1) := by decide +kernel
theorem dX6_drift_99 : decode cX6_drift 99 = .ok (.getfield 23, 3) := by decide +kernel
theorem dX6_drift_102 : decode cX6_drift 102 = .ok (.invokevirtual 158, 3) := by decide +kernel
theorem dX6_drift_105 : decode cX6_drift 105 = .ok (.iadd, 1) := by decide +kernel
theorem dX6_drift_106 : decode cX6_drift 106 = .ok (.istore 4, 2) := by decide +kernel
theorem dX6_drift_108 : decode cX6_drift 108 = .ok (.iinc 6 1, 3) := by decide +kernel
theorem dX6_drift_111 : decode cX6_drift 111 = .ok (.goto (-56), 3) := by decide +kernel
theorem dX6_drift_114 : decode cX6_drift 114 = .ok (.iload_n 3, 1) := by decide +kernel
theorem dX6_drift_115 : decode cX6_drift 115 = .ok (.ifCond .ne 13, 3) := by decide +kernel
theorem dX6_drift_118 : decode cX6_drift 118 = .ok (.aload_n 0, 1) := by decide +kernel
theorem dX6_drift_119 : decode cX6_drift 119 = .ok (.getfield 23, 3) := by decide +kernel
theorem dX6_drift_122 : decode cX6_drift 122 = .ok (.invokevirtual 102, 3) := by decide +kernel
theorem dX6_drift_125 : decode cX6_drift 125 = .ok (.goto 5, 3) := by decide +kernel
theorem dX6_drift_128 : decode cX6_drift 128 = .ok (.iload 4, 2) := by decide +kernel
theorem dX6_drift_130 : decode cX6_drift 130 = .ok (.ireturn, 1) := by decide +kernel
theorem dX6_keep_0 : decode cX6_keep 0 = .ok (.iload_n 1, 1) := by decide +kernel
theorem dX6_keep_1 : decode cX6_keep 1 = .ok (.iconst 1, 1) := by decide +kernel
theorem dX6_keep_2 : decode cX6_keep 2 = .ok (.invokestatic 47, 3) := by decide +kernel
theorem dX6_keep_5 : decode cX6_keep 5 = .ok (.ifCond .ne 5, 3) := by decide +kernel
theorem dX6_keep_8 : decode cX6_keep 8 = .ok (.iconst (-1), 1) := by decide +kernel
theorem dX6_keep_9 : decode cX6_keep 9 = .ok (.ireturn, 1) := by decide +kernel
theorem dX6_keep_10 : decode cX6_keep 10 = .ok (.aload_n 0, 1) := by decide +kernel
theorem dX6_keep_11 : decode cX6_keep 11 = .ok (.getfield 35, 3) := by decide +kernel
theorem dX6_keep_14 : decode cX6_keep 14 = .ok (.iload_n 1, 1) := by decide +kernel
theorem dX6_keep_15 : decode cX6_keep 15 = .ok (.aaload, 1) := by decide +kernel
theorem dX6_keep_16 : decode cX6_keep 16 = .ok (.astore_n 2, 1) := by decide +kernel
theorem dX6_keep_17 : decode cX6_keep 17 = .ok (.aload_n 2, 1) := by decide +kernel
theorem dX6_keep_18 : decode cX6_keep 18 = .ok (.getfield 79, 3) := by decide +kernel
theorem dX6_keep_21 : decode cX6_keep 21 = .ok (.ifCond .eq 7, 3) := by decide +kernel
theorem dX6_keep_24 : decode cX6_keep 24 = .ok (.iconst 1, 1) := by decide +kernel
theorem dX6_keep_25 : decode cX6_keep 25 = .ok (.goto 4, 3) := by decide +kernel
theorem dX6_keep_28 : decode cX6_keep 28 = .ok (.iconst 0, 1) := by decide +kernel
theorem dX6_keep_29 : decode cX6_keep 29 = .ok (.istore_n 3, 1) := by decide +kernel
theorem dX6_keep_30 : decode cX6_keep 30 = .ok (.aload_n 2, 1) := by decide +kernel
theorem dX6_keep_31 : decode cX6_keep 31 = .ok (.getfield 214, 3) := by decide +kernel
theorem dX6_keep_34 : decode cX6_keep 34 = .ok (.aload_n 0, 1) := by decide +kernel
theorem dX6_keep_35 : decode cX6_keep 35 = .ok (.getfield 19, 3) := by decide +kernel
theorem dX6_keep_38 : decode cX6_keep 38 = .ok (.invokevirtual 72, 3) := by decide +kernel
theorem dX6_keep_41 : decode cX6_keep 41 = .ok (.aload_n 2, 1) := by decide +kernel
theorem dX6_keep_42 : decode cX6_keep 42 = .ok (.getfield 217, 3) := by decide +kernel
theorem dX6_keep_45 : decode cX6_keep 45 = .ok (.aload_n 0, 1) := by decide +kernel
theorem dX6_keep_46 : decode cX6_keep 46 = .ok (.getfield 29, 3) := by decide +kernel
theorem dX6_keep_49 : decode cX6_keep 49 = .ok (.invokevirtual 218, 3) := by decide +kernel
theorem dX6_keep_52 : decode cX6_keep 52 = .ok (.aload_n 2, 1) := by decide +kernel
theorem dX6_keep_53 : decode cX6_keep 53 = .ok (.iconst 1, 1) := by decide +kernel
theorem dX6_keep_54 : decode cX6_keep 54 = .ok (.putfield 79, 3) := by decide +kernel
theorem dX6_keep_57 : decode cX6_keep 57 = .ok (.iload_n 3, 1) := by decide +kernel
theorem dX6_keep_58 : decode cX6_keep 58 = .ok (.ireturn, 1) := by decide +kernel
theorem dX6_back_0 : decode cX6_back 0 = .ok (.iload_n 1, 1) := by decide +kernel
theorem dX6_back_1 : decode cX6_back 1 = .ok (.iconst 1, 1) := by decide +kernel
theorem dX6_back_2 : decode cX6_back 2 = .ok (.invokestatic 47, 3) := by decide +kernel
theorem dX6_back_5 : decode cX6_back 5 = .ok (.ifCond .ne 5, 3) := by decide +kernel
theorem dX6_back_8 : decode cX6_back 8 = .ok (.iconst (-1), 1) := by decide +kernel
theorem dX6_back_9 : decode cX6_back 9 = .ok (.ireturn, 1) := by decide +kernel
theorem dX6_back_10 : decode cX6_back 10 = .ok (.aload_n 0, 1) := by decide +kernel
theorem dX6_back_11 : decode cX6_back 11 = .ok (.getfield 35, 3) := by decide +kernel
theorem dX6_back_14 : decode cX6_back 14 = .ok (.iload_n 1, 1) := by decide +kernel
theorem dX6_back_15 : decode cX6_back 15 = .ok (.aaload, 1) := by decide +kernel
theorem dX6_back_16 : decode cX6_back 16 = .ok (.astore_n 2, 1) := by decide +kernel
theorem dX6_back_17 : decode cX6_back 17 = .ok (.aload_n 2, 1) := by decide +kernel
theorem dX6_back_18 : decode cX6_back 18 = .ok (.getfield 79, 3) := by decide +kernel
theorem dX6_back_21 : decode cX6_back 21 = .ok (.ifCond .ne 6, 3) := by decide +kernel
theorem dX6_back_24 : decode cX6_back 24 = .ok (.bipush (-2), 2) := by decide +kernel
theorem dX6_back_26 : decode cX6_back 26 = .ok (.ireturn, 1) := by decide +kernel
theorem dX6_back_27 : decode cX6_back 27 = .ok (.aload_n 0, 1) := by decide +kernel
theorem dX6_back_28 : decode cX6_back 28 = .ok (.getfield 19, 3) := by decide +kernel
theorem dX6_back_31 : decode cX6_back 31 = .ok (.aload_n 2, 1) := by decide +kernel
theorem dX6_back_32 : decode cX6_back 32 = .ok (.getfield 214, 3) := by decide +kernel
theorem dX6_back_35 : decode cX6_back 35 = .ok (.invokevirtual 72, 3) := by decide +kernel
theorem dX6_back_38 : decode cX6_back 38 = .ok (.aload_n 0, 1) := by decide +kernel
theorem dX6_back_39 : decode cX6_back 39 = .ok (.getfield 29, 3) := by decide +kernel
theorem dX6_back_42 : decode cX6_back 42 = .ok (.aload_n 2, 1) := by decide +kernel
theorem dX6_back_43 : decode cX6_back 43 = .ok (.getfield 217, 3) := by decide +kernel
theorem dX6_back_46 : decode cX6_back 46 = .ok (.invokevirtual 218, 3) := by decide +kernel
theorem dX6_back_49 : decode cX6_back 49 = .ok (.aload_n 0, 1) := by decide +kernel
theorem dX6_back_50 : decode cX6_back 50 = .ok (.getfield 19, 3) := by decide +kernel
theorem dX6_back_53 : decode cX6_back 53 = .ok (.getfield 89, 3) := by decide +kernel
theorem dX6_back_56 : decode cX6_back 56 = .ok (.ireturn, 1) := by decide +kernel
theorem dX6_sheet_0 : decode cX6_sheet 0 = .ok (.iload_n 1, 1) := by decide +kernel
theorem dX6_sheet_1 : decode cX6_sheet 1 = .ok (.iconst 3, 1) := by decide +kernel
theorem dX6_sheet_2 : decode cX6_sheet 2 = .ok (.invokestatic 47, 3) := by decide +kernel
theorem dX6_sheet_5 : decode cX6_sheet 5 = .ok (.ifCond .eq 17, 3) := by decide +kernel
theorem dX6_sheet_8 : decode cX6_sheet 8 = .ok (.iload_n 2, 1) := by decide +kernel
theorem dX6_sheet_9 : decode cX6_sheet 9 = .ok (.iconst 2, 1) := by decide +kernel
theorem dX6_sheet_10 : decode cX6_sheet 10 = .ok (.invokestatic 47, 3) := by decide +kernel
theorem dX6_sheet_13 : decode cX6_sheet 13 = .ok (.ifCond .eq 9, 3) := by decide +kernel
theorem dX6_sheet_16 : decode cX6_sheet 16 = .ok (.iload_n 3, 1) := by decide +kernel
theorem dX6_sheet_17 : decode cX6_sheet 17 = .ok (.bipush 40, 2) := by decide +kernel
theorem dX6_sheet_19 : decode cX6_sheet 19 = .ok (.if_icmp .le 5, 3) := by decide +kernel
theorem dX6_sheet_22 : decode cX6_sheet 22 = .ok (.iconst (-1), 1) := by decide +kernel
theorem dX6_sheet_23 : decode cX6_sheet 23 = .ok (.ireturn, 1) := by decide +kernel
theorem dX6_sheet_24 : decode cX6_sheet 24 = .ok (.iload_n 3, 1) := by decide +kernel
theorem dX6_sheet_25 : decode cX6_sheet 25 = .ok (.ifCond .ge 6, 3) := by decide +kernel
theorem dX6_sheet_28 : decode cX6_sheet 28 = .ok (.bipush (-14), 2) := by decide +kernel
theorem dX6_sheet_30 : decode cX6_sheet 30 = .ok (.ireturn, 1) := by decide +kernel
theorem dX6_sheet_31 : decode cX6_sheet 31 = .ok (.aload_n 0, 1) := by decide +kernel
theorem dX6_sheet_32 : decode cX6_sheet 32 = .ok (.getfield 42, 3) := by decide +kernel
theorem dX6_sheet_35 : decode cX6_sheet 35 = .ok (.iload_n 1, 1) := by decide +kernel
theorem dX6_sheet_36 : decode cX6_sheet 36 = .ok (.aaload, 1) := by decide +kernel
theorem dX6_sheet_37 : decode cX6_sheet 37 = .ok (.iload_n 2, 1) := by decide +kernel
theorem dX6_sheet_38 : decode cX6_sheet 38 = .ok (.iload_n 3, 1) := by decide +kernel
theorem dX6_sheet_39 : decode cX6_sheet 39 = .ok (.invokevirtual 221, 3) := by decide +kernel
theorem dX6_sheet_42 : decode cX6_sheet 42 = .ok (.iconst 1, 1) := by decide +kernel
theorem dX6_sheet_43 : decode cX6_sheet 43 = .ok (.ireturn, 1) := by decide +kernel
theorem dX6_lay_0 : decode cX6_lay 0 = .ok (.iload_n 1, 1) := by decide +kernel
theorem dX6_lay_1 : decode cX6_lay 1 = .ok (.iconst 3, 1) := by decide +kernel
theorem dX6_lay_2 : decode cX6_lay 2 = .ok (.invokestatic 47, 3) := by decide +kernel
theorem dX6_lay_5 : decode cX6_lay 5 = .ok (.ifCond .ne 5, 3) := by decide +kernel
theorem dX6_lay_8 : decode cX6_lay 8 = .ok (.iconst (-1), 1) := by decide +kernel
theorem dX6_lay_9 : decode cX6_lay 9 = .ok (.ireturn, 1) := by decide +kernel
theorem dX6_lay_10 : decode cX6_lay 10 = .ok (.aload_n 0, 1) := by decide +kernel
theorem dX6_lay_11 : decode cX6_lay 11 = .ok (.getfield 42, 3) := by decide +kernel
theorem dX6_lay_14 : decode cX6_lay 14 = .ok (.iload_n 1, 1) := by decide +kernel
theorem dX6_lay_15 : decode cX6_lay 15 = .ok (.aaload, 1) := by decide +kernel
theorem dX6_lay_16 : decode cX6_lay 16 = .ok (.iload_n 2, 1) := by decide +kernel
theorem dX6_lay_17 : decode cX6_lay 17 = .ok (.invokevirtual 225, 3) := by decide +kernel
theorem dX6_lay_20 : decode cX6_lay 20 = .ok (.istore 4, 2) := by decide +kernel
theorem dX6_lay_22 : decode cX6_lay 22 = .ok (.iload 4, 2) := by decide +kernel
theorem dX6_lay_24 : decode cX6_lay 24 = .ok (.ifCond .eq 9, 3) := by decide +kernel
theorem dX6_lay_27 : decode cX6_lay 27 = .ok (.bipush (-10), 2) := by decide +kernel
theorem dX6_lay_29 : decode cX6_lay 29 = .ok (.iload 4, 2) := by decide +kernel
theorem dX6_lay_31 : decode cX6_lay 31 = .ok (.isub, 1) := by decide +kernel
theorem dX6_lay_32 : decode cX6_lay 32 = .ok (.ireturn, 1) := by decide +kernel
theorem dX6_lay_33 : decode cX6_lay 33 = .ok (.aload_n 0, 1) := by decide +kernel
theorem dX6_lay_34 : decode cX6_lay 34 = .ok (.getfield 42, 3) := by decide +kernel
theorem dX6_lay_37 : decode cX6_lay 37 = .ok (.iload_n 1, 1) := by decide +kernel
theorem dX6_lay_38 : decode cX6_lay 38 = .ok (.aaload, 1) := by decide +kernel
theorem dX6_lay_39 : decode cX6_lay 39 = .ok (.iload_n 2, 1) := by decide +kernel
theorem dX6_lay_40 : decode cX6_lay 40 = .ok (.iload_n 3, 1) := by decide +kernel
theorem dX6_lay_41 : decode cX6_lay 41 = .ok (.invokevirtual 228, 3) := by decide +kernel
theorem dX6_lay_44 : decode cX6_lay 44 = .ok (.iconst 1, 1) := by decide +kernel
theorem dX6_lay_45 : decode cX6_lay 45 = .ok (.ireturn, 1) := by decide +kernel
theorem dX6_read_0 : decode cX6_read 0 = .ok (.iload_n 1, 1) := by decide +kernel
theorem dX6_read_1 : decode cX6_read 1 = .ok (.iconst 3, 1) := by decide +kernel
theorem dX6_read_2 : decode cX6_read 2 = .ok (.invokestatic 47, 3) := by decide +kernel
theorem dX6_read_5 : decode cX6_read 5 = .ok (.ifCond .eq 21, 3) := by decide +kernel
theorem dX6_read_8 : decode cX6_read 8 = .ok (.iload_n 2, 1) := by decide +kernel
theorem dX6_read_9 : decode cX6_read 9 = .ok (.iconst 2, 1) := by decide +kernel
theorem dX6_read_10 : decode cX6_read 10 = .ok (.invokestatic 47, 3) := by decide +kernel
theorem dX6_read_13 : decode cX6_read 13 = .ok (.ifCond .eq 13, 3) := by decide +kernel
theorem dX6_read_16 : decode cX6_read 16 = .ok (.iload 4, 2) := by decide +kernel
theorem dX6_read_18 : decode cX6_read 18 = .ok (.bipush 20, 2) := by decide +kernel
theorem dX6_read_20 : decode cX6_read 20 = .ok (.invokestatic 47, 3) := by decide +kernel
theorem dX6_read_23 : decode cX6_read 23 = .ok (.ifCond .ne 5, 3) := by decide +kernel
theorem dX6_read_26 : decode cX6_read 26 = .ok (.iconst (-1), 1) := by decide +kernel
theorem dX6_read_27 : decode cX6_read 27 = .ok (.ireturn, 1) := by decide +kernel
theorem dX6_read_28 : decode cX6_read 28 = .ok (.aload_n 0, 1) := by decide +kernel
theorem dX6_read_29 : decode cX6_read 29 = .ok (.getfield 42, 3) := by decide +kernel
theorem dX6_read_32 : decode cX6_read 32 = .ok (.iload_n 1, 1) := by decide +kernel
theorem dX6_read_33 : decode cX6_read 33 = .ok (.aaload, 1) := by decide +kernel
theorem dX6_read_34 : decode cX6_read 34 = .ok (.astore 5, 2) := by decide +kernel
theorem dX6_read_36 : decode cX6_read 36 = .ok (.iconst 0, 1) := by decide +kernel
theorem dX6_read_37 : decode cX6_read 37 = .ok (.istore 6, 2) := by decide +kernel
theorem dX6_read_39 : decode cX6_read 39 = .ok (.iconst 0, 1) := by decide +kernel
theorem dX6_read_40 : decode cX6_read 40 = .ok (.istore 7, 2) := by decide +kernel
theorem dX6_read_42 : decode cX6_read 42 = .ok (.iload 6, 2) := by decide +kernel
theorem dX6_read_44 : decode cX6_read 44 = .ok (.iload 4, 2) := by decide +kernel
theorem dX6_read_46 : decode cX6_read 46 = .ok (.if_icmp .ge 66, 3) := by decide +kernel
theorem dX6_read_49 : decode cX6_read 49 = .ok (.iload_n 3, 1) := by decide +kernel
theorem dX6_read_50 : decode cX6_read 50 = .ok (.iconst 2, 1) := by decide +kernel
theorem dX6_read_51 : decode cX6_read 51 = .ok (.iload 6, 2) := by decide +kernel
theorem dX6_read_53 : decode cX6_read 53 = .ok (.imul, 1) := by decide +kernel
theorem dX6_read_54 : decode cX6_read 54 = .ok (.iadd, 1) := by decide +kernel
theorem dX6_read_55 : decode cX6_read 55 = .ok (.istore 8, 2) := by decide +kernel
theorem dX6_read_57 : decode cX6_read 57 = .ok (.aload 5, 2) := by decide +kernel
theorem dX6_read_59 : decode cX6_read 59 = .ok (.iload_n 2, 1) := by decide +kernel
theorem dX6_read_60 : decode cX6_read 60 = .ok (.iload 8, 2) := by decide +kernel
theorem dX6_read_62 : decode cX6_read 62 = .ok (.invokevirtual 231, 3) := by decide +kernel
theorem dX6_read_65 : decode cX6_read 65 = .ok (.istore 7, 2) := by decide +kernel
theorem dX6_read_67 : decode cX6_read 67 = .ok (.iload 7, 2) := by decide +kernel
theorem dX6_read_69 : decode cX6_read 69 = .ok (.ifCond .eq 6, 3) := by decide +kernel
theorem dX6_read_72 : decode cX6_read 72 = .ok (.goto 40, 3) := by decide +kernel
theorem dX6_read_75 : decode cX6_read 75 = .ok (.aload_n 0, 1) := by decide +kernel
theorem dX6_read_76 : decode cX6_read 76 = .ok (.aload 5, 2) := by decide +kernel
theorem dX6_read_78 : decode cX6_read 78 = .ok (.getfield 234, 3) := by decide +kernel
theorem dX6_read_81 : decode cX6_read 81 = .ok (.iload 8, 2) := by decide +kernel
theorem dX6_read_83 : decode cX6_read 83 = .ok (.iaload, 1) := by decide +kernel
theorem dX6_read_84 : decode cX6_read 84 = .ok (.aload 5, 2) := by decide +kernel
theorem dX6_read_86 : decode cX6_read 86 = .ok (.getfield 234, 3) := by decide +kernel
theorem dX6_read_89 : decode cX6_read 89 = .ok (.iload 8, 2) := by decide +kernel
theorem dX6_read_91 : decode cX6_read 91 = .ok (.iconst 1, 1) := by decide +kernel
theorem dX6_read_92 : decode cX6_read 92 = .ok (.iadd, 1) := by decide +kernel
theorem dX6_read_93 : decode cX6_read 93 = .ok (.iaload, 1) := by decide +kernel
theorem dX6_read_94 : decode cX6_read 94 = .ok (.invokevirtual 146, 3) := by decide +kernel
theorem dX6_read_97 : decode cX6_read 97 = .ok (.ifCond .ne 9, 3) := by decide +kernel
theorem dX6_read_100 : decode cX6_read 100 = .ok (.bipush (-20), 2) := by decide +kernel
theorem dX6_read_102 : decode cX6_read 102 = .ok (.iload 6, 2) := by decide +kernel
theorem dX6_read_104 : decode cX6_read 104 = .ok (.isub, 1) := by decide +kernel
theorem dX6_read_105 : decode cX6_read 105 = .ok (.ireturn, 1) := by decide +kernel
theorem dX6_read_106 : decode cX6_read 106 = .ok (.iinc 6 1, 3) := by decide +kernel
theorem dX6_read_109 : decode cX6_read 109 = .ok (.goto (-67), 3) := by decide +kernel
theorem dX6_read_112 : decode cX6_read 112 = .ok (.iconst 0, 1) := by decide +kernel
theorem dX6_read_113 : decode cX6_read 113 = .ok (.istore 8, 2) := by decide +kernel
theorem dX6_read_115 : decode cX6_read 115 = .ok (.iload 8, 2) := by decide +kernel
theorem dX6_read_117 : decode cX6_read 117 = .ok (.iload 6, 2) := by decide +kernel
theorem dX6_read_119 : decode cX6_read 119 = .ok (.if_icmp .ge 43, 3) := by decide +kernel
theorem dX6_read_122 : decode cX6_read 122 = .ok (.iload_n 3, 1) := by decide +kernel
theorem dX6_read_123 : decode cX6_read 123 = .ok (.iconst 2, 1) := by decide +kernel
theorem dX6_read_124 : decode cX6_read 124 = .ok (.iload 8, 2) := by decide +kernel
theorem dX6_read_126 : decode cX6_read 126 = .ok (.imul, 1) := by decide +kernel
theorem dX6_read_127 : decode cX6_read 127 = .ok (.iadd, 1) := by decide +kernel
theorem dX6_read_128 : decode cX6_read 128 = .ok (.istore 9, 2) := by decide +kernel
theorem dX6_read_130 : decode cX6_read 130 = .ok (.aload_n 0, 1) := by decide +kernel
theorem dX6_read_131 : decode cX6_read 131 = .ok (.getfield 19, 3) := by decide +kernel
theorem dX6_read_134 : decode cX6_read 134 = .ok (.getfield 137, 3) := by decide +kernel
theorem dX6_read_137 : decode cX6_read 137 = .ok (.aload 5, 2) := by decide +kernel
theorem dX6_read_139 : decode cX6_read 139 = .ok (.getfield 234, 3) := by decide +kernel
theorem dX6_read_142 : decode cX6_read 142 = .ok (.iload 9, 2) := by decide +kernel
theorem dX6_read_144 : decode cX6_read 144 = .ok (.iaload, 1) := by decide +kernel
theorem dX6_read_145 : decode cX6_read 145 = .ok (.aload 5, 2) := by decide +kernel
theorem dX6_read_147 : decode cX6_read 147 = .ok (.getfield 234, 3) := by decide +kernel
theorem dX6_read_150 : decode cX6_read 150 = .ok (.iload 9, 2) := by decide +kernel
theorem dX6_read_152 : decode cX6_read 152 = .ok (.iconst 1, 1) := by decide +kernel
theorem dX6_read_153 : decode cX6_read 153 = .ok (.iadd, 1) := by decide +kernel
theorem dX6_read_154 : decode cX6_read 154 = .ok (.iaload, 1) := by decide +kernel
theorem dX6_read_155 : decode cX6_read 155 = .ok (.iastore, 1) := by decide +kernel
theorem dX6_read_156 : decode cX6_read 156 = .ok (.iinc 8 1, 3) := by decide +kernel
theorem dX6_read_159 : decode cX6_read 159 = .ok (.goto (-44), 3) := by decide +kernel
theorem dX6_read_162 : decode cX6_read 162 = .ok (.aload_n 0, 1) := by decide +kernel
theorem dX6_read_163 : decode cX6_read 163 = .ok (.iload 7, 2) := by decide +kernel
theorem dX6_read_165 : decode cX6_read 165 = .ok (.putfield 237, 3) := by decide +kernel
theorem dX6_read_168 : decode cX6_read 168 = .ok (.iload 6, 2) := by decide +kernel
theorem dX6_read_170 : decode cX6_read 170 = .ok (.ireturn, 1) := by decide +kernel
theorem dX6_torn_0 : decode cX6_torn 0 = .ok (.aload_n 0, 1) := by decide +kernel
theorem dX6_torn_1 : decode cX6_torn 1 = .ok (.getfield 237, 3) := by decide +kernel
theorem dX6_torn_4 : decode cX6_torn 4 = .ok (.ireturn, 1) := by decide +kernel
theorem dX6_count_0 : decode cX6_count 0 = .ok (.iload_n 1, 1) := by decide +kernel
theorem dX6_count_1 : decode cX6_count 1 = .ok (.tableswitch 135 0 5 #[39, 47, 83, 91, 119, 127], 39) := by decide +kernel
theorem dX6_count_40 : decode cX6_count 40 = .ok (.aload_n 0, 1) := by decide +kernel
theorem dX6_count_41 : decode cX6_count 41 = .ok (.getfield 29, 3) := by decide +kernel
theorem dX6_count_44 : decode cX6_count 44 = .ok (.getfield 76, 3) := by decide +kernel
theorem dX6_count_47 : decode cX6_count 47 = .ok (.ireturn, 1) := by decide +kernel
theorem dX6_count_48 : decode cX6_count 48 = .ok (.aload_n 0, 1) := by decide +kernel
theorem dX6_count_49 : decode cX6_count 49 = .ok (.getfield 35, 3) := by decide +kernel
theorem dX6_count_52 : decode cX6_count 52 = .ok (.iconst 0, 1) := by decide +kernel
theorem dX6_count_53 : decode cX6_count 53 = .ok (.aaload, 1) := by decide +kernel
theorem dX6_count_54 : decode cX6_count 54 = .ok (.getfield 79, 3) := by decide +kernel
theorem dX6_count_57 : decode cX6_count 57 = .ok (.ifCond .eq 7, 3) := by decide +kernel
theorem dX6_count_60 : decode cX6_count 60 = .ok (.iconst 1, 1) := by decide +kernel
theorem dX6_count_61 : decode cX6_count 61 = .ok (.goto 4, 3) := by decide +kernel
theorem dX6_count_64 : decode cX6_count 64 = .ok (.iconst 0, 1) := by decide +kernel
theorem dX6_count_65 : decode cX6_count 65 = .ok (.aload_n 0, 1) := by decide +kernel
theorem dX6_count_66 : decode cX6_count 66 = .ok (.getfield 35, 3) := by decide +kernel
theorem dX6_count_69 : decode cX6_count 69 = .ok (.iconst 1, 1) := by decide +kernel
theorem dX6_count_70 : decode cX6_count 70 = .ok (.aaload, 1) := by decide +kernel
theorem dX6_count_71 : decode cX6_count 71 = .ok (.getfield 79, 3) := by decide +kernel
theorem dX6_count_74 : decode cX6_count 74 = .ok (.ifCond .eq 7, 3) := by decide +kernel
theorem dX6_count_77 : decode cX6_count 77 = .ok (.iconst 1, 1) := by decide +kernel
theorem dX6_count_78 : decode cX6_count 78 = .ok (.goto 4, 3) := by decide +kernel
theorem dX6_count_81 : decode cX6_count 81 = .ok (.iconst 0, 1) := by decide +kernel
theorem dX6_count_82 : decode cX6_count 82 = .ok (.iadd, 1) := by decide +kernel
theorem dX6_count_83 : decode cX6_count 83 = .ok (.ireturn, 1) := by decide +kernel
theorem dX6_count_84 : decode cX6_count 84 = .ok (.aload_n 0, 1) := by decide +kernel
theorem dX6_count_85 : decode cX6_count 85 = .ok (.getfield 10, 3) := by decide +kernel
theorem dX6_count_88 : decode cX6_count 88 = .ok (.getfield 51, 3) := by decide +kernel
theorem dX6_count_91 : decode cX6_count 91 = .ok (.ireturn, 1) := by decide +kernel
theorem dX6_count_92 : decode cX6_count 92 = .ok (.aload_n 0, 1) := by decide +kernel
theorem dX6_count_93 : decode cX6_count 93 = .ok (.getfield 42, 3) := by decide +kernel
theorem dX6_count_96 : decode cX6_count 96 = .ok (.iconst 0, 1) := by decide +kernel
theorem dX6_count_97 : decode cX6_count 97 = .ok (.aaload, 1) := by decide +kernel
theorem dX6_count_98 : decode cX6_count 98 = .ok (.getfield 240, 3) := by decide +kernel
theorem dX6_count_101 : decode cX6_count 101 = .ok (.iconst (-1), 1) := by decide +kernel
theorem dX6_count_102 : decode cX6_count 102 = .ok (.if_icmp .ne 8, 3) := by decide +kernel
theorem dX6_count_105 : decode cX6_count 105 = .ok (.bipush (-4), 2) := by decide +kernel
theorem dX6_count_107 : decode cX6_count 107 = .ok (.goto 12, 3) := by decide +kernel
theorem dX6_count_110 : decode cX6_count 110 = .ok (.aload_n 0, 1) := by decide +kernel
theorem dX6_count_111 : decode cX6_count 111 = .ok (.getfield 42, 3) := by decide +kernel
theorem dX6_count_114 : decode cX6_count 114 = .ok (.iconst 0, 1) := by decide +kernel
theorem dX6_count_115 : decode cX6_count 115 = .ok (.aaload, 1) := by decide +kernel
theorem dX6_count_116 : decode cX6_count 116 = .ok (.getfield 243, 3) := by decide +kernel
theorem dX6_count_119 : decode cX6_count 119 = .ok (.ireturn, 1) := by decide +kernel
theorem dX6_count_120 : decode cX6_count 120 = .ok (.aload_n 0, 1) := by decide +kernel
theorem dX6_count_121 : decode cX6_count 121 = .ok (.getfield 19, 3) := by decide +kernel
theorem dX6_count_124 : decode cX6_count 124 = .ok (.invokevirtual 246, 3) := by decide +kernel
theorem dX6_count_127 : decode cX6_count 127 = .ok (.ireturn, 1) := by decide +kernel
theorem dX6_count_128 : decode cX6_count 128 = .ok (.aload_n 0, 1) := by decide +kernel
theorem dX6_count_129 : decode cX6_count 129 = .ok (.getfield 19, 3) := by decide +kernel
theorem dX6_count_132 : decode cX6_count 132 = .ok (.invokevirtual 249, 3) := by decide +kernel
theorem dX6_count_135 : decode cX6_count 135 = .ok (.ireturn, 1) := by decide +kernel
theorem dX6_count_136 : decode cX6_count 136 = .ok (.iconst (-1), 1) := by decide +kernel
theorem dX6_count_137 : decode cX6_count 137 = .ok (.ireturn, 1) := by decide +kernel
theorem dX6_within_0 : decode cX6_within 0 = .ok (.iload_n 0, 1) := by decide +kernel
theorem dX6_within_1 : decode cX6_within 1 = .ok (.ifCond .lt 12, 3) := by decide +kernel
theorem dX6_within_4 : decode cX6_within 4 = .ok (.iload_n 0, 1) := by decide +kernel
theorem dX6_within_5 : decode cX6_within 5 = .ok (.iload_n 1, 1) := by decide +kernel
theorem dX6_within_6 : decode cX6_within 6 = .ok (.if_icmp .gt 7, 3) := by decide +kernel
theorem dX6_within_9 : decode cX6_within 9 = .ok (.iconst 1, 1) := by decide +kernel
theorem dX6_within_10 : decode cX6_within 10 = .ok (.goto 4, 3) := by decide +kernel
theorem dX6_within_13 : decode cX6_within 13 = .ok (.iconst 0, 1) := by decide +kernel
theorem dX6_within_14 : decode cX6_within 14 = .ok (.ireturn, 1) := by decide +kernel
theorem dX6_hasRotor_0 : decode cX6_hasRotor 0 = .ok (.iload_n 1, 1) := by decide +kernel
theorem dX6_hasRotor_1 : decode cX6_hasRotor 1 = .ok (.ifCond .lt 18, 3) := by decide +kernel
theorem dX6_hasRotor_4 : decode cX6_hasRotor 4 = .ok (.iload_n 1, 1) := by decide +kernel
theorem dX6_hasRotor_5 : decode cX6_hasRotor 5 = .ok (.aload_n 0, 1) := by decide +kernel
theorem dX6_hasRotor_6 : decode cX6_hasRotor 6 = .ok (.getfield 19, 3) := by decide +kernel
theorem dX6_hasRotor_9 : decode cX6_hasRotor 9 = .ok (.getfield 83, 3) := by decide +kernel
theorem dX6_hasRotor_12 : decode cX6_hasRotor 12 = .ok (.if_icmp .ge 7, 3) := by decide +kernel
theorem dX6_hasRotor_15 : decode cX6_hasRotor 15 = .ok (.iconst 1, 1) := by decide +kernel
theorem dX6_hasRotor_16 : decode cX6_hasRotor 16 = .ok (.goto 4, 3) := by decide +kernel
theorem dX6_hasRotor_19 : decode cX6_hasRotor 19 = .ok (.iconst 0, 1) := by decide +kernel
theorem dX6_hasRotor_20 : decode cX6_hasRotor 20 = .ok (.ireturn, 1) := by decide +kernel
theorem dX6_hasSign_0 : decode cX6_hasSign 0 = .ok (.iload_n 1, 1) := by decide +kernel
theorem dX6_hasSign_1 : decode cX6_hasSign 1 = .ok (.ifCond .lt 18, 3) := by decide +kernel
theorem dX6_hasSign_4 : decode cX6_hasSign 4 = .ok (.iload_n 1, 1) := by decide +kernel
theorem dX6_hasSign_5 : decode cX6_hasSign 5 = .ok (.aload_n 0, 1) := by decide +kernel
theorem dX6_hasSign_6 : decode cX6_hasSign 6 = .ok (.getfield 19, 3) := by decide +kernel
theorem dX6_hasSign_9 : decode cX6_hasSign 9 = .ok (.getfield 86, 3) := by decide +kernel
theorem dX6_hasSign_12 : decode cX6_hasSign 12 = .ok (.if_icmp .ge 7, 3) := by decide +kernel
theorem dX6_hasSign_15 : decode cX6_hasSign 15 = .ok (.iconst 1, 1) := by decide +kernel
theorem dX6_hasSign_16 : decode cX6_hasSign 16 = .ok (.goto 4, 3) := by decide +kernel
theorem dX6_hasSign_19 : decode cX6_hasSign 19 = .ok (.iconst 0, 1) := by decide +kernel
theorem dX6_hasSign_20 : decode cX6_hasSign 20 = .ok (.ireturn, 1) := by decide +kernel
theorem dX6_canSet_0 : decode cX6_canSet 0 = .ok (.aload_n 0, 1) := by decide +kernel
theorem dX6_canSet_1 : decode cX6_canSet 1 = .ok (.iload_n 1, 1) := by decide +kernel
theorem dX6_canSet_2 : decode cX6_canSet 2 = .ok (.invokevirtual 134, 3) := by decide +kernel
theorem dX6_canSet_5 : decode cX6_canSet 5 = .ok (.ifCond .eq 15, 3) := by decide +kernel
theorem dX6_canSet_8 : decode cX6_canSet 8 = .ok (.iload_n 2, 1) := by decide +kernel
theorem dX6_canSet_9 : decode cX6_canSet 9 = .ok (.iconst 3, 1) := by decide +kernel
theorem dX6_canSet_10 : decode cX6_canSet 10 = .ok (.invokestatic 47, 3) := by decide +kernel
theorem dX6_canSet_13 : decode cX6_canSet 13 = .ok (.ifCond .eq 7, 3) := by decide +kernel
theorem dX6_canSet_16 : decode cX6_canSet 16 = .ok (.iconst 1, 1) := by decide +kernel
theorem dX6_canSet_17 : decode cX6_canSet 17 = .ok (.goto 4, 3) := by decide +kernel
theorem dX6_canSet_20 : decode cX6_canSet 20 = .ok (.iconst 0, 1) := by decide +kernel
theorem dX6_canSet_21 : decode cX6_canSet 21 = .ok (.ireturn, 1) := by decide +kernel
theorem dX6_tryWith_0 : decode cX6_tryWith 0 = .ok (.aload_n 0, 1) := by decide +kernel
theorem dX6_tryWith_1 : decode cX6_tryWith 1 = .ok (.getfield 23, 3) := by decide +kernel
theorem dX6_tryWith_4 : decode cX6_tryWith 4 = .ok (.aload_n 0, 1) := by decide +kernel
theorem dX6_tryWith_5 : decode cX6_tryWith 5 = .ok (.getfield 19, 3) := by decide +kernel
theorem dX6_tryWith_8 : decode cX6_tryWith 8 = .ok (.invokevirtual 72, 3) := by decide +kernel
theorem dX6_tryWith_11 : decode cX6_tryWith 11 = .ok (.aload_n 0, 1) := by decide +kernel
theorem dX6_tryWith_12 : decode cX6_tryWith 12 = .ok (.getfield 23, 3) := by decide +kernel
theorem dX6_tryWith_15 : decode cX6_tryWith 15 = .ok (.getfield 109, 3) := by decide +kernel
theorem dX6_tryWith_18 : decode cX6_tryWith 18 = .ok (.iload_n 1, 1) := by decide +kernel
theorem dX6_tryWith_19 : decode cX6_tryWith 19 = .ok (.aaload, 1) := by decide +kernel
theorem dX6_tryWith_20 : decode cX6_tryWith 20 = .ok (.astore 4, 2) := by decide +kernel
theorem dX6_tryWith_22 : decode cX6_tryWith 22 = .ok (.iload_n 2, 1) := by decide +kernel
theorem dX6_tryWith_23 : decode cX6_tryWith 23 = .ok (.lookupswitch 43 #[(0, 25), (1, 34)], 25) := by decide +kernel
theorem dX6_tryWith_48 : decode cX6_tryWith 48 = .ok (.aload 4, 2) := by decide +kernel
theorem dX6_tryWith_50 : decode cX6_tryWith 50 = .ok (.iload_n 3, 1) := by decide +kernel
theorem dX6_tryWith_51 : decode cX6_tryWith 51 = .ok (.putfield 113, 3) := by decide +kernel
theorem dX6_tryWith_54 : decode cX6_tryWith 54 = .ok (.goto 23, 3) := by decide +kernel
theorem dX6_tryWith_57 : decode cX6_tryWith 57 = .ok (.aload 4, 2) := by decide +kernel
theorem dX6_tryWith_59 : decode cX6_tryWith 59 = .ok (.iload_n 3, 1) := by decide +kernel
theorem dX6_tryWith_60 : decode cX6_tryWith 60 = .ok (.putfield 118, 3) := by decide +kernel
theorem dX6_tryWith_63 : decode cX6_tryWith 63 = .ok (.goto 14, 3) := by decide +kernel
theorem dX6_tryWith_66 : decode cX6_tryWith 66 = .ok (.aload 4, 2) := by decide +kernel
theorem dX6_tryWith_68 : decode cX6_tryWith 68 = .ok (.dup, 1) := by decide +kernel
theorem dX6_tryWith_69 : decode cX6_tryWith 69 = .ok (.getfield 121, 3) := by decide +kernel
theorem dX6_tryWith_72 : decode cX6_tryWith 72 = .ok (.iload_n 3, 1) := by decide +kernel
theorem dX6_tryWith_73 : decode cX6_tryWith 73 = .ok (.iadd, 1) := by decide +kernel
theorem dX6_tryWith_74 : decode cX6_tryWith 74 = .ok (.putfield 121, 3) := by decide +kernel
theorem dX6_tryWith_77 : decode cX6_tryWith 77 = .ok (.return_, 1) := by decide +kernel
theorem dX6_allLostBehind_0 : decode cX6_allLostBehind 0 = .ok (.aload_n 0, 1) := by decide +kernel
theorem dX6_allLostBehind_1 : decode cX6_allLostBehind 1 = .ok (.getfield 23, 3) := by decide +kernel
theorem dX6_allLostBehind_4 : decode cX6_allLostBehind 4 = .ok (.iload_n 1, 1) := by decide +kernel
theorem dX6_allLostBehind_5 : decode cX6_allLostBehind 5 = .ok (.invokevirtual 152, 3) := by decide +kernel
theorem dX6_allLostBehind_8 : decode cX6_allLostBehind 8 = .ok (.pop, 1) := by decide +kernel
theorem dX6_allLostBehind_9 : decode cX6_allLostBehind 9 = .ok (.aload_n 0, 1) := by decide +kernel
theorem dX6_allLostBehind_10 : decode cX6_allLostBehind 10 = .ok (.getfield 23, 3) := by decide +kernel
theorem dX6_allLostBehind_13 : decode cX6_allLostBehind 13 = .ok (.invokevirtual 102, 3) := by decide +kernel
theorem dX6_allLostBehind_16 : decode cX6_allLostBehind 16 = .ok (.ireturn, 1) := by decide +kernel
theorem dX6_leastLostBy_0 : decode cX6_leastLostBy 0 = .ok (.iconst 0, 1) := by decide +kernel
theorem dX6_leastLostBy_1 : decode cX6_leastLostBy 1 = .ok (.istore 6, 2) := by decide +kernel
theorem dX6_leastLostBy_3 : decode cX6_leastLostBy 3 = .ok (.aload_n 0, 1) := by decide +kernel
theorem dX6_leastLostBy_4 : decode cX6_leastLostBy 4 = .ok (.iload_n 1, 1) := by decide +kernel
theorem dX6_leastLostBy_5 : decode cX6_leastLostBy 5 = .ok (.iload_n 2, 1) := by decide +kernel
theorem dX6_leastLostBy_6 : decode cX6_leastLostBy 6 = .ok (.iconst 0, 1) := by decide +kernel
theorem dX6_leastLostBy_7 : decode cX6_leastLostBy 7 = .ok (.invokevirtual 167, 3) := by decide +kernel
theorem dX6_leastLostBy_10 : decode cX6_leastLostBy 10 = .ok (.aload_n 0, 1) := by decide +kernel
theorem dX6_leastLostBy_11 : decode cX6_leastLostBy 11 = .ok (.iload 4, 2) := by decide +kernel
theorem dX6_leastLostBy_13 : decode cX6_leastLostBy 13 = .ok (.invokevirtual 175, 3) := by decide +kernel
theorem dX6_leastLostBy_16 : decode cX6_leastLostBy 16 = .ok (.istore 7, 2) := by decide +kernel
theorem dX6_leastLostBy_18 : decode cX6_leastLostBy 18 = .ok (.iconst 1, 1) := by decide +kernel
theorem dX6_leastLostBy_19 : decode cX6_leastLostBy 19 = .ok (.istore 8, 2) := by decide +kernel
theorem dX6_leastLostBy_21 : decode cX6_leastLostBy 21 = .ok (.iload 8, 2) := by decide +kernel
theorem dX6_leastLostBy_23 : decode cX6_leastLostBy 23 = .ok (.iload_n 3, 1) := by decide +kernel
theorem dX6_leastLostBy_24 : decode cX6_leastLostBy 24 = .ok (.if_icmp .gt 40, 3) := by decide +kernel
theorem dX6_leastLostBy_27 : decode cX6_leastLostBy 27 = .ok (.aload_n 0, 1) := by decide +kernel
theorem dX6_leastLostBy_28 : decode cX6_leastLostBy 28 = .ok (.iload_n 1, 1) := by decide +kernel
theorem dX6_leastLostBy_29 : decode cX6_leastLostBy 29 = .ok (.iload_n 2, 1) := by decide +kernel
theorem dX6_leastLostBy_30 : decode cX6_leastLostBy 30 = .ok (.iload 8, 2) := by decide +kernel
theorem dX6_leastLostBy_32 : decode cX6_leastLostBy 32 = .ok (.invokevirtual 167, 3) := by decide +kernel
theorem dX6_leastLostBy_35 : decode cX6_leastLostBy 35 = .ok (.aload_n 0, 1) := by decide +kernel
theorem dX6_leastLostBy_36 : decode cX6_leastLostBy 36 = .ok (.iload 4, 2) := by decide +kernel
theorem dX6_leastLostBy_38 : decode cX6_leastLostBy 38 = .ok (.invokevirtual 175, 3) := by decide +kernel
theorem dX6_leastLostBy_41 : decode cX6_leastLostBy 41 = .ok (.istore 9, 2) := by decide +kernel
theorem dX6_leastLostBy_43 : decode cX6_leastLostBy 43 = .ok (.iload 9, 2) := by decide +kernel
theorem dX6_leastLostBy_45 : decode cX6_leastLostBy 45 = .ok (.iload 7, 2) := by decide +kernel
theorem dX6_leastLostBy_47 : decode cX6_leastLostBy 47 = .ok (.if_icmp .ge 11, 3) := by decide +kernel
theorem dX6_leastLostBy_50 : decode cX6_leastLostBy 50 = .ok (.iload 9, 2) := by decide +kernel
theorem dX6_leastLostBy_52 : decode cX6_leastLostBy 52 = .ok (.istore 7, 2) := by decide +kernel
theorem dX6_leastLostBy_54 : decode cX6_leastLostBy 54 = .ok (.iload 8, 2) := by decide +kernel
theorem dX6_leastLostBy_56 : decode cX6_leastLostBy 56 = .ok (.istore 6, 2) := by decide +kernel
theorem dX6_leastLostBy_58 : decode cX6_leastLostBy 58 = .ok (.iinc 8 1, 3) := by decide +kernel
theorem dX6_leastLostBy_61 : decode cX6_leastLostBy 61 = .ok (.goto (-40), 3) := by decide +kernel
theorem dX6_leastLostBy_64 : decode cX6_leastLostBy 64 = .ok (.iload 5, 2) := by decide +kernel
theorem dX6_leastLostBy_66 : decode cX6_leastLostBy 66 = .ok (.ifCond .ne 8, 3) := by decide +kernel
theorem dX6_leastLostBy_69 : decode cX6_leastLostBy 69 = .ok (.iload 6, 2) := by decide +kernel
theorem dX6_leastLostBy_71 : decode cX6_leastLostBy 71 = .ok (.goto 5, 3) := by decide +kernel
theorem dX6_leastLostBy_74 : decode cX6_leastLostBy 74 = .ok (.iload 7, 2) := by decide +kernel
theorem dX6_leastLostBy_76 : decode cX6_leastLostBy 76 = .ok (.ireturn, 1) := by decide +kernel
theorem dX6_losesNothingMore_0 : decode cX6_losesNothingMore 0 = .ok (.aload_n 0, 1) := by decide +kernel
theorem dX6_losesNothingMore_1 : decode cX6_losesNothingMore 1 = .ok (.getfield 23, 3) := by decide +kernel
theorem dX6_losesNothingMore_4 : decode cX6_losesNothingMore 4 = .ok (.iload_n 2, 1) := by decide +kernel
theorem dX6_losesNothingMore_5 : decode cX6_losesNothingMore 5 = .ok (.invokevirtual 152, 3) := by decide +kernel
theorem dX6_losesNothingMore_8 : decode cX6_losesNothingMore 8 = .ok (.pop, 1) := by decide +kernel
theorem dX6_losesNothingMore_9 : decode cX6_losesNothingMore 9 = .ok (.aload_n 0, 1) := by decide +kernel
theorem dX6_losesNothingMore_10 : decode cX6_losesNothingMore 10 = .ok (.getfield 23, 3) := by decide +kernel
theorem dX6_losesNothingMore_13 : decode cX6_losesNothingMore 13 = .ok (.iload_n 1, 1) := by decide +kernel
theorem dX6_losesNothingMore_14 : decode cX6_losesNothingMore 14 = .ok (.invokevirtual 161, 3) := by decide +kernel
theorem dX6_losesNothingMore_17 : decode cX6_losesNothingMore 17 = .ok (.aload_n 0, 1) := by decide +kernel
theorem dX6_losesNothingMore_18 : decode cX6_losesNothingMore 18 = .ok (.getfield 19, 3) := by decide +kernel
theorem dX6_losesNothingMore_21 : decode cX6_losesNothingMore 21 = .ok (.iload_n 1, 1) := by decide +kernel
theorem dX6_losesNothingMore_22 : decode cX6_losesNothingMore 22 = .ok (.invokevirtual 161, 3) := by decide +kernel
theorem dX6_losesNothingMore_25 : decode cX6_losesNothingMore 25 = .ok (.if_icmp .ne 7, 3) := by decide +kernel
theorem dX6_losesNothingMore_28 : decode cX6_losesNothingMore 28 = .ok (.iconst 1, 1) := by decide +kernel
theorem dX6_losesNothingMore_29 : decode cX6_losesNothingMore 29 = .ok (.goto 4, 3) := by decide +kernel
theorem dX6_losesNothingMore_32 : decode cX6_losesNothingMore 32 = .ok (.iconst 0, 1) := by decide +kernel
theorem dX6_losesNothingMore_33 : decode cX6_losesNothingMore 33 = .ok (.ireturn, 1) := by decide +kernel
theorem dX6_goesAsSeen_0 : decode cX6_goesAsSeen 0 = .ok (.aload_n 0, 1) := by decide +kernel
theorem dX6_goesAsSeen_1 : decode cX6_goesAsSeen 1 = .ok (.getfield 29, 3) := by decide +kernel
theorem dX6_goesAsSeen_4 : decode cX6_goesAsSeen 4 = .ok (.invokevirtual 252, 3) := by decide +kernel
theorem dX6_goesAsSeen_7 : decode cX6_goesAsSeen 7 = .ok (.istore_n 1, 1) := by decide +kernel
theorem dX6_goesAsSeen_8 : decode cX6_goesAsSeen 8 = .ok (.iconst 0, 1) := by decide +kernel
theorem dX6_goesAsSeen_9 : decode cX6_goesAsSeen 9 = .ok (.istore_n 2, 1) := by decide +kernel
theorem dX6_goesAsSeen_10 : decode cX6_goesAsSeen 10 = .ok (.iload_n 2, 1) := by decide +kernel
theorem dX6_goesAsSeen_11 : decode cX6_goesAsSeen 11 = .ok (.iload_n 1, 1) := by decide +kernel
theorem dX6_goesAsSeen_12 : decode cX6_goesAsSeen 12 = .ok (.if_icmp .gt 35, 3) := by decide +kernel
theorem dX6_goesAsSeen_15 : decode cX6_goesAsSeen 15 = .ok (.aload_n 0, 1) := by decide +kernel
theorem dX6_goesAsSeen_16 : decode cX6_goesAsSeen 16 = .ok (.getfield 29, 3) := by decide +kernel
theorem dX6_goesAsSeen_19 : decode cX6_goesAsSeen 19 = .ok (.aload_n 0, 1) := by decide +kernel
theorem dX6_goesAsSeen_20 : decode cX6_goesAsSeen 20 = .ok (.getfield 23, 3) := by decide +kernel
theorem dX6_goesAsSeen_23 : decode cX6_goesAsSeen 23 = .ok (.iload_n 2, 1) := by decide +kernel
theorem dX6_goesAsSeen_24 : decode cX6_goesAsSeen 24 = .ok (.invokevirtual 255, 3) := by decide +kernel
theorem dX6_goesAsSeen_27 : decode cX6_goesAsSeen 27 = .ok (.ifCond .ne 5, 3) := by decide +kernel
theorem dX6_goesAsSeen_30 : decode cX6_goesAsSeen 30 = .ok (.iconst 0, 1) := by decide +kernel
theorem dX6_goesAsSeen_31 : decode cX6_goesAsSeen 31 = .ok (.ireturn, 1) := by decide +kernel
theorem dX6_goesAsSeen_32 : decode cX6_goesAsSeen 32 = .ok (.aload_n 0, 1) := by decide +kernel
theorem dX6_goesAsSeen_33 : decode cX6_goesAsSeen 33 = .ok (.getfield 23, 3) := by decide +kernel
theorem dX6_goesAsSeen_36 : decode cX6_goesAsSeen 36 = .ok (.iconst 1, 1) := by decide +kernel
theorem dX6_goesAsSeen_37 : decode cX6_goesAsSeen 37 = .ok (.invokevirtual 152, 3) := by decide +kernel
theorem dX6_goesAsSeen_40 : decode cX6_goesAsSeen 40 = .ok (.pop, 1) := by decide +kernel
theorem dX6_goesAsSeen_41 : decode cX6_goesAsSeen 41 = .ok (.iinc 2 1, 3) := by decide +kernel
theorem dX6_goesAsSeen_44 : decode cX6_goesAsSeen 44 = .ok (.goto (-34), 3) := by decide +kernel
theorem dX6_goesAsSeen_47 : decode cX6_goesAsSeen 47 = .ok (.iconst 1, 1) := by decide +kernel
theorem dX6_goesAsSeen_48 : decode cX6_goesAsSeen 48 = .ok (.ireturn, 1) := by decide +kernel
theorem dX6_asSeenBy_0 : decode cX6_asSeenBy 0 = .ok (.iconst 0, 1) := by decide +kernel
theorem dX6_asSeenBy_1 : decode cX6_asSeenBy 1 = .ok (.istore 4, 2) := by decide +kernel
theorem dX6_asSeenBy_3 : decode cX6_asSeenBy 3 = .ok (.iconst 0, 1) := by decide +kernel
theorem dX6_asSeenBy_4 : decode cX6_asSeenBy 4 = .ok (.istore 5, 2) := by decide +kernel
theorem dX6_asSeenBy_6 : decode cX6_asSeenBy 6 = .ok (.iload 5, 2) := by decide +kernel
theorem dX6_asSeenBy_8 : decode cX6_asSeenBy 8 = .ok (.iload_n 3, 1) := by decide +kernel
theorem dX6_asSeenBy_9 : decode cX6_asSeenBy 9 = .ok (.if_icmp .gt 33, 3) := by decide +kernel
theorem dX6_asSeenBy_12 : decode cX6_asSeenBy 12 = .ok (.aload_n 0, 1) := by decide +kernel
theorem dX6_asSeenBy_13 : decode cX6_asSeenBy 13 = .ok (.iload_n 1, 1) := by decide +kernel
theorem dX6_asSeenBy_14 : decode cX6_asSeenBy 14 = .ok (.iload_n 2, 1) := by decide +kernel
theorem dX6_asSeenBy_15 : decode cX6_asSeenBy 15 = .ok (.iload 5, 2) := by decide +kernel
theorem dX6_asSeenBy_17 : decode cX6_asSeenBy 17 = .ok (.invokevirtual 167, 3) := by decide +kernel
theorem dX6_asSeenBy_20 : decode cX6_asSeenBy 20 = .ok (.aload_n 0, 1) := by decide +kernel
theorem dX6_asSeenBy_21 : decode cX6_asSeenBy 21 = .ok (.invokevirtual 259, 3) := by decide +kernel
theorem dX6_asSeenBy_24 : decode cX6_asSeenBy 24 = .ok (.ifCond .eq 12, 3) := by decide +kernel
theorem dX6_asSeenBy_27 : decode cX6_asSeenBy 27 = .ok (.iload 4, 2) := by decide +kernel
theorem dX6_asSeenBy_29 : decode cX6_asSeenBy 29 = .ok (.iconst 1, 1) := by decide +kernel
theorem dX6_asSeenBy_30 : decode cX6_asSeenBy 30 = .ok (.iload 5, 2) := by decide +kernel
theorem dX6_asSeenBy_32 : decode cX6_asSeenBy 32 = .ok (.ishl, 1) := by decide +kernel
theorem dX6_asSeenBy_33 : decode cX6_asSeenBy 33 = .ok (.ior, 1) := by decide +kernel
theorem dX6_asSeenBy_34 : decode cX6_asSeenBy 34 = .ok (.istore 4, 2) := by decide +kernel
theorem dX6_asSeenBy_36 : decode cX6_asSeenBy 36 = .ok (.iinc 5 1, 3) := by decide +kernel
theorem dX6_asSeenBy_39 : decode cX6_asSeenBy 39 = .ok (.goto (-33), 3) := by decide +kernel
theorem dX6_asSeenBy_42 : decode cX6_asSeenBy 42 = .ok (.iload 4, 2) := by decide +kernel
theorem dX6_asSeenBy_44 : decode cX6_asSeenBy 44 = .ok (.ireturn, 1) := by decide +kernel
theorem dX6_weightOf_0 : decode cX6_weightOf 0 = .ok (.iload_n 0, 1) := by decide +kernel
theorem dX6_weightOf_1 : decode cX6_weightOf 1 = .ok (.iload_n 2, 1) := by decide +kernel
theorem dX6_weightOf_2 : decode cX6_weightOf 2 = .ok (.invokestatic 193, 3) := by decide +kernel
theorem dX6_weightOf_5 : decode cX6_weightOf 5 = .ok (.bipush 10, 2) := by decide +kernel
theorem dX6_weightOf_7 : decode cX6_weightOf 7 = .ok (.iload_n 0, 1) := by decide +kernel
theorem dX6_weightOf_8 : decode cX6_weightOf 8 = .ok (.isub, 1) := by decide +kernel
theorem dX6_weightOf_9 : decode cX6_weightOf 9 = .ok (.iload_n 1, 1) := by decide +kernel
theorem dX6_weightOf_10 : decode cX6_weightOf 10 = .ok (.iload_n 2, 1) := by decide +kernel
theorem dX6_weightOf_11 : decode cX6_weightOf 11 = .ok (.isub, 1) := by decide +kernel
theorem dX6_weightOf_12 : decode cX6_weightOf 12 = .ok (.invokestatic 193, 3) := by decide +kernel
theorem dX6_weightOf_15 : decode cX6_weightOf 15 = .ok (.lmul, 1) := by decide +kernel
theorem dX6_weightOf_16 : decode cX6_weightOf 16 = .ok (.lreturn, 1) := by decide +kernel
theorem dX6_power_0 : decode cX6_power 0 = .ok (.lconst 1, 1) := by decide +kernel
theorem dX6_power_1 : decode cX6_power 1 = .ok (.lstore_n 2, 1) := by decide +kernel
theorem dX6_power_2 : decode cX6_power 2 = .ok (.iconst 0, 1) := by decide +kernel
theorem dX6_power_3 : decode cX6_power 3 = .ok (.istore 4, 2) := by decide +kernel
theorem dX6_power_5 : decode cX6_power 5 = .ok (.iload 4, 2) := by decide +kernel
theorem dX6_power_7 : decode cX6_power 7 = .ok (.iload_n 1, 1) := by decide +kernel
theorem dX6_power_8 : decode cX6_power 8 = .ok (.if_icmp .ge 14, 3) := by decide +kernel
theorem dX6_power_11 : decode cX6_power 11 = .ok (.lload_n 2, 1) := by decide +kernel
theorem dX6_power_12 : decode cX6_power 12 = .ok (.iload_n 0, 1) := by decide +kernel
theorem dX6_power_13 : decode cX6_power 13 = .ok (.i2l, 1) := by decide +kernel
theorem dX6_power_14 : decode cX6_power 14 = .ok (.lmul, 1) := by decide +kernel
theorem dX6_power_15 : decode cX6_power 15 = .ok (.lstore_n 2, 1) := by decide +kernel
theorem dX6_power_16 : decode cX6_power 16 = .ok (.iinc 4 1, 3) := by decide +kernel
theorem dX6_power_19 : decode cX6_power 19 = .ok (.goto (-14), 3) := by decide +kernel
theorem dX6_power_22 : decode cX6_power 22 = .ok (.lload_n 2, 1) := by decide +kernel
theorem dX6_power_23 : decode cX6_power 23 = .ok (.lreturn, 1) := by decide +kernel
theorem dX6_inLowestTerms_0 : decode cX6_inLowestTerms 0 = .ok (.lload_n 0, 1) := by decide +kernel
theorem dX6_inLowestTerms_1 : decode cX6_inLowestTerms 1 = .ok (.lstore 5, 2) := by decide +kernel
theorem dX6_inLowestTerms_3 : decode cX6_inLowestTerms 3 = .ok (.lload_n 2, 1) := by decide +kernel
theorem dX6_inLowestTerms_4 : decode cX6_inLowestTerms 4 = .ok (.lstore 7, 2) := by decide +kernel
theorem dX6_inLowestTerms_6 : decode cX6_inLowestTerms 6 = .ok (.iconst 0, 1) := by decide +kernel
theorem dX6_inLowestTerms_7 : decode cX6_inLowestTerms 7 = .ok (.istore 9, 2) := by decide +kernel
theorem dX6_inLowestTerms_9 : decode cX6_inLowestTerms 9 = .ok (.iload 9, 2) := by decide +kernel
theorem dX6_inLowestTerms_11 : decode cX6_inLowestTerms 11 = .ok (.sipush 1000, 3) := by decide +kernel
theorem dX6_inLowestTerms_14 : decode cX6_inLowestTerms 14 = .ok (.if_icmp .ge 31, 3) := by decide +kernel
theorem dX6_inLowestTerms_17 : decode cX6_inLowestTerms 17 = .ok (.lload 7, 2) := by decide +kernel
theorem dX6_inLowestTerms_19 : decode cX6_inLowestTerms 19 = .ok (.lconst 0, 1) := by decide +kernel
theorem dX6_inLowestTerms_20 : decode cX6_inLowestTerms 20 = .ok (.lcmp, 1) := by decide +kernel
theorem dX6_inLowestTerms_21 : decode cX6_inLowestTerms 21 = .ok (.ifCond .eq 24, 3) := by decide +kernel
theorem dX6_inLowestTerms_24 : decode cX6_inLowestTerms 24 = .ok (.lload 5, 2) := by decide +kernel
theorem dX6_inLowestTerms_26 : decode cX6_inLowestTerms 26 = .ok (.lload 7, 2) := by decide +kernel
theorem dX6_inLowestTerms_28 : decode cX6_inLowestTerms 28 = .ok (.lrem, 1) := by decide +kernel
theorem dX6_inLowestTerms_29 : decode cX6_inLowestTerms 29 = .ok (.lstore 10, 2) := by decide +kernel
theorem dX6_inLowestTerms_31 : decode cX6_inLowestTerms 31 = .ok (.lload 7, 2) := by decide +kernel
theorem dX6_inLowestTerms_33 : decode cX6_inLowestTerms 33 = .ok (.lstore 5, 2) := by decide +kernel
theorem dX6_inLowestTerms_35 : decode cX6_inLowestTerms 35 = .ok (.lload 10, 2) := by decide +kernel
theorem dX6_inLowestTerms_37 : decode cX6_inLowestTerms 37 = .ok (.lstore 7, 2) := by decide +kernel
theorem dX6_inLowestTerms_39 : decode cX6_inLowestTerms 39 = .ok (.iinc 9 1, 3) := by decide +kernel
theorem dX6_inLowestTerms_42 : decode cX6_inLowestTerms 42 = .ok (.goto (-33), 3) := by decide +kernel
theorem dX6_inLowestTerms_45 : decode cX6_inLowestTerms 45 = .ok (.lconst 1, 1) := by decide +kernel
theorem dX6_inLowestTerms_46 : decode cX6_inLowestTerms 46 = .ok (.lload 5, 2) := by decide +kernel
theorem dX6_inLowestTerms_48 : decode cX6_inLowestTerms 48 = .ok (.invokestatic 263, 3) := by decide +kernel
theorem dX6_inLowestTerms_51 : decode cX6_inLowestTerms 51 = .ok (.lstore 9, 2) := by decide +kernel
theorem dX6_inLowestTerms_53 : decode cX6_inLowestTerms 53 = .ok (.iload 4, 2) := by decide +kernel
theorem dX6_inLowestTerms_55 : decode cX6_inLowestTerms 55 = .ok (.ifCond .ne 7, 3) := by decide +kernel
theorem dX6_inLowestTerms_58 : decode cX6_inLowestTerms 58 = .ok (.lload_n 0, 1) := by decide +kernel
theorem dX6_inLowestTerms_59 : decode cX6_inLowestTerms 59 = .ok (.goto 4, 3) := by decide +kernel
theorem dX6_inLowestTerms_62 : decode cX6_inLowestTerms 62 = .ok (.lload_n 2, 1) := by decide +kernel
theorem dX6_inLowestTerms_63 : decode cX6_inLowestTerms 63 = .ok (.lload 9, 2) := by decide +kernel
theorem dX6_inLowestTerms_65 : decode cX6_inLowestTerms 65 = .ok (.ldiv, 1) := by decide +kernel
theorem dX6_inLowestTerms_66 : decode cX6_inLowestTerms 66 = .ok (.lreturn, 1) := by decide +kernel
