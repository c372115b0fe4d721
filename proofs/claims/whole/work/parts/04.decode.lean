theorem dX1_init_0 : decode cX1_init 0 = .ok (.aload_n 0, 1) := by decide +kernel
theorem dX1_init_1 : decode cX1_init 1 = .ok (.invokespecial 3, 3) := by decide +kernel
theorem dX1_init_4 : decode cX1_init 4 = .ok (.aload_n 0, 1) := by decide +kernel
theorem dX1_init_5 : decode cX1_init 5 = .ok (.sipush 800, 3) := by decide +kernel
theorem dX1_init_8 : decode cX1_init 8 = .ok (.newarray .int, 2) := by decide +kernel
theorem dX1_init_10 : decode cX1_init 10 = .ok (.putfield 9, 3) := by decide +kernel
theorem dX1_init_13 : decode cX1_init 13 = .ok (.aload_n 0, 1) := by decide +kernel
theorem dX1_init_14 : decode cX1_init 14 = .ok (.sipush 800, 3) := by decide +kernel
theorem dX1_init_17 : decode cX1_init 17 = .ok (.newarray .int, 2) := by decide +kernel
theorem dX1_init_19 : decode cX1_init 19 = .ok (.putfield 15, 3) := by decide +kernel
theorem dX1_init_22 : decode cX1_init 22 = .ok (.aload_n 0, 1) := by decide +kernel
theorem dX1_init_23 : decode cX1_init 23 = .ok (.sipush 800, 3) := by decide +kernel
theorem dX1_init_26 : decode cX1_init 26 = .ok (.newarray .int, 2) := by decide +kernel
theorem dX1_init_28 : decode cX1_init 28 = .ok (.putfield 18, 3) := by decide +kernel
theorem dX1_init_31 : decode cX1_init 31 = .ok (.aload_n 0, 1) := by decide +kernel
theorem dX1_init_32 : decode cX1_init 32 = .ok (.sipush 800, 3) := by decide +kernel
theorem dX1_init_35 : decode cX1_init 35 = .ok (.newarray .int, 2) := by decide +kernel
theorem dX1_init_37 : decode cX1_init 37 = .ok (.putfield 21, 3) := by decide +kernel
theorem dX1_init_40 : decode cX1_init 40 = .ok (.aload_n 0, 1) := by decide +kernel
theorem dX1_init_41 : decode cX1_init 41 = .ok (.bipush 100, 2) := by decide +kernel
theorem dX1_init_43 : decode cX1_init 43 = .ok (.newarray .int, 2) := by decide +kernel
theorem dX1_init_45 : decode cX1_init 45 = .ok (.putfield 24, 3) := by decide +kernel
theorem dX1_init_48 : decode cX1_init 48 = .ok (.aload_n 0, 1) := by decide +kernel
theorem dX1_init_49 : decode cX1_init 49 = .ok (.bipush 100, 2) := by decide +kernel
theorem dX1_init_51 : decode cX1_init 51 = .ok (.newarray .int, 2) := by decide +kernel
theorem dX1_init_53 : decode cX1_init 53 = .ok (.putfield 27, 3) := by decide +kernel
theorem dX1_init_56 : decode cX1_init 56 = .ok (.aload_n 0, 1) := by decide +kernel
theorem dX1_init_57 : decode cX1_init 57 = .ok (.bipush 100, 2) := by decide +kernel
theorem dX1_init_59 : decode cX1_init 59 = .ok (.newarray .int, 2) := by decide +kernel
theorem dX1_init_61 : decode cX1_init 61 = .ok (.putfield 30, 3) := by decide +kernel
theorem dX1_init_64 : decode cX1_init 64 = .ok (.return_, 1) := by decide +kernel
theorem dX1_has_0 : decode cX1_has 0 = .ok (.iload_n 1, 1) := by decide +kernel
theorem dX1_has_1 : decode cX1_has 1 = .ok (.ifCond .lt 15, 3) := by decide +kernel
theorem dX1_has_4 : decode cX1_has 4 = .ok (.iload_n 1, 1) := by decide +kernel
theorem dX1_has_5 : decode cX1_has 5 = .ok (.aload_n 0, 1) := by decide +kernel
theorem dX1_has_6 : decode cX1_has 6 = .ok (.getfield 33, 3) := by decide +kernel
theorem dX1_has_9 : decode cX1_has 9 = .ok (.if_icmp .ge 7, 3) := by decide +kernel
theorem dX1_has_12 : decode cX1_has 12 = .ok (.iconst 1, 1) := by decide +kernel
theorem dX1_has_13 : decode cX1_has 13 = .ok (.goto 4, 3) := by decide +kernel
theorem dX1_has_16 : decode cX1_has 16 = .ok (.iconst 0, 1) := by decide +kernel
theorem dX1_has_17 : decode cX1_has 17 = .ok (.ireturn, 1) := by decide +kernel
theorem dX1_add_0 : decode cX1_add 0 = .ok (.aload_n 0, 1) := by decide +kernel
theorem dX1_add_1 : decode cX1_add 1 = .ok (.dup, 1) := by decide +kernel
theorem dX1_add_2 : decode cX1_add 2 = .ok (.getfield 37, 3) := by decide +kernel
theorem dX1_add_5 : decode cX1_add 5 = .ok (.iload_n 3, 1) := by decide +kernel
theorem dX1_add_6 : decode cX1_add 6 = .ok (.iadd, 1) := by decide +kernel
theorem dX1_add_7 : decode cX1_add 7 = .ok (.putfield 37, 3) := by decide +kernel
theorem dX1_add_10 : decode cX1_add 10 = .ok (.aload_n 0, 1) := by decide +kernel
theorem dX1_add_11 : decode cX1_add 11 = .ok (.getfield 33, 3) := by decide +kernel
theorem dX1_add_14 : decode cX1_add 14 = .ok (.sipush 800, 3) := by decide +kernel
theorem dX1_add_17 : decode cX1_add 17 = .ok (.if_icmp .lt 4, 3) := by decide +kernel
theorem dX1_add_20 : decode cX1_add 20 = .ok (.return_, 1) := by decide +kernel
theorem dX1_add_21 : decode cX1_add 21 = .ok (.aload_n 0, 1) := by decide +kernel
theorem dX1_add_22 : decode cX1_add 22 = .ok (.getfield 9, 3) := by decide +kernel
theorem dX1_add_25 : decode cX1_add 25 = .ok (.aload_n 0, 1) := by decide +kernel
theorem dX1_add_26 : decode cX1_add 26 = .ok (.getfield 33, 3) := by decide +kernel
theorem dX1_add_29 : decode cX1_add 29 = .ok (.iload_n 1, 1) := by decide +kernel
theorem dX1_add_30 : decode cX1_add 30 = .ok (.iastore, 1) := by decide +kernel
theorem dX1_add_31 : decode cX1_add 31 = .ok (.aload_n 0, 1) := by decide +kernel
theorem dX1_add_32 : decode cX1_add 32 = .ok (.getfield 15, 3) := by decide +kernel
theorem dX1_add_35 : decode cX1_add 35 = .ok (.aload_n 0, 1) := by decide +kernel
theorem dX1_add_36 : decode cX1_add 36 = .ok (.getfield 33, 3) := by decide +kernel
theorem dX1_add_39 : decode cX1_add 39 = .ok (.iload_n 2, 1) := by decide +kernel
theorem dX1_add_40 : decode cX1_add 40 = .ok (.iastore, 1) := by decide +kernel
theorem dX1_add_41 : decode cX1_add 41 = .ok (.aload_n 0, 1) := by decide +kernel
theorem dX1_add_42 : decode cX1_add 42 = .ok (.getfield 18, 3) := by decide +kernel
theorem dX1_add_45 : decode cX1_add 45 = .ok (.aload_n 0, 1) := by decide +kernel
theorem dX1_add_46 : decode cX1_add 46 = .ok (.getfield 33, 3) := by decide +kernel
theorem dX1_add_49 : decode cX1_add 49 = .ok (.iload_n 3, 1) := by decide +kernel
theorem dX1_add_50 : decode cX1_add 50 = .ok (.iastore, 1) := by decide +kernel
theorem dX1_add_51 : decode cX1_add 51 = .ok (.aload_n 0, 1) := by decide +kernel
theorem dX1_add_52 : decode cX1_add 52 = .ok (.getfield 21, 3) := by decide +kernel
theorem dX1_add_55 : decode cX1_add 55 = .ok (.aload_n 0, 1) := by decide +kernel
theorem dX1_add_56 : decode cX1_add 56 = .ok (.getfield 33, 3) := by decide +kernel
theorem dX1_add_59 : decode cX1_add 59 = .ok (.iconst (-1), 1) := by decide +kernel
theorem dX1_add_60 : decode cX1_add 60 = .ok (.iastore, 1) := by decide +kernel
theorem dX1_add_61 : decode cX1_add 61 = .ok (.aload_n 0, 1) := by decide +kernel
theorem dX1_add_62 : decode cX1_add 62 = .ok (.dup, 1) := by decide +kernel
theorem dX1_add_63 : decode cX1_add 63 = .ok (.getfield 33, 3) := by decide +kernel
theorem dX1_add_66 : decode cX1_add 66 = .ok (.iconst 1, 1) := by decide +kernel
theorem dX1_add_67 : decode cX1_add 67 = .ok (.iadd, 1) := by decide +kernel
theorem dX1_add_68 : decode cX1_add 68 = .ok (.putfield 33, 3) := by decide +kernel
theorem dX1_add_71 : decode cX1_add 71 = .ok (.return_, 1) := by decide +kernel
theorem dX1_addRuling_0 : decode cX1_addRuling 0 = .ok (.aload_n 0, 1) := by decide +kernel
theorem dX1_addRuling_1 : decode cX1_addRuling 1 = .ok (.getfield 40, 3) := by decide +kernel
theorem dX1_addRuling_4 : decode cX1_addRuling 4 = .ok (.bipush 100, 2) := by decide +kernel
theorem dX1_addRuling_6 : decode cX1_addRuling 6 = .ok (.if_icmp .lt 5, 3) := by decide +kernel
theorem dX1_addRuling_9 : decode cX1_addRuling 9 = .ok (.iconst 0, 1) := by decide +kernel
theorem dX1_addRuling_10 : decode cX1_addRuling 10 = .ok (.ireturn, 1) := by decide +kernel
theorem dX1_addRuling_11 : decode cX1_addRuling 11 = .ok (.aload_n 0, 1) := by decide +kernel
theorem dX1_addRuling_12 : decode cX1_addRuling 12 = .ok (.getfield 24, 3) := by decide +kernel
theorem dX1_addRuling_15 : decode cX1_addRuling 15 = .ok (.aload_n 0, 1) := by decide +kernel
theorem dX1_addRuling_16 : decode cX1_addRuling 16 = .ok (.getfield 40, 3) := by decide +kernel
theorem dX1_addRuling_19 : decode cX1_addRuling 19 = .ok (.iload_n 3, 1) := by decide +kernel
theorem dX1_addRuling_20 : decode cX1_addRuling 20 = .ok (.iastore, 1) := by decide +kernel
theorem dX1_addRuling_21 : decode cX1_addRuling 21 = .ok (.aload_n 0, 1) := by decide +kernel
theorem dX1_addRuling_22 : decode cX1_addRuling 22 = .ok (.getfield 27, 3) := by decide +kernel
theorem dX1_addRuling_25 : decode cX1_addRuling 25 = .ok (.aload_n 0, 1) := by decide +kernel
theorem dX1_addRuling_26 : decode cX1_addRuling 26 = .ok (.getfield 40, 3) := by decide +kernel
theorem dX1_addRuling_29 : decode cX1_addRuling 29 = .ok (.iload_n 2, 1) := by decide +kernel
theorem dX1_addRuling_30 : decode cX1_addRuling 30 = .ok (.iastore, 1) := by decide +kernel
theorem dX1_addRuling_31 : decode cX1_addRuling 31 = .ok (.aload_n 0, 1) := by decide +kernel
theorem dX1_addRuling_32 : decode cX1_addRuling 32 = .ok (.getfield 30, 3) := by decide +kernel
theorem dX1_addRuling_35 : decode cX1_addRuling 35 = .ok (.aload_n 0, 1) := by decide +kernel
theorem dX1_addRuling_36 : decode cX1_addRuling 36 = .ok (.getfield 40, 3) := by decide +kernel
theorem dX1_addRuling_39 : decode cX1_addRuling 39 = .ok (.aload_n 0, 1) := by decide +kernel
theorem dX1_addRuling_40 : decode cX1_addRuling 40 = .ok (.getfield 21, 3) := by decide +kernel
theorem dX1_addRuling_43 : decode cX1_addRuling 43 = .ok (.iload_n 1, 1) := by decide +kernel
theorem dX1_addRuling_44 : decode cX1_addRuling 44 = .ok (.iaload, 1) := by decide +kernel
theorem dX1_addRuling_45 : decode cX1_addRuling 45 = .ok (.iastore, 1) := by decide +kernel
theorem dX1_addRuling_46 : decode cX1_addRuling 46 = .ok (.aload_n 0, 1) := by decide +kernel
theorem dX1_addRuling_47 : decode cX1_addRuling 47 = .ok (.getfield 21, 3) := by decide +kernel
theorem dX1_addRuling_50 : decode cX1_addRuling 50 = .ok (.iload_n 1, 1) := by decide +kernel
theorem dX1_addRuling_51 : decode cX1_addRuling 51 = .ok (.aload_n 0, 1) := by decide +kernel
theorem dX1_addRuling_52 : decode cX1_addRuling 52 = .ok (.getfield 40, 3) := by decide +kernel
theorem dX1_addRuling_55 : decode cX1_addRuling 55 = .ok (.iastore, 1) := by decide +kernel
theorem dX1_addRuling_56 : decode cX1_addRuling 56 = .ok (.aload_n 0, 1) := by decide +kernel
theorem dX1_addRuling_57 : decode cX1_addRuling 57 = .ok (.dup, 1) := by decide +kernel
theorem dX1_addRuling_58 : decode cX1_addRuling 58 = .ok (.getfield 40, 3) := by decide +kernel
theorem dX1_addRuling_61 : decode cX1_addRuling 61 = .ok (.iconst 1, 1) := by decide +kernel
theorem dX1_addRuling_62 : decode cX1_addRuling 62 = .ok (.iadd, 1) := by decide +kernel
theorem dX1_addRuling_63 : decode cX1_addRuling 63 = .ok (.putfield 40, 3) := by decide +kernel
theorem dX1_addRuling_66 : decode cX1_addRuling 66 = .ok (.iconst 1, 1) := by decide +kernel
theorem dX1_addRuling_67 : decode cX1_addRuling 67 = .ok (.ireturn, 1) := by decide +kernel
theorem dX1_knownMoney_0 : decode cX1_knownMoney 0 = .ok (.aload_n 0, 1) := by decide +kernel
theorem dX1_knownMoney_1 : decode cX1_knownMoney 1 = .ok (.getfield 21, 3) := by decide +kernel
theorem dX1_knownMoney_4 : decode cX1_knownMoney 4 = .ok (.iload_n 1, 1) := by decide +kernel
theorem dX1_knownMoney_5 : decode cX1_knownMoney 5 = .ok (.iaload, 1) := by decide +kernel
theorem dX1_knownMoney_6 : decode cX1_knownMoney 6 = .ok (.istore_n 3, 1) := by decide +kernel
theorem dX1_knownMoney_7 : decode cX1_knownMoney 7 = .ok (.iconst 0, 1) := by decide +kernel
theorem dX1_knownMoney_8 : decode cX1_knownMoney 8 = .ok (.istore 4, 2) := by decide +kernel
theorem dX1_knownMoney_10 : decode cX1_knownMoney 10 = .ok (.iload 4, 2) := by decide +kernel
theorem dX1_knownMoney_12 : decode cX1_knownMoney 12 = .ok (.aload_n 0, 1) := by decide +kernel
theorem dX1_knownMoney_13 : decode cX1_knownMoney 13 = .ok (.getfield 40, 3) := by decide +kernel
theorem dX1_knownMoney_16 : decode cX1_knownMoney 16 = .ok (.if_icmp .ge 45, 3) := by decide +kernel
theorem dX1_knownMoney_19 : decode cX1_knownMoney 19 = .ok (.iload_n 3, 1) := by decide +kernel
theorem dX1_knownMoney_20 : decode cX1_knownMoney 20 = .ok (.ifCond .lt 41, 3) := by decide +kernel
theorem dX1_knownMoney_23 : decode cX1_knownMoney 23 = .ok (.iload_n 3, 1) := by decide +kernel
theorem dX1_knownMoney_24 : decode cX1_knownMoney 24 = .ok (.aload_n 0, 1) := by decide +kernel
theorem dX1_knownMoney_25 : decode cX1_knownMoney 25 = .ok (.getfield 40, 3) := by decide +kernel
theorem dX1_knownMoney_28 : decode cX1_knownMoney 28 = .ok (.if_icmp .ge 33, 3) := by decide +kernel
theorem dX1_knownMoney_31 : decode cX1_knownMoney 31 = .ok (.aload_n 0, 1) := by decide +kernel
theorem dX1_knownMoney_32 : decode cX1_knownMoney 32 = .ok (.getfield 24, 3) := by decide +kernel
theorem dX1_knownMoney_35 : decode cX1_knownMoney 35 = .ok (.iload_n 3, 1) := by decide +kernel
theorem dX1_knownMoney_36 : decode cX1_knownMoney 36 = .ok (.iaload, 1) := by decide +kernel
theorem dX1_knownMoney_37 : decode cX1_knownMoney 37 = .ok (.iload_n 2, 1) := by decide +kernel
theorem dX1_knownMoney_38 : decode cX1_knownMoney 38 = .ok (.if_icmp .gt 10, 3) := by decide +kernel
theorem dX1_knownMoney_41 : decode cX1_knownMoney 41 = .ok (.aload_n 0, 1) := by decide +kernel
theorem dX1_knownMoney_42 : decode cX1_knownMoney 42 = .ok (.getfield 27, 3) := by decide +kernel
theorem dX1_knownMoney_45 : decode cX1_knownMoney 45 = .ok (.iload_n 3, 1) := by decide +kernel
theorem dX1_knownMoney_46 : decode cX1_knownMoney 46 = .ok (.iaload, 1) := by decide +kernel
theorem dX1_knownMoney_47 : decode cX1_knownMoney 47 = .ok (.ireturn, 1) := by decide +kernel
theorem dX1_knownMoney_48 : decode cX1_knownMoney 48 = .ok (.aload_n 0, 1) := by decide +kernel
theorem dX1_knownMoney_49 : decode cX1_knownMoney 49 = .ok (.getfield 30, 3) := by decide +kernel
theorem dX1_knownMoney_52 : decode cX1_knownMoney 52 = .ok (.iload_n 3, 1) := by decide +kernel
theorem dX1_knownMoney_53 : decode cX1_knownMoney 53 = .ok (.iaload, 1) := by decide +kernel
theorem dX1_knownMoney_54 : decode cX1_knownMoney 54 = .ok (.istore_n 3, 1) := by decide +kernel
theorem dX1_knownMoney_55 : decode cX1_knownMoney 55 = .ok (.iinc 4 1, 3) := by decide +kernel
theorem dX1_knownMoney_58 : decode cX1_knownMoney 58 = .ok (.goto (-48), 3) := by decide +kernel
theorem dX1_knownMoney_61 : decode cX1_knownMoney 61 = .ok (.aload_n 0, 1) := by decide +kernel
theorem dX1_knownMoney_62 : decode cX1_knownMoney 62 = .ok (.getfield 18, 3) := by decide +kernel
theorem dX1_knownMoney_65 : decode cX1_knownMoney 65 = .ok (.iload_n 1, 1) := by decide +kernel
theorem dX1_knownMoney_66 : decode cX1_knownMoney 66 = .ok (.iaload, 1) := by decide +kernel
theorem dX1_knownMoney_67 : decode cX1_knownMoney 67 = .ok (.ireturn, 1) := by decide +kernel
theorem dX1_sumOf_0 : decode cX1_sumOf 0 = .ok (.iconst 0, 1) := by decide +kernel
theorem dX1_sumOf_1 : decode cX1_sumOf 1 = .ok (.istore 4, 2) := by decide +kernel
theorem dX1_sumOf_3 : decode cX1_sumOf 3 = .ok (.iconst 0, 1) := by decide +kernel
theorem dX1_sumOf_4 : decode cX1_sumOf 4 = .ok (.istore 5, 2) := by decide +kernel
theorem dX1_sumOf_6 : decode cX1_sumOf 6 = .ok (.iload 5, 2) := by decide +kernel
theorem dX1_sumOf_8 : decode cX1_sumOf 8 = .ok (.aload_n 0, 1) := by decide +kernel
theorem dX1_sumOf_9 : decode cX1_sumOf 9 = .ok (.getfield 33, 3) := by decide +kernel
theorem dX1_sumOf_12 : decode cX1_sumOf 12 = .ok (.if_icmp .ge 54, 3) := by decide +kernel
theorem dX1_sumOf_15 : decode cX1_sumOf 15 = .ok (.aload_n 0, 1) := by decide +kernel
theorem dX1_sumOf_16 : decode cX1_sumOf 16 = .ok (.getfield 9, 3) := by decide +kernel
theorem dX1_sumOf_19 : decode cX1_sumOf 19 = .ok (.iload 5, 2) := by decide +kernel
theorem dX1_sumOf_21 : decode cX1_sumOf 21 = .ok (.iaload, 1) := by decide +kernel
theorem dX1_sumOf_22 : decode cX1_sumOf 22 = .ok (.iload_n 2, 1) := by decide +kernel
theorem dX1_sumOf_23 : decode cX1_sumOf 23 = .ok (.if_icmp .gt 43, 3) := by decide +kernel
theorem dX1_sumOf_26 : decode cX1_sumOf 26 = .ok (.aload_n 0, 1) := by decide +kernel
theorem dX1_sumOf_27 : decode cX1_sumOf 27 = .ok (.getfield 9, 3) := by decide +kernel
theorem dX1_sumOf_30 : decode cX1_sumOf 30 = .ok (.iload 5, 2) := by decide +kernel
theorem dX1_sumOf_32 : decode cX1_sumOf 32 = .ok (.iaload, 1) := by decide +kernel
theorem dX1_sumOf_33 : decode cX1_sumOf 33 = .ok (.iload_n 3, 1) := by decide +kernel
theorem dX1_sumOf_34 : decode cX1_sumOf 34 = .ok (.if_icmp .ge 32, 3) := by decide +kernel
theorem dX1_sumOf_37 : decode cX1_sumOf 37 = .ok (.aload_n 0, 1) := by decide +kernel
theorem dX1_sumOf_38 : decode cX1_sumOf 38 = .ok (.getfield 15, 3) := by decide +kernel
theorem dX1_sumOf_41 : decode cX1_sumOf 41 = .ok (.iload 5, 2) := by decide +kernel
theorem dX1_sumOf_43 : decode cX1_sumOf 43 = .ok (.iaload, 1) := by decide +kernel
theorem dX1_sumOf_44 : decode cX1_sumOf 44 = .ok (.iload_n 1, 1) := by decide +kernel
theorem dX1_sumOf_45 : decode cX1_sumOf 45 = .ok (.if_icmp .ne 15, 3) := by decide +kernel
theorem dX1_sumOf_48 : decode cX1_sumOf 48 = .ok (.iload 4, 2) := by decide +kernel
theorem dX1_sumOf_50 : decode cX1_sumOf 50 = .ok (.aload_n 0, 1) := by decide +kernel
theorem dX1_sumOf_51 : decode cX1_sumOf 51 = .ok (.iload 5, 2) := by decide +kernel
theorem dX1_sumOf_53 : decode cX1_sumOf 53 = .ok (.iload_n 3, 1) := by decide +kernel
theorem dX1_sumOf_54 : decode cX1_sumOf 54 = .ok (.invokevirtual 43, 3) := by decide +kernel
theorem dX1_sumOf_57 : decode cX1_sumOf 57 = .ok (.iadd, 1) := by decide +kernel
theorem dX1_sumOf_58 : decode cX1_sumOf 58 = .ok (.istore 4, 2) := by decide +kernel
theorem dX1_sumOf_60 : decode cX1_sumOf 60 = .ok (.iinc 5 1, 3) := by decide +kernel
theorem dX1_sumOf_63 : decode cX1_sumOf 63 = .ok (.goto (-57), 3) := by decide +kernel
theorem dX1_sumOf_66 : decode cX1_sumOf 66 = .ok (.iload 4, 2) := by decide +kernel
theorem dX1_sumOf_68 : decode cX1_sumOf 68 = .ok (.ireturn, 1) := by decide +kernel
theorem dX2_init_0 : decode cX2_init 0 = .ok (.aload_n 0, 1) := by decide +kernel
theorem dX2_init_1 : decode cX2_init 1 = .ok (.invokespecial 3, 3) := by decide +kernel
theorem dX2_init_4 : decode cX2_init 4 = .ok (.aload_n 0, 1) := by decide +kernel
theorem dX2_init_5 : decode cX2_init 5 = .ok (.bipush 24, 2) := by decide +kernel
theorem dX2_init_7 : decode cX2_init 7 = .ok (.newarray .int, 2) := by decide +kernel
theorem dX2_init_9 : decode cX2_init 9 = .ok (.putfield 9, 3) := by decide +kernel
theorem dX2_init_12 : decode cX2_init 12 = .ok (.aload_n 0, 1) := by decide +kernel
theorem dX2_init_13 : decode cX2_init 13 = .ok (.bipush 24, 2) := by decide +kernel
theorem dX2_init_15 : decode cX2_init 15 = .ok (.newarray .int, 2) := by decide +kernel
theorem dX2_init_17 : decode cX2_init 17 = .ok (.putfield 15, 3) := by decide +kernel
theorem dX2_init_20 : decode cX2_init 20 = .ok (.aload_n 0, 1) := by decide +kernel
theorem dX2_init_21 : decode cX2_init 21 = .ok (.bipush 24, 2) := by decide +kernel
theorem dX2_init_23 : decode cX2_init 23 = .ok (.newarray .int, 2) := by decide +kernel
theorem dX2_init_25 : decode cX2_init 25 = .ok (.putfield 18, 3) := by decide +kernel
theorem dX2_init_28 : decode cX2_init 28 = .ok (.aload_n 0, 1) := by decide +kernel
theorem dX2_init_29 : decode cX2_init 29 = .ok (.bipush 24, 2) := by decide +kernel
theorem dX2_init_31 : decode cX2_init 31 = .ok (.newarray .int, 2) := by decide +kernel
theorem dX2_init_33 : decode cX2_init 33 = .ok (.putfield 21, 3) := by decide +kernel
theorem dX2_init_36 : decode cX2_init 36 = .ok (.aload_n 0, 1) := by decide +kernel
theorem dX2_init_37 : decode cX2_init 37 = .ok (.bipush 24, 2) := by decide +kernel
theorem dX2_init_39 : decode cX2_init 39 = .ok (.newarray .int, 2) := by decide +kernel
theorem dX2_init_41 : decode cX2_init 41 = .ok (.putfield 24, 3) := by decide +kernel
theorem dX2_init_44 : decode cX2_init 44 = .ok (.aload_n 0, 1) := by decide +kernel
theorem dX2_init_45 : decode cX2_init 45 = .ok (.bipush 24, 2) := by decide +kernel
theorem dX2_init_47 : decode cX2_init 47 = .ok (.newarray .int, 2) := by decide +kernel
theorem dX2_init_49 : decode cX2_init 49 = .ok (.putfield 27, 3) := by decide +kernel
theorem dX2_init_52 : decode cX2_init 52 = .ok (.aload_n 0, 1) := by decide +kernel
theorem dX2_init_53 : decode cX2_init 53 = .ok (.bipush 24, 2) := by decide +kernel
theorem dX2_init_55 : decode cX2_init 55 = .ok (.newarray .int, 2) := by decide +kernel
theorem dX2_init_57 : decode cX2_init 57 = .ok (.putfield 30, 3) := by decide +kernel
theorem dX2_init_60 : decode cX2_init 60 = .ok (.return_, 1) := by decide +kernel
theorem dX2_has_0 : decode cX2_has 0 = .ok (.iload_n 1, 1) := by decide +kernel
theorem dX2_has_1 : decode cX2_has 1 = .ok (.ifCond .lt 15, 3) := by decide +kernel
theorem dX2_has_4 : decode cX2_has 4 = .ok (.iload_n 1, 1) := by decide +kernel
theorem dX2_has_5 : decode cX2_has 5 = .ok (.aload_n 0, 1) := by decide +kernel
theorem dX2_has_6 : decode cX2_has 6 = .ok (.getfield 33, 3) := by decide +kernel
theorem dX2_has_9 : decode cX2_has 9 = .ok (.if_icmp .ge 7, 3) := by decide +kernel
theorem dX2_has_12 : decode cX2_has 12 = .ok (.iconst 1, 1) := by decide +kernel
theorem dX2_has_13 : decode cX2_has 13 = .ok (.goto 4, 3) := by decide +kernel
theorem dX2_has_16 : decode cX2_has 16 = .ok (.iconst 0, 1) := by decide +kernel
theorem dX2_has_17 : decode cX2_has 17 = .ok (.ireturn, 1) := by decide +kernel
theorem dX2_add_0 : decode cX2_add 0 = .ok (.aload_n 0, 1) := by decide +kernel
theorem dX2_add_1 : decode cX2_add 1 = .ok (.getfield 33, 3) := by decide +kernel
theorem dX2_add_4 : decode cX2_add 4 = .ok (.istore_n 2, 1) := by decide +kernel
theorem dX2_add_5 : decode cX2_add 5 = .ok (.iload_n 2, 1) := by decide +kernel
theorem dX2_add_6 : decode cX2_add 6 = .ok (.bipush 24, 2) := by decide +kernel
theorem dX2_add_8 : decode cX2_add 8 = .ok (.if_icmp .lt 5, 3) := by decide +kernel
theorem dX2_add_11 : decode cX2_add 11 = .ok (.iconst (-1), 1) := by decide +kernel
theorem dX2_add_12 : decode cX2_add 12 = .ok (.ireturn, 1) := by decide +kernel
theorem dX2_add_13 : decode cX2_add 13 = .ok (.aload_n 0, 1) := by decide +kernel
theorem dX2_add_14 : decode cX2_add 14 = .ok (.getfield 9, 3) := by decide +kernel
theorem dX2_add_17 : decode cX2_add 17 = .ok (.iload_n 2, 1) := by decide +kernel
theorem dX2_add_18 : decode cX2_add 18 = .ok (.iload_n 1, 1) := by decide +kernel
theorem dX2_add_19 : decode cX2_add 19 = .ok (.iastore, 1) := by decide +kernel
theorem dX2_add_20 : decode cX2_add 20 = .ok (.aload_n 0, 1) := by decide +kernel
theorem dX2_add_21 : decode cX2_add 21 = .ok (.getfield 18, 3) := by decide +kernel
theorem dX2_add_24 : decode cX2_add 24 = .ok (.iload_n 2, 1) := by decide +kernel
theorem dX2_add_25 : decode cX2_add 25 = .ok (.iconst (-1), 1) := by decide +kernel
theorem dX2_add_26 : decode cX2_add 26 = .ok (.iastore, 1) := by decide +kernel
theorem dX2_add_27 : decode cX2_add 27 = .ok (.aload_n 0, 1) := by decide +kernel
theorem dX2_add_28 : decode cX2_add 28 = .ok (.iload_n 2, 1) := by decide +kernel
theorem dX2_add_29 : decode cX2_add 29 = .ok (.invokevirtual 37, 3) := by decide +kernel
theorem dX2_add_32 : decode cX2_add 32 = .ok (.aload_n 0, 1) := by decide +kernel
theorem dX2_add_33 : decode cX2_add 33 = .ok (.dup, 1) := by decide +kernel
theorem dX2_add_34 : decode cX2_add 34 = .ok (.getfield 33, 3) := by decide +kernel
theorem dX2_add_37 : decode cX2_add 37 = .ok (.iconst 1, 1) := by decide +kernel
theorem dX2_add_38 : decode cX2_add 38 = .ok (.iadd, 1) := by decide +kernel
theorem dX2_add_39 : decode cX2_add 39 = .ok (.putfield 33, 3) := by decide +kernel
theorem dX2_add_42 : decode cX2_add 42 = .ok (.iload_n 2, 1) := by decide +kernel
theorem dX2_add_43 : decode cX2_add 43 = .ok (.ireturn, 1) := by decide +kernel
theorem dX2_isBarred_0 : decode cX2_isBarred 0 = .ok (.aload_n 0, 1) := by decide +kernel
theorem dX2_isBarred_1 : decode cX2_isBarred 1 = .ok (.getfield 18, 3) := by decide +kernel
theorem dX2_isBarred_4 : decode cX2_isBarred 4 = .ok (.iload_n 1, 1) := by decide +kernel
theorem dX2_isBarred_5 : decode cX2_isBarred 5 = .ok (.iaload, 1) := by decide +kernel
theorem dX2_isBarred_6 : decode cX2_isBarred 6 = .ok (.iload_n 2, 1) := by decide +kernel
theorem dX2_isBarred_7 : decode cX2_isBarred 7 = .ok (.if_icmp .lt 7, 3) := by decide +kernel
theorem dX2_isBarred_10 : decode cX2_isBarred 10 = .ok (.iconst 1, 1) := by decide +kernel
theorem dX2_isBarred_11 : decode cX2_isBarred 11 = .ok (.goto 4, 3) := by decide +kernel
theorem dX2_isBarred_14 : decode cX2_isBarred 14 = .ok (.iconst 0, 1) := by decide +kernel
theorem dX2_isBarred_15 : decode cX2_isBarred 15 = .ok (.ireturn, 1) := by decide +kernel
theorem dX2_mayBeAsked_0 : decode cX2_mayBeAsked 0 = .ok (.aload_n 0, 1) := by decide +kernel
theorem dX2_mayBeAsked_1 : decode cX2_mayBeAsked 1 = .ok (.getfield 9, 3) := by decide +kernel
theorem dX2_mayBeAsked_4 : decode cX2_mayBeAsked 4 = .ok (.iload_n 1, 1) := by decide +kernel
theorem dX2_mayBeAsked_5 : decode cX2_mayBeAsked 5 = .ok (.iaload, 1) := by decide +kernel
theorem dX2_mayBeAsked_6 : decode cX2_mayBeAsked 6 = .ok (.iload_n 2, 1) := by decide +kernel
theorem dX2_mayBeAsked_7 : decode cX2_mayBeAsked 7 = .ok (.ishr, 1) := by decide +kernel
theorem dX2_mayBeAsked_8 : decode cX2_mayBeAsked 8 = .ok (.iconst 1, 1) := by decide +kernel
theorem dX2_mayBeAsked_9 : decode cX2_mayBeAsked 9 = .ok (.iand, 1) := by decide +kernel
theorem dX2_mayBeAsked_10 : decode cX2_mayBeAsked 10 = .ok (.iconst 1, 1) := by decide +kernel
theorem dX2_mayBeAsked_11 : decode cX2_mayBeAsked 11 = .ok (.if_icmp .ne 26, 3) := by decide +kernel
theorem dX2_mayBeAsked_14 : decode cX2_mayBeAsked 14 = .ok (.aload_n 0, 1) := by decide +kernel
theorem dX2_mayBeAsked_15 : decode cX2_mayBeAsked 15 = .ok (.iload_n 1, 1) := by decide +kernel
theorem dX2_mayBeAsked_16 : decode cX2_mayBeAsked 16 = .ok (.iload_n 3, 1) := by decide +kernel
theorem dX2_mayBeAsked_17 : decode cX2_mayBeAsked 17 = .ok (.invokevirtual 41, 3) := by decide +kernel
theorem dX2_mayBeAsked_20 : decode cX2_mayBeAsked 20 = .ok (.ifCond .ne 17, 3) := by decide +kernel
theorem dX2_mayBeAsked_23 : decode cX2_mayBeAsked 23 = .ok (.aload_n 0, 1) := by decide +kernel
theorem dX2_mayBeAsked_24 : decode cX2_mayBeAsked 24 = .ok (.getfield 24, 3) := by decide +kernel
theorem dX2_mayBeAsked_27 : decode cX2_mayBeAsked 27 = .ok (.iload_n 1, 1) := by decide +kernel
theorem dX2_mayBeAsked_28 : decode cX2_mayBeAsked 28 = .ok (.iaload, 1) := by decide +kernel
theorem dX2_mayBeAsked_29 : decode cX2_mayBeAsked 29 = .ok (.iconst (-1), 1) := by decide +kernel
theorem dX2_mayBeAsked_30 : decode cX2_mayBeAsked 30 = .ok (.if_icmp .ne 7, 3) := by decide +kernel
theorem dX2_mayBeAsked_33 : decode cX2_mayBeAsked 33 = .ok (.iconst 1, 1) := by decide +kernel
theorem dX2_mayBeAsked_34 : decode cX2_mayBeAsked 34 = .ok (.goto 4, 3) := by decide +kernel
theorem dX2_mayBeAsked_37 : decode cX2_mayBeAsked 37 = .ok (.iconst 0, 1) := by decide +kernel
theorem dX2_mayBeAsked_38 : decode cX2_mayBeAsked 38 = .ok (.ireturn, 1) := by decide +kernel
theorem dX2_refuse_0 : decode cX2_refuse 0 = .ok (.aload_n 0, 1) := by decide +kernel
theorem dX2_refuse_1 : decode cX2_refuse 1 = .ok (.getfield 18, 3) := by decide +kernel
theorem dX2_refuse_4 : decode cX2_refuse 4 = .ok (.iload_n 1, 1) := by decide +kernel
theorem dX2_refuse_5 : decode cX2_refuse 5 = .ok (.iload_n 2, 1) := by decide +kernel
theorem dX2_refuse_6 : decode cX2_refuse 6 = .ok (.iastore, 1) := by decide +kernel
theorem dX2_refuse_7 : decode cX2_refuse 7 = .ok (.aload_n 0, 1) := by decide +kernel
theorem dX2_refuse_8 : decode cX2_refuse 8 = .ok (.getfield 21, 3) := by decide +kernel
theorem dX2_refuse_11 : decode cX2_refuse 11 = .ok (.iload_n 1, 1) := by decide +kernel
theorem dX2_refuse_12 : decode cX2_refuse 12 = .ok (.dup2, 1) := by decide +kernel
theorem dX2_refuse_13 : decode cX2_refuse 13 = .ok (.iaload, 1) := by decide +kernel
theorem dX2_refuse_14 : decode cX2_refuse 14 = .ok (.iconst 1, 1) := by decide +kernel
theorem dX2_refuse_15 : decode cX2_refuse 15 = .ok (.iadd, 1) := by decide +kernel
theorem dX2_refuse_16 : decode cX2_refuse 16 = .ok (.iastore, 1) := by decide +kernel
theorem dX2_refuse_17 : decode cX2_refuse 17 = .ok (.return_, 1) := by decide +kernel
theorem dX2_joinGang_0 : decode cX2_joinGang 0 = .ok (.aload_n 0, 1) := by decide +kernel
theorem dX2_joinGang_1 : decode cX2_joinGang 1 = .ok (.getfield 24, 3) := by decide +kernel
theorem dX2_joinGang_4 : decode cX2_joinGang 4 = .ok (.iload_n 1, 1) := by decide +kernel
theorem dX2_joinGang_5 : decode cX2_joinGang 5 = .ok (.iload_n 2, 1) := by decide +kernel
theorem dX2_joinGang_6 : decode cX2_joinGang 6 = .ok (.iastore, 1) := by decide +kernel
theorem dX2_joinGang_7 : decode cX2_joinGang 7 = .ok (.aload_n 0, 1) := by decide +kernel
theorem dX2_joinGang_8 : decode cX2_joinGang 8 = .ok (.getfield 27, 3) := by decide +kernel
theorem dX2_joinGang_11 : decode cX2_joinGang 11 = .ok (.iload_n 1, 1) := by decide +kernel
theorem dX2_joinGang_12 : decode cX2_joinGang 12 = .ok (.iload_n 3, 1) := by decide +kernel
theorem dX2_joinGang_13 : decode cX2_joinGang 13 = .ok (.iastore, 1) := by decide +kernel
theorem dX2_joinGang_14 : decode cX2_joinGang 14 = .ok (.aload_n 0, 1) := by decide +kernel
theorem dX2_joinGang_15 : decode cX2_joinGang 15 = .ok (.getfield 15, 3) := by decide +kernel
theorem dX2_joinGang_18 : decode cX2_joinGang 18 = .ok (.iload_n 1, 1) := by decide +kernel
theorem dX2_joinGang_19 : decode cX2_joinGang 19 = .ok (.dup2, 1) := by decide +kernel
theorem dX2_joinGang_20 : decode cX2_joinGang 20 = .ok (.iaload, 1) := by decide +kernel
theorem dX2_joinGang_21 : decode cX2_joinGang 21 = .ok (.iconst 1, 1) := by decide +kernel
theorem dX2_joinGang_22 : decode cX2_joinGang 22 = .ok (.iadd, 1) := by decide +kernel
theorem dX2_joinGang_23 : decode cX2_joinGang 23 = .ok (.iastore, 1) := by decide +kernel
theorem dX2_joinGang_24 : decode cX2_joinGang 24 = .ok (.return_, 1) := by decide +kernel
theorem dX2_leaveGang_0 : decode cX2_leaveGang 0 = .ok (.aload_n 0, 1) := by decide +kernel
theorem dX2_leaveGang_1 : decode cX2_leaveGang 1 = .ok (.getfield 24, 3) := by decide +kernel
theorem dX2_leaveGang_4 : decode cX2_leaveGang 4 = .ok (.iload_n 1, 1) := by decide +kernel
theorem dX2_leaveGang_5 : decode cX2_leaveGang 5 = .ok (.iconst (-1), 1) := by decide +kernel
theorem dX2_leaveGang_6 : decode cX2_leaveGang 6 = .ok (.iastore, 1) := by decide +kernel
theorem dX2_leaveGang_7 : decode cX2_leaveGang 7 = .ok (.aload_n 0, 1) := by decide +kernel
theorem dX2_leaveGang_8 : decode cX2_leaveGang 8 = .ok (.getfield 27, 3) := by decide +kernel
theorem dX2_leaveGang_11 : decode cX2_leaveGang 11 = .ok (.iload_n 1, 1) := by decide +kernel
theorem dX2_leaveGang_12 : decode cX2_leaveGang 12 = .ok (.iconst (-1), 1) := by decide +kernel
theorem dX2_leaveGang_13 : decode cX2_leaveGang 13 = .ok (.iastore, 1) := by decide +kernel
theorem dX2_leaveGang_14 : decode cX2_leaveGang 14 = .ok (.return_, 1) := by decide +kernel
theorem dX2_leaveGangs_0 : decode cX2_leaveGangs 0 = .ok (.iconst 0, 1) := by decide +kernel
theorem dX2_leaveGangs_1 : decode cX2_leaveGangs 1 = .ok (.istore_n 1, 1) := by decide +kernel
theorem dX2_leaveGangs_2 : decode cX2_leaveGangs 2 = .ok (.iload_n 1, 1) := by decide +kernel
theorem dX2_leaveGangs_3 : decode cX2_leaveGangs 3 = .ok (.aload_n 0, 1) := by decide +kernel
theorem dX2_leaveGangs_4 : decode cX2_leaveGangs 4 = .ok (.getfield 33, 3) := by decide +kernel
theorem dX2_leaveGangs_7 : decode cX2_leaveGangs 7 = .ok (.if_icmp .ge 14, 3) := by decide +kernel
theorem dX2_leaveGangs_10 : decode cX2_leaveGangs 10 = .ok (.aload_n 0, 1) := by decide +kernel
theorem dX2_leaveGangs_11 : decode cX2_leaveGangs 11 = .ok (.iload_n 1, 1) := by decide +kernel
theorem dX2_leaveGangs_12 : decode cX2_leaveGangs 12 = .ok (.invokevirtual 37, 3) := by decide +kernel
theorem dX2_leaveGangs_15 : decode cX2_leaveGangs 15 = .ok (.iinc 1 1, 3) := by decide +kernel
theorem dX2_leaveGangs_18 : decode cX2_leaveGangs 18 = .ok (.goto (-16), 3) := by decide +kernel
theorem dX2_leaveGangs_21 : decode cX2_leaveGangs 21 = .ok (.return_, 1) := by decide +kernel
theorem dX2_lineUp_0 : decode cX2_lineUp 0 = .ok (.iconst 0, 1) := by decide +kernel
theorem dX2_lineUp_1 : decode cX2_lineUp 1 = .ok (.istore_n 1, 1) := by decide +kernel
theorem dX2_lineUp_2 : decode cX2_lineUp 2 = .ok (.iload_n 1, 1) := by decide +kernel
theorem dX2_lineUp_3 : decode cX2_lineUp 3 = .ok (.aload_n 0, 1) := by decide +kernel
theorem dX2_lineUp_4 : decode cX2_lineUp 4 = .ok (.getfield 33, 3) := by decide +kernel
theorem dX2_lineUp_7 : decode cX2_lineUp 7 = .ok (.if_icmp .ge 64, 3) := by decide +kernel
theorem dX2_lineUp_10 : decode cX2_lineUp 10 = .ok (.iload_n 1, 1) := by decide +kernel
theorem dX2_lineUp_11 : decode cX2_lineUp 11 = .ok (.istore_n 2, 1) := by decide +kernel
theorem dX2_lineUp_12 : decode cX2_lineUp 12 = .ok (.iload_n 2, 1) := by decide +kernel
theorem dX2_lineUp_13 : decode cX2_lineUp 13 = .ok (.ifCond .le 45, 3) := by decide +kernel
theorem dX2_lineUp_16 : decode cX2_lineUp 16 = .ok (.aload_n 0, 1) := by decide +kernel
theorem dX2_lineUp_17 : decode cX2_lineUp 17 = .ok (.getfield 15, 3) := by decide +kernel
theorem dX2_lineUp_20 : decode cX2_lineUp 20 = .ok (.aload_n 0, 1) := by decide +kernel
theorem dX2_lineUp_21 : decode cX2_lineUp 21 = .ok (.getfield 30, 3) := by decide +kernel
theorem dX2_lineUp_24 : decode cX2_lineUp 24 = .ok (.iload_n 2, 1) := by decide +kernel
theorem dX2_lineUp_25 : decode cX2_lineUp 25 = .ok (.iconst 1, 1) := by decide +kernel
theorem dX2_lineUp_26 : decode cX2_lineUp 26 = .ok (.isub, 1) := by decide +kernel
theorem dX2_lineUp_27 : decode cX2_lineUp 27 = .ok (.iaload, 1) := by decide +kernel
theorem dX2_lineUp_28 : decode cX2_lineUp 28 = .ok (.iaload, 1) := by decide +kernel
theorem dX2_lineUp_29 : decode cX2_lineUp 29 = .ok (.aload_n 0, 1) := by decide +kernel
theorem dX2_lineUp_30 : decode cX2_lineUp 30 = .ok (.getfield 15, 3) := by decide +kernel
theorem dX2_lineUp_33 : decode cX2_lineUp 33 = .ok (.iload_n 1, 1) := by decide +kernel
theorem dX2_lineUp_34 : decode cX2_lineUp 34 = .ok (.iaload, 1) := by decide +kernel
theorem dX2_lineUp_35 : decode cX2_lineUp 35 = .ok (.if_icmp .le 23, 3) := by decide +kernel
theorem dX2_lineUp_38 : decode cX2_lineUp 38 = .ok (.aload_n 0, 1) := by decide +kernel
theorem dX2_lineUp_39 : decode cX2_lineUp 39 = .ok (.getfield 30, 3) := by decide +kernel
theorem dX2_lineUp_42 : decode cX2_lineUp 42 = .ok (.iload_n 2, 1) := by decide +kernel
theorem dX2_lineUp_43 : decode cX2_lineUp 43 = .ok (.aload_n 0, 1) := by decide +kernel
theorem dX2_lineUp_44 : decode cX2_lineUp 44 = .ok (.getfield 30, 3) := by decide +kernel
theorem dX2_lineUp_47 : decode cX2_lineUp 47 = .ok (.iload_n 2, 1) := by decide +kernel
theorem dX2_lineUp_48 : decode cX2_lineUp 48 = .ok (.iconst 1, 1) := by decide +kernel
theorem dX2_lineUp_49 : decode cX2_lineUp 49 = .ok (.isub, 1) := by decide +kernel
theorem dX2_lineUp_50 : decode cX2_lineUp 50 = .ok (.iaload, 1) := by decide +kernel
theorem dX2_lineUp_51 : decode cX2_lineUp 51 = .ok (.iastore, 1) := by decide +kernel
theorem dX2_lineUp_52 : decode cX2_lineUp 52 = .ok (.iinc 2 (-1), 3) := by decide +kernel
theorem dX2_lineUp_55 : decode cX2_lineUp 55 = .ok (.goto (-43), 3) := by decide +kernel
theorem dX2_lineUp_58 : decode cX2_lineUp 58 = .ok (.aload_n 0, 1) := by decide +kernel
theorem dX2_lineUp_59 : decode cX2_lineUp 59 = .ok (.getfield 30, 3) := by decide +kernel
theorem dX2_lineUp_62 : decode cX2_lineUp 62 = .ok (.iload_n 2, 1) := by decide +kernel
theorem dX2_lineUp_63 : decode cX2_lineUp 63 = .ok (.iload_n 1, 1) := by decide +kernel
theorem dX2_lineUp_64 : decode cX2_lineUp 64 = .ok (.iastore, 1) := by decide +kernel
theorem dX2_lineUp_65 : decode cX2_lineUp 65 = .ok (.iinc 1 1, 3) := by decide +kernel
theorem dX2_lineUp_68 : decode cX2_lineUp 68 = .ok (.goto (-66), 3) := by decide +kernel
theorem dX2_lineUp_71 : decode cX2_lineUp 71 = .ok (.return_, 1) := by decide +kernel
theorem dX3_init_0 : decode cX3_init 0 = .ok (.aload_n 0, 1) := by decide +kernel
theorem dX3_init_1 : decode cX3_init 1 = .ok (.invokespecial 7, 3) := by decide +kernel
theorem dX3_init_4 : decode cX3_init 4 = .ok (.aload_n 0, 1) := by decide +kernel
theorem dX3_init_5 : decode cX3_init 5 = .ok (.iconst 4, 1) := by decide +kernel
theorem dX3_init_6 : decode cX3_init 6 = .ok (.newarray .int, 2) := by decide +kernel
theorem dX3_init_8 : decode cX3_init 8 = .ok (.putfield 13, 3) := by decide +kernel
theorem dX3_init_11 : decode cX3_init 11 = .ok (.aload_n 0, 1) := by decide +kernel
theorem dX3_init_12 : decode cX3_init 12 = .ok (.iconst 4, 1) := by decide +kernel
theorem dX3_init_13 : decode cX3_init 13 = .ok (.newarray .int, 2) := by decide +kernel
theorem dX3_init_15 : decode cX3_init 15 = .ok (.putfield 17, 3) := by decide +kernel
theorem dX3_init_18 : decode cX3_init 18 = .ok (.aload_n 0, 1) := by decide +kernel
theorem dX3_init_19 : decode cX3_init 19 = .ok (.iconst 4, 1) := by decide +kernel
theorem dX3_init_20 : decode cX3_init 20 = .ok (.newarray .int, 2) := by decide +kernel
theorem dX3_init_22 : decode cX3_init 22 = .ok (.putfield 20, 3) := by decide +kernel
theorem dX3_init_25 : decode cX3_init 25 = .ok (.aload_n 0, 1) := by decide +kernel
theorem dX3_init_26 : decode cX3_init 26 = .ok (.sipush 6561, 3) := by decide +kernel
theorem dX3_init_29 : decode cX3_init 29 = .ok (.newarray .int, 2) := by decide +kernel
theorem dX3_init_31 : decode cX3_init 31 = .ok (.putfield 23, 3) := by decide +kernel
theorem dX3_init_34 : decode cX3_init 34 = .ok (.aload_n 0, 1) := by decide +kernel
theorem dX3_init_35 : decode cX3_init 35 = .ok (.bipush 9, 2) := by decide +kernel
theorem dX3_init_37 : decode cX3_init 37 = .ok (.newarray .int, 2) := by decide +kernel
theorem dX3_init_39 : decode cX3_init 39 = .ok (.putfield 26, 3) := by decide +kernel
theorem dX3_init_42 : decode cX3_init 42 = .ok (.aload_n 0, 1) := by decide +kernel
theorem dX3_init_43 : decode cX3_init 43 = .ok (.getfield 26, 3) := by decide +kernel
theorem dX3_init_46 : decode cX3_init 46 = .ok (.iconst (-1), 1) := by decide +kernel
theorem dX3_init_47 : decode cX3_init 47 = .ok (.invokestatic 29, 3) := by decide +kernel
theorem dX3_init_50 : decode cX3_init 50 = .ok (.return_, 1) := by decide +kernel
theorem dX3_add_0 : decode cX3_add 0 = .ok (.aload_n 0, 1) := by decide +kernel
theorem dX3_add_1 : decode cX3_add 1 = .ok (.getfield 35, 3) := by decide +kernel
theorem dX3_add_4 : decode cX3_add 4 = .ok (.iconst 4, 1) := by decide +kernel
theorem dX3_add_5 : decode cX3_add 5 = .ok (.if_icmp .lt 5, 3) := by decide +kernel
theorem dX3_add_8 : decode cX3_add 8 = .ok (.iconst (-1), 1) := by decide +kernel
theorem dX3_add_9 : decode cX3_add 9 = .ok (.ireturn, 1) := by decide +kernel
theorem dX3_add_10 : decode cX3_add 10 = .ok (.aload_n 0, 1) := by decide +kernel
theorem dX3_add_11 : decode cX3_add 11 = .ok (.getfield 13, 3) := by decide +kernel
theorem dX3_add_14 : decode cX3_add 14 = .ok (.aload_n 0, 1) := by decide +kernel
theorem dX3_add_15 : decode cX3_add 15 = .ok (.getfield 35, 3) := by decide +kernel
theorem dX3_add_18 : decode cX3_add 18 = .ok (.iload_n 1, 1) := by decide +kernel
theorem dX3_add_19 : decode cX3_add 19 = .ok (.iastore, 1) := by decide +kernel
theorem dX3_add_20 : decode cX3_add 20 = .ok (.aload_n 0, 1) := by decide +kernel
theorem dX3_add_21 : decode cX3_add 21 = .ok (.getfield 17, 3) := by decide +kernel
theorem dX3_add_24 : decode cX3_add 24 = .ok (.aload_n 0, 1) := by decide +kernel
theorem dX3_add_25 : decode cX3_add 25 = .ok (.getfield 35, 3) := by decide +kernel
theorem dX3_add_28 : decode cX3_add 28 = .ok (.iload_n 2, 1) := by decide +kernel
theorem dX3_add_29 : decode cX3_add 29 = .ok (.iastore, 1) := by decide +kernel
theorem dX3_add_30 : decode cX3_add 30 = .ok (.aload_n 0, 1) := by decide +kernel
theorem dX3_add_31 : decode cX3_add 31 = .ok (.dup, 1) := by decide +kernel
theorem dX3_add_32 : decode cX3_add 32 = .ok (.getfield 35, 3) := by decide +kernel
theorem dX3_add_35 : decode cX3_add 35 = .ok (.iconst 1, 1) := by decide +kernel
theorem dX3_add_36 : decode cX3_add 36 = .ok (.iadd, 1) := by decide +kernel
theorem dX3_add_37 : decode cX3_add 37 = .ok (.putfield 35, 3) := by decide +kernel
theorem dX3_add_40 : decode cX3_add 40 = .ok (.aload_n 0, 1) := by decide +kernel
theorem dX3_add_41 : decode cX3_add 41 = .ok (.getfield 26, 3) := by decide +kernel
theorem dX3_add_44 : decode cX3_add 44 = .ok (.iconst (-1), 1) := by decide +kernel
theorem dX3_add_45 : decode cX3_add 45 = .ok (.invokestatic 29, 3) := by decide +kernel
theorem dX3_add_48 : decode cX3_add 48 = .ok (.aload_n 0, 1) := by decide +kernel
theorem dX3_add_49 : decode cX3_add 49 = .ok (.getfield 35, 3) := by decide +kernel
theorem dX3_add_52 : decode cX3_add 52 = .ok (.ireturn, 1) := by decide +kernel
theorem dX3_clear_0 : decode cX3_clear 0 = .ok (.aload_n 0, 1) := by decide +kernel
theorem dX3_clear_1 : decode cX3_clear 1 = .ok (.getfield 35, 3) := by decide +kernel
theorem dX3_clear_4 : decode cX3_clear 4 = .ok (.istore_n 1, 1) := by decide +kernel
theorem dX3_clear_5 : decode cX3_clear 5 = .ok (.aload_n 0, 1) := by decide +kernel
theorem dX3_clear_6 : decode cX3_clear 6 = .ok (.iconst 0, 1) := by decide +kernel
theorem dX3_clear_7 : decode cX3_clear 7 = .ok (.putfield 35, 3) := by decide +kernel
theorem dX3_clear_10 : decode cX3_clear 10 = .ok (.aload_n 0, 1) := by decide +kernel
theorem dX3_clear_11 : decode cX3_clear 11 = .ok (.getfield 13, 3) := by decide +kernel
theorem dX3_clear_14 : decode cX3_clear 14 = .ok (.iconst 0, 1) := by decide +kernel
theorem dX3_clear_15 : decode cX3_clear 15 = .ok (.invokestatic 29, 3) := by decide +kernel
theorem dX3_clear_18 : decode cX3_clear 18 = .ok (.aload_n 0, 1) := by decide +kernel
theorem dX3_clear_19 : decode cX3_clear 19 = .ok (.getfield 26, 3) := by decide +kernel
theorem dX3_clear_22 : decode cX3_clear 22 = .ok (.iconst (-1), 1) := by decide +kernel
theorem dX3_clear_23 : decode cX3_clear 23 = .ok (.invokestatic 29, 3) := by decide +kernel
theorem dX3_clear_26 : decode cX3_clear 26 = .ok (.iload_n 1, 1) := by decide +kernel
theorem dX3_clear_27 : decode cX3_clear 27 = .ok (.ireturn, 1) := by decide +kernel
theorem dX3_leastWaiting_0 : decode cX3_leastWaiting 0 = .ok (.aload_n 0, 1) := by decide +kernel
theorem dX3_leastWaiting_1 : decode cX3_leastWaiting 1 = .ok (.getfield 26, 3) := by decide +kernel
theorem dX3_leastWaiting_4 : decode cX3_leastWaiting 4 = .ok (.iload_n 1, 1) := by decide +kernel
theorem dX3_leastWaiting_5 : decode cX3_leastWaiting 5 = .ok (.iaload, 1) := by decide +kernel
theorem dX3_leastWaiting_6 : decode cX3_leastWaiting 6 = .ok (.iconst (-1), 1) := by decide +kernel
theorem dX3_leastWaiting_7 : decode cX3_leastWaiting 7 = .ok (.if_icmp .ne 14, 3) := by decide +kernel
theorem dX3_leastWaiting_10 : decode cX3_leastWaiting 10 = .ok (.aload_n 0, 1) := by decide +kernel
theorem dX3_leastWaiting_11 : decode cX3_leastWaiting 11 = .ok (.getfield 26, 3) := by decide +kernel
theorem dX3_leastWaiting_14 : decode cX3_leastWaiting 14 = .ok (.iload_n 1, 1) := by decide +kernel
theorem dX3_leastWaiting_15 : decode cX3_leastWaiting 15 = .ok (.aload_n 0, 1) := by decide +kernel
theorem dX3_leastWaiting_16 : decode cX3_leastWaiting 16 = .ok (.iload_n 1, 1) := by decide +kernel
theorem dX3_leastWaiting_17 : decode cX3_leastWaiting 17 = .ok (.invokevirtual 39, 3) := by decide +kernel
theorem dX3_leastWaiting_20 : decode cX3_leastWaiting 20 = .ok (.iastore, 1) := by decide +kernel
theorem dX3_leastWaiting_21 : decode cX3_leastWaiting 21 = .ok (.aload_n 0, 1) := by decide +kernel
theorem dX3_leastWaiting_22 : decode cX3_leastWaiting 22 = .ok (.getfield 26, 3) := by decide +kernel
theorem dX3_leastWaiting_25 : decode cX3_leastWaiting 25 = .ok (.iload_n 1, 1) := by decide +kernel
theorem dX3_leastWaiting_26 : decode cX3_leastWaiting 26 = .ok (.iaload, 1) := by decide +kernel
theorem dX3_leastWaiting_27 : decode cX3_leastWaiting 27 = .ok (.ireturn, 1) := by decide +kernel
theorem dX3_search_0 : decode cX3_search 0 = .ok (.iconst 0, 1) := by decide +kernel
theorem dX3_search_1 : decode cX3_search 1 = .ok (.istore_n 2, 1) := by decide +kernel
theorem dX3_search_2 : decode cX3_search 2 = .ok (.iconst 3, 1) := by decide +kernel
theorem dX3_search_3 : decode cX3_search 3 = .ok (.istore_n 3, 1) := by decide +kernel
theorem dX3_search_4 : decode cX3_search 4 = .ok (.iload_n 3, 1) := by decide +kernel
theorem dX3_search_5 : decode cX3_search 5 = .ok (.ifCond .lt 21, 3) := by decide +kernel
theorem dX3_search_8 : decode cX3_search 8 = .ok (.iload_n 2, 1) := by decide +kernel
theorem dX3_search_9 : decode cX3_search 9 = .ok (.bipush 9, 2) := by decide +kernel
theorem dX3_search_11 : decode cX3_search 11 = .ok (.imul, 1) := by decide +kernel
theorem dX3_search_12 : decode cX3_search 12 = .ok (.aload_n 0, 1) := by decide +kernel
theorem dX3_search_13 : decode cX3_search 13 = .ok (.getfield 13, 3) := by decide +kernel
theorem dX3_search_16 : decode cX3_search 16 = .ok (.iload_n 3, 1) := by decide +kernel
theorem dX3_search_17 : decode cX3_search 17 = .ok (.iaload, 1) := by decide +kernel
theorem dX3_search_18 : decode cX3_search 18 = .ok (.iadd, 1) := by decide +kernel
theorem dX3_search_19 : decode cX3_search 19 = .ok (.istore_n 2, 1) := by decide +kernel
theorem dX3_search_20 : decode cX3_search 20 = .ok (.iinc 3 (-1), 3) := by decide +kernel
theorem dX3_search_23 : decode cX3_search 23 = .ok (.goto (-19), 3) := by decide +kernel
theorem dX3_search_26 : decode cX3_search 26 = .ok (.iload_n 2, 1) := by decide +kernel
theorem dX3_search_27 : decode cX3_search 27 = .ok (.ifCond .lt 10, 3) := by decide +kernel
theorem dX3_search_30 : decode cX3_search 30 = .ok (.iload_n 2, 1) := by decide +kernel
theorem dX3_search_31 : decode cX3_search 31 = .ok (.sipush 6561, 3) := by decide +kernel
theorem dX3_search_34 : decode cX3_search 34 = .ok (.if_icmp .lt 5, 3) := by decide +kernel
theorem dX3_search_37 : decode cX3_search 37 = .ok (.iconst (-1), 1) := by decide +kernel
theorem dX3_search_38 : decode cX3_search 38 = .ok (.ireturn, 1) := by decide +kernel
theorem dX3_search_39 : decode cX3_search 39 = .ok (.aload_n 0, 1) := by decide +kernel
theorem dX3_search_40 : decode cX3_search 40 = .ok (.getfield 23, 3) := by decide +kernel
theorem dX3_search_43 : decode cX3_search 43 = .ok (.iconst 0, 1) := by decide +kernel
theorem dX3_search_44 : decode cX3_search 44 = .ok (.iload_n 2, 1) := by decide +kernel
theorem dX3_search_45 : decode cX3_search 45 = .ok (.iconst 1, 1) := by decide +kernel
theorem dX3_search_46 : decode cX3_search 46 = .ok (.iadd, 1) := by decide +kernel
theorem dX3_search_47 : decode cX3_search 47 = .ok (.ldc 43, 2) := by decide +kernel
theorem dX3_search_49 : decode cX3_search 49 = .ok (.invokestatic 44, 3) := by decide +kernel
theorem dX3_search_52 : decode cX3_search 52 = .ok (.aload_n 0, 1) := by decide +kernel
theorem dX3_search_53 : decode cX3_search 53 = .ok (.getfield 23, 3) := by decide +kernel
theorem dX3_search_56 : decode cX3_search 56 = .ok (.iload_n 2, 1) := by decide +kernel
theorem dX3_search_57 : decode cX3_search 57 = .ok (.iconst 0, 1) := by decide +kernel
theorem dX3_search_58 : decode cX3_search 58 = .ok (.iastore, 1) := by decide +kernel
theorem dX3_search_59 : decode cX3_search 59 = .ok (.iload_n 2, 1) := by decide +kernel
theorem dX3_search_60 : decode cX3_search 60 = .ok (.istore_n 3, 1) := by decide +kernel
theorem dX3_search_61 : decode cX3_search 61 = .ok (.iload_n 3, 1) := by decide +kernel
theorem dX3_search_62 : decode cX3_search 62 = .ok (.ifCond .le 26, 3) := by decide +kernel
theorem dX3_search_65 : decode cX3_search 65 = .ok (.aload_n 0, 1) := by decide +kernel
theorem dX3_search_66 : decode cX3_search 66 = .ok (.getfield 23, 3) := by decide +kernel
theorem dX3_search_69 : decode cX3_search 69 = .ok (.iload_n 3, 1) := by decide +kernel
theorem dX3_search_70 : decode cX3_search 70 = .ok (.iaload, 1) := by decide +kernel
theorem dX3_search_71 : decode cX3_search 71 = .ok (.ldc 43, 2) := by decide +kernel
theorem dX3_search_73 : decode cX3_search 73 = .ok (.if_icmp .eq 9, 3) := by decide +kernel
theorem dX3_search_76 : decode cX3_search 76 = .ok (.aload_n 0, 1) := by decide +kernel
theorem dX3_search_77 : decode cX3_search 77 = .ok (.iload_n 3, 1) := by decide +kernel
theorem dX3_search_78 : decode cX3_search 78 = .ok (.iload_n 1, 1) := by decide +kernel
theorem dX3_search_79 : decode cX3_search 79 = .ok (.invokevirtual 47, 3) := by decide +kernel
theorem dX3_search_82 : decode cX3_search 82 = .ok (.iinc 3 (-1), 3) := by decide +kernel
theorem dX3_search_85 : decode cX3_search 85 = .ok (.goto (-24), 3) := by decide +kernel
theorem dX3_search_88 : decode cX3_search 88 = .ok (.aload_n 0, 1) := by decide +kernel
theorem dX3_search_89 : decode cX3_search 89 = .ok (.getfield 23, 3) := by decide +kernel
theorem dX3_search_92 : decode cX3_search 92 = .ok (.iconst 0, 1) := by decide +kernel
theorem dX3_search_93 : decode cX3_search 93 = .ok (.iaload, 1) := by decide +kernel
theorem dX3_search_94 : decode cX3_search 94 = .ok (.ireturn, 1) := by decide +kernel
theorem dX3_sendGangs_0 : decode cX3_sendGangs 0 = .ok (.aload_n 0, 1) := by decide +kernel
theorem dX3_sendGangs_1 : decode cX3_sendGangs 1 = .ok (.getfield 23, 3) := by decide +kernel
theorem dX3_sendGangs_4 : decode cX3_sendGangs 4 = .ok (.iload_n 1, 1) := by decide +kernel
theorem dX3_sendGangs_5 : decode cX3_sendGangs 5 = .ok (.iaload, 1) := by decide +kernel
theorem dX3_sendGangs_6 : decode cX3_sendGangs 6 = .ok (.istore_n 3, 1) := by decide +kernel
theorem dX3_sendGangs_7 : decode cX3_sendGangs 7 = .ok (.iconst 0, 1) := by decide +kernel
theorem dX3_sendGangs_8 : decode cX3_sendGangs 8 = .ok (.istore 4, 2) := by decide +kernel
theorem dX3_sendGangs_10 : decode cX3_sendGangs 10 = .ok (.iload_n 1, 1) := by decide +kernel
theorem dX3_sendGangs_11 : decode cX3_sendGangs 11 = .ok (.istore 5, 2) := by decide +kernel
theorem dX3_sendGangs_13 : decode cX3_sendGangs 13 = .ok (.iconst 0, 1) := by decide +kernel
theorem dX3_sendGangs_14 : decode cX3_sendGangs 14 = .ok (.istore 6, 2) := by decide +kernel
theorem dX3_sendGangs_16 : decode cX3_sendGangs 16 = .ok (.iload 6, 2) := by decide +kernel
theorem dX3_sendGangs_18 : decode cX3_sendGangs 18 = .ok (.iconst 4, 1) := by decide +kernel
theorem dX3_sendGangs_19 : decode cX3_sendGangs 19 = .ok (.if_icmp .ge 62, 3) := by decide +kernel
theorem dX3_sendGangs_22 : decode cX3_sendGangs 22 = .ok (.iload 5, 2) := by decide +kernel
theorem dX3_sendGangs_24 : decode cX3_sendGangs 24 = .ok (.bipush 9, 2) := by decide +kernel
theorem dX3_sendGangs_26 : decode cX3_sendGangs 26 = .ok (.irem, 1) := by decide +kernel
theorem dX3_sendGangs_27 : decode cX3_sendGangs 27 = .ok (.istore 7, 2) := by decide +kernel
theorem dX3_sendGangs_29 : decode cX3_sendGangs 29 = .ok (.iload 5, 2) := by decide +kernel
theorem dX3_sendGangs_31 : decode cX3_sendGangs 31 = .ok (.bipush 9, 2) := by decide +kernel
theorem dX3_sendGangs_33 : decode cX3_sendGangs 33 = .ok (.idiv, 1) := by decide +kernel
theorem dX3_sendGangs_34 : decode cX3_sendGangs 34 = .ok (.istore 5, 2) := by decide +kernel
theorem dX3_sendGangs_36 : decode cX3_sendGangs 36 = .ok (.iload 7, 2) := by decide +kernel
theorem dX3_sendGangs_38 : decode cX3_sendGangs 38 = .ok (.ifCond .le 6, 3) := by decide +kernel
theorem dX3_sendGangs_41 : decode cX3_sendGangs 41 = .ok (.iinc 3 1, 3) := by decide +kernel
theorem dX3_sendGangs_44 : decode cX3_sendGangs 44 = .ok (.aload_n 0, 1) := by decide +kernel
theorem dX3_sendGangs_45 : decode cX3_sendGangs 45 = .ok (.getfield 20, 3) := by decide +kernel
theorem dX3_sendGangs_48 : decode cX3_sendGangs 48 = .ok (.iload 6, 2) := by decide +kernel
theorem dX3_sendGangs_50 : decode cX3_sendGangs 50 = .ok (.aload_n 0, 1) := by decide +kernel
theorem dX3_sendGangs_51 : decode cX3_sendGangs 51 = .ok (.getfield 17, 3) := by decide +kernel
theorem dX3_sendGangs_54 : decode cX3_sendGangs 54 = .ok (.iload 6, 2) := by decide +kernel
theorem dX3_sendGangs_56 : decode cX3_sendGangs 56 = .ok (.iaload, 1) := by decide +kernel
theorem dX3_sendGangs_57 : decode cX3_sendGangs 57 = .ok (.iload 7, 2) := by decide +kernel
theorem dX3_sendGangs_59 : decode cX3_sendGangs 59 = .ok (.invokestatic 51, 3) := by decide +kernel
theorem dX3_sendGangs_62 : decode cX3_sendGangs 62 = .ok (.iastore, 1) := by decide +kernel
theorem dX3_sendGangs_63 : decode cX3_sendGangs 63 = .ok (.iload 4, 2) := by decide +kernel
theorem dX3_sendGangs_65 : decode cX3_sendGangs 65 = .ok (.aload_n 0, 1) := by decide +kernel
theorem dX3_sendGangs_66 : decode cX3_sendGangs 66 = .ok (.getfield 20, 3) := by decide +kernel
theorem dX3_sendGangs_69 : decode cX3_sendGangs 69 = .ok (.iload 6, 2) := by decide +kernel
theorem dX3_sendGangs_71 : decode cX3_sendGangs 71 = .ok (.iaload, 1) := by decide +kernel
theorem dX3_sendGangs_72 : decode cX3_sendGangs 72 = .ok (.iadd, 1) := by decide +kernel
theorem dX3_sendGangs_73 : decode cX3_sendGangs 73 = .ok (.istore 4, 2) := by decide +kernel
theorem dX3_sendGangs_75 : decode cX3_sendGangs 75 = .ok (.iinc 6 1, 3) := by decide +kernel
theorem dX3_sendGangs_78 : decode cX3_sendGangs 78 = .ok (.goto (-62), 3) := by decide +kernel
theorem dX3_sendGangs_81 : decode cX3_sendGangs 81 = .ok (.aload_n 0, 1) := by decide +kernel
theorem dX3_sendGangs_82 : decode cX3_sendGangs 82 = .ok (.iload_n 1, 1) := by decide +kernel
theorem dX3_sendGangs_83 : decode cX3_sendGangs 83 = .ok (.iload_n 2, 1) := by decide +kernel
theorem dX3_sendGangs_84 : decode cX3_sendGangs 84 = .ok (.iload 4, 2) := by decide +kernel
theorem dX3_sendGangs_86 : decode cX3_sendGangs 86 = .ok (.invokestatic 51, 3) := by decide +kernel
theorem dX3_sendGangs_89 : decode cX3_sendGangs 89 = .ok (.iload_n 3, 1) := by decide +kernel
theorem dX3_sendGangs_90 : decode cX3_sendGangs 90 = .ok (.invokevirtual 57, 3) := by decide +kernel
theorem dX3_sendGangs_93 : decode cX3_sendGangs 93 = .ok (.return_, 1) := by decide +kernel
theorem dX3_spread_0 : decode cX3_spread 0 = .ok (.aload_n 0, 1) := by decide +kernel
theorem dX3_spread_1 : decode cX3_spread 1 = .ok (.getfield 20, 3) := by decide +kernel
theorem dX3_spread_4 : decode cX3_spread 4 = .ok (.iconst 2, 1) := by decide +kernel
theorem dX3_spread_5 : decode cX3_spread 5 = .ok (.iaload, 1) := by decide +kernel
theorem dX3_spread_6 : decode cX3_spread 6 = .ok (.aload_n 0, 1) := by decide +kernel
theorem dX3_spread_7 : decode cX3_spread 7 = .ok (.getfield 20, 3) := by decide +kernel
theorem dX3_spread_10 : decode cX3_spread 10 = .ok (.iconst 3, 1) := by decide +kernel
theorem dX3_spread_11 : decode cX3_spread 11 = .ok (.iaload, 1) := by decide +kernel
theorem dX3_spread_12 : decode cX3_spread 12 = .ok (.iadd, 1) := by decide +kernel
theorem dX3_spread_13 : decode cX3_spread 13 = .ok (.istore 4, 2) := by decide +kernel
theorem dX3_spread_15 : decode cX3_spread 15 = .ok (.iconst 0, 1) := by decide +kernel
theorem dX3_spread_16 : decode cX3_spread 16 = .ok (.iload_n 2, 1) := by decide +kernel
theorem dX3_spread_17 : decode cX3_spread 17 = .ok (.aload_n 0, 1) := by decide +kernel
theorem dX3_spread_18 : decode cX3_spread 18 = .ok (.getfield 20, 3) := by decide +kernel
theorem dX3_spread_21 : decode cX3_spread 21 = .ok (.iconst 1, 1) := by decide +kernel
theorem dX3_spread_22 : decode cX3_spread 22 = .ok (.iaload, 1) := by decide +kernel
theorem dX3_spread_23 : decode cX3_spread 23 = .ok (.isub, 1) := by decide +kernel
theorem dX3_spread_24 : decode cX3_spread 24 = .ok (.iload 4, 2) := by decide +kernel
theorem dX3_spread_26 : decode cX3_spread 26 = .ok (.isub, 1) := by decide +kernel
theorem dX3_spread_27 : decode cX3_spread 27 = .ok (.invokestatic 61, 3) := by decide +kernel
theorem dX3_spread_30 : decode cX3_spread 30 = .ok (.istore 5, 2) := by decide +kernel
theorem dX3_spread_32 : decode cX3_spread 32 = .ok (.iload 5, 2) := by decide +kernel
theorem dX3_spread_34 : decode cX3_spread 34 = .ok (.aload_n 0, 1) := by decide +kernel
theorem dX3_spread_35 : decode cX3_spread 35 = .ok (.getfield 20, 3) := by decide +kernel
theorem dX3_spread_38 : decode cX3_spread 38 = .ok (.iconst 0, 1) := by decide +kernel
theorem dX3_spread_39 : decode cX3_spread 39 = .ok (.iaload, 1) := by decide +kernel
theorem dX3_spread_40 : decode cX3_spread 40 = .ok (.iload_n 2, 1) := by decide +kernel
theorem dX3_spread_41 : decode cX3_spread 41 = .ok (.invokestatic 51, 3) := by decide +kernel
theorem dX3_spread_44 : decode cX3_spread 44 = .ok (.if_icmp .gt 126, 3) := by decide +kernel
theorem dX3_spread_47 : decode cX3_spread 47 = .ok (.iload_n 2, 1) := by decide +kernel
theorem dX3_spread_48 : decode cX3_spread 48 = .ok (.iload 5, 2) := by decide +kernel
theorem dX3_spread_50 : decode cX3_spread 50 = .ok (.isub, 1) := by decide +kernel
theorem dX3_spread_51 : decode cX3_spread 51 = .ok (.istore 6, 2) := by decide +kernel
theorem dX3_spread_53 : decode cX3_spread 53 = .ok (.iconst 0, 1) := by decide +kernel
theorem dX3_spread_54 : decode cX3_spread 54 = .ok (.iload 6, 2) := by decide +kernel
theorem dX3_spread_56 : decode cX3_spread 56 = .ok (.iload 4, 2) := by decide +kernel
theorem dX3_spread_58 : decode cX3_spread 58 = .ok (.isub, 1) := by decide +kernel
theorem dX3_spread_59 : decode cX3_spread 59 = .ok (.invokestatic 61, 3) := by decide +kernel
theorem dX3_spread_62 : decode cX3_spread 62 = .ok (.istore 7, 2) := by decide +kernel
theorem dX3_spread_64 : decode cX3_spread 64 = .ok (.iload 7, 2) := by decide +kernel
theorem dX3_spread_66 : decode cX3_spread 66 = .ok (.aload_n 0, 1) := by decide +kernel
theorem dX3_spread_67 : decode cX3_spread 67 = .ok (.getfield 20, 3) := by decide +kernel
theorem dX3_spread_70 : decode cX3_spread 70 = .ok (.iconst 1, 1) := by decide +kernel
theorem dX3_spread_71 : decode cX3_spread 71 = .ok (.iaload, 1) := by decide +kernel
theorem dX3_spread_72 : decode cX3_spread 72 = .ok (.iload 6, 2) := by decide +kernel
theorem dX3_spread_74 : decode cX3_spread 74 = .ok (.invokestatic 51, 3) := by decide +kernel
theorem dX3_spread_77 : decode cX3_spread 77 = .ok (.if_icmp .gt 87, 3) := by decide +kernel
theorem dX3_spread_80 : decode cX3_spread 80 = .ok (.iload 6, 2) := by decide +kernel
theorem dX3_spread_82 : decode cX3_spread 82 = .ok (.iload 7, 2) := by decide +kernel
theorem dX3_spread_84 : decode cX3_spread 84 = .ok (.isub, 1) := by decide +kernel
theorem dX3_spread_85 : decode cX3_spread 85 = .ok (.istore 8, 2) := by decide +kernel
theorem dX3_spread_87 : decode cX3_spread 87 = .ok (.iconst 0, 1) := by decide +kernel
theorem dX3_spread_88 : decode cX3_spread 88 = .ok (.iload 8, 2) := by decide +kernel
theorem dX3_spread_90 : decode cX3_spread 90 = .ok (.aload_n 0, 1) := by decide +kernel
theorem dX3_spread_91 : decode cX3_spread 91 = .ok (.getfield 20, 3) := by decide +kernel
theorem dX3_spread_94 : decode cX3_spread 94 = .ok (.iconst 3, 1) := by decide +kernel
theorem dX3_spread_95 : decode cX3_spread 95 = .ok (.iaload, 1) := by decide +kernel
theorem dX3_spread_96 : decode cX3_spread 96 = .ok (.isub, 1) := by decide +kernel
theorem dX3_spread_97 : decode cX3_spread 97 = .ok (.invokestatic 61, 3) := by decide +kernel
theorem dX3_spread_100 : decode cX3_spread 100 = .ok (.istore 9, 2) := by decide +kernel
theorem dX3_spread_102 : decode cX3_spread 102 = .ok (.iload 9, 2) := by decide +kernel
theorem dX3_spread_104 : decode cX3_spread 104 = .ok (.aload_n 0, 1) := by decide +kernel
theorem dX3_spread_105 : decode cX3_spread 105 = .ok (.getfield 20, 3) := by decide +kernel
theorem dX3_spread_108 : decode cX3_spread 108 = .ok (.iconst 2, 1) := by decide +kernel
theorem dX3_spread_109 : decode cX3_spread 109 = .ok (.iaload, 1) := by decide +kernel
theorem dX3_spread_110 : decode cX3_spread 110 = .ok (.iload 8, 2) := by decide +kernel
theorem dX3_spread_112 : decode cX3_spread 112 = .ok (.invokestatic 51, 3) := by decide +kernel
theorem dX3_spread_115 : decode cX3_spread 115 = .ok (.if_icmp .gt 43, 3) := by decide +kernel
theorem dX3_spread_118 : decode cX3_spread 118 = .ok (.iload 8, 2) := by decide +kernel
theorem dX3_spread_120 : decode cX3_spread 120 = .ok (.iload 9, 2) := by decide +kernel
theorem dX3_spread_122 : decode cX3_spread 122 = .ok (.isub, 1) := by decide +kernel
theorem dX3_spread_123 : decode cX3_spread 123 = .ok (.istore 10, 2) := by decide +kernel
theorem dX3_spread_125 : decode cX3_spread 125 = .ok (.aload_n 0, 1) := by decide +kernel
theorem dX3_spread_126 : decode cX3_spread 126 = .ok (.iload_n 1, 1) := by decide +kernel
theorem dX3_spread_127 : decode cX3_spread 127 = .ok (.iload 5, 2) := by decide +kernel
theorem dX3_spread_129 : decode cX3_spread 129 = .ok (.isub, 1) := by decide +kernel
theorem dX3_spread_130 : decode cX3_spread 130 = .ok (.bipush 9, 2) := by decide +kernel
theorem dX3_spread_132 : decode cX3_spread 132 = .ok (.iload 7, 2) := by decide +kernel
theorem dX3_spread_134 : decode cX3_spread 134 = .ok (.bipush 9, 2) := by decide +kernel
theorem dX3_spread_136 : decode cX3_spread 136 = .ok (.iload 9, 2) := by decide +kernel
theorem dX3_spread_138 : decode cX3_spread 138 = .ok (.bipush 9, 2) := by decide +kernel
theorem dX3_spread_140 : decode cX3_spread 140 = .ok (.iload 10, 2) := by decide +kernel
theorem dX3_spread_142 : decode cX3_spread 142 = .ok (.imul, 1) := by decide +kernel
theorem dX3_spread_143 : decode cX3_spread 143 = .ok (.iadd, 1) := by decide +kernel
theorem dX3_spread_144 : decode cX3_spread 144 = .ok (.imul, 1) := by decide +kernel
theorem dX3_spread_145 : decode cX3_spread 145 = .ok (.iadd, 1) := by decide +kernel
theorem dX3_spread_146 : decode cX3_spread 146 = .ok (.imul, 1) := by decide +kernel
theorem dX3_spread_147 : decode cX3_spread 147 = .ok (.isub, 1) := by decide +kernel
theorem dX3_spread_148 : decode cX3_spread 148 = .ok (.iload_n 3, 1) := by decide +kernel
theorem dX3_spread_149 : decode cX3_spread 149 = .ok (.invokevirtual 64, 3) := by decide +kernel
theorem dX3_spread_152 : decode cX3_spread 152 = .ok (.iinc 9 1, 3) := by decide +kernel
theorem dX3_spread_155 : decode cX3_spread 155 = .ok (.goto (-53), 3) := by decide +kernel
theorem dX3_spread_158 : decode cX3_spread 158 = .ok (.iinc 7 1, 3) := by decide +kernel
theorem dX3_spread_161 : decode cX3_spread 161 = .ok (.goto (-97), 3) := by decide +kernel
theorem dX3_spread_164 : decode cX3_spread 164 = .ok (.iinc 5 1, 3) := by decide +kernel
theorem dX3_spread_167 : decode cX3_spread 167 = .ok (.goto (-135), 3) := by decide +kernel
theorem dX3_spread_170 : decode cX3_spread 170 = .ok (.return_, 1) := by decide +kernel
theorem dX3_reach_0 : decode cX3_reach 0 = .ok (.iload_n 1, 1) := by decide +kernel
theorem dX3_reach_1 : decode cX3_reach 1 = .ok (.ifCond .lt 27, 3) := by decide +kernel
theorem dX3_reach_4 : decode cX3_reach 4 = .ok (.iload_n 1, 1) := by decide +kernel
theorem dX3_reach_5 : decode cX3_reach 5 = .ok (.sipush 6561, 3) := by decide +kernel
theorem dX3_reach_8 : decode cX3_reach 8 = .ok (.if_icmp .ge 20, 3) := by decide +kernel
theorem dX3_reach_11 : decode cX3_reach 11 = .ok (.iload_n 2, 1) := by decide +kernel
theorem dX3_reach_12 : decode cX3_reach 12 = .ok (.aload_n 0, 1) := by decide +kernel
theorem dX3_reach_13 : decode cX3_reach 13 = .ok (.getfield 23, 3) := by decide +kernel
theorem dX3_reach_16 : decode cX3_reach 16 = .ok (.iload_n 1, 1) := by decide +kernel
theorem dX3_reach_17 : decode cX3_reach 17 = .ok (.iaload, 1) := by decide +kernel
theorem dX3_reach_18 : decode cX3_reach 18 = .ok (.if_icmp .ge 10, 3) := by decide +kernel
theorem dX3_reach_21 : decode cX3_reach 21 = .ok (.aload_n 0, 1) := by decide +kernel
theorem dX3_reach_22 : decode cX3_reach 22 = .ok (.getfield 23, 3) := by decide +kernel
theorem dX3_reach_25 : decode cX3_reach 25 = .ok (.iload_n 1, 1) := by decide +kernel
theorem dX3_reach_26 : decode cX3_reach 26 = .ok (.iload_n 2, 1) := by decide +kernel
theorem dX3_reach_27 : decode cX3_reach 27 = .ok (.iastore, 1) := by decide +kernel
theorem dX3_reach_28 : decode cX3_reach 28 = .ok (.return_, 1) := by decide +kernel
theorem dX4_init_0 : decode cX4_init 0 = .ok (.aload_n 0, 1) := by decide +kernel
theorem dX4_init_1 : decode cX4_init 1 = .ok (.invokespecial 3, 3) := by decide +kernel
theorem dX4_init_4 : decode cX4_init 4 = .ok (.aload_n 0, 1) := by decide +kernel
theorem dX4_init_5 : decode cX4_init 5 = .ok (.bipush 11, 2) := by decide +kernel
theorem dX4_init_7 : decode cX4_init 7 = .ok (.newarray .int, 2) := by decide +kernel
theorem dX4_init_9 : decode cX4_init 9 = .ok (.putfield 9, 3) := by decide +kernel
theorem dX4_init_12 : decode cX4_init 12 = .ok (.aload_n 0, 1) := by decide +kernel
theorem dX4_init_13 : decode cX4_init 13 = .ok (.iconst (-1), 1) := by decide +kernel
theorem dX4_init_14 : decode cX4_init 14 = .ok (.putfield 15, 3) := by decide +kernel
theorem dX4_init_17 : decode cX4_init 17 = .ok (.aload_n 0, 1) := by decide +kernel
theorem dX4_init_18 : decode cX4_init 18 = .ok (.aload_n 1, 1) := by decide +kernel
theorem dX4_init_19 : decode cX4_init 19 = .ok (.putfield 19, 3) := by decide +kernel
theorem dX4_init_22 : decode cX4_init 22 = .ok (.return_, 1) := by decide +kernel
theorem dX4_readText_0 : decode cX4_readText 0 = .ok (.aload_n 1, 1) := by decide +kernel
theorem dX4_readText_1 : decode cX4_readText 1 = .ok (.iconst 0, 1) := by decide +kernel
theorem dX4_readText_2 : decode cX4_readText 2 = .ok (.aload_n 0, 1) := by decide +kernel
theorem dX4_readText_3 : decode cX4_readText 3 = .ok (.getfield 9, 3) := by decide +kernel
theorem dX4_readText_6 : decode cX4_readText 6 = .ok (.iconst 0, 1) := by decide +kernel
theorem dX4_readText_7 : decode cX4_readText 7 = .ok (.bipush 11, 2) := by decide +kernel
theorem dX4_readText_9 : decode cX4_readText 9 = .ok (.invokestatic 23, 3) := by decide +kernel
theorem dX4_readText_12 : decode cX4_readText 12 = .ok (.aload_n 0, 1) := by decide +kernel
theorem dX4_readText_13 : decode cX4_readText 13 = .ok (.iconst 0, 1) := by decide +kernel
theorem dX4_readText_14 : decode cX4_readText 14 = .ok (.putfield 29, 3) := by decide +kernel
theorem dX4_readText_17 : decode cX4_readText 17 = .ok (.aload_n 0, 1) := by decide +kernel
theorem dX4_readText_18 : decode cX4_readText 18 = .ok (.iconst (-1), 1) := by decide +kernel
theorem dX4_readText_19 : decode cX4_readText 19 = .ok (.putfield 15, 3) := by decide +kernel
theorem dX4_readText_22 : decode cX4_readText 22 = .ok (.iconst 1, 1) := by decide +kernel
theorem dX4_readText_23 : decode cX4_readText 23 = .ok (.istore_n 2, 1) := by decide +kernel
theorem dX4_readText_24 : decode cX4_readText 24 = .ok (.iload_n 2, 1) := by decide +kernel
theorem dX4_readText_25 : decode cX4_readText 25 = .ok (.sipush 400, 3) := by decide +kernel
theorem dX4_readText_28 : decode cX4_readText 28 = .ok (.if_icmp .gt 73, 3) := by decide +kernel
theorem dX4_readText_31 : decode cX4_readText 31 = .ok (.aload_n 0, 1) := by decide +kernel
theorem dX4_readText_32 : decode cX4_readText 32 = .ok (.invokevirtual 32, 3) := by decide +kernel
theorem dX4_readText_35 : decode cX4_readText 35 = .ok (.ifCond .ne 5, 3) := by decide +kernel
theorem dX4_readText_38 : decode cX4_readText 38 = .ok (.iconst (-1), 1) := by decide +kernel
theorem dX4_readText_39 : decode cX4_readText 39 = .ok (.ireturn, 1) := by decide +kernel
theorem dX4_readText_40 : decode cX4_readText 40 = .ok (.aload_n 0, 1) := by decide +kernel
theorem dX4_readText_41 : decode cX4_readText 41 = .ok (.invokevirtual 36, 3) := by decide +kernel
theorem dX4_readText_44 : decode cX4_readText 44 = .ok (.aload_n 0, 1) := by decide +kernel
theorem dX4_readText_45 : decode cX4_readText 45 = .ok (.getfield 29, 3) := by decide +kernel
theorem dX4_readText_48 : decode cX4_readText 48 = .ok (.aload_n 0, 1) := by decide +kernel
theorem dX4_readText_49 : decode cX4_readText 49 = .ok (.getfield 19, 3) := by decide +kernel
theorem dX4_readText_52 : decode cX4_readText 52 = .ok (.getfield 39, 3) := by decide +kernel
theorem dX4_readText_55 : decode cX4_readText 55 = .ok (.if_icmp .ne 5, 3) := by decide +kernel
theorem dX4_readText_58 : decode cX4_readText 58 = .ok (.iload_n 2, 1) := by decide +kernel
theorem dX4_readText_59 : decode cX4_readText 59 = .ok (.ireturn, 1) := by decide +kernel
theorem dX4_readText_60 : decode cX4_readText 60 = .ok (.aload_n 0, 1) := by decide +kernel
theorem dX4_readText_61 : decode cX4_readText 61 = .ok (.getfield 19, 3) := by decide +kernel
theorem dX4_readText_64 : decode cX4_readText 64 = .ok (.aload_n 0, 1) := by decide +kernel
theorem dX4_readText_65 : decode cX4_readText 65 = .ok (.getfield 29, 3) := by decide +kernel
theorem dX4_readText_68 : decode cX4_readText 68 = .ok (.invokevirtual 44, 3) := by decide +kernel
theorem dX4_readText_71 : decode cX4_readText 71 = .ok (.bipush 59, 2) := by decide +kernel
theorem dX4_readText_73 : decode cX4_readText 73 = .ok (.if_icmp .eq 12, 3) := by decide +kernel
theorem dX4_readText_76 : decode cX4_readText 76 = .ok (.aload_n 0, 1) := by decide +kernel
theorem dX4_readText_77 : decode cX4_readText 77 = .ok (.aload_n 0, 1) := by decide +kernel
theorem dX4_readText_78 : decode cX4_readText 78 = .ok (.getfield 29, 3) := by decide +kernel
theorem dX4_readText_81 : decode cX4_readText 81 = .ok (.invokevirtual 48, 3) := by decide +kernel
theorem dX4_readText_84 : decode cX4_readText 84 = .ok (.ireturn, 1) := by decide +kernel
theorem dX4_readText_85 : decode cX4_readText 85 = .ok (.aload_n 0, 1) := by decide +kernel
theorem dX4_readText_86 : decode cX4_readText 86 = .ok (.dup, 1) := by decide +kernel
theorem dX4_readText_87 : decode cX4_readText 87 = .ok (.getfield 29, 3) := by decide +kernel
theorem dX4_readText_90 : decode cX4_readText 90 = .ok (.iconst 1, 1) := by decide +kernel
theorem dX4_readText_91 : decode cX4_readText 91 = .ok (.iadd, 1) := by decide +kernel
theorem dX4_readText_92 : decode cX4_readText 92 = .ok (.putfield 29, 3) := by decide +kernel
theorem dX4_readText_95 : decode cX4_readText 95 = .ok (.iinc 2 1, 3) := by decide +kernel
theorem dX4_readText_98 : decode cX4_readText 98 = .ok (.goto (-74), 3) := by decide +kernel
theorem dX4_readText_101 : decode cX4_readText 101 = .ok (.aload_n 0, 1) := by decide +kernel
theorem dX4_readText_102 : decode cX4_readText 102 = .ok (.aload_n 0, 1) := by decide +kernel
theorem dX4_readText_103 : decode cX4_readText 103 = .ok (.getfield 29, 3) := by decide +kernel
theorem dX4_readText_106 : decode cX4_readText 106 = .ok (.invokevirtual 48, 3) := by decide +kernel
theorem dX4_readText_109 : decode cX4_readText 109 = .ok (.ireturn, 1) := by decide +kernel
theorem dX4_readClause_0 : decode cX4_readClause 0 = .ok (.aload_n 0, 1) := by decide +kernel
theorem dX4_readClause_1 : decode cX4_readClause 1 = .ok (.invokevirtual 36, 3) := by decide +kernel
theorem dX4_readClause_4 : decode cX4_readClause 4 = .ok (.aload_n 0, 1) := by decide +kernel
theorem dX4_readClause_5 : decode cX4_readClause 5 = .ok (.aload_n 0, 1) := by decide +kernel
theorem dX4_readClause_6 : decode cX4_readClause 6 = .ok (.getfield 29, 3) := by decide +kernel
theorem dX4_readClause_9 : decode cX4_readClause 9 = .ok (.invokevirtual 51, 3) := by decide +kernel
theorem dX4_readClause_12 : decode cX4_readClause 12 = .ok (.istore_n 1, 1) := by decide +kernel
theorem dX4_readClause_13 : decode cX4_readClause 13 = .ok (.aload_n 0, 1) := by decide +kernel
theorem dX4_readClause_14 : decode cX4_readClause 14 = .ok (.aload_n 0, 1) := by decide +kernel
theorem dX4_readClause_15 : decode cX4_readClause 15 = .ok (.getfield 29, 3) := by decide +kernel
theorem dX4_readClause_18 : decode cX4_readClause 18 = .ok (.iload_n 1, 1) := by decide +kernel
theorem dX4_readClause_19 : decode cX4_readClause 19 = .ok (.invokevirtual 54, 3) := by decide +kernel
theorem dX4_readClause_22 : decode cX4_readClause 22 = .ok (.astore_n 2, 1) := by decide +kernel
theorem dX4_readClause_23 : decode cX4_readClause 23 = .ok (.aload_n 2, 1) := by decide +kernel
theorem dX4_readClause_24 : decode cX4_readClause 24 = .ok (.ifnonnull 13, 3) := by decide +kernel
theorem dX4_readClause_27 : decode cX4_readClause 27 = .ok (.aload_n 0, 1) := by decide +kernel
theorem dX4_readClause_28 : decode cX4_readClause 28 = .ok (.aload_n 0, 1) := by decide +kernel
theorem dX4_readClause_29 : decode cX4_readClause 29 = .ok (.getfield 29, 3) := by decide +kernel
theorem dX4_readClause_32 : decode cX4_readClause 32 = .ok (.putfield 15, 3) := by decide +kernel
theorem dX4_readClause_35 : decode cX4_readClause 35 = .ok (.iconst 0, 1) := by decide +kernel
theorem dX4_readClause_36 : decode cX4_readClause 36 = .ok (.ireturn, 1) := by decide +kernel
theorem dX4_readClause_37 : decode cX4_readClause 37 = .ok (.aload_n 0, 1) := by decide +kernel
theorem dX4_readClause_38 : decode cX4_readClause 38 = .ok (.iload_n 1, 1) := by decide +kernel
theorem dX4_readClause_39 : decode cX4_readClause 39 = .ok (.putfield 29, 3) := by decide +kernel
theorem dX4_readClause_42 : decode cX4_readClause 42 = .ok (.aload_n 2, 1) := by decide +kernel
theorem dX4_readClause_43 : decode cX4_readClause 43 = .ok (.getfield 58, 3) := by decide +kernel
theorem dX4_readClause_46 : decode cX4_readClause 46 = .ok (.istore_n 3, 1) := by decide +kernel
theorem dX4_readClause_47 : decode cX4_readClause 47 = .ok (.aload_n 2, 1) := by decide +kernel
theorem dX4_readClause_48 : decode cX4_readClause 48 = .ok (.getstatic 63, 3) := by decide +kernel
theorem dX4_readClause_51 : decode cX4_readClause 51 = .ok (.if_acmp .ne 24, 3) := by decide +kernel
theorem dX4_readClause_54 : decode cX4_readClause 54 = .ok (.aload_n 0, 1) := by decide +kernel
theorem dX4_readClause_55 : decode cX4_readClause 55 = .ok (.iconst 0, 1) := by decide +kernel
theorem dX4_readClause_56 : decode cX4_readClause 56 = .ok (.iconst 3, 1) := by decide +kernel
theorem dX4_readClause_57 : decode cX4_readClause 57 = .ok (.invokevirtual 67, 3) := by decide +kernel
theorem dX4_readClause_60 : decode cX4_readClause 60 = .ok (.istore 4, 2) := by decide +kernel
theorem dX4_readClause_62 : decode cX4_readClause 62 = .ok (.iload 4, 2) := by decide +kernel
theorem dX4_readClause_64 : decode cX4_readClause 64 = .ok (.iconst (-1), 1) := by decide +kernel
theorem dX4_readClause_65 : decode cX4_readClause 65 = .ok (.if_icmp .ne 5, 3) := by decide +kernel
theorem dX4_readClause_68 : decode cX4_readClause 68 = .ok (.iconst 0, 1) := by decide +kernel
theorem dX4_readClause_69 : decode cX4_readClause 69 = .ok (.ireturn, 1) := by decide +kernel
theorem dX4_readClause_70 : decode cX4_readClause 70 = .ok (.iload_n 3, 1) := by decide +kernel
theorem dX4_readClause_71 : decode cX4_readClause 71 = .ok (.iload 4, 2) := by decide +kernel
theorem dX4_readClause_73 : decode cX4_readClause 73 = .ok (.iadd, 1) := by decide +kernel
theorem dX4_readClause_74 : decode cX4_readClause 74 = .ok (.istore_n 3, 1) := by decide +kernel
theorem dX4_readClause_75 : decode cX4_readClause 75 = .ok (.aload_n 2, 1) := by decide +kernel
theorem dX4_readClause_76 : decode cX4_readClause 76 = .ok (.getstatic 71, 3) := by decide +kernel
theorem dX4_readClause_79 : decode cX4_readClause 79 = .ok (.if_acmp .ne 10, 3) := by decide +kernel
theorem dX4_readClause_82 : decode cX4_readClause 82 = .ok (.aload_n 0, 1) := by decide +kernel
theorem dX4_readClause_83 : decode cX4_readClause 83 = .ok (.invokevirtual 74, 3) := by decide +kernel
theorem dX4_readClause_86 : decode cX4_readClause 86 = .ok (.goto 15, 3) := by decide +kernel
theorem dX4_readClause_89 : decode cX4_readClause 89 = .ok (.aload_n 0, 1) := by decide +kernel
theorem dX4_readClause_90 : decode cX4_readClause 90 = .ok (.aload_n 2, 1) := by decide +kernel
theorem dX4_readClause_91 : decode cX4_readClause 91 = .ok (.getfield 78, 3) := by decide +kernel
theorem dX4_readClause_94 : decode cX4_readClause 94 = .ok (.aload_n 2, 1) := by decide +kernel
theorem dX4_readClause_95 : decode cX4_readClause 95 = .ok (.getfield 81, 3) := by decide +kernel
theorem dX4_readClause_98 : decode cX4_readClause 98 = .ok (.invokevirtual 67, 3) := by decide +kernel
theorem dX4_readClause_101 : decode cX4_readClause 101 = .ok (.istore 4, 2) := by decide +kernel
theorem dX4_readClause_103 : decode cX4_readClause 103 = .ok (.iload 4, 2) := by decide +kernel
theorem dX4_readClause_105 : decode cX4_readClause 105 = .ok (.iconst (-1), 1) := by decide +kernel
theorem dX4_readClause_106 : decode cX4_readClause 106 = .ok (.if_icmp .eq 13, 3) := by decide +kernel
theorem dX4_readClause_109 : decode cX4_readClause 109 = .ok (.iload_n 3, 1) := by decide +kernel
theorem dX4_readClause_110 : decode cX4_readClause 110 = .ok (.ifCond .lt 9, 3) := by decide +kernel
theorem dX4_readClause_113 : decode cX4_readClause 113 = .ok (.iload_n 3, 1) := by decide +kernel
theorem dX4_readClause_114 : decode cX4_readClause 114 = .ok (.bipush 11, 2) := by decide +kernel
theorem dX4_readClause_116 : decode cX4_readClause 116 = .ok (.if_icmp .lt 5, 3) := by decide +kernel
theorem dX4_readClause_119 : decode cX4_readClause 119 = .ok (.iconst 0, 1) := by decide +kernel
theorem dX4_readClause_120 : decode cX4_readClause 120 = .ok (.ireturn, 1) := by decide +kernel
theorem dX4_readClause_121 : decode cX4_readClause 121 = .ok (.aload_n 0, 1) := by decide +kernel
theorem dX4_readClause_122 : decode cX4_readClause 122 = .ok (.getfield 9, 3) := by decide +kernel
theorem dX4_readClause_125 : decode cX4_readClause 125 = .ok (.iload_n 3, 1) := by decide +kernel
theorem dX4_readClause_126 : decode cX4_readClause 126 = .ok (.iload 4, 2) := by decide +kernel
theorem dX4_readClause_128 : decode cX4_readClause 128 = .ok (.iastore, 1) := by decide +kernel
theorem dX4_readClause_129 : decode cX4_readClause 129 = .ok (.iconst 1, 1) := by decide +kernel
theorem dX4_readClause_130 : decode cX4_readClause 130 = .ok (.ireturn, 1) := by decide +kernel
theorem dX4_clauseOf_0 : decode cX4_clauseOf 0 = .ok (.getstatic 84, 3) := by decide +kernel
theorem dX4_clauseOf_3 : decode cX4_clauseOf 3 = .ok (.astore_n 3, 1) := by decide +kernel
theorem dX4_clauseOf_4 : decode cX4_clauseOf 4 = .ok (.aload_n 3, 1) := by decide +kernel
theorem dX4_clauseOf_5 : decode cX4_clauseOf 5 = .ok (.arraylength, 1) := by decide +kernel
theorem dX4_clauseOf_6 : decode cX4_clauseOf 6 = .ok (.istore 4, 2) := by decide +kernel
theorem dX4_clauseOf_8 : decode cX4_clauseOf 8 = .ok (.iconst 0, 1) := by decide +kernel
theorem dX4_clauseOf_9 : decode cX4_clauseOf 9 = .ok (.istore 5, 2) := by decide +kernel
theorem dX4_clauseOf_11 : decode cX4_clauseOf 11 = .ok (.iload 5, 2) := by decide +kernel
theorem dX4_clauseOf_13 : decode cX4_clauseOf 13 = .ok (.iload 4, 2) := by decide +kernel
theorem dX4_clauseOf_15 : decode cX4_clauseOf 15 = .ok (.if_icmp .ge 32, 3) := by decide +kernel
theorem dX4_clauseOf_18 : decode cX4_clauseOf 18 = .ok (.aload_n 3, 1) := by decide +kernel
theorem dX4_clauseOf_19 : decode cX4_clauseOf 19 = .ok (.iload 5, 2) := by decide +kernel
theorem dX4_clauseOf_21 : decode cX4_clauseOf 21 = .ok (.aaload, 1) := by decide +kernel
theorem dX4_clauseOf_22 : decode cX4_clauseOf 22 = .ok (.astore 6, 2) := by decide +kernel
theorem dX4_clauseOf_24 : decode cX4_clauseOf 24 = .ok (.aload_n 0, 1) := by decide +kernel
theorem dX4_clauseOf_25 : decode cX4_clauseOf 25 = .ok (.aload 6, 2) := by decide +kernel
theorem dX4_clauseOf_27 : decode cX4_clauseOf 27 = .ok (.getfield 88, 3) := by decide +kernel
theorem dX4_clauseOf_30 : decode cX4_clauseOf 30 = .ok (.iload_n 1, 1) := by decide +kernel
theorem dX4_clauseOf_31 : decode cX4_clauseOf 31 = .ok (.iload_n 2, 1) := by decide +kernel
theorem dX4_clauseOf_32 : decode cX4_clauseOf 32 = .ok (.invokevirtual 92, 3) := by decide +kernel
theorem dX4_clauseOf_35 : decode cX4_clauseOf 35 = .ok (.ifCond .eq 6, 3) := by decide +kernel
theorem dX4_clauseOf_38 : decode cX4_clauseOf 38 = .ok (.aload 6, 2) := by decide +kernel
theorem dX4_clauseOf_40 : decode cX4_clauseOf 40 = .ok (.areturn, 1) := by decide +kernel
theorem dX4_clauseOf_41 : decode cX4_clauseOf 41 = .ok (.iinc 5 1, 3) := by decide +kernel
theorem dX4_clauseOf_44 : decode cX4_clauseOf 44 = .ok (.goto (-33), 3) := by decide +kernel
theorem dX4_clauseOf_47 : decode cX4_clauseOf 47 = .ok (.aconst_null, 1) := by decide +kernel
theorem dX4_clauseOf_48 : decode cX4_clauseOf 48 = .ok (.areturn, 1) := by decide +kernel
theorem dX4_readOrder_0 : decode cX4_readOrder 0 = .ok (.aload_n 0, 1) := by decide +kernel
theorem dX4_readOrder_1 : decode cX4_readOrder 1 = .ok (.invokevirtual 36, 3) := by decide +kernel
theorem dX4_readOrder_4 : decode cX4_readOrder 4 = .ok (.aload_n 0, 1) := by decide +kernel
theorem dX4_readOrder_5 : decode cX4_readOrder 5 = .ok (.getfield 29, 3) := by decide +kernel
theorem dX4_readOrder_8 : decode cX4_readOrder 8 = .ok (.istore_n 1, 1) := by decide +kernel
theorem dX4_readOrder_9 : decode cX4_readOrder 9 = .ok (.aload_n 0, 1) := by decide +kernel
theorem dX4_readOrder_10 : decode cX4_readOrder 10 = .ok (.aload_n 0, 1) := by decide +kernel
theorem dX4_readOrder_11 : decode cX4_readOrder 11 = .ok (.iload_n 1, 1) := by decide +kernel
theorem dX4_readOrder_12 : decode cX4_readOrder 12 = .ok (.invokevirtual 51, 3) := by decide +kernel
theorem dX4_readOrder_15 : decode cX4_readOrder 15 = .ok (.putfield 29, 3) := by decide +kernel
theorem dX4_readOrder_18 : decode cX4_readOrder 18 = .ok (.aload_n 0, 1) := by decide +kernel
theorem dX4_readOrder_19 : decode cX4_readOrder 19 = .ok (.ldc 96, 2) := by decide +kernel
theorem dX4_readOrder_21 : decode cX4_readOrder 21 = .ok (.iload_n 1, 1) := by decide +kernel
theorem dX4_readOrder_22 : decode cX4_readOrder 22 = .ok (.aload_n 0, 1) := by decide +kernel
theorem dX4_readOrder_23 : decode cX4_readOrder 23 = .ok (.getfield 29, 3) := by decide +kernel
theorem dX4_readOrder_26 : decode cX4_readOrder 26 = .ok (.invokevirtual 92, 3) := by decide +kernel
theorem dX4_readOrder_29 : decode cX4_readOrder 29 = .ok (.ifCond .eq 5, 3) := by decide +kernel
theorem dX4_readOrder_32 : decode cX4_readOrder 32 = .ok (.iconst 0, 1) := by decide +kernel
theorem dX4_readOrder_33 : decode cX4_readOrder 33 = .ok (.ireturn, 1) := by decide +kernel
theorem dX4_readOrder_34 : decode cX4_readOrder 34 = .ok (.aload_n 0, 1) := by decide +kernel
theorem dX4_readOrder_35 : decode cX4_readOrder 35 = .ok (.ldc 98, 2) := by decide +kernel
theorem dX4_readOrder_37 : decode cX4_readOrder 37 = .ok (.iload_n 1, 1) := by decide +kernel
theorem dX4_readOrder_38 : decode cX4_readOrder 38 = .ok (.aload_n 0, 1) := by decide +kernel
theorem dX4_readOrder_39 : decode cX4_readOrder 39 = .ok (.getfield 29, 3) := by decide +kernel
theorem dX4_readOrder_42 : decode cX4_readOrder 42 = .ok (.invokevirtual 92, 3) := by decide +kernel
theorem dX4_readOrder_45 : decode cX4_readOrder 45 = .ok (.ifCond .eq 5, 3) := by decide +kernel
theorem dX4_readOrder_48 : decode cX4_readOrder 48 = .ok (.iconst 1, 1) := by decide +kernel
theorem dX4_readOrder_49 : decode cX4_readOrder 49 = .ok (.ireturn, 1) := by decide +kernel
theorem dX4_readOrder_50 : decode cX4_readOrder 50 = .ok (.aload_n 0, 1) := by decide +kernel
theorem dX4_readOrder_51 : decode cX4_readOrder 51 = .ok (.ldc 100, 2) := by decide +kernel
theorem dX4_readOrder_53 : decode cX4_readOrder 53 = .ok (.iload_n 1, 1) := by decide +kernel
theorem dX4_readOrder_54 : decode cX4_readOrder 54 = .ok (.aload_n 0, 1) := by decide +kernel
theorem dX4_readOrder_55 : decode cX4_readOrder 55 = .ok (.getfield 29, 3) := by decide +kernel
theorem dX4_readOrder_58 : decode cX4_readOrder 58 = .ok (.invokevirtual 92, 3) := by decide +kernel
theorem dX4_readOrder_61 : decode cX4_readOrder 61 = .ok (.ifCond .eq 5, 3) := by decide +kernel
theorem dX4_readOrder_64 : decode cX4_readOrder 64 = .ok (.iconst 2, 1) := by decide +kernel
theorem dX4_readOrder_65 : decode cX4_readOrder 65 = .ok (.ireturn, 1) := by decide +kernel
theorem dX4_readOrder_66 : decode cX4_readOrder 66 = .ok (.aload_n 0, 1) := by decide +kernel
theorem dX4_readOrder_67 : decode cX4_readOrder 67 = .ok (.iload_n 1, 1) := by decide +kernel
theorem dX4_readOrder_68 : decode cX4_readOrder 68 = .ok (.invokevirtual 48, 3) := by decide +kernel
theorem dX4_readOrder_71 : decode cX4_readOrder 71 = .ok (.ireturn, 1) := by decide +kernel
theorem dX4_readNumber_0 : decode cX4_readNumber 0 = .ok (.aload_n 0, 1) := by decide +kernel
theorem dX4_readNumber_1 : decode cX4_readNumber 1 = .ok (.invokevirtual 36, 3) := by decide +kernel
theorem dX4_readNumber_4 : decode cX4_readNumber 4 = .ok (.aload_n 0, 1) := by decide +kernel
theorem dX4_readNumber_5 : decode cX4_readNumber 5 = .ok (.getfield 29, 3) := by decide +kernel
theorem dX4_readNumber_8 : decode cX4_readNumber 8 = .ok (.istore_n 3, 1) := by decide +kernel
theorem dX4_readNumber_9 : decode cX4_readNumber 9 = .ok (.iconst 0, 1) := by decide +kernel
theorem dX4_readNumber_10 : decode cX4_readNumber 10 = .ok (.istore 4, 2) := by decide +kernel
theorem dX4_readNumber_12 : decode cX4_readNumber 12 = .ok (.aload_n 0, 1) := by decide +kernel
theorem dX4_readNumber_13 : decode cX4_readNumber 13 = .ok (.getfield 29, 3) := by decide +kernel
theorem dX4_readNumber_16 : decode cX4_readNumber 16 = .ok (.iload_n 3, 1) := by decide +kernel
theorem dX4_readNumber_17 : decode cX4_readNumber 17 = .ok (.isub, 1) := by decide +kernel
theorem dX4_readNumber_18 : decode cX4_readNumber 18 = .ok (.iconst 4, 1) := by decide +kernel
theorem dX4_readNumber_19 : decode cX4_readNumber 19 = .ok (.if_icmp .gt 55, 3) := by decide +kernel
theorem dX4_readNumber_22 : decode cX4_readNumber 22 = .ok (.aload_n 0, 1) := by decide +kernel
theorem dX4_readNumber_23 : decode cX4_readNumber 23 = .ok (.getfield 19, 3) := by decide +kernel
theorem dX4_readNumber_26 : decode cX4_readNumber 26 = .ok (.aload_n 0, 1) := by decide +kernel
theorem dX4_readNumber_27 : decode cX4_readNumber 27 = .ok (.getfield 29, 3) := by decide +kernel
theorem dX4_readNumber_30 : decode cX4_readNumber 30 = .ok (.invokevirtual 44, 3) := by decide +kernel
theorem dX4_readNumber_33 : decode cX4_readNumber 33 = .ok (.invokestatic 102, 3) := by decide +kernel
theorem dX4_readNumber_36 : decode cX4_readNumber 36 = .ok (.ifCond .eq 38, 3) := by decide +kernel
theorem dX4_readNumber_39 : decode cX4_readNumber 39 = .ok (.iload 4, 2) := by decide +kernel
theorem dX4_readNumber_41 : decode cX4_readNumber 41 = .ok (.bipush 10, 2) := by decide +kernel
theorem dX4_readNumber_43 : decode cX4_readNumber 43 = .ok (.imul, 1) := by decide +kernel
theorem dX4_readNumber_44 : decode cX4_readNumber 44 = .ok (.aload_n 0, 1) := by decide +kernel
theorem dX4_readNumber_45 : decode cX4_readNumber 45 = .ok (.getfield 19, 3) := by decide +kernel
theorem dX4_readNumber_48 : decode cX4_readNumber 48 = .ok (.aload_n 0, 1) := by decide +kernel
theorem dX4_readNumber_49 : decode cX4_readNumber 49 = .ok (.getfield 29, 3) := by decide +kernel
theorem dX4_readNumber_52 : decode cX4_readNumber 52 = .ok (.invokevirtual 44, 3) := by decide +kernel
theorem dX4_readNumber_55 : decode cX4_readNumber 55 = .ok (.iadd, 1) := by decide +kernel
theorem dX4_readNumber_56 : decode cX4_readNumber 56 = .ok (.bipush 48, 2) := by decide +kernel
theorem dX4_readNumber_58 : decode cX4_readNumber 58 = .ok (.isub, 1) := by decide +kernel
theorem dX4_readNumber_59 : decode cX4_readNumber 59 = .ok (.istore 4, 2) := by decide +kernel
theorem dX4_readNumber_61 : decode cX4_readNumber 61 = .ok (.aload_n 0, 1) := by decide +kernel
theorem dX4_readNumber_62 : decode cX4_readNumber 62 = .ok (.dup, 1) := by decide +kernel
theorem dX4_readNumber_63 : decode cX4_readNumber 63 = .ok (.getfield 29, 3) := by decide +kernel
theorem dX4_readNumber_66 : decode cX4_readNumber 66 = .ok (.iconst 1, 1) := by decide +kernel
theorem dX4_readNumber_67 : decode cX4_readNumber 67 = .ok (.iadd, 1) := by decide +kernel
theorem dX4_readNumber_68 : decode cX4_readNumber 68 = .ok (.putfield 29, 3) := by decide +kernel
theorem dX4_readNumber_71 : decode cX4_readNumber 71 = .ok (.goto (-59), 3) := by decide +kernel
theorem dX4_readNumber_74 : decode cX4_readNumber 74 = .ok (.aload_n 0, 1) := by decide +kernel
theorem dX4_readNumber_75 : decode cX4_readNumber 75 = .ok (.getfield 29, 3) := by decide +kernel
theorem dX4_readNumber_78 : decode cX4_readNumber 78 = .ok (.iload_n 3, 1) := by decide +kernel
theorem dX4_readNumber_79 : decode cX4_readNumber 79 = .ok (.isub, 1) := by decide +kernel
theorem dX4_readNumber_80 : decode cX4_readNumber 80 = .ok (.istore 5, 2) := by decide +kernel
theorem dX4_readNumber_82 : decode cX4_readNumber 82 = .ok (.iload 5, 2) := by decide +kernel
theorem dX4_readNumber_84 : decode cX4_readNumber 84 = .ok (.iconst 1, 1) := by decide +kernel
theorem dX4_readNumber_85 : decode cX4_readNumber 85 = .ok (.if_icmp .lt 21, 3) := by decide +kernel
theorem dX4_readNumber_88 : decode cX4_readNumber 88 = .ok (.iload 5, 2) := by decide +kernel
theorem dX4_readNumber_90 : decode cX4_readNumber 90 = .ok (.iconst 4, 1) := by decide +kernel
theorem dX4_readNumber_91 : decode cX4_readNumber 91 = .ok (.if_icmp .gt 15, 3) := by decide +kernel
theorem dX4_readNumber_94 : decode cX4_readNumber 94 = .ok (.iload 4, 2) := by decide +kernel
theorem dX4_readNumber_96 : decode cX4_readNumber 96 = .ok (.iload_n 1, 1) := by decide +kernel
theorem dX4_readNumber_97 : decode cX4_readNumber 97 = .ok (.if_icmp .lt 9, 3) := by decide +kernel
theorem dX4_readNumber_100 : decode cX4_readNumber 100 = .ok (.iload 4, 2) := by decide +kernel
theorem dX4_readNumber_102 : decode cX4_readNumber 102 = .ok (.iload_n 2, 1) := by decide +kernel
theorem dX4_readNumber_103 : decode cX4_readNumber 103 = .ok (.if_icmp .le 9, 3) := by decide +kernel
theorem dX4_readNumber_106 : decode cX4_readNumber 106 = .ok (.aload_n 0, 1) := by decide +kernel
theorem dX4_readNumber_107 : decode cX4_readNumber 107 = .ok (.iload_n 3, 1) := by decide +kernel
theorem dX4_readNumber_108 : decode cX4_readNumber 108 = .ok (.invokevirtual 48, 3) := by decide +kernel
theorem dX4_readNumber_111 : decode cX4_readNumber 111 = .ok (.ireturn, 1) := by decide +kernel
theorem dX4_readNumber_112 : decode cX4_readNumber 112 = .ok (.iload 4, 2) := by decide +kernel
theorem dX4_readNumber_114 : decode cX4_readNumber 114 = .ok (.ireturn, 1) := by decide +kernel
theorem dX4_wrongHere_0 : decode cX4_wrongHere 0 = .ok (.aload_n 0, 1) := by decide +kernel
theorem dX4_wrongHere_1 : decode cX4_wrongHere 1 = .ok (.iload_n 1, 1) := by decide +kernel
theorem dX4_wrongHere_2 : decode cX4_wrongHere 2 = .ok (.putfield 15, 3) := by decide +kernel
theorem dX4_wrongHere_5 : decode cX4_wrongHere 5 = .ok (.iconst (-1), 1) := by decide +kernel
theorem dX4_wrongHere_6 : decode cX4_wrongHere 6 = .ok (.ireturn, 1) := by decide +kernel
theorem dX4_skipBlanks_0 : decode cX4_skipBlanks 0 = .ok (.aload_n 0, 1) := by decide +kernel
theorem dX4_skipBlanks_1 : decode cX4_skipBlanks 1 = .ok (.getfield 29, 3) := by decide +kernel
theorem dX4_skipBlanks_4 : decode cX4_skipBlanks 4 = .ok (.aload_n 0, 1) := by decide +kernel
theorem dX4_skipBlanks_5 : decode cX4_skipBlanks 5 = .ok (.getfield 19, 3) := by decide +kernel
theorem dX4_skipBlanks_8 : decode cX4_skipBlanks 8 = .ok (.getfield 39, 3) := by decide +kernel
theorem dX4_skipBlanks_11 : decode cX4_skipBlanks 11 = .ok (.if_icmp .ge 32, 3) := by decide +kernel
theorem dX4_skipBlanks_14 : decode cX4_skipBlanks 14 = .ok (.aload_n 0, 1) := by decide +kernel
theorem dX4_skipBlanks_15 : decode cX4_skipBlanks 15 = .ok (.getfield 19, 3) := by decide +kernel
theorem dX4_skipBlanks_18 : decode cX4_skipBlanks 18 = .ok (.aload_n 0, 1) := by decide +kernel
theorem dX4_skipBlanks_19 : decode cX4_skipBlanks 19 = .ok (.getfield 29, 3) := by decide +kernel
theorem dX4_skipBlanks_22 : decode cX4_skipBlanks 22 = .ok (.invokevirtual 44, 3) := by decide +kernel
theorem dX4_skipBlanks_25 : decode cX4_skipBlanks 25 = .ok (.bipush 32, 2) := by decide +kernel
theorem dX4_skipBlanks_27 : decode cX4_skipBlanks 27 = .ok (.if_icmp .ne 16, 3) := by decide +kernel
theorem dX4_skipBlanks_30 : decode cX4_skipBlanks 30 = .ok (.aload_n 0, 1) := by decide +kernel
theorem dX4_skipBlanks_31 : decode cX4_skipBlanks 31 = .ok (.dup, 1) := by decide +kernel
theorem dX4_skipBlanks_32 : decode cX4_skipBlanks 32 = .ok (.getfield 29, 3) := by decide +kernel
theorem dX4_skipBlanks_35 : decode cX4_skipBlanks 35 = .ok (.iconst 1, 1) := by decide +kernel
theorem dX4_skipBlanks_36 : decode cX4_skipBlanks 36 = .ok (.iadd, 1) := by decide +kernel
theorem dX4_skipBlanks_37 : decode cX4_skipBlanks 37 = .ok (.putfield 29, 3) := by decide +kernel
theorem dX4_skipBlanks_40 : decode cX4_skipBlanks 40 = .ok (.goto (-40), 3) := by decide +kernel
theorem dX4_skipBlanks_43 : decode cX4_skipBlanks 43 = .ok (.return_, 1) := by decide +kernel
theorem dX4_wordEnd_0 : decode cX4_wordEnd 0 = .ok (.iload_n 1, 1) := by decide +kernel
theorem dX4_wordEnd_1 : decode cX4_wordEnd 1 = .ok (.istore_n 2, 1) := by decide +kernel
theorem dX4_wordEnd_2 : decode cX4_wordEnd 2 = .ok (.iload_n 2, 1) := by decide +kernel
theorem dX4_wordEnd_3 : decode cX4_wordEnd 3 = .ok (.aload_n 0, 1) := by decide +kernel
theorem dX4_wordEnd_4 : decode cX4_wordEnd 4 = .ok (.getfield 19, 3) := by decide +kernel
theorem dX4_wordEnd_7 : decode cX4_wordEnd 7 = .ok (.getfield 39, 3) := by decide +kernel
theorem dX4_wordEnd_10 : decode cX4_wordEnd 10 = .ok (.if_icmp .ge 23, 3) := by decide +kernel
theorem dX4_wordEnd_13 : decode cX4_wordEnd 13 = .ok (.aload_n 0, 1) := by decide +kernel
theorem dX4_wordEnd_14 : decode cX4_wordEnd 14 = .ok (.getfield 19, 3) := by decide +kernel
theorem dX4_wordEnd_17 : decode cX4_wordEnd 17 = .ok (.iload_n 2, 1) := by decide +kernel
theorem dX4_wordEnd_18 : decode cX4_wordEnd 18 = .ok (.invokevirtual 44, 3) := by decide +kernel
theorem dX4_wordEnd_21 : decode cX4_wordEnd 21 = .ok (.invokestatic 106, 3) := by decide +kernel
theorem dX4_wordEnd_24 : decode cX4_wordEnd 24 = .ok (.ifCond .eq 9, 3) := by decide +kernel
theorem dX4_wordEnd_27 : decode cX4_wordEnd 27 = .ok (.iinc 2 1, 3) := by decide +kernel
theorem dX4_wordEnd_30 : decode cX4_wordEnd 30 = .ok (.goto (-28), 3) := by decide +kernel
theorem dX4_wordEnd_33 : decode cX4_wordEnd 33 = .ok (.iload_n 2, 1) := by decide +kernel
theorem dX4_wordEnd_34 : decode cX4_wordEnd 34 = .ok (.ireturn, 1) := by decide +kernel
theorem dX4_isWord_0 : decode cX4_isWord 0 = .ok (.aload_n 1, 1) := by decide +kernel
theorem dX4_isWord_1 : decode cX4_isWord 1 = .ok (.invokevirtual 109, 3) := by decide +kernel
theorem dX4_isWord_4 : decode cX4_isWord 4 = .ok (.iload_n 3, 1) := by decide +kernel
theorem dX4_isWord_5 : decode cX4_isWord 5 = .ok (.iload_n 2, 1) := by decide +kernel
theorem dX4_isWord_6 : decode cX4_isWord 6 = .ok (.isub, 1) := by decide +kernel
theorem dX4_isWord_7 : decode cX4_isWord 7 = .ok (.if_icmp .eq 5, 3) := by decide +kernel
theorem dX4_isWord_10 : decode cX4_isWord 10 = .ok (.iconst 0, 1) := by decide +kernel
theorem dX4_isWord_11 : decode cX4_isWord 11 = .ok (.ireturn, 1) := by decide +kernel
theorem dX4_isWord_12 : decode cX4_isWord 12 = .ok (.iconst 0, 1) := by decide +kernel
theorem dX4_isWord_13 : decode cX4_isWord 13 = .ok (.istore 4, 2) := by decide +kernel
theorem dX4_isWord_15 : decode cX4_isWord 15 = .ok (.iload 4, 2) := by decide +kernel
theorem dX4_isWord_17 : decode cX4_isWord 17 = .ok (.aload_n 1, 1) := by decide +kernel
theorem dX4_isWord_18 : decode cX4_isWord 18 = .ok (.invokevirtual 109, 3) := by decide +kernel
theorem dX4_isWord_21 : decode cX4_isWord 21 = .ok (.if_icmp .ge 31, 3) := by decide +kernel
theorem dX4_isWord_24 : decode cX4_isWord 24 = .ok (.aload_n 0, 1) := by decide +kernel
theorem dX4_isWord_25 : decode cX4_isWord 25 = .ok (.getfield 19, 3) := by decide +kernel
theorem dX4_isWord_28 : decode cX4_isWord 28 = .ok (.iload_n 2, 1) := by decide +kernel
theorem dX4_isWord_29 : decode cX4_isWord 29 = .ok (.iload 4, 2) := by decide +kernel
theorem dX4_isWord_31 : decode cX4_isWord 31 = .ok (.iadd, 1) := by decide +kernel
theorem dX4_isWord_32 : decode cX4_isWord 32 = .ok (.invokevirtual 44, 3) := by decide +kernel
theorem dX4_isWord_35 : decode cX4_isWord 35 = .ok (.aload_n 1, 1) := by decide +kernel
theorem dX4_isWord_36 : decode cX4_isWord 36 = .ok (.iload 4, 2) := by decide +kernel
theorem dX4_isWord_38 : decode cX4_isWord 38 = .ok (.invokevirtual 113, 3) := by decide +kernel
theorem dX4_isWord_41 : decode cX4_isWord 41 = .ok (.if_icmp .eq 5, 3) := by decide +kernel
theorem dX4_isWord_44 : decode cX4_isWord 44 = .ok (.iconst 0, 1) := by decide +kernel
theorem dX4_isWord_45 : decode cX4_isWord 45 = .ok (.ireturn, 1) := by decide +kernel
theorem dX4_isWord_46 : decode cX4_isWord 46 = .ok (.iinc 4 1, 3) := by decide +kernel
theorem dX4_isWord_49 : decode cX4_isWord 49 = .ok (.goto (-34), 3) := by decide +kernel
theorem dX4_isWord_52 : decode cX4_isWord 52 = .ok (.iconst 1, 1) := by decide +kernel
theorem dX4_isWord_53 : decode cX4_isWord 53 = .ok (.ireturn, 1) := by decide +kernel
theorem dX4_isLetter_0 : decode cX4_isLetter 0 = .ok (.iload_n 0, 1) := by decide +kernel
theorem dX4_isLetter_1 : decode cX4_isLetter 1 = .ok (.bipush 97, 2) := by decide +kernel
theorem dX4_isLetter_3 : decode cX4_isLetter 3 = .ok (.if_icmp .lt 13, 3) := by decide +kernel
theorem dX4_isLetter_6 : decode cX4_isLetter 6 = .ok (.iload_n 0, 1) := by decide +kernel
theorem dX4_isLetter_7 : decode cX4_isLetter 7 = .ok (.bipush 122, 2) := by decide +kernel
theorem dX4_isLetter_9 : decode cX4_isLetter 9 = .ok (.if_icmp .gt 7, 3) := by decide +kernel
theorem dX4_isLetter_12 : decode cX4_isLetter 12 = .ok (.iconst 1, 1) := by decide +kernel
theorem dX4_isLetter_13 : decode cX4_isLetter 13 = .ok (.goto 4, 3) := by decide +kernel
theorem dX4_isLetter_16 : decode cX4_isLetter 16 = .ok (.iconst 0, 1) := by decide +kernel
theorem dX4_isLetter_17 : decode cX4_isLetter 17 = .ok (.ireturn, 1) := by decide +kernel
theorem dX4_isDigit_0 : decode cX4_isDigit 0 = .ok (.iload_n 0, 1) := by decide +kernel
theorem dX4_isDigit_1 : decode cX4_isDigit 1 = .ok (.bipush 48, 2) := by decide +kernel
theorem dX4_isDigit_3 : decode cX4_isDigit 3 = .ok (.if_icmp .lt 13, 3) := by decide +kernel
theorem dX4_isDigit_6 : decode cX4_isDigit 6 = .ok (.iload_n 0, 1) := by decide +kernel
theorem dX4_isDigit_7 : decode cX4_isDigit 7 = .ok (.bipush 57, 2) := by decide +kernel
theorem dX4_isDigit_9 : decode cX4_isDigit 9 = .ok (.if_icmp .gt 7, 3) := by decide +kernel
theorem dX4_isDigit_12 : decode cX4_isDigit 12 = .ok (.iconst 1, 1) := by decide +kernel
theorem dX4_isDigit_13 : decode cX4_isDigit 13 = .ok (.goto 4, 3) := by decide +kernel
theorem dX4_isDigit_16 : decode cX4_isDigit 16 = .ok (.iconst 0, 1) := by decide +kernel
theorem dX4_isDigit_17 : decode cX4_isDigit 17 = .ok (.ireturn, 1) := by decide +kernel
theorem dX5_init_0 : decode cX5_init 0 = .ok (.aload_n 0, 1) := by decide +kernel
theorem dX5_init_1 : decode cX5_init 1 = .ok (.invokespecial 3, 3) := by decide +kernel
theorem dX5_init_4 : decode cX5_init 4 = .ok (.aload_n 0, 1) := by decide +kernel
theorem dX5_init_5 : decode cX5_init 5 = .ok (.bipush 8, 2) := by decide +kernel
theorem dX5_init_7 : decode cX5_init 7 = .ok (.newarray .int, 2) := by decide +kernel
theorem dX5_init_9 : decode cX5_init 9 = .ok (.putfield 9, 3) := by decide +kernel
theorem dX5_init_12 : decode cX5_init 12 = .ok (.aload_n 0, 1) := by decide +kernel
theorem dX5_init_13 : decode cX5_init 13 = .ok (.aload_n 1, 1) := by decide +kernel
theorem dX5_init_14 : decode cX5_init 14 = .ok (.putfield 15, 3) := by decide +kernel
theorem dX5_init_17 : decode cX5_init 17 = .ok (.aload_n 0, 1) := by decide +kernel
theorem dX5_init_18 : decode cX5_init 18 = .ok (.aload_n 2, 1) := by decide +kernel
theorem dX5_init_19 : decode cX5_init 19 = .ok (.putfield 18, 3) := by decide +kernel
theorem dX5_init_22 : decode cX5_init 22 = .ok (.aload_n 0, 1) := by decide +kernel
theorem dX5_init_23 : decode cX5_init 23 = .ok (.aload_n 3, 1) := by decide +kernel
theorem dX5_init_24 : decode cX5_init 24 = .ok (.putfield 22, 3) := by decide +kernel
theorem dX5_init_27 : decode cX5_init 27 = .ok (.aload_n 0, 1) := by decide +kernel
theorem dX5_init_28 : decode cX5_init 28 = .ok (.aload 4, 2) := by decide +kernel
theorem dX5_init_30 : decode cX5_init 30 = .ok (.putfield 26, 3) := by decide +kernel
theorem dX5_init_33 : decode cX5_init 33 = .ok (.return_, 1) := by decide +kernel
theorem dX5_hold_0 : decode cX5_hold 0 = .ok (.aload_n 0, 1) := by decide +kernel
theorem dX5_hold_1 : decode cX5_hold 1 = .ok (.getfield 18, 3) := by decide +kernel
theorem dX5_hold_4 : decode cX5_hold 4 = .ok (.invokevirtual 30, 3) := by decide +kernel
theorem dX5_hold_7 : decode cX5_hold 7 = .ok (.aload_n 0, 1) := by decide +kernel
theorem dX5_hold_8 : decode cX5_hold 8 = .ok (.getfield 18, 3) := by decide +kernel
theorem dX5_hold_11 : decode cX5_hold 11 = .ok (.invokevirtual 35, 3) := by decide +kernel
theorem dX5_hold_14 : decode cX5_hold 14 = .ok (.aload_n 0, 1) := by decide +kernel
theorem dX5_hold_15 : decode cX5_hold 15 = .ok (.getfield 22, 3) := by decide +kernel
theorem dX5_hold_18 : decode cX5_hold 18 = .ok (.aload_n 0, 1) := by decide +kernel
theorem dX5_hold_19 : decode cX5_hold 19 = .ok (.getfield 15, 3) := by decide +kernel
theorem dX5_hold_22 : decode cX5_hold 22 = .ok (.bipush 6, 2) := by decide +kernel
theorem dX5_hold_24 : decode cX5_hold 24 = .ok (.iaload, 1) := by decide +kernel
theorem dX5_hold_25 : decode cX5_hold 25 = .ok (.invokevirtual 38, 3) := by decide +kernel
theorem dX5_hold_28 : decode cX5_hold 28 = .ok (.aload_n 0, 1) := by decide +kernel
theorem dX5_hold_29 : decode cX5_hold 29 = .ok (.iconst 0, 1) := by decide +kernel
theorem dX5_hold_30 : decode cX5_hold 30 = .ok (.putfield 43, 3) := by decide +kernel
theorem dX5_hold_33 : decode cX5_hold 33 = .ok (.iconst 0, 1) := by decide +kernel
theorem dX5_hold_34 : decode cX5_hold 34 = .ok (.istore_n 3, 1) := by decide +kernel
theorem dX5_hold_35 : decode cX5_hold 35 = .ok (.iconst 0, 1) := by decide +kernel
theorem dX5_hold_36 : decode cX5_hold 36 = .ok (.istore 4, 2) := by decide +kernel
theorem dX5_hold_38 : decode cX5_hold 38 = .ok (.iload 4, 2) := by decide +kernel
theorem dX5_hold_40 : decode cX5_hold 40 = .ok (.aload_n 0, 1) := by decide +kernel
theorem dX5_hold_41 : decode cX5_hold 41 = .ok (.getfield 22, 3) := by decide +kernel
theorem dX5_hold_44 : decode cX5_hold 44 = .ok (.getfield 47, 3) := by decide +kernel
theorem dX5_hold_47 : decode cX5_hold 47 = .ok (.if_icmp .ge 36, 3) := by decide +kernel
theorem dX5_hold_50 : decode cX5_hold 50 = .ok (.iload_n 3, 1) := by decide +kernel
theorem dX5_hold_51 : decode cX5_hold 51 = .ok (.aload_n 0, 1) := by decide +kernel
theorem dX5_hold_52 : decode cX5_hold 52 = .ok (.aload_n 0, 1) := by decide +kernel
theorem dX5_hold_53 : decode cX5_hold 53 = .ok (.getfield 22, 3) := by decide +kernel
theorem dX5_hold_56 : decode cX5_hold 56 = .ok (.getfield 50, 3) := by decide +kernel
theorem dX5_hold_59 : decode cX5_hold 59 = .ok (.iload 4, 2) := by decide +kernel
theorem dX5_hold_61 : decode cX5_hold 61 = .ok (.iaload, 1) := by decide +kernel
theorem dX5_hold_62 : decode cX5_hold 62 = .ok (.aload_n 0, 1) := by decide +kernel
theorem dX5_hold_63 : decode cX5_hold 63 = .ok (.getfield 15, 3) := by decide +kernel
theorem dX5_hold_66 : decode cX5_hold 66 = .ok (.iconst 1, 1) := by decide +kernel
theorem dX5_hold_67 : decode cX5_hold 67 = .ok (.iaload, 1) := by decide +kernel
theorem dX5_hold_68 : decode cX5_hold 68 = .ok (.iload_n 3, 1) := by decide +kernel
theorem dX5_hold_69 : decode cX5_hold 69 = .ok (.isub, 1) := by decide +kernel
theorem dX5_hold_70 : decode cX5_hold 70 = .ok (.iload_n 1, 1) := by decide +kernel
theorem dX5_hold_71 : decode cX5_hold 71 = .ok (.iload_n 2, 1) := by decide +kernel
theorem dX5_hold_72 : decode cX5_hold 72 = .ok (.invokevirtual 53, 3) := by decide +kernel
theorem dX5_hold_75 : decode cX5_hold 75 = .ok (.iadd, 1) := by decide +kernel
theorem dX5_hold_76 : decode cX5_hold 76 = .ok (.istore_n 3, 1) := by decide +kernel
theorem dX5_hold_77 : decode cX5_hold 77 = .ok (.iinc 4 1, 3) := by decide +kernel
theorem dX5_hold_80 : decode cX5_hold 80 = .ok (.goto (-42), 3) := by decide +kernel
theorem dX5_hold_83 : decode cX5_hold 83 = .ok (.aload_n 0, 1) := by decide +kernel
theorem dX5_hold_84 : decode cX5_hold 84 = .ok (.getfield 22, 3) := by decide +kernel
theorem dX5_hold_87 : decode cX5_hold 87 = .ok (.invokevirtual 57, 3) := by decide +kernel
theorem dX5_hold_90 : decode cX5_hold 90 = .ok (.aload_n 0, 1) := by decide +kernel
theorem dX5_hold_91 : decode cX5_hold 91 = .ok (.dup, 1) := by decide +kernel
theorem dX5_hold_92 : decode cX5_hold 92 = .ok (.getfield 60, 3) := by decide +kernel
theorem dX5_hold_95 : decode cX5_hold 95 = .ok (.iload_n 3, 1) := by decide +kernel
theorem dX5_hold_96 : decode cX5_hold 96 = .ok (.iadd, 1) := by decide +kernel
theorem dX5_hold_97 : decode cX5_hold 97 = .ok (.putfield 60, 3) := by decide +kernel
theorem dX5_hold_100 : decode cX5_hold 100 = .ok (.aload_n 0, 1) := by decide +kernel
theorem dX5_hold_101 : decode cX5_hold 101 = .ok (.dup, 1) := by decide +kernel
theorem dX5_hold_102 : decode cX5_hold 102 = .ok (.getfield 63, 3) := by decide +kernel
theorem dX5_hold_105 : decode cX5_hold 105 = .ok (.iconst 1, 1) := by decide +kernel
theorem dX5_hold_106 : decode cX5_hold 106 = .ok (.iadd, 1) := by decide +kernel
theorem dX5_hold_107 : decode cX5_hold 107 = .ok (.putfield 63, 3) := by decide +kernel
theorem dX5_hold_110 : decode cX5_hold 110 = .ok (.iload_n 3, 1) := by decide +kernel
theorem dX5_hold_111 : decode cX5_hold 111 = .ok (.ireturn, 1) := by decide +kernel
theorem dX5_serveShip_0 : decode cX5_serveShip 0 = .ok (.iconst 0, 1) := by decide +kernel
theorem dX5_serveShip_1 : decode cX5_serveShip 1 = .ok (.istore 5, 2) := by decide +kernel
theorem dX5_serveShip_3 : decode cX5_serveShip 3 = .ok (.iconst 0, 1) := by decide +kernel
theorem dX5_serveShip_4 : decode cX5_serveShip 4 = .ok (.istore 6, 2) := by decide +kernel
theorem dX5_serveShip_6 : decode cX5_serveShip 6 = .ok (.iload 6, 2) := by decide +kernel
theorem dX5_serveShip_8 : decode cX5_serveShip 8 = .ok (.aload_n 0, 1) := by decide +kernel
theorem dX5_serveShip_9 : decode cX5_serveShip 9 = .ok (.getfield 22, 3) := by decide +kernel
theorem dX5_serveShip_12 : decode cX5_serveShip 12 = .ok (.getfield 66, 3) := by decide +kernel
theorem dX5_serveShip_15 : decode cX5_serveShip 15 = .ok (.iload_n 1, 1) := by decide +kernel
theorem dX5_serveShip_16 : decode cX5_serveShip 16 = .ok (.iaload, 1) := by decide +kernel
theorem dX5_serveShip_17 : decode cX5_serveShip 17 = .ok (.if_icmp .ge 88, 3) := by decide +kernel
theorem dX5_serveShip_20 : decode cX5_serveShip 20 = .ok (.iload 5, 2) := by decide +kernel
theorem dX5_serveShip_22 : decode cX5_serveShip 22 = .ok (.iload_n 2, 1) := by decide +kernel
theorem dX5_serveShip_23 : decode cX5_serveShip 23 = .ok (.if_icmp .ge 82, 3) := by decide +kernel
theorem dX5_serveShip_26 : decode cX5_serveShip 26 = .ok (.iload_n 1, 1) := by decide +kernel
theorem dX5_serveShip_27 : decode cX5_serveShip 27 = .ok (.iload 6, 2) := by decide +kernel
theorem dX5_serveShip_29 : decode cX5_serveShip 29 = .ok (.invokestatic 69, 3) := by decide +kernel
theorem dX5_serveShip_32 : decode cX5_serveShip 32 = .ok (.istore 7, 2) := by decide +kernel
theorem dX5_serveShip_34 : decode cX5_serveShip 34 = .ok (.aload_n 0, 1) := by decide +kernel
theorem dX5_serveShip_35 : decode cX5_serveShip 35 = .ok (.getfield 22, 3) := by decide +kernel
theorem dX5_serveShip_38 : decode cX5_serveShip 38 = .ok (.getfield 73, 3) := by decide +kernel
theorem dX5_serveShip_41 : decode cX5_serveShip 41 = .ok (.iload 7, 2) := by decide +kernel
theorem dX5_serveShip_43 : decode cX5_serveShip 43 = .ok (.iaload, 1) := by decide +kernel
theorem dX5_serveShip_44 : decode cX5_serveShip 44 = .ok (.ifCond .ne 6, 3) := by decide +kernel
theorem dX5_serveShip_47 : decode cX5_serveShip 47 = .ok (.goto 52, 3) := by decide +kernel
theorem dX5_serveShip_50 : decode cX5_serveShip 50 = .ok (.aload_n 0, 1) := by decide +kernel
theorem dX5_serveShip_51 : decode cX5_serveShip 51 = .ok (.aload_n 0, 1) := by decide +kernel
theorem dX5_serveShip_52 : decode cX5_serveShip 52 = .ok (.getfield 22, 3) := by decide +kernel
theorem dX5_serveShip_55 : decode cX5_serveShip 55 = .ok (.getfield 76, 3) := by decide +kernel
theorem dX5_serveShip_58 : decode cX5_serveShip 58 = .ok (.iload 7, 2) := by decide +kernel
theorem dX5_serveShip_60 : decode cX5_serveShip 60 = .ok (.iaload, 1) := by decide +kernel
theorem dX5_serveShip_61 : decode cX5_serveShip 61 = .ok (.iload 4, 2) := by decide +kernel
theorem dX5_serveShip_63 : decode cX5_serveShip 63 = .ok (.invokevirtual 79, 3) := by decide +kernel
theorem dX5_serveShip_66 : decode cX5_serveShip 66 = .ok (.ifCond .eq 23, 3) := by decide +kernel
theorem dX5_serveShip_69 : decode cX5_serveShip 69 = .ok (.aload_n 0, 1) := by decide +kernel
theorem dX5_serveShip_70 : decode cX5_serveShip 70 = .ok (.iload 7, 2) := by decide +kernel
theorem dX5_serveShip_72 : decode cX5_serveShip 72 = .ok (.iload_n 3, 1) := by decide +kernel
theorem dX5_serveShip_73 : decode cX5_serveShip 73 = .ok (.invokevirtual 83, 3) := by decide +kernel
theorem dX5_serveShip_76 : decode cX5_serveShip 76 = .ok (.aload_n 0, 1) := by decide +kernel
theorem dX5_serveShip_77 : decode cX5_serveShip 77 = .ok (.iload_n 1, 1) := by decide +kernel
theorem dX5_serveShip_78 : decode cX5_serveShip 78 = .ok (.iload 6, 2) := by decide +kernel
theorem dX5_serveShip_80 : decode cX5_serveShip 80 = .ok (.invokevirtual 87, 3) := by decide +kernel
theorem dX5_serveShip_83 : decode cX5_serveShip 83 = .ok (.iinc 5 1, 3) := by decide +kernel
theorem dX5_serveShip_86 : decode cX5_serveShip 86 = .ok (.goto 13, 3) := by decide +kernel
theorem dX5_serveShip_89 : decode cX5_serveShip 89 = .ok (.aload_n 0, 1) := by decide +kernel
theorem dX5_serveShip_90 : decode cX5_serveShip 90 = .ok (.dup, 1) := by decide +kernel
theorem dX5_serveShip_91 : decode cX5_serveShip 91 = .ok (.getfield 43, 3) := by decide +kernel
theorem dX5_serveShip_94 : decode cX5_serveShip 94 = .ok (.iconst 1, 1) := by decide +kernel
theorem dX5_serveShip_95 : decode cX5_serveShip 95 = .ok (.iadd, 1) := by decide +kernel
theorem dX5_serveShip_96 : decode cX5_serveShip 96 = .ok (.putfield 43, 3) := by decide +kernel
theorem dX5_serveShip_99 : decode cX5_serveShip 99 = .ok (.iinc 6 1, 3) := by decide +kernel
theorem dX5_serveShip_102 : decode cX5_serveShip 102 = .ok (.goto (-96), 3) := by decide +kernel
theorem dX5_serveShip_105 : decode cX5_serveShip 105 = .ok (.iload 5, 2) := by decide +kernel
theorem dX5_serveShip_107 : decode cX5_serveShip 107 = .ok (.ireturn, 1) := by decide +kernel
theorem dX5_musterGang_0 : decode cX5_musterGang 0 = .ok (.aload_n 0, 1) := by decide +kernel
theorem dX5_musterGang_1 : decode cX5_musterGang 1 = .ok (.getfield 15, 3) := by decide +kernel
theorem dX5_musterGang_4 : decode cX5_musterGang 4 = .ok (.iconst 0, 1) := by decide +kernel
theorem dX5_musterGang_5 : decode cX5_musterGang 5 = .ok (.iaload, 1) := by decide +kernel
theorem dX5_musterGang_6 : decode cX5_musterGang 6 = .ok (.bipush 8, 2) := by decide +kernel
theorem dX5_musterGang_8 : decode cX5_musterGang 8 = .ok (.invokestatic 90, 3) := by decide +kernel
theorem dX5_musterGang_11 : decode cX5_musterGang 11 = .ok (.istore_n 3, 1) := by decide +kernel
theorem dX5_musterGang_12 : decode cX5_musterGang 12 = .ok (.iconst 0, 1) := by decide +kernel
theorem dX5_musterGang_13 : decode cX5_musterGang 13 = .ok (.istore 4, 2) := by decide +kernel
theorem dX5_musterGang_15 : decode cX5_musterGang 15 = .ok (.iconst 0, 1) := by decide +kernel
theorem dX5_musterGang_16 : decode cX5_musterGang 16 = .ok (.istore 5, 2) := by decide +kernel
theorem dX5_musterGang_18 : decode cX5_musterGang 18 = .ok (.iload 5, 2) := by decide +kernel
theorem dX5_musterGang_20 : decode cX5_musterGang 20 = .ok (.aload_n 0, 1) := by decide +kernel
theorem dX5_musterGang_21 : decode cX5_musterGang 21 = .ok (.getfield 18, 3) := by decide +kernel
theorem dX5_musterGang_24 : decode cX5_musterGang 24 = .ok (.getfield 95, 3) := by decide +kernel
theorem dX5_musterGang_27 : decode cX5_musterGang 27 = .ok (.if_icmp .ge 92, 3) := by decide +kernel
theorem dX5_musterGang_30 : decode cX5_musterGang 30 = .ok (.iload 4, 2) := by decide +kernel
theorem dX5_musterGang_32 : decode cX5_musterGang 32 = .ok (.iload_n 3, 1) := by decide +kernel
theorem dX5_musterGang_33 : decode cX5_musterGang 33 = .ok (.if_icmp .ge 86, 3) := by decide +kernel
theorem dX5_musterGang_36 : decode cX5_musterGang 36 = .ok (.aload_n 0, 1) := by decide +kernel
theorem dX5_musterGang_37 : decode cX5_musterGang 37 = .ok (.getfield 18, 3) := by decide +kernel
theorem dX5_musterGang_40 : decode cX5_musterGang 40 = .ok (.getfield 98, 3) := by decide +kernel
theorem dX5_musterGang_43 : decode cX5_musterGang 43 = .ok (.iload 5, 2) := by decide +kernel
theorem dX5_musterGang_45 : decode cX5_musterGang 45 = .ok (.iaload, 1) := by decide +kernel
theorem dX5_musterGang_46 : decode cX5_musterGang 46 = .ok (.istore 6, 2) := by decide +kernel
theorem dX5_musterGang_48 : decode cX5_musterGang 48 = .ok (.aload_n 0, 1) := by decide +kernel
theorem dX5_musterGang_49 : decode cX5_musterGang 49 = .ok (.getfield 18, 3) := by decide +kernel
theorem dX5_musterGang_52 : decode cX5_musterGang 52 = .ok (.iload 6, 2) := by decide +kernel
theorem dX5_musterGang_54 : decode cX5_musterGang 54 = .ok (.iload_n 1, 1) := by decide +kernel
theorem dX5_musterGang_55 : decode cX5_musterGang 55 = .ok (.aload_n 0, 1) := by decide +kernel
theorem dX5_musterGang_56 : decode cX5_musterGang 56 = .ok (.getfield 63, 3) := by decide +kernel
theorem dX5_musterGang_59 : decode cX5_musterGang 59 = .ok (.invokevirtual 99, 3) := by decide +kernel
theorem dX5_musterGang_62 : decode cX5_musterGang 62 = .ok (.ifCond .ne 6, 3) := by decide +kernel
theorem dX5_musterGang_65 : decode cX5_musterGang 65 = .ok (.goto 48, 3) := by decide +kernel
theorem dX5_musterGang_68 : decode cX5_musterGang 68 = .ok (.iload_n 2, 1) := by decide +kernel
theorem dX5_musterGang_69 : decode cX5_musterGang 69 = .ok (.iload 6, 2) := by decide +kernel
theorem dX5_musterGang_71 : decode cX5_musterGang 71 = .ok (.ishr, 1) := by decide +kernel
theorem dX5_musterGang_72 : decode cX5_musterGang 72 = .ok (.iconst 1, 1) := by decide +kernel
theorem dX5_musterGang_73 : decode cX5_musterGang 73 = .ok (.iand, 1) := by decide +kernel
theorem dX5_musterGang_74 : decode cX5_musterGang 74 = .ok (.iconst 1, 1) := by decide +kernel
theorem dX5_musterGang_75 : decode cX5_musterGang 75 = .ok (.if_icmp .ne 26, 3) := by decide +kernel
theorem dX5_musterGang_78 : decode cX5_musterGang 78 = .ok (.aload_n 0, 1) := by decide +kernel
theorem dX5_musterGang_79 : decode cX5_musterGang 79 = .ok (.getfield 18, 3) := by decide +kernel
theorem dX5_musterGang_82 : decode cX5_musterGang 82 = .ok (.iload 6, 2) := by decide +kernel
theorem dX5_musterGang_84 : decode cX5_musterGang 84 = .ok (.aload_n 0, 1) := by decide +kernel
theorem dX5_musterGang_85 : decode cX5_musterGang 85 = .ok (.getfield 63, 3) := by decide +kernel
theorem dX5_musterGang_88 : decode cX5_musterGang 88 = .ok (.aload_n 0, 1) := by decide +kernel
theorem dX5_musterGang_89 : decode cX5_musterGang 89 = .ok (.getfield 15, 3) := by decide +kernel
theorem dX5_musterGang_92 : decode cX5_musterGang 92 = .ok (.iconst 2, 1) := by decide +kernel
theorem dX5_musterGang_93 : decode cX5_musterGang 93 = .ok (.iaload, 1) := by decide +kernel
theorem dX5_musterGang_94 : decode cX5_musterGang 94 = .ok (.iadd, 1) := by decide +kernel
theorem dX5_musterGang_95 : decode cX5_musterGang 95 = .ok (.invokevirtual 103, 3) := by decide +kernel
theorem dX5_musterGang_98 : decode cX5_musterGang 98 = .ok (.goto 15, 3) := by decide +kernel
theorem dX5_musterGang_101 : decode cX5_musterGang 101 = .ok (.aload_n 0, 1) := by decide +kernel
theorem dX5_musterGang_102 : decode cX5_musterGang 102 = .ok (.getfield 9, 3) := by decide +kernel
theorem dX5_musterGang_105 : decode cX5_musterGang 105 = .ok (.iload 4, 2) := by decide +kernel
theorem dX5_musterGang_107 : decode cX5_musterGang 107 = .ok (.iload 6, 2) := by decide +kernel
theorem dX5_musterGang_109 : decode cX5_musterGang 109 = .ok (.iastore, 1) := by decide +kernel
theorem dX5_musterGang_110 : decode cX5_musterGang 110 = .ok (.iinc 4 1, 3) := by decide +kernel
theorem dX5_musterGang_113 : decode cX5_musterGang 113 = .ok (.iinc 5 1, 3) := by decide +kernel
theorem dX5_musterGang_116 : decode cX5_musterGang 116 = .ok (.goto (-98), 3) := by decide +kernel
theorem dX5_musterGang_119 : decode cX5_musterGang 119 = .ok (.iload 4, 2) := by decide +kernel
theorem dX5_musterGang_121 : decode cX5_musterGang 121 = .ok (.iload_n 3, 1) := by decide +kernel
theorem dX5_musterGang_122 : decode cX5_musterGang 122 = .ok (.if_icmp .ne 7, 3) := by decide +kernel
theorem dX5_musterGang_125 : decode cX5_musterGang 125 = .ok (.iconst 1, 1) := by decide +kernel
theorem dX5_musterGang_126 : decode cX5_musterGang 126 = .ok (.goto 4, 3) := by decide +kernel
theorem dX5_musterGang_129 : decode cX5_musterGang 129 = .ok (.iconst 0, 1) := by decide +kernel
theorem dX5_musterGang_130 : decode cX5_musterGang 130 = .ok (.ireturn, 1) := by decide +kernel
theorem dX5_workHatch_0 : decode cX5_workHatch 0 = .ok (.aload_n 0, 1) := by decide +kernel
theorem dX5_workHatch_1 : decode cX5_workHatch 1 = .ok (.iconst 0, 1) := by decide +kernel
theorem dX5_workHatch_2 : decode cX5_workHatch 2 = .ok (.putfield 106, 3) := by decide +kernel
theorem dX5_workHatch_5 : decode cX5_workHatch 5 = .ok (.aload_n 0, 1) := by decide +kernel
theorem dX5_workHatch_6 : decode cX5_workHatch 6 = .ok (.iconst 0, 1) := by decide +kernel
theorem dX5_workHatch_7 : decode cX5_workHatch 7 = .ok (.putfield 109, 3) := by decide +kernel
theorem dX5_workHatch_10 : decode cX5_workHatch 10 = .ok (.aload_n 0, 1) := by decide +kernel
theorem dX5_workHatch_11 : decode cX5_workHatch 11 = .ok (.getfield 15, 3) := by decide +kernel
theorem dX5_workHatch_14 : decode cX5_workHatch 14 = .ok (.bipush 7, 2) := by decide +kernel
theorem dX5_workHatch_16 : decode cX5_workHatch 16 = .ok (.aload_n 0, 1) := by decide +kernel
theorem dX5_workHatch_17 : decode cX5_workHatch 17 = .ok (.getfield 22, 3) := by decide +kernel
theorem dX5_workHatch_20 : decode cX5_workHatch 20 = .ok (.getfield 76, 3) := by decide +kernel
theorem dX5_workHatch_23 : decode cX5_workHatch 23 = .ok (.iload_n 1, 1) := by decide +kernel
theorem dX5_workHatch_24 : decode cX5_workHatch 24 = .ok (.iaload, 1) := by decide +kernel
theorem dX5_workHatch_25 : decode cX5_workHatch 25 = .ok (.iadd, 1) := by decide +kernel
theorem dX5_workHatch_26 : decode cX5_workHatch 26 = .ok (.iaload, 1) := by decide +kernel
theorem dX5_workHatch_27 : decode cX5_workHatch 27 = .ok (.istore_n 3, 1) := by decide +kernel
theorem dX5_workHatch_28 : decode cX5_workHatch 28 = .ok (.iconst 0, 1) := by decide +kernel
theorem dX5_workHatch_29 : decode cX5_workHatch 29 = .ok (.istore 4, 2) := by decide +kernel
theorem dX5_workHatch_31 : decode cX5_workHatch 31 = .ok (.iload 4, 2) := by decide +kernel
theorem dX5_workHatch_33 : decode cX5_workHatch 33 = .ok (.iconst 4, 1) := by decide +kernel
theorem dX5_workHatch_34 : decode cX5_workHatch 34 = .ok (.if_icmp .ge 106, 3) := by decide +kernel
theorem dX5_workHatch_37 : decode cX5_workHatch 37 = .ok (.aload_n 0, 1) := by decide +kernel
theorem dX5_workHatch_38 : decode cX5_workHatch 38 = .ok (.getfield 22, 3) := by decide +kernel
theorem dX5_workHatch_41 : decode cX5_workHatch 41 = .ok (.getfield 73, 3) := by decide +kernel
theorem dX5_workHatch_44 : decode cX5_workHatch 44 = .ok (.iload_n 1, 1) := by decide +kernel
theorem dX5_workHatch_45 : decode cX5_workHatch 45 = .ok (.iaload, 1) := by decide +kernel
theorem dX5_workHatch_46 : decode cX5_workHatch 46 = .ok (.ifCond .le 94, 3) := by decide +kernel
theorem dX5_workHatch_49 : decode cX5_workHatch 49 = .ok (.aload_n 0, 1) := by decide +kernel
theorem dX5_workHatch_50 : decode cX5_workHatch 50 = .ok (.getfield 22, 3) := by decide +kernel
theorem dX5_workHatch_53 : decode cX5_workHatch 53 = .ok (.getfield 112, 3) := by decide +kernel
theorem dX5_workHatch_56 : decode cX5_workHatch 56 = .ok (.iload_n 1, 1) := by decide +kernel
theorem dX5_workHatch_57 : decode cX5_workHatch 57 = .ok (.baload, 1) := by decide +kernel
theorem dX5_workHatch_58 : decode cX5_workHatch 58 = .ok (.ifCond .eq 26, 3) := by decide +kernel
theorem dX5_workHatch_61 : decode cX5_workHatch 61 = .ok (.iload_n 2, 1) := by decide +kernel
theorem dX5_workHatch_62 : decode cX5_workHatch 62 = .ok (.iload 4, 2) := by decide +kernel
theorem dX5_workHatch_64 : decode cX5_workHatch 64 = .ok (.ishr, 1) := by decide +kernel
theorem dX5_workHatch_65 : decode cX5_workHatch 65 = .ok (.iconst 1, 1) := by decide +kernel
theorem dX5_workHatch_66 : decode cX5_workHatch 66 = .ok (.iand, 1) := by decide +kernel
theorem dX5_workHatch_67 : decode cX5_workHatch 67 = .ok (.iconst 1, 1) := by decide +kernel
theorem dX5_workHatch_68 : decode cX5_workHatch 68 = .ok (.if_icmp .ne 16, 3) := by decide +kernel
theorem dX5_workHatch_71 : decode cX5_workHatch 71 = .ok (.aload_n 0, 1) := by decide +kernel
theorem dX5_workHatch_72 : decode cX5_workHatch 72 = .ok (.dup, 1) := by decide +kernel
theorem dX5_workHatch_73 : decode cX5_workHatch 73 = .ok (.getfield 109, 3) := by decide +kernel
theorem dX5_workHatch_76 : decode cX5_workHatch 76 = .ok (.iconst 1, 1) := by decide +kernel
theorem dX5_workHatch_77 : decode cX5_workHatch 77 = .ok (.iadd, 1) := by decide +kernel
theorem dX5_workHatch_78 : decode cX5_workHatch 78 = .ok (.putfield 109, 3) := by decide +kernel
theorem dX5_workHatch_81 : decode cX5_workHatch 81 = .ok (.goto 53, 3) := by decide +kernel
theorem dX5_workHatch_84 : decode cX5_workHatch 84 = .ok (.iload_n 3, 1) := by decide +kernel
theorem dX5_workHatch_85 : decode cX5_workHatch 85 = .ok (.aload_n 0, 1) := by decide +kernel
theorem dX5_workHatch_86 : decode cX5_workHatch 86 = .ok (.getfield 22, 3) := by decide +kernel
theorem dX5_workHatch_89 : decode cX5_workHatch 89 = .ok (.getfield 73, 3) := by decide +kernel
theorem dX5_workHatch_92 : decode cX5_workHatch 92 = .ok (.iload_n 1, 1) := by decide +kernel
theorem dX5_workHatch_93 : decode cX5_workHatch 93 = .ok (.iaload, 1) := by decide +kernel
theorem dX5_workHatch_94 : decode cX5_workHatch 94 = .ok (.invokestatic 90, 3) := by decide +kernel
theorem dX5_workHatch_97 : decode cX5_workHatch 97 = .ok (.istore 5, 2) := by decide +kernel
theorem dX5_workHatch_99 : decode cX5_workHatch 99 = .ok (.aload_n 0, 1) := by decide +kernel
theorem dX5_workHatch_100 : decode cX5_workHatch 100 = .ok (.getfield 22, 3) := by decide +kernel
theorem dX5_workHatch_103 : decode cX5_workHatch 103 = .ok (.getfield 73, 3) := by decide +kernel
theorem dX5_workHatch_106 : decode cX5_workHatch 106 = .ok (.iload_n 1, 1) := by decide +kernel
theorem dX5_workHatch_107 : decode cX5_workHatch 107 = .ok (.dup2, 1) := by decide +kernel
theorem dX5_workHatch_108 : decode cX5_workHatch 108 = .ok (.iaload, 1) := by decide +kernel
theorem dX5_workHatch_109 : decode cX5_workHatch 109 = .ok (.iload 5, 2) := by decide +kernel
theorem dX5_workHatch_111 : decode cX5_workHatch 111 = .ok (.isub, 1) := by decide +kernel
theorem dX5_workHatch_112 : decode cX5_workHatch 112 = .ok (.iastore, 1) := by decide +kernel
theorem dX5_workHatch_113 : decode cX5_workHatch 113 = .ok (.aload_n 0, 1) := by decide +kernel
theorem dX5_workHatch_114 : decode cX5_workHatch 114 = .ok (.dup, 1) := by decide +kernel
theorem dX5_workHatch_115 : decode cX5_workHatch 115 = .ok (.getfield 116, 3) := by decide +kernel
theorem dX5_workHatch_118 : decode cX5_workHatch 118 = .ok (.iload 5, 2) := by decide +kernel
theorem dX5_workHatch_120 : decode cX5_workHatch 120 = .ok (.iadd, 1) := by decide +kernel
theorem dX5_workHatch_121 : decode cX5_workHatch 121 = .ok (.putfield 116, 3) := by decide +kernel
theorem dX5_workHatch_124 : decode cX5_workHatch 124 = .ok (.aload_n 0, 1) := by decide +kernel
theorem dX5_workHatch_125 : decode cX5_workHatch 125 = .ok (.dup, 1) := by decide +kernel
theorem dX5_workHatch_126 : decode cX5_workHatch 126 = .ok (.getfield 106, 3) := by decide +kernel
theorem dX5_workHatch_129 : decode cX5_workHatch 129 = .ok (.iconst 1, 1) := by decide +kernel
theorem dX5_workHatch_130 : decode cX5_workHatch 130 = .ok (.iadd, 1) := by decide +kernel
theorem dX5_workHatch_131 : decode cX5_workHatch 131 = .ok (.putfield 106, 3) := by decide +kernel
theorem dX5_workHatch_134 : decode cX5_workHatch 134 = .ok (.iinc 4 1, 3) := by decide +kernel
theorem dX5_workHatch_137 : decode cX5_workHatch 137 = .ok (.goto (-106), 3) := by decide +kernel
theorem dX5_workHatch_140 : decode cX5_workHatch 140 = .ok (.return_, 1) := by decide +kernel
theorem dX5_payGang_0 : decode cX5_payGang 0 = .ok (.aload_n 0, 1) := by decide +kernel
theorem dX5_payGang_1 : decode cX5_payGang 1 = .ok (.invokevirtual 119, 3) := by decide +kernel
theorem dX5_payGang_4 : decode cX5_payGang 4 = .ok (.istore_n 3, 1) := by decide +kernel
theorem dX5_payGang_5 : decode cX5_payGang 5 = .ok (.iconst 0, 1) := by decide +kernel
theorem dX5_payGang_6 : decode cX5_payGang 6 = .ok (.istore 4, 2) := by decide +kernel
theorem dX5_payGang_8 : decode cX5_payGang 8 = .ok (.iload 4, 2) := by decide +kernel
theorem dX5_payGang_10 : decode cX5_payGang 10 = .ok (.aload_n 0, 1) := by decide +kernel
theorem dX5_payGang_11 : decode cX5_payGang 11 = .ok (.getfield 15, 3) := by decide +kernel
theorem dX5_payGang_14 : decode cX5_payGang 14 = .ok (.iconst 0, 1) := by decide +kernel
theorem dX5_payGang_15 : decode cX5_payGang 15 = .ok (.iaload, 1) := by decide +kernel
theorem dX5_payGang_16 : decode cX5_payGang 16 = .ok (.if_icmp .ge 51, 3) := by decide +kernel
theorem dX5_payGang_19 : decode cX5_payGang 19 = .ok (.iload 4, 2) := by decide +kernel
theorem dX5_payGang_21 : decode cX5_payGang 21 = .ok (.bipush 8, 2) := by decide +kernel
theorem dX5_payGang_23 : decode cX5_payGang 23 = .ok (.if_icmp .ge 44, 3) := by decide +kernel
theorem dX5_payGang_26 : decode cX5_payGang 26 = .ok (.aload_n 0, 1) := by decide +kernel
theorem dX5_payGang_27 : decode cX5_payGang 27 = .ok (.getfield 18, 3) := by decide +kernel
theorem dX5_payGang_30 : decode cX5_payGang 30 = .ok (.aload_n 0, 1) := by decide +kernel
theorem dX5_payGang_31 : decode cX5_payGang 31 = .ok (.getfield 9, 3) := by decide +kernel
theorem dX5_payGang_34 : decode cX5_payGang 34 = .ok (.iload 4, 2) := by decide +kernel
theorem dX5_payGang_36 : decode cX5_payGang 36 = .ok (.iaload, 1) := by decide +kernel
theorem dX5_payGang_37 : decode cX5_payGang 37 = .ok (.iload_n 1, 1) := by decide +kernel
theorem dX5_payGang_38 : decode cX5_payGang 38 = .ok (.iload_n 2, 1) := by decide +kernel
theorem dX5_payGang_39 : decode cX5_payGang 39 = .ok (.invokevirtual 123, 3) := by decide +kernel
theorem dX5_payGang_42 : decode cX5_payGang 42 = .ok (.aload_n 0, 1) := by decide +kernel
theorem dX5_payGang_43 : decode cX5_payGang 43 = .ok (.getfield 26, 3) := by decide +kernel
theorem dX5_payGang_46 : decode cX5_payGang 46 = .ok (.aload_n 0, 1) := by decide +kernel
theorem dX5_payGang_47 : decode cX5_payGang 47 = .ok (.getfield 63, 3) := by decide +kernel
theorem dX5_payGang_50 : decode cX5_payGang 50 = .ok (.aload_n 0, 1) := by decide +kernel
theorem dX5_payGang_51 : decode cX5_payGang 51 = .ok (.getfield 9, 3) := by decide +kernel
theorem dX5_payGang_54 : decode cX5_payGang 54 = .ok (.iload 4, 2) := by decide +kernel
theorem dX5_payGang_56 : decode cX5_payGang 56 = .ok (.iaload, 1) := by decide +kernel
theorem dX5_payGang_57 : decode cX5_payGang 57 = .ok (.iload_n 3, 1) := by decide +kernel
theorem dX5_payGang_58 : decode cX5_payGang 58 = .ok (.invokevirtual 127, 3) := by decide +kernel
theorem dX5_payGang_61 : decode cX5_payGang 61 = .ok (.iinc 4 1, 3) := by decide +kernel
theorem dX5_payGang_64 : decode cX5_payGang 64 = .ok (.goto (-56), 3) := by decide +kernel
theorem dX5_payGang_67 : decode cX5_payGang 67 = .ok (.return_, 1) := by decide +kernel
theorem dX5_payOfMan_0 : decode cX5_payOfMan 0 = .ok (.aload_n 0, 1) := by decide +kernel
theorem dX5_payOfMan_1 : decode cX5_payOfMan 1 = .ok (.getfield 15, 3) := by decide +kernel
theorem dX5_payOfMan_4 : decode cX5_payOfMan 4 = .ok (.iconst 3, 1) := by decide +kernel
theorem dX5_payOfMan_5 : decode cX5_payOfMan 5 = .ok (.iaload, 1) := by decide +kernel
theorem dX5_payOfMan_6 : decode cX5_payOfMan 6 = .ok (.istore_n 1, 1) := by decide +kernel
theorem dX5_payOfMan_7 : decode cX5_payOfMan 7 = .ok (.iconst 0, 1) := by decide +kernel
theorem dX5_payOfMan_8 : decode cX5_payOfMan 8 = .ok (.aload_n 0, 1) := by decide +kernel
theorem dX5_payOfMan_9 : decode cX5_payOfMan 9 = .ok (.getfield 15, 3) := by decide +kernel
theorem dX5_payOfMan_12 : decode cX5_payOfMan 12 = .ok (.iconst 5, 1) := by decide +kernel
theorem dX5_payOfMan_13 : decode cX5_payOfMan 13 = .ok (.iaload, 1) := by decide +kernel
theorem dX5_payOfMan_14 : decode cX5_payOfMan 14 = .ok (.aload_n 0, 1) := by decide +kernel
theorem dX5_payOfMan_15 : decode cX5_payOfMan 15 = .ok (.getfield 106, 3) := by decide +kernel
theorem dX5_payOfMan_18 : decode cX5_payOfMan 18 = .ok (.isub, 1) := by decide +kernel
theorem dX5_payOfMan_19 : decode cX5_payOfMan 19 = .ok (.aload_n 0, 1) := by decide +kernel
theorem dX5_payOfMan_20 : decode cX5_payOfMan 20 = .ok (.getfield 109, 3) := by decide +kernel
theorem dX5_payOfMan_23 : decode cX5_payOfMan 23 = .ok (.isub, 1) := by decide +kernel
theorem dX5_payOfMan_24 : decode cX5_payOfMan 24 = .ok (.invokestatic 132, 3) := by decide +kernel
theorem dX5_payOfMan_27 : decode cX5_payOfMan 27 = .ok (.istore_n 2, 1) := by decide +kernel
theorem dX5_payOfMan_28 : decode cX5_payOfMan 28 = .ok (.iload_n 1, 1) := by decide +kernel
theorem dX5_payOfMan_29 : decode cX5_payOfMan 29 = .ok (.aload_n 0, 1) := by decide +kernel
theorem dX5_payOfMan_30 : decode cX5_payOfMan 30 = .ok (.getfield 106, 3) := by decide +kernel
theorem dX5_payOfMan_33 : decode cX5_payOfMan 33 = .ok (.imul, 1) := by decide +kernel
theorem dX5_payOfMan_34 : decode cX5_payOfMan 34 = .ok (.iload_n 1, 1) := by decide +kernel
theorem dX5_payOfMan_35 : decode cX5_payOfMan 35 = .ok (.aload_n 0, 1) := by decide +kernel
theorem dX5_payOfMan_36 : decode cX5_payOfMan 36 = .ok (.getfield 109, 3) := by decide +kernel
theorem dX5_payOfMan_39 : decode cX5_payOfMan 39 = .ok (.imul, 1) := by decide +kernel
theorem dX5_payOfMan_40 : decode cX5_payOfMan 40 = .ok (.aload_n 0, 1) := by decide +kernel
theorem dX5_payOfMan_41 : decode cX5_payOfMan 41 = .ok (.getfield 15, 3) := by decide +kernel
theorem dX5_payOfMan_44 : decode cX5_payOfMan 44 = .ok (.iconst 4, 1) := by decide +kernel
theorem dX5_payOfMan_45 : decode cX5_payOfMan 45 = .ok (.iaload, 1) := by decide +kernel
theorem dX5_payOfMan_46 : decode cX5_payOfMan 46 = .ok (.imul, 1) := by decide +kernel
theorem dX5_payOfMan_47 : decode cX5_payOfMan 47 = .ok (.bipush 100, 2) := by decide +kernel
theorem dX5_payOfMan_49 : decode cX5_payOfMan 49 = .ok (.idiv, 1) := by decide +kernel
theorem dX5_payOfMan_50 : decode cX5_payOfMan 50 = .ok (.iadd, 1) := by decide +kernel
theorem dX5_payOfMan_51 : decode cX5_payOfMan 51 = .ok (.iload_n 1, 1) := by decide +kernel
theorem dX5_payOfMan_52 : decode cX5_payOfMan 52 = .ok (.iload_n 2, 1) := by decide +kernel
theorem dX5_payOfMan_53 : decode cX5_payOfMan 53 = .ok (.imul, 1) := by decide +kernel
theorem dX5_payOfMan_54 : decode cX5_payOfMan 54 = .ok (.iadd, 1) := by decide +kernel
theorem dX5_payOfMan_55 : decode cX5_payOfMan 55 = .ok (.ireturn, 1) := by decide +kernel
theorem dX6_init_0 : decode cX6_init 0 = .ok (.aload_n 0, 1) := by decide +kernel
theorem dX6_init_1 : decode cX6_init 1 = .ok (.invokespecial 3, 3) := by decide +kernel
theorem dX6_init_4 : decode cX6_init 4 = .ok (.aload_n 0, 1) := by decide +kernel
theorem dX6_init_5 : decode cX6_init 5 = .ok (.bipush 10, 2) := by decide +kernel
theorem dX6_init_7 : decode cX6_init 7 = .ok (.newarray .int, 2) := by decide +kernel
theorem dX6_init_9 : decode cX6_init 9 = .ok (.putfield 9, 3) := by decide +kernel
theorem dX6_init_12 : decode cX6_init 12 = .ok (.aload_n 0, 1) := by decide +kernel
theorem dX6_init_13 : decode cX6_init 13 = .ok (.bipush 10, 2) := by decide +kernel
theorem dX6_init_15 : decode cX6_init 15 = .ok (.newarray .int, 2) := by decide +kernel
theorem dX6_init_17 : decode cX6_init 17 = .ok (.putfield 15, 3) := by decide +kernel
theorem dX6_init_20 : decode cX6_init 20 = .ok (.aload_n 0, 1) := by decide +kernel
theorem dX6_init_21 : decode cX6_init 21 = .ok (.bipush 10, 2) := by decide +kernel
theorem dX6_init_23 : decode cX6_init 23 = .ok (.newarray .int, 2) := by decide +kernel
theorem dX6_init_25 : decode cX6_init 25 = .ok (.putfield 18, 3) := by decide +kernel
theorem dX6_init_28 : decode cX6_init 28 = .ok (.aload_n 0, 1) := by decide +kernel
theorem dX6_init_29 : decode cX6_init 29 = .ok (.bipush 40, 2) := by decide +kernel
theorem dX6_init_31 : decode cX6_init 31 = .ok (.newarray .int, 2) := by decide +kernel
theorem dX6_init_33 : decode cX6_init 33 = .ok (.putfield 21, 3) := by decide +kernel
theorem dX6_init_36 : decode cX6_init 36 = .ok (.aload_n 0, 1) := by decide +kernel
theorem dX6_init_37 : decode cX6_init 37 = .ok (.bipush 40, 2) := by decide +kernel
theorem dX6_init_39 : decode cX6_init 39 = .ok (.newarray .int, 2) := by decide +kernel
theorem dX6_init_41 : decode cX6_init 41 = .ok (.putfield 24, 3) := by decide +kernel
theorem dX6_init_44 : decode cX6_init 44 = .ok (.aload_n 0, 1) := by decide +kernel
theorem dX6_init_45 : decode cX6_init 45 = .ok (.bipush 40, 2) := by decide +kernel
theorem dX6_init_47 : decode cX6_init 47 = .ok (.newarray .boolean, 2) := by decide +kernel
theorem dX6_init_49 : decode cX6_init 49 = .ok (.putfield 27, 3) := by decide +kernel
theorem dX6_init_52 : decode cX6_init 52 = .ok (.aload_n 0, 1) := by decide +kernel
theorem dX6_init_53 : decode cX6_init 53 = .ok (.bipush 10, 2) := by decide +kernel
theorem dX6_init_55 : decode cX6_init 55 = .ok (.newarray .int, 2) := by decide +kernel
theorem dX6_init_57 : decode cX6_init 57 = .ok (.putfield 31, 3) := by decide +kernel
theorem dX6_init_60 : decode cX6_init 60 = .ok (.aload_n 0, 1) := by decide +kernel
theorem dX6_init_61 : decode cX6_init 61 = .ok (.bipush 10, 2) := by decide +kernel
theorem dX6_init_63 : decode cX6_init 63 = .ok (.newarray .int, 2) := by decide +kernel
theorem dX6_init_65 : decode cX6_init 65 = .ok (.putfield 34, 3) := by decide +kernel
theorem dX6_init_68 : decode cX6_init 68 = .ok (.return_, 1) := by decide +kernel
theorem dX6_place_0 : decode cX6_place 0 = .ok (.iload_n 0, 1) := by decide +kernel
theorem dX6_place_1 : decode cX6_place 1 = .ok (.iconst 4, 1) := by decide +kernel
theorem dX6_place_2 : decode cX6_place 2 = .ok (.imul, 1) := by decide +kernel
theorem dX6_place_3 : decode cX6_place 3 = .ok (.iload_n 1, 1) := by decide +kernel
theorem dX6_place_4 : decode cX6_place 4 = .ok (.iadd, 1) := by decide +kernel
theorem dX6_place_5 : decode cX6_place 5 = .ok (.ireturn, 1) := by decide +kernel
theorem dX6_has_0 : decode cX6_has 0 = .ok (.iload_n 1, 1) := by decide +kernel
theorem dX6_has_1 : decode cX6_has 1 = .ok (.ifCond .lt 15, 3) := by decide +kernel
theorem dX6_has_4 : decode cX6_has 4 = .ok (.iload_n 1, 1) := by decide +kernel
theorem dX6_has_5 : decode cX6_has 5 = .ok (.aload_n 0, 1) := by decide +kernel
theorem dX6_has_6 : decode cX6_has 6 = .ok (.getfield 37, 3) := by decide +kernel
theorem dX6_has_9 : decode cX6_has 9 = .ok (.if_icmp .ge 7, 3) := by decide +kernel
theorem dX6_has_12 : decode cX6_has 12 = .ok (.iconst 1, 1) := by decide +kernel
theorem dX6_has_13 : decode cX6_has 13 = .ok (.goto 4, 3) := by decide +kernel
theorem dX6_has_16 : decode cX6_has 16 = .ok (.iconst 0, 1) := by decide +kernel
theorem dX6_has_17 : decode cX6_has 17 = .ok (.ireturn, 1) := by decide +kernel
theorem dX6_add_0 : decode cX6_add 0 = .ok (.aload_n 0, 1) := by decide +kernel
theorem dX6_add_1 : decode cX6_add 1 = .ok (.getfield 37, 3) := by decide +kernel
theorem dX6_add_4 : decode cX6_add 4 = .ok (.istore_n 2, 1) := by decide +kernel
theorem dX6_add_5 : decode cX6_add 5 = .ok (.iload_n 2, 1) := by decide +kernel
theorem dX6_add_6 : decode cX6_add 6 = .ok (.bipush 10, 2) := by decide +kernel
theorem dX6_add_8 : decode cX6_add 8 = .ok (.if_icmp .lt 5, 3) := by decide +kernel
theorem dX6_add_11 : decode cX6_add 11 = .ok (.iconst (-1), 1) := by decide +kernel
theorem dX6_add_12 : decode cX6_add 12 = .ok (.ireturn, 1) := by decide +kernel
theorem dX6_add_13 : decode cX6_add 13 = .ok (.aload_n 0, 1) := by decide +kernel
theorem dX6_add_14 : decode cX6_add 14 = .ok (.getfield 9, 3) := by decide +kernel
theorem dX6_add_17 : decode cX6_add 17 = .ok (.iload_n 2, 1) := by decide +kernel
theorem dX6_add_18 : decode cX6_add 18 = .ok (.iload_n 1, 1) := by decide +kernel
theorem dX6_add_19 : decode cX6_add 19 = .ok (.iastore, 1) := by decide +kernel
theorem dX6_add_20 : decode cX6_add 20 = .ok (.aload_n 0, 1) := by decide +kernel
theorem dX6_add_21 : decode cX6_add 21 = .ok (.dup, 1) := by decide +kernel
theorem dX6_add_22 : decode cX6_add 22 = .ok (.getfield 37, 3) := by decide +kernel
theorem dX6_add_25 : decode cX6_add 25 = .ok (.iconst 1, 1) := by decide +kernel
theorem dX6_add_26 : decode cX6_add 26 = .ok (.iadd, 1) := by decide +kernel
theorem dX6_add_27 : decode cX6_add 27 = .ok (.putfield 37, 3) := by decide +kernel
theorem dX6_add_30 : decode cX6_add 30 = .ok (.iload_n 2, 1) := by decide +kernel
theorem dX6_add_31 : decode cX6_add 31 = .ok (.ireturn, 1) := by decide +kernel
theorem dX6_addHatch_0 : decode cX6_addHatch 0 = .ok (.aload_n 0, 1) := by decide +kernel
theorem dX6_addHatch_1 : decode cX6_addHatch 1 = .ok (.getfield 15, 3) := by decide +kernel
theorem dX6_addHatch_4 : decode cX6_addHatch 4 = .ok (.iload_n 1, 1) := by decide +kernel
theorem dX6_addHatch_5 : decode cX6_addHatch 5 = .ok (.iaload, 1) := by decide +kernel
theorem dX6_addHatch_6 : decode cX6_addHatch 6 = .ok (.istore 5, 2) := by decide +kernel
theorem dX6_addHatch_8 : decode cX6_addHatch 8 = .ok (.iload 5, 2) := by decide +kernel
theorem dX6_addHatch_10 : decode cX6_addHatch 10 = .ok (.iconst 4, 1) := by decide +kernel
theorem dX6_addHatch_11 : decode cX6_addHatch 11 = .ok (.if_icmp .lt 5, 3) := by decide +kernel
theorem dX6_addHatch_14 : decode cX6_addHatch 14 = .ok (.iconst (-1), 1) := by decide +kernel
theorem dX6_addHatch_15 : decode cX6_addHatch 15 = .ok (.ireturn, 1) := by decide +kernel
theorem dX6_addHatch_16 : decode cX6_addHatch 16 = .ok (.iload_n 1, 1) := by decide +kernel
theorem dX6_addHatch_17 : decode cX6_addHatch 17 = .ok (.iload 5, 2) := by decide +kernel
theorem dX6_addHatch_19 : decode cX6_addHatch 19 = .ok (.invokestatic 41, 3) := by decide +kernel
theorem dX6_addHatch_22 : decode cX6_addHatch 22 = .ok (.istore 6, 2) := by decide +kernel
theorem dX6_addHatch_24 : decode cX6_addHatch 24 = .ok (.aload_n 0, 1) := by decide +kernel
theorem dX6_addHatch_25 : decode cX6_addHatch 25 = .ok (.getfield 21, 3) := by decide +kernel
theorem dX6_addHatch_28 : decode cX6_addHatch 28 = .ok (.iload 6, 2) := by decide +kernel
theorem dX6_addHatch_30 : decode cX6_addHatch 30 = .ok (.iload_n 2, 1) := by decide +kernel
theorem dX6_addHatch_31 : decode cX6_addHatch 31 = .ok (.iastore, 1) := by decide +kernel
theorem dX6_addHatch_32 : decode cX6_addHatch 32 = .ok (.aload_n 0, 1) := by decide +kernel
theorem dX6_addHatch_33 : decode cX6_addHatch 33 = .ok (.getfield 24, 3) := by decide +kernel
theorem dX6_addHatch_36 : decode cX6_addHatch 36 = .ok (.iload 6, 2) := by decide +kernel
theorem dX6_addHatch_38 : decode cX6_addHatch 38 = .ok (.iload_n 3, 1) := by decide +kernel
theorem dX6_addHatch_39 : decode cX6_addHatch 39 = .ok (.iastore, 1) := by decide +kernel
theorem dX6_addHatch_40 : decode cX6_addHatch 40 = .ok (.aload_n 0, 1) := by decide +kernel
theorem dX6_addHatch_41 : decode cX6_addHatch 41 = .ok (.getfield 27, 3) := by decide +kernel
theorem dX6_addHatch_44 : decode cX6_addHatch 44 = .ok (.iload 6, 2) := by decide +kernel
theorem dX6_addHatch_46 : decode cX6_addHatch 46 = .ok (.iload 4, 2) := by decide +kernel
theorem dX6_addHatch_48 : decode cX6_addHatch 48 = .ok (.bastore, 1) := by decide +kernel
theorem dX6_addHatch_49 : decode cX6_addHatch 49 = .ok (.aload_n 0, 1) := by decide +kernel
theorem dX6_addHatch_50 : decode cX6_addHatch 50 = .ok (.getfield 15, 3) := by decide +kernel
theorem dX6_addHatch_53 : decode cX6_addHatch 53 = .ok (.iload_n 1, 1) := by decide +kernel
theorem dX6_addHatch_54 : decode cX6_addHatch 54 = .ok (.dup2, 1) := by decide +kernel
theorem dX6_addHatch_55 : decode cX6_addHatch 55 = .ok (.iaload, 1) := by decide +kernel
theorem dX6_addHatch_56 : decode cX6_addHatch 56 = .ok (.iconst 1, 1) := by decide +kernel
theorem dX6_addHatch_57 : decode cX6_addHatch 57 = .ok (.iadd, 1) := by decide +kernel
theorem dX6_addHatch_58 : decode cX6_addHatch 58 = .ok (.iastore, 1) := by decide +kernel
theorem dX6_addHatch_59 : decode cX6_addHatch 59 = .ok (.iload 5, 2) := by decide +kernel
theorem dX6_addHatch_61 : decode cX6_addHatch 61 = .ok (.ireturn, 1) := by decide +kernel
theorem dX6_tonsOf_0 : decode cX6_tonsOf 0 = .ok (.iconst 0, 1) := by decide +kernel
theorem dX6_tonsOf_1 : decode cX6_tonsOf 1 = .ok (.istore_n 2, 1) := by decide +kernel
theorem dX6_tonsOf_2 : decode cX6_tonsOf 2 = .ok (.iconst 0, 1) := by decide +kernel
theorem dX6_tonsOf_3 : decode cX6_tonsOf 3 = .ok (.istore_n 3, 1) := by decide +kernel
theorem dX6_tonsOf_4 : decode cX6_tonsOf 4 = .ok (.iload_n 3, 1) := by decide +kernel
theorem dX6_tonsOf_5 : decode cX6_tonsOf 5 = .ok (.aload_n 0, 1) := by decide +kernel
theorem dX6_tonsOf_6 : decode cX6_tonsOf 6 = .ok (.getfield 15, 3) := by decide +kernel
theorem dX6_tonsOf_9 : decode cX6_tonsOf 9 = .ok (.iload_n 1, 1) := by decide +kernel
theorem dX6_tonsOf_10 : decode cX6_tonsOf 10 = .ok (.iaload, 1) := by decide +kernel
theorem dX6_tonsOf_11 : decode cX6_tonsOf 11 = .ok (.if_icmp .ge 22, 3) := by decide +kernel
theorem dX6_tonsOf_14 : decode cX6_tonsOf 14 = .ok (.iload_n 2, 1) := by decide +kernel
theorem dX6_tonsOf_15 : decode cX6_tonsOf 15 = .ok (.aload_n 0, 1) := by decide +kernel
theorem dX6_tonsOf_16 : decode cX6_tonsOf 16 = .ok (.getfield 21, 3) := by decide +kernel
theorem dX6_tonsOf_19 : decode cX6_tonsOf 19 = .ok (.iload_n 1, 1) := by decide +kernel
theorem dX6_tonsOf_20 : decode cX6_tonsOf 20 = .ok (.iload_n 3, 1) := by decide +kernel
theorem dX6_tonsOf_21 : decode cX6_tonsOf 21 = .ok (.invokestatic 41, 3) := by decide +kernel
theorem dX6_tonsOf_24 : decode cX6_tonsOf 24 = .ok (.iaload, 1) := by decide +kernel
theorem dX6_tonsOf_25 : decode cX6_tonsOf 25 = .ok (.iadd, 1) := by decide +kernel
theorem dX6_tonsOf_26 : decode cX6_tonsOf 26 = .ok (.istore_n 2, 1) := by decide +kernel
theorem dX6_tonsOf_27 : decode cX6_tonsOf 27 = .ok (.iinc 3 1, 3) := by decide +kernel
theorem dX6_tonsOf_30 : decode cX6_tonsOf 30 = .ok (.goto (-26), 3) := by decide +kernel
theorem dX6_tonsOf_33 : decode cX6_tonsOf 33 = .ok (.iload_n 2, 1) := by decide +kernel
theorem dX6_tonsOf_34 : decode cX6_tonsOf 34 = .ok (.ireturn, 1) := by decide +kernel
theorem dX6_tonsLeft_0 : decode cX6_tonsLeft 0 = .ok (.iconst 0, 1) := by decide +kernel
theorem dX6_tonsLeft_1 : decode cX6_tonsLeft 1 = .ok (.istore_n 1, 1) := by decide +kernel
theorem dX6_tonsLeft_2 : decode cX6_tonsLeft 2 = .ok (.iconst 0, 1) := by decide +kernel
theorem dX6_tonsLeft_3 : decode cX6_tonsLeft 3 = .ok (.istore_n 2, 1) := by decide +kernel
theorem dX6_tonsLeft_4 : decode cX6_tonsLeft 4 = .ok (.iload_n 2, 1) := by decide +kernel
theorem dX6_tonsLeft_5 : decode cX6_tonsLeft 5 = .ok (.aload_n 0, 1) := by decide +kernel
theorem dX6_tonsLeft_6 : decode cX6_tonsLeft 6 = .ok (.getfield 37, 3) := by decide +kernel
theorem dX6_tonsLeft_9 : decode cX6_tonsLeft 9 = .ok (.if_icmp .ge 17, 3) := by decide +kernel
theorem dX6_tonsLeft_12 : decode cX6_tonsLeft 12 = .ok (.iload_n 1, 1) := by decide +kernel
theorem dX6_tonsLeft_13 : decode cX6_tonsLeft 13 = .ok (.aload_n 0, 1) := by decide +kernel
theorem dX6_tonsLeft_14 : decode cX6_tonsLeft 14 = .ok (.iload_n 2, 1) := by decide +kernel
theorem dX6_tonsLeft_15 : decode cX6_tonsLeft 15 = .ok (.invokevirtual 45, 3) := by decide +kernel
theorem dX6_tonsLeft_18 : decode cX6_tonsLeft 18 = .ok (.iadd, 1) := by decide +kernel
theorem dX6_tonsLeft_19 : decode cX6_tonsLeft 19 = .ok (.istore_n 1, 1) := by decide +kernel
theorem dX6_tonsLeft_20 : decode cX6_tonsLeft 20 = .ok (.iinc 2 1, 3) := by decide +kernel
theorem dX6_tonsLeft_23 : decode cX6_tonsLeft 23 = .ok (.goto (-19), 3) := by decide +kernel
theorem dX6_tonsLeft_26 : decode cX6_tonsLeft 26 = .ok (.iload_n 1, 1) := by decide +kernel
theorem dX6_tonsLeft_27 : decode cX6_tonsLeft 27 = .ok (.ireturn, 1) := by decide +kernel
theorem dX6_isDone_0 : decode cX6_isDone 0 = .ok (.aload_n 0, 1) := by decide +kernel
theorem dX6_isDone_1 : decode cX6_isDone 1 = .ok (.iload_n 1, 1) := by decide +kernel
theorem dX6_isDone_2 : decode cX6_isDone 2 = .ok (.invokevirtual 45, 3) := by decide +kernel
theorem dX6_isDone_5 : decode cX6_isDone 5 = .ok (.ifCond .ne 7, 3) := by decide +kernel
theorem dX6_isDone_8 : decode cX6_isDone 8 = .ok (.iconst 1, 1) := by decide +kernel
theorem dX6_isDone_9 : decode cX6_isDone 9 = .ok (.goto 4, 3) := by decide +kernel
theorem dX6_isDone_12 : decode cX6_isDone 12 = .ok (.iconst 0, 1) := by decide +kernel
theorem dX6_isDone_13 : decode cX6_isDone 13 = .ok (.ireturn, 1) := by decide +kernel
theorem dX6_lineUp_0 : decode cX6_lineUp 0 = .ok (.aload_n 0, 1) := by decide +kernel
theorem dX6_lineUp_1 : decode cX6_lineUp 1 = .ok (.iconst 0, 1) := by decide +kernel
theorem dX6_lineUp_2 : decode cX6_lineUp 2 = .ok (.putfield 49, 3) := by decide +kernel
theorem dX6_lineUp_5 : decode cX6_lineUp 5 = .ok (.iconst 0, 1) := by decide +kernel
theorem dX6_lineUp_6 : decode cX6_lineUp 6 = .ok (.istore_n 2, 1) := by decide +kernel
theorem dX6_lineUp_7 : decode cX6_lineUp 7 = .ok (.iload_n 2, 1) := by decide +kernel
theorem dX6_lineUp_8 : decode cX6_lineUp 8 = .ok (.aload_n 0, 1) := by decide +kernel
theorem dX6_lineUp_9 : decode cX6_lineUp 9 = .ok (.getfield 37, 3) := by decide +kernel
theorem dX6_lineUp_12 : decode cX6_lineUp 12 = .ok (.if_icmp .ge 109, 3) := by decide +kernel
theorem dX6_lineUp_15 : decode cX6_lineUp 15 = .ok (.aload_n 0, 1) := by decide +kernel
theorem dX6_lineUp_16 : decode cX6_lineUp 16 = .ok (.iload_n 2, 1) := by decide +kernel
theorem dX6_lineUp_17 : decode cX6_lineUp 17 = .ok (.invokevirtual 45, 3) := by decide +kernel
theorem dX6_lineUp_20 : decode cX6_lineUp 20 = .ok (.istore_n 3, 1) := by decide +kernel
theorem dX6_lineUp_21 : decode cX6_lineUp 21 = .ok (.iload_n 3, 1) := by decide +kernel
theorem dX6_lineUp_22 : decode cX6_lineUp 22 = .ok (.ifCond .ne 6, 3) := by decide +kernel
theorem dX6_lineUp_25 : decode cX6_lineUp 25 = .ok (.goto 90, 3) := by decide +kernel
theorem dX6_lineUp_28 : decode cX6_lineUp 28 = .ok (.aload_n 0, 1) := by decide +kernel
theorem dX6_lineUp_29 : decode cX6_lineUp 29 = .ok (.getfield 34, 3) := by decide +kernel
theorem dX6_lineUp_32 : decode cX6_lineUp 32 = .ok (.iload_n 2, 1) := by decide +kernel
theorem dX6_lineUp_33 : decode cX6_lineUp 33 = .ok (.aload_n 0, 1) := by decide +kernel
theorem dX6_lineUp_34 : decode cX6_lineUp 34 = .ok (.iload_n 2, 1) := by decide +kernel
theorem dX6_lineUp_35 : decode cX6_lineUp 35 = .ok (.iload_n 1, 1) := by decide +kernel
theorem dX6_lineUp_36 : decode cX6_lineUp 36 = .ok (.iload_n 3, 1) := by decide +kernel
theorem dX6_lineUp_37 : decode cX6_lineUp 37 = .ok (.invokevirtual 52, 3) := by decide +kernel
theorem dX6_lineUp_40 : decode cX6_lineUp 40 = .ok (.iastore, 1) := by decide +kernel
theorem dX6_lineUp_41 : decode cX6_lineUp 41 = .ok (.aload_n 0, 1) := by decide +kernel
theorem dX6_lineUp_42 : decode cX6_lineUp 42 = .ok (.getfield 49, 3) := by decide +kernel
theorem dX6_lineUp_45 : decode cX6_lineUp 45 = .ok (.istore 4, 2) := by decide +kernel
theorem dX6_lineUp_47 : decode cX6_lineUp 47 = .ok (.iload 4, 2) := by decide +kernel
theorem dX6_lineUp_49 : decode cX6_lineUp 49 = .ok (.ifCond .le 48, 3) := by decide +kernel
theorem dX6_lineUp_52 : decode cX6_lineUp 52 = .ok (.aload_n 0, 1) := by decide +kernel
theorem dX6_lineUp_53 : decode cX6_lineUp 53 = .ok (.getfield 34, 3) := by decide +kernel
theorem dX6_lineUp_56 : decode cX6_lineUp 56 = .ok (.aload_n 0, 1) := by decide +kernel
theorem dX6_lineUp_57 : decode cX6_lineUp 57 = .ok (.getfield 31, 3) := by decide +kernel
theorem dX6_lineUp_60 : decode cX6_lineUp 60 = .ok (.iload 4, 2) := by decide +kernel
theorem dX6_lineUp_62 : decode cX6_lineUp 62 = .ok (.iconst 1, 1) := by decide +kernel
theorem dX6_lineUp_63 : decode cX6_lineUp 63 = .ok (.isub, 1) := by decide +kernel
theorem dX6_lineUp_64 : decode cX6_lineUp 64 = .ok (.iaload, 1) := by decide +kernel
theorem dX6_lineUp_65 : decode cX6_lineUp 65 = .ok (.iaload, 1) := by decide +kernel
theorem dX6_lineUp_66 : decode cX6_lineUp 66 = .ok (.aload_n 0, 1) := by decide +kernel
theorem dX6_lineUp_67 : decode cX6_lineUp 67 = .ok (.getfield 34, 3) := by decide +kernel
theorem dX6_lineUp_70 : decode cX6_lineUp 70 = .ok (.iload_n 2, 1) := by decide +kernel
theorem dX6_lineUp_71 : decode cX6_lineUp 71 = .ok (.iaload, 1) := by decide +kernel
theorem dX6_lineUp_72 : decode cX6_lineUp 72 = .ok (.if_icmp .le 25, 3) := by decide +kernel
theorem dX6_lineUp_75 : decode cX6_lineUp 75 = .ok (.aload_n 0, 1) := by decide +kernel
theorem dX6_lineUp_76 : decode cX6_lineUp 76 = .ok (.getfield 31, 3) := by decide +kernel
theorem dX6_lineUp_79 : decode cX6_lineUp 79 = .ok (.iload 4, 2) := by decide +kernel
theorem dX6_lineUp_81 : decode cX6_lineUp 81 = .ok (.aload_n 0, 1) := by decide +kernel
theorem dX6_lineUp_82 : decode cX6_lineUp 82 = .ok (.getfield 31, 3) := by decide +kernel
theorem dX6_lineUp_85 : decode cX6_lineUp 85 = .ok (.iload 4, 2) := by decide +kernel
theorem dX6_lineUp_87 : decode cX6_lineUp 87 = .ok (.iconst 1, 1) := by decide +kernel
theorem dX6_lineUp_88 : decode cX6_lineUp 88 = .ok (.isub, 1) := by decide +kernel
theorem dX6_lineUp_89 : decode cX6_lineUp 89 = .ok (.iaload, 1) := by decide +kernel
theorem dX6_lineUp_90 : decode cX6_lineUp 90 = .ok (.iastore, 1) := by decide +kernel
theorem dX6_lineUp_91 : decode cX6_lineUp 91 = .ok (.iinc 4 (-1), 3) := by decide +kernel
theorem dX6_lineUp_94 : decode cX6_lineUp 94 = .ok (.goto (-47), 3) := by decide +kernel
theorem dX6_lineUp_97 : decode cX6_lineUp 97 = .ok (.aload_n 0, 1) := by decide +kernel
theorem dX6_lineUp_98 : decode cX6_lineUp 98 = .ok (.getfield 31, 3) := by decide +kernel
theorem dX6_lineUp_101 : decode cX6_lineUp 101 = .ok (.iload 4, 2) := by decide +kernel
theorem dX6_lineUp_103 : decode cX6_lineUp 103 = .ok (.iload_n 2, 1) := by decide +kernel
theorem dX6_lineUp_104 : decode cX6_lineUp 104 = .ok (.iastore, 1) := by decide +kernel
theorem dX6_lineUp_105 : decode cX6_lineUp 105 = .ok (.aload_n 0, 1) := by decide +kernel
theorem dX6_lineUp_106 : decode cX6_lineUp 106 = .ok (.dup, 1) := by decide +kernel
theorem dX6_lineUp_107 : decode cX6_lineUp 107 = .ok (.getfield 49, 3) := by decide +kernel
theorem dX6_lineUp_110 : decode cX6_lineUp 110 = .ok (.iconst 1, 1) := by decide +kernel
theorem dX6_lineUp_111 : decode cX6_lineUp 111 = .ok (.iadd, 1) := by decide +kernel
theorem dX6_lineUp_112 : decode cX6_lineUp 112 = .ok (.putfield 49, 3) := by decide +kernel
theorem dX6_lineUp_115 : decode cX6_lineUp 115 = .ok (.iinc 2 1, 3) := by decide +kernel
theorem dX6_lineUp_118 : decode cX6_lineUp 118 = .ok (.goto (-111), 3) := by decide +kernel
theorem dX6_lineUp_121 : decode cX6_lineUp 121 = .ok (.return_, 1) := by decide +kernel
theorem dX6_rankOf_0 : decode cX6_rankOf 0 = .ok (.iload_n 2, 1) := by decide +kernel
theorem dX6_rankOf_1 : decode cX6_rankOf 1 = .ok (.ifCond .ne 10, 3) := by decide +kernel
theorem dX6_rankOf_4 : decode cX6_rankOf 4 = .ok (.aload_n 0, 1) := by decide +kernel
theorem dX6_rankOf_5 : decode cX6_rankOf 5 = .ok (.getfield 9, 3) := by decide +kernel
theorem dX6_rankOf_8 : decode cX6_rankOf 8 = .ok (.iload_n 1, 1) := by decide +kernel
theorem dX6_rankOf_9 : decode cX6_rankOf 9 = .ok (.iaload, 1) := by decide +kernel
theorem dX6_rankOf_10 : decode cX6_rankOf 10 = .ok (.ireturn, 1) := by decide +kernel
theorem dX6_rankOf_11 : decode cX6_rankOf 11 = .ok (.iload_n 2, 1) := by decide +kernel
theorem dX6_rankOf_12 : decode cX6_rankOf 12 = .ok (.iconst 1, 1) := by decide +kernel
theorem dX6_rankOf_13 : decode cX6_rankOf 13 = .ok (.if_icmp .ne 8, 3) := by decide +kernel
theorem dX6_rankOf_16 : decode cX6_rankOf 16 = .ok (.iload_n 3, 1) := by decide +kernel
theorem dX6_rankOf_17 : decode cX6_rankOf 17 = .ok (.ineg, 1) := by decide +kernel
theorem dX6_rankOf_18 : decode cX6_rankOf 18 = .ok (.goto 4, 3) := by decide +kernel
theorem dX6_rankOf_21 : decode cX6_rankOf 21 = .ok (.iload_n 1, 1) := by decide +kernel
theorem dX6_rankOf_22 : decode cX6_rankOf 22 = .ok (.ireturn, 1) := by decide +kernel
theorem dX6_countWaiting_0 : decode cX6_countWaiting 0 = .ok (.iconst 0, 1) := by decide +kernel
theorem dX6_countWaiting_1 : decode cX6_countWaiting 1 = .ok (.istore_n 1, 1) := by decide +kernel
theorem dX6_countWaiting_2 : decode cX6_countWaiting 2 = .ok (.iload_n 1, 1) := by decide +kernel
theorem dX6_countWaiting_3 : decode cX6_countWaiting 3 = .ok (.aload_n 0, 1) := by decide +kernel
theorem dX6_countWaiting_4 : decode cX6_countWaiting 4 = .ok (.getfield 37, 3) := by decide +kernel
theorem dX6_countWaiting_7 : decode cX6_countWaiting 7 = .ok (.if_icmp .ge 27, 3) := by decide +kernel
theorem dX6_countWaiting_10 : decode cX6_countWaiting 10 = .ok (.aload_n 0, 1) := by decide +kernel
theorem dX6_countWaiting_11 : decode cX6_countWaiting 11 = .ok (.iload_n 1, 1) := by decide +kernel
theorem dX6_countWaiting_12 : decode cX6_countWaiting 12 = .ok (.invokevirtual 56, 3) := by decide +kernel
theorem dX6_countWaiting_15 : decode cX6_countWaiting 15 = .ok (.ifCond .ne 13, 3) := by decide +kernel
theorem dX6_countWaiting_18 : decode cX6_countWaiting 18 = .ok (.aload_n 0, 1) := by decide +kernel
theorem dX6_countWaiting_19 : decode cX6_countWaiting 19 = .ok (.getfield 18, 3) := by decide +kernel
theorem dX6_countWaiting_22 : decode cX6_countWaiting 22 = .ok (.iload_n 1, 1) := by decide +kernel
theorem dX6_countWaiting_23 : decode cX6_countWaiting 23 = .ok (.dup2, 1) := by decide +kernel
theorem dX6_countWaiting_24 : decode cX6_countWaiting 24 = .ok (.iaload, 1) := by decide +kernel
theorem dX6_countWaiting_25 : decode cX6_countWaiting 25 = .ok (.iconst 1, 1) := by decide +kernel
theorem dX6_countWaiting_26 : decode cX6_countWaiting 26 = .ok (.iadd, 1) := by decide +kernel
theorem dX6_countWaiting_27 : decode cX6_countWaiting 27 = .ok (.iastore, 1) := by decide +kernel
theorem dX6_countWaiting_28 : decode cX6_countWaiting 28 = .ok (.iinc 1 1, 3) := by decide +kernel
theorem dX6_countWaiting_31 : decode cX6_countWaiting 31 = .ok (.goto (-29), 3) := by decide +kernel
theorem dX6_countWaiting_34 : decode cX6_countWaiting 34 = .ok (.return_, 1) := by decide +kernel
theorem dX7_init_0 : decode cX7_init 0 = .ok (.aload_n 0, 1) := by decide +kernel
theorem dX7_init_1 : decode cX7_init 1 = .ok (.invokespecial 3, 3) := by decide +kernel
theorem dX7_init_4 : decode cX7_init 4 = .ok (.aload_n 0, 1) := by decide +kernel
theorem dX7_init_5 : decode cX7_init 5 = .ok (.sipush 400, 3) := by decide +kernel
theorem dX7_init_8 : decode cX7_init 8 = .ok (.newarray .byte, 2) := by decide +kernel
theorem dX7_init_10 : decode cX7_init 10 = .ok (.putfield 9, 3) := by decide +kernel
theorem dX7_init_13 : decode cX7_init 13 = .ok (.return_, 1) := by decide +kernel
theorem dX7_putNumber_0 : decode cX7_putNumber 0 = .ok (.bipush 24, 2) := by decide +kernel
theorem dX7_putNumber_2 : decode cX7_putNumber 2 = .ok (.istore_n 2, 1) := by decide +kernel
theorem dX7_putNumber_3 : decode cX7_putNumber 3 = .ok (.iload_n 2, 1) := by decide +kernel
theorem dX7_putNumber_4 : decode cX7_putNumber 4 = .ok (.ifCond .lt 16, 3) := by decide +kernel
theorem dX7_putNumber_7 : decode cX7_putNumber 7 = .ok (.aload_n 0, 1) := by decide +kernel
theorem dX7_putNumber_8 : decode cX7_putNumber 8 = .ok (.iload_n 1, 1) := by decide +kernel
theorem dX7_putNumber_9 : decode cX7_putNumber 9 = .ok (.iload_n 2, 1) := by decide +kernel
theorem dX7_putNumber_10 : decode cX7_putNumber 10 = .ok (.iushr, 1) := by decide +kernel
theorem dX7_putNumber_11 : decode cX7_putNumber 11 = .ok (.invokevirtual 15, 3) := by decide +kernel
theorem dX7_putNumber_14 : decode cX7_putNumber 14 = .ok (.iinc 2 (-8), 3) := by decide +kernel
theorem dX7_putNumber_17 : decode cX7_putNumber 17 = .ok (.goto (-14), 3) := by decide +kernel
theorem dX7_putNumber_20 : decode cX7_putNumber 20 = .ok (.return_, 1) := by decide +kernel
theorem dX7_putByte_0 : decode cX7_putByte 0 = .ok (.aload_n 0, 1) := by decide +kernel
theorem dX7_putByte_1 : decode cX7_putByte 1 = .ok (.getfield 19, 3) := by decide +kernel
theorem dX7_putByte_4 : decode cX7_putByte 4 = .ok (.ifCond .lt 34, 3) := by decide +kernel
theorem dX7_putByte_7 : decode cX7_putByte 7 = .ok (.aload_n 0, 1) := by decide +kernel
theorem dX7_putByte_8 : decode cX7_putByte 8 = .ok (.getfield 19, 3) := by decide +kernel
theorem dX7_putByte_11 : decode cX7_putByte 11 = .ok (.sipush 400, 3) := by decide +kernel
theorem dX7_putByte_14 : decode cX7_putByte 14 = .ok (.if_icmp .ge 24, 3) := by decide +kernel
theorem dX7_putByte_17 : decode cX7_putByte 17 = .ok (.aload_n 0, 1) := by decide +kernel
theorem dX7_putByte_18 : decode cX7_putByte 18 = .ok (.getfield 9, 3) := by decide +kernel
theorem dX7_putByte_21 : decode cX7_putByte 21 = .ok (.aload_n 0, 1) := by decide +kernel
theorem dX7_putByte_22 : decode cX7_putByte 22 = .ok (.getfield 19, 3) := by decide +kernel
theorem dX7_putByte_25 : decode cX7_putByte 25 = .ok (.iload_n 1, 1) := by decide +kernel
theorem dX7_putByte_26 : decode cX7_putByte 26 = .ok (.i2b, 1) := by decide +kernel
theorem dX7_putByte_27 : decode cX7_putByte 27 = .ok (.bastore, 1) := by decide +kernel
theorem dX7_putByte_28 : decode cX7_putByte 28 = .ok (.aload_n 0, 1) := by decide +kernel
theorem dX7_putByte_29 : decode cX7_putByte 29 = .ok (.dup, 1) := by decide +kernel
theorem dX7_putByte_30 : decode cX7_putByte 30 = .ok (.getfield 19, 3) := by decide +kernel
theorem dX7_putByte_33 : decode cX7_putByte 33 = .ok (.iconst 1, 1) := by decide +kernel
theorem dX7_putByte_34 : decode cX7_putByte 34 = .ok (.iadd, 1) := by decide +kernel
theorem dX7_putByte_35 : decode cX7_putByte 35 = .ok (.putfield 19, 3) := by decide +kernel
theorem dX7_putByte_38 : decode cX7_putByte 38 = .ok (.return_, 1) := by decide +kernel
theorem dX7_byteAt_0 : decode cX7_byteAt 0 = .ok (.iload_n 1, 1) := by decide +kernel
theorem dX7_byteAt_1 : decode cX7_byteAt 1 = .ok (.ifCond .lt 31, 3) := by decide +kernel
theorem dX7_byteAt_4 : decode cX7_byteAt 4 = .ok (.iload_n 1, 1) := by decide +kernel
theorem dX7_byteAt_5 : decode cX7_byteAt 5 = .ok (.aload_n 0, 1) := by decide +kernel
theorem dX7_byteAt_6 : decode cX7_byteAt 6 = .ok (.getfield 19, 3) := by decide +kernel
theorem dX7_byteAt_9 : decode cX7_byteAt 9 = .ok (.if_icmp .ge 23, 3) := by decide +kernel
theorem dX7_byteAt_12 : decode cX7_byteAt 12 = .ok (.iload_n 1, 1) := by decide +kernel
theorem dX7_byteAt_13 : decode cX7_byteAt 13 = .ok (.sipush 400, 3) := by decide +kernel
theorem dX7_byteAt_16 : decode cX7_byteAt 16 = .ok (.if_icmp .ge 16, 3) := by decide +kernel
theorem dX7_byteAt_19 : decode cX7_byteAt 19 = .ok (.aload_n 0, 1) := by decide +kernel
theorem dX7_byteAt_20 : decode cX7_byteAt 20 = .ok (.getfield 9, 3) := by decide +kernel
theorem dX7_byteAt_23 : decode cX7_byteAt 23 = .ok (.iload_n 1, 1) := by decide +kernel
theorem dX7_byteAt_24 : decode cX7_byteAt 24 = .ok (.baload, 1) := by decide +kernel
theorem dX7_byteAt_25 : decode cX7_byteAt 25 = .ok (.sipush 255, 3) := by decide +kernel
theorem dX7_byteAt_28 : decode cX7_byteAt 28 = .ok (.iand, 1) := by decide +kernel
theorem dX7_byteAt_29 : decode cX7_byteAt 29 = .ok (.goto 4, 3) := by decide +kernel
theorem dX7_byteAt_32 : decode cX7_byteAt 32 = .ok (.iconst (-1), 1) := by decide +kernel
theorem dX7_byteAt_33 : decode cX7_byteAt 33 = .ok (.ireturn, 1) := by decide +kernel
theorem dX8_init_0 : decode cX8_init 0 = .ok (.aload_n 0, 1) := by decide +kernel
theorem dX8_init_1 : decode cX8_init 1 = .ok (.invokespecial 1, 3) := by decide +kernel
theorem dX8_init_4 : decode cX8_init 4 = .ok (.aload_n 0, 1) := by decide +kernel
theorem dX8_init_5 : decode cX8_init 5 = .ok (.new 7, 3) := by decide +kernel
theorem dX8_init_8 : decode cX8_init 8 = .ok (.dup, 1) := by decide +kernel
theorem dX8_init_9 : decode cX8_init 9 = .ok (.invokespecial 9, 3) := by decide +kernel
theorem dX8_init_12 : decode cX8_init 12 = .ok (.putfield 10, 3) := by decide +kernel
theorem dX8_init_15 : decode cX8_init 15 = .ok (.aload_n 0, 1) := by decide +kernel
theorem dX8_init_16 : decode cX8_init 16 = .ok (.bipush 11, 2) := by decide +kernel
theorem dX8_init_18 : decode cX8_init 18 = .ok (.newarray .int, 2) := by decide +kernel
theorem dX8_init_20 : decode cX8_init 20 = .ok (.dup, 1) := by decide +kernel
theorem dX8_init_21 : decode cX8_init 21 = .ok (.iconst 0, 1) := by decide +kernel
theorem dX8_init_22 : decode cX8_init 22 = .ok (.iconst 4, 1) := by decide +kernel
theorem dX8_init_23 : decode cX8_init 23 = .ok (.iastore, 1) := by decide +kernel
theorem dX8_init_24 : decode cX8_init 24 = .ok (.dup, 1) := by decide +kernel
theorem dX8_init_25 : decode cX8_init 25 = .ok (.iconst 1, 1) := by decide +kernel
theorem dX8_init_26 : decode cX8_init 26 = .ok (.bipush 12, 2) := by decide +kernel
theorem dX8_init_28 : decode cX8_init 28 = .ok (.iastore, 1) := by decide +kernel
theorem dX8_init_29 : decode cX8_init 29 = .ok (.dup, 1) := by decide +kernel
theorem dX8_init_30 : decode cX8_init 30 = .ok (.iconst 2, 1) := by decide +kernel
theorem dX8_init_31 : decode cX8_init 31 = .ok (.iconst 2, 1) := by decide +kernel
theorem dX8_init_32 : decode cX8_init 32 = .ok (.iastore, 1) := by decide +kernel
theorem dX8_init_33 : decode cX8_init 33 = .ok (.dup, 1) := by decide +kernel
theorem dX8_init_34 : decode cX8_init 34 = .ok (.iconst 3, 1) := by decide +kernel
theorem dX8_init_35 : decode cX8_init 35 = .ok (.bipush 10, 2) := by decide +kernel
theorem dX8_init_37 : decode cX8_init 37 = .ok (.iastore, 1) := by decide +kernel
theorem dX8_init_38 : decode cX8_init 38 = .ok (.dup, 1) := by decide +kernel
theorem dX8_init_39 : decode cX8_init 39 = .ok (.iconst 4, 1) := by decide +kernel
theorem dX8_init_40 : decode cX8_init 40 = .ok (.bipush 50, 2) := by decide +kernel
theorem dX8_init_42 : decode cX8_init 42 = .ok (.iastore, 1) := by decide +kernel
theorem dX8_init_43 : decode cX8_init 43 = .ok (.dup, 1) := by decide +kernel
theorem dX8_init_44 : decode cX8_init 44 = .ok (.iconst 5, 1) := by decide +kernel
theorem dX8_init_45 : decode cX8_init 45 = .ok (.iconst 2, 1) := by decide +kernel
theorem dX8_init_46 : decode cX8_init 46 = .ok (.iastore, 1) := by decide +kernel
theorem dX8_init_47 : decode cX8_init 47 = .ok (.dup, 1) := by decide +kernel
theorem dX8_init_48 : decode cX8_init 48 = .ok (.bipush 6, 2) := by decide +kernel
theorem dX8_init_50 : decode cX8_init 50 = .ok (.iconst 0, 1) := by decide +kernel
theorem dX8_init_51 : decode cX8_init 51 = .ok (.iastore, 1) := by decide +kernel
theorem dX8_init_52 : decode cX8_init 52 = .ok (.dup, 1) := by decide +kernel
theorem dX8_init_53 : decode cX8_init 53 = .ok (.bipush 7, 2) := by decide +kernel
theorem dX8_init_55 : decode cX8_init 55 = .ok (.bipush 10, 2) := by decide +kernel
theorem dX8_init_57 : decode cX8_init 57 = .ok (.iastore, 1) := by decide +kernel
theorem dX8_init_58 : decode cX8_init 58 = .ok (.dup, 1) := by decide +kernel
theorem dX8_init_59 : decode cX8_init 59 = .ok (.bipush 8, 2) := by decide +kernel
theorem dX8_init_61 : decode cX8_init 61 = .ok (.bipush 10, 2) := by decide +kernel
theorem dX8_init_63 : decode cX8_init 63 = .ok (.iastore, 1) := by decide +kernel
theorem dX8_init_64 : decode cX8_init 64 = .ok (.dup, 1) := by decide +kernel
theorem dX8_init_65 : decode cX8_init 65 = .ok (.bipush 9, 2) := by decide +kernel
theorem dX8_init_67 : decode cX8_init 67 = .ok (.bipush 10, 2) := by decide +kernel
theorem dX8_init_69 : decode cX8_init 69 = .ok (.iastore, 1) := by decide +kernel
theorem dX8_init_70 : decode cX8_init 70 = .ok (.dup, 1) := by decide +kernel
theorem dX8_init_71 : decode cX8_init 71 = .ok (.bipush 10, 2) := by decide +kernel
theorem dX8_init_73 : decode cX8_init 73 = .ok (.bipush 10, 2) := by decide +kernel
theorem dX8_init_75 : decode cX8_init 75 = .ok (.iastore, 1) := by decide +kernel
theorem dX8_init_76 : decode cX8_init 76 = .ok (.putfield 16, 3) := by decide +kernel
theorem dX8_init_79 : decode cX8_init 79 = .ok (.aload_n 0, 1) := by decide +kernel
theorem dX8_init_80 : decode cX8_init 80 = .ok (.new 20, 3) := by decide +kernel
theorem dX8_init_83 : decode cX8_init 83 = .ok (.dup, 1) := by decide +kernel
theorem dX8_init_84 : decode cX8_init 84 = .ok (.aload_n 0, 1) := by decide +kernel
theorem dX8_init_85 : decode cX8_init 85 = .ok (.getfield 10, 3) := by decide +kernel
theorem dX8_init_88 : decode cX8_init 88 = .ok (.invokespecial 22, 3) := by decide +kernel
theorem dX8_init_91 : decode cX8_init 91 = .ok (.putfield 25, 3) := by decide +kernel
theorem dX8_init_94 : decode cX8_init 94 = .ok (.aload_n 0, 1) := by decide +kernel
theorem dX8_init_95 : decode cX8_init 95 = .ok (.new 29, 3) := by decide +kernel
theorem dX8_init_98 : decode cX8_init 98 = .ok (.dup, 1) := by decide +kernel
theorem dX8_init_99 : decode cX8_init 99 = .ok (.invokespecial 31, 3) := by decide +kernel
theorem dX8_init_102 : decode cX8_init 102 = .ok (.putfield 32, 3) := by decide +kernel
theorem dX8_init_105 : decode cX8_init 105 = .ok (.aload_n 0, 1) := by decide +kernel
theorem dX8_init_106 : decode cX8_init 106 = .ok (.new 36, 3) := by decide +kernel
theorem dX8_init_109 : decode cX8_init 109 = .ok (.dup, 1) := by decide +kernel
theorem dX8_init_110 : decode cX8_init 110 = .ok (.invokespecial 38, 3) := by decide +kernel
theorem dX8_init_113 : decode cX8_init 113 = .ok (.putfield 39, 3) := by decide +kernel
theorem dX8_init_116 : decode cX8_init 116 = .ok (.aload_n 0, 1) := by decide +kernel
theorem dX8_init_117 : decode cX8_init 117 = .ok (.new 43, 3) := by decide +kernel
theorem dX8_init_120 : decode cX8_init 120 = .ok (.dup, 1) := by decide +kernel
theorem dX8_init_121 : decode cX8_init 121 = .ok (.invokespecial 45, 3) := by decide +kernel
theorem dX8_init_124 : decode cX8_init 124 = .ok (.putfield 46, 3) := by decide +kernel
theorem dX8_init_127 : decode cX8_init 127 = .ok (.aload_n 0, 1) := by decide +kernel
theorem dX8_init_128 : decode cX8_init 128 = .ok (.new 50, 3) := by decide +kernel
theorem dX8_init_131 : decode cX8_init 131 = .ok (.dup, 1) := by decide +kernel
theorem dX8_init_132 : decode cX8_init 132 = .ok (.aload_n 0, 1) := by decide +kernel
theorem dX8_init_133 : decode cX8_init 133 = .ok (.getfield 16, 3) := by decide +kernel
theorem dX8_init_136 : decode cX8_init 136 = .ok (.aload_n 0, 1) := by decide +kernel
theorem dX8_init_137 : decode cX8_init 137 = .ok (.getfield 32, 3) := by decide +kernel
theorem dX8_init_140 : decode cX8_init 140 = .ok (.aload_n 0, 1) := by decide +kernel
theorem dX8_init_141 : decode cX8_init 141 = .ok (.getfield 39, 3) := by decide +kernel
theorem dX8_init_144 : decode cX8_init 144 = .ok (.aload_n 0, 1) := by decide +kernel
theorem dX8_init_145 : decode cX8_init 145 = .ok (.getfield 46, 3) := by decide +kernel
theorem dX8_init_148 : decode cX8_init 148 = .ok (.invokespecial 52, 3) := by decide +kernel
theorem dX8_init_151 : decode cX8_init 151 = .ok (.putfield 55, 3) := by decide +kernel
theorem dX8_init_154 : decode cX8_init 154 = .ok (.aload_n 0, 1) := by decide +kernel
theorem dX8_init_155 : decode cX8_init 155 = .ok (.new 59, 3) := by decide +kernel
theorem dX8_init_158 : decode cX8_init 158 = .ok (.dup, 1) := by decide +kernel
theorem dX8_init_159 : decode cX8_init 159 = .ok (.invokespecial 61, 3) := by decide +kernel
theorem dX8_init_162 : decode cX8_init 162 = .ok (.putfield 62, 3) := by decide +kernel
theorem dX8_init_165 : decode cX8_init 165 = .ok (.return_, 1) := by decide +kernel
theorem dX8_feed_0 : decode cX8_feed 0 = .ok (.aload_n 0, 1) := by decide +kernel
theorem dX8_feed_1 : decode cX8_feed 1 = .ok (.getfield 10, 3) := by decide +kernel
theorem dX8_feed_4 : decode cX8_feed 4 = .ok (.getfield 66, 3) := by decide +kernel
theorem dX8_feed_7 : decode cX8_feed 7 = .ok (.bipush 20, 2) := by decide +kernel
theorem dX8_feed_9 : decode cX8_feed 9 = .ok (.iadd, 1) := by decide +kernel
theorem dX8_feed_10 : decode cX8_feed 10 = .ok (.sipush 400, 3) := by decide +kernel
theorem dX8_feed_13 : decode cX8_feed 13 = .ok (.if_icmp .le 5, 3) := by decide +kernel
theorem dX8_feed_16 : decode cX8_feed 16 = .ok (.iconst (-1), 1) := by decide +kernel
theorem dX8_feed_17 : decode cX8_feed 17 = .ok (.ireturn, 1) := by decide +kernel
theorem dX8_feed_18 : decode cX8_feed 18 = .ok (.aload_n 0, 1) := by decide +kernel
theorem dX8_feed_19 : decode cX8_feed 19 = .ok (.getfield 10, 3) := by decide +kernel
theorem dX8_feed_22 : decode cX8_feed 22 = .ok (.iload_n 1, 1) := by decide +kernel
theorem dX8_feed_23 : decode cX8_feed 23 = .ok (.invokevirtual 70, 3) := by decide +kernel
theorem dX8_feed_26 : decode cX8_feed 26 = .ok (.aload_n 0, 1) := by decide +kernel
theorem dX8_feed_27 : decode cX8_feed 27 = .ok (.getfield 10, 3) := by decide +kernel
theorem dX8_feed_30 : decode cX8_feed 30 = .ok (.iload_n 2, 1) := by decide +kernel
theorem dX8_feed_31 : decode cX8_feed 31 = .ok (.invokevirtual 70, 3) := by decide +kernel
theorem dX8_feed_34 : decode cX8_feed 34 = .ok (.aload_n 0, 1) := by decide +kernel
theorem dX8_feed_35 : decode cX8_feed 35 = .ok (.getfield 10, 3) := by decide +kernel
theorem dX8_feed_38 : decode cX8_feed 38 = .ok (.iload_n 3, 1) := by decide +kernel
theorem dX8_feed_39 : decode cX8_feed 39 = .ok (.invokevirtual 70, 3) := by decide +kernel
theorem dX8_feed_42 : decode cX8_feed 42 = .ok (.aload_n 0, 1) := by decide +kernel
theorem dX8_feed_43 : decode cX8_feed 43 = .ok (.getfield 10, 3) := by decide +kernel
theorem dX8_feed_46 : decode cX8_feed 46 = .ok (.iload 4, 2) := by decide +kernel
theorem dX8_feed_48 : decode cX8_feed 48 = .ok (.invokevirtual 70, 3) := by decide +kernel
theorem dX8_feed_51 : decode cX8_feed 51 = .ok (.aload_n 0, 1) := by decide +kernel
theorem dX8_feed_52 : decode cX8_feed 52 = .ok (.getfield 10, 3) := by decide +kernel
theorem dX8_feed_55 : decode cX8_feed 55 = .ok (.iload 5, 2) := by decide +kernel
theorem dX8_feed_57 : decode cX8_feed 57 = .ok (.invokevirtual 70, 3) := by decide +kernel
theorem dX8_feed_60 : decode cX8_feed 60 = .ok (.aload_n 0, 1) := by decide +kernel
theorem dX8_feed_61 : decode cX8_feed 61 = .ok (.getfield 10, 3) := by decide +kernel
theorem dX8_feed_64 : decode cX8_feed 64 = .ok (.getfield 66, 3) := by decide +kernel
theorem dX8_feed_67 : decode cX8_feed 67 = .ok (.ireturn, 1) := by decide +kernel
theorem dX8_end_0 : decode cX8_end 0 = .ok (.iload_n 1, 1) := by decide +kernel
theorem dX8_end_1 : decode cX8_end 1 = .ok (.ifCond .lt 14, 3) := by decide +kernel
theorem dX8_end_4 : decode cX8_end 4 = .ok (.iload_n 1, 1) := by decide +kernel
theorem dX8_end_5 : decode cX8_end 5 = .ok (.aload_n 0, 1) := by decide +kernel
theorem dX8_end_6 : decode cX8_end 6 = .ok (.getfield 10, 3) := by decide +kernel
theorem dX8_end_9 : decode cX8_end 9 = .ok (.getfield 66, 3) := by decide +kernel
theorem dX8_end_12 : decode cX8_end 12 = .ok (.if_icmp .le 5, 3) := by decide +kernel
theorem dX8_end_15 : decode cX8_end 15 = .ok (.iconst 0, 1) := by decide +kernel
theorem dX8_end_16 : decode cX8_end 16 = .ok (.ireturn, 1) := by decide +kernel
theorem dX8_end_17 : decode cX8_end 17 = .ok (.aload_n 0, 1) := by decide +kernel
theorem dX8_end_18 : decode cX8_end 18 = .ok (.getfield 10, 3) := by decide +kernel
theorem dX8_end_21 : decode cX8_end 21 = .ok (.iload_n 1, 1) := by decide +kernel
theorem dX8_end_22 : decode cX8_end 22 = .ok (.putfield 66, 3) := by decide +kernel
theorem dX8_end_25 : decode cX8_end 25 = .ok (.iconst 1, 1) := by decide +kernel
theorem dX8_end_26 : decode cX8_end 26 = .ok (.ireturn, 1) := by decide +kernel
theorem dX8_man_0 : decode cX8_man 0 = .ok (.iload_n 1, 1) := by decide +kernel
theorem dX8_man_1 : decode cX8_man 1 = .ok (.iconst 1, 1) := by decide +kernel
theorem dX8_man_2 : decode cX8_man 2 = .ok (.if_icmp .lt 9, 3) := by decide +kernel
theorem dX8_man_5 : decode cX8_man 5 = .ok (.iload_n 1, 1) := by decide +kernel
theorem dX8_man_6 : decode cX8_man 6 = .ok (.bipush 15, 2) := by decide +kernel
theorem dX8_man_8 : decode cX8_man 8 = .ok (.if_icmp .le 13, 3) := by decide +kernel
theorem dX8_man_11 : decode cX8_man 11 = .ok (.new 74, 3) := by decide +kernel
theorem dX8_man_14 : decode cX8_man 14 = .ok (.dup, 1) := by decide +kernel
theorem dX8_man_15 : decode cX8_man 15 = .ok (.ldc 76, 2) := by decide +kernel
theorem dX8_man_17 : decode cX8_man 17 = .ok (.invokespecial 78, 3) := by decide +kernel
theorem dX8_man_20 : decode cX8_man 20 = .ok (.athrow, 1) := by decide +kernel
theorem dX8_man_21 : decode cX8_man 21 = .ok (.aload_n 0, 1) := by decide +kernel
theorem dX8_man_22 : decode cX8_man 22 = .ok (.getfield 32, 3) := by decide +kernel
theorem dX8_man_25 : decode cX8_man 25 = .ok (.getfield 81, 3) := by decide +kernel
theorem dX8_man_28 : decode cX8_man 28 = .ok (.bipush 24, 2) := by decide +kernel
theorem dX8_man_30 : decode cX8_man 30 = .ok (.if_icmp .lt 13, 3) := by decide +kernel
theorem dX8_man_33 : decode cX8_man 33 = .ok (.new 84, 3) := by decide +kernel
theorem dX8_man_36 : decode cX8_man 36 = .ok (.dup, 1) := by decide +kernel
theorem dX8_man_37 : decode cX8_man 37 = .ok (.ldc 86, 2) := by decide +kernel
theorem dX8_man_39 : decode cX8_man 39 = .ok (.invokespecial 88, 3) := by decide +kernel
theorem dX8_man_42 : decode cX8_man 42 = .ok (.athrow, 1) := by decide +kernel
theorem dX8_man_43 : decode cX8_man 43 = .ok (.aload_n 0, 1) := by decide +kernel
theorem dX8_man_44 : decode cX8_man 44 = .ok (.getfield 32, 3) := by decide +kernel
theorem dX8_man_47 : decode cX8_man 47 = .ok (.iload_n 1, 1) := by decide +kernel
theorem dX8_man_48 : decode cX8_man 48 = .ok (.invokevirtual 89, 3) := by decide +kernel
theorem dX8_man_51 : decode cX8_man 51 = .ok (.ireturn, 1) := by decide +kernel
theorem dX8_ship_0 : decode cX8_ship 0 = .ok (.aload_n 0, 1) := by decide +kernel
theorem dX8_ship_1 : decode cX8_ship 1 = .ok (.getfield 39, 3) := by decide +kernel
theorem dX8_ship_4 : decode cX8_ship 4 = .ok (.getfield 93, 3) := by decide +kernel
theorem dX8_ship_7 : decode cX8_ship 7 = .ok (.bipush 10, 2) := by decide +kernel
theorem dX8_ship_9 : decode cX8_ship 9 = .ok (.if_icmp .lt 13, 3) := by decide +kernel
theorem dX8_ship_12 : decode cX8_ship 12 = .ok (.new 84, 3) := by decide +kernel
theorem dX8_ship_15 : decode cX8_ship 15 = .ok (.dup, 1) := by decide +kernel
theorem dX8_ship_16 : decode cX8_ship 16 = .ok (.ldc 94, 2) := by decide +kernel
theorem dX8_ship_18 : decode cX8_ship 18 = .ok (.invokespecial 88, 3) := by decide +kernel
theorem dX8_ship_21 : decode cX8_ship 21 = .ok (.athrow, 1) := by decide +kernel
theorem dX8_ship_22 : decode cX8_ship 22 = .ok (.aload_n 0, 1) := by decide +kernel
theorem dX8_ship_23 : decode cX8_ship 23 = .ok (.getfield 39, 3) := by decide +kernel
theorem dX8_ship_26 : decode cX8_ship 26 = .ok (.aload_n 0, 1) := by decide +kernel
theorem dX8_ship_27 : decode cX8_ship 27 = .ok (.getfield 55, 3) := by decide +kernel
theorem dX8_ship_30 : decode cX8_ship 30 = .ok (.getfield 96, 3) := by decide +kernel
theorem dX8_ship_33 : decode cX8_ship 33 = .ok (.invokevirtual 99, 3) := by decide +kernel
theorem dX8_ship_36 : decode cX8_ship 36 = .ok (.ireturn, 1) := by decide +kernel
theorem dX8_hatch_0 : decode cX8_hatch 0 = .ok (.aload_n 0, 1) := by decide +kernel
theorem dX8_hatch_1 : decode cX8_hatch 1 = .ok (.getfield 39, 3) := by decide +kernel
theorem dX8_hatch_4 : decode cX8_hatch 4 = .ok (.iload_n 1, 1) := by decide +kernel
theorem dX8_hatch_5 : decode cX8_hatch 5 = .ok (.invokevirtual 100, 3) := by decide +kernel
theorem dX8_hatch_8 : decode cX8_hatch 8 = .ok (.ifCond .ne 13, 3) := by decide +kernel
theorem dX8_hatch_11 : decode cX8_hatch 11 = .ok (.new 104, 3) := by decide +kernel
theorem dX8_hatch_14 : decode cX8_hatch 14 = .ok (.dup, 1) := by decide +kernel
theorem dX8_hatch_15 : decode cX8_hatch 15 = .ok (.ldc 106, 2) := by decide +kernel
theorem dX8_hatch_17 : decode cX8_hatch 17 = .ok (.invokespecial 108, 3) := by decide +kernel
theorem dX8_hatch_20 : decode cX8_hatch 20 = .ok (.athrow, 1) := by decide +kernel
theorem dX8_hatch_21 : decode cX8_hatch 21 = .ok (.iload_n 2, 1) := by decide +kernel
theorem dX8_hatch_22 : decode cX8_hatch 22 = .ok (.ifCond .lt 19, 3) := by decide +kernel
theorem dX8_hatch_25 : decode cX8_hatch 25 = .ok (.iload_n 2, 1) := by decide +kernel
theorem dX8_hatch_26 : decode cX8_hatch 26 = .ok (.sipush 2000, 3) := by decide +kernel
theorem dX8_hatch_29 : decode cX8_hatch 29 = .ok (.if_icmp .gt 12, 3) := by decide +kernel
theorem dX8_hatch_32 : decode cX8_hatch 32 = .ok (.iload_n 3, 1) := by decide +kernel
theorem dX8_hatch_33 : decode cX8_hatch 33 = .ok (.ifCond .lt 8, 3) := by decide +kernel
theorem dX8_hatch_36 : decode cX8_hatch 36 = .ok (.iload_n 3, 1) := by decide +kernel
theorem dX8_hatch_37 : decode cX8_hatch 37 = .ok (.iconst 3, 1) := by decide +kernel
theorem dX8_hatch_38 : decode cX8_hatch 38 = .ok (.if_icmp .le 13, 3) := by decide +kernel
theorem dX8_hatch_41 : decode cX8_hatch 41 = .ok (.new 74, 3) := by decide +kernel
theorem dX8_hatch_44 : decode cX8_hatch 44 = .ok (.dup, 1) := by decide +kernel
theorem dX8_hatch_45 : decode cX8_hatch 45 = .ok (.ldc 109, 2) := by decide +kernel
theorem dX8_hatch_47 : decode cX8_hatch 47 = .ok (.invokespecial 78, 3) := by decide +kernel
theorem dX8_hatch_50 : decode cX8_hatch 50 = .ok (.athrow, 1) := by decide +kernel
theorem dX8_hatch_51 : decode cX8_hatch 51 = .ok (.aload_n 0, 1) := by decide +kernel
theorem dX8_hatch_52 : decode cX8_hatch 52 = .ok (.getfield 39, 3) := by decide +kernel
theorem dX8_hatch_55 : decode cX8_hatch 55 = .ok (.getfield 111, 3) := by decide +kernel
theorem dX8_hatch_58 : decode cX8_hatch 58 = .ok (.iload_n 1, 1) := by decide +kernel
theorem dX8_hatch_59 : decode cX8_hatch 59 = .ok (.iaload, 1) := by decide +kernel
theorem dX8_hatch_60 : decode cX8_hatch 60 = .ok (.iconst 4, 1) := by decide +kernel
theorem dX8_hatch_61 : decode cX8_hatch 61 = .ok (.if_icmp .lt 13, 3) := by decide +kernel
theorem dX8_hatch_64 : decode cX8_hatch 64 = .ok (.new 84, 3) := by decide +kernel
theorem dX8_hatch_67 : decode cX8_hatch 67 = .ok (.dup, 1) := by decide +kernel
theorem dX8_hatch_68 : decode cX8_hatch 68 = .ok (.ldc 114, 2) := by decide +kernel
theorem dX8_hatch_70 : decode cX8_hatch 70 = .ok (.invokespecial 88, 3) := by decide +kernel
theorem dX8_hatch_73 : decode cX8_hatch 73 = .ok (.athrow, 1) := by decide +kernel
theorem dX8_hatch_74 : decode cX8_hatch 74 = .ok (.aload_n 0, 1) := by decide +kernel
theorem dX8_hatch_75 : decode cX8_hatch 75 = .ok (.getfield 39, 3) := by decide +kernel
theorem dX8_hatch_78 : decode cX8_hatch 78 = .ok (.iload_n 1, 1) := by decide +kernel
theorem dX8_hatch_79 : decode cX8_hatch 79 = .ok (.iload_n 2, 1) := by decide +kernel
theorem dX8_hatch_80 : decode cX8_hatch 80 = .ok (.iload_n 3, 1) := by decide +kernel
theorem dX8_hatch_81 : decode cX8_hatch 81 = .ok (.iload 4, 2) := by decide +kernel
theorem dX8_hatch_83 : decode cX8_hatch 83 = .ok (.invokevirtual 116, 3) := by decide +kernel
theorem dX8_hatch_86 : decode cX8_hatch 86 = .ok (.ireturn, 1) := by decide +kernel
theorem dX8_agree_0 : decode cX8_agree 0 = .ok (.aload_n 0, 1) := by decide +kernel
theorem dX8_agree_1 : decode cX8_agree 1 = .ok (.getfield 25, 3) := by decide +kernel
theorem dX8_agree_4 : decode cX8_agree 4 = .ok (.aload_n 0, 1) := by decide +kernel
theorem dX8_agree_5 : decode cX8_agree 5 = .ok (.getfield 16, 3) := by decide +kernel
theorem dX8_agree_8 : decode cX8_agree 8 = .ok (.invokevirtual 120, 3) := by decide +kernel
theorem dX8_agree_11 : decode cX8_agree 11 = .ok (.istore_n 1, 1) := by decide +kernel
theorem dX8_agree_12 : decode cX8_agree 12 = .ok (.aload_n 0, 1) := by decide +kernel
theorem dX8_agree_13 : decode cX8_agree 13 = .ok (.getfield 10, 3) := by decide +kernel
theorem dX8_agree_16 : decode cX8_agree 16 = .ok (.iconst 0, 1) := by decide +kernel
theorem dX8_agree_17 : decode cX8_agree 17 = .ok (.putfield 66, 3) := by decide +kernel
theorem dX8_agree_20 : decode cX8_agree 20 = .ok (.iload_n 1, 1) := by decide +kernel
theorem dX8_agree_21 : decode cX8_agree 21 = .ok (.iconst (-1), 1) := by decide +kernel
theorem dX8_agree_22 : decode cX8_agree 22 = .ok (.if_icmp .ne 13, 3) := by decide +kernel
theorem dX8_agree_25 : decode cX8_agree 25 = .ok (.new 74, 3) := by decide +kernel
theorem dX8_agree_28 : decode cX8_agree 28 = .ok (.dup, 1) := by decide +kernel
theorem dX8_agree_29 : decode cX8_agree 29 = .ok (.ldc 124, 2) := by decide +kernel
theorem dX8_agree_31 : decode cX8_agree 31 = .ok (.invokespecial 78, 3) := by decide +kernel
theorem dX8_agree_34 : decode cX8_agree 34 = .ok (.athrow, 1) := by decide +kernel
theorem dX8_agree_35 : decode cX8_agree 35 = .ok (.aload_n 0, 1) := by decide +kernel
theorem dX8_agree_36 : decode cX8_agree 36 = .ok (.getfield 25, 3) := by decide +kernel
theorem dX8_agree_39 : decode cX8_agree 39 = .ok (.getfield 126, 3) := by decide +kernel
theorem dX8_agree_42 : decode cX8_agree 42 = .ok (.iconst 0, 1) := by decide +kernel
theorem dX8_agree_43 : decode cX8_agree 43 = .ok (.aload_n 0, 1) := by decide +kernel
theorem dX8_agree_44 : decode cX8_agree 44 = .ok (.getfield 16, 3) := by decide +kernel
theorem dX8_agree_47 : decode cX8_agree 47 = .ok (.iconst 0, 1) := by decide +kernel
theorem dX8_agree_48 : decode cX8_agree 48 = .ok (.bipush 11, 2) := by decide +kernel
theorem dX8_agree_50 : decode cX8_agree 50 = .ok (.invokestatic 129, 3) := by decide +kernel
theorem dX8_agree_53 : decode cX8_agree 53 = .ok (.iload_n 1, 1) := by decide +kernel
theorem dX8_agree_54 : decode cX8_agree 54 = .ok (.ireturn, 1) := by decide +kernel
theorem dX8_fault_0 : decode cX8_fault 0 = .ok (.aload_n 0, 1) := by decide +kernel
theorem dX8_fault_1 : decode cX8_fault 1 = .ok (.getfield 25, 3) := by decide +kernel
theorem dX8_fault_4 : decode cX8_fault 4 = .ok (.getfield 135, 3) := by decide +kernel
theorem dX8_fault_7 : decode cX8_fault 7 = .ok (.ireturn, 1) := by decide +kernel
theorem dX8_says_0 : decode cX8_says 0 = .ok (.iload_n 1, 1) := by decide +kernel
theorem dX8_says_1 : decode cX8_says 1 = .ok (.ifCond .lt 9, 3) := by decide +kernel
theorem dX8_says_4 : decode cX8_says 4 = .ok (.iload_n 1, 1) := by decide +kernel
theorem dX8_says_5 : decode cX8_says 5 = .ok (.bipush 11, 2) := by decide +kernel
theorem dX8_says_7 : decode cX8_says 7 = .ok (.if_icmp .lt 13, 3) := by decide +kernel
theorem dX8_says_10 : decode cX8_says 10 = .ok (.new 138, 3) := by decide +kernel
theorem dX8_says_13 : decode cX8_says 13 = .ok (.dup, 1) := by decide +kernel
theorem dX8_says_14 : decode cX8_says 14 = .ok (.ldc 140, 2) := by decide +kernel
theorem dX8_says_16 : decode cX8_says 16 = .ok (.invokespecial 142, 3) := by decide +kernel
theorem dX8_says_19 : decode cX8_says 19 = .ok (.athrow, 1) := by decide +kernel
theorem dX8_says_20 : decode cX8_says 20 = .ok (.aload_n 0, 1) := by decide +kernel
theorem dX8_says_21 : decode cX8_says 21 = .ok (.getfield 16, 3) := by decide +kernel
theorem dX8_says_24 : decode cX8_says 24 = .ok (.iload_n 1, 1) := by decide +kernel
theorem dX8_says_25 : decode cX8_says 25 = .ok (.iaload, 1) := by decide +kernel
theorem dX8_says_26 : decode cX8_says 26 = .ok (.ireturn, 1) := by decide +kernel
theorem dX8_call_0 : decode cX8_call 0 = .ok (.iload_n 1, 1) := by decide +kernel
theorem dX8_call_1 : decode cX8_call 1 = .ok (.ifCond .lt 9, 3) := by decide +kernel
theorem dX8_call_4 : decode cX8_call 4 = .ok (.iload_n 1, 1) := by decide +kernel
theorem dX8_call_5 : decode cX8_call 5 = .ok (.bipush 15, 2) := by decide +kernel
theorem dX8_call_7 : decode cX8_call 7 = .ok (.if_icmp .le 13, 3) := by decide +kernel
theorem dX8_call_10 : decode cX8_call 10 = .ok (.new 74, 3) := by decide +kernel
theorem dX8_call_13 : decode cX8_call 13 = .ok (.dup, 1) := by decide +kernel
theorem dX8_call_14 : decode cX8_call 14 = .ok (.ldc 143, 2) := by decide +kernel
theorem dX8_call_16 : decode cX8_call 16 = .ok (.invokespecial 78, 3) := by decide +kernel
theorem dX8_call_19 : decode cX8_call 19 = .ok (.athrow, 1) := by decide +kernel
theorem dX8_call_20 : decode cX8_call 20 = .ok (.aload_n 0, 1) := by decide +kernel
theorem dX8_call_21 : decode cX8_call 21 = .ok (.getfield 55, 3) := by decide +kernel
theorem dX8_call_24 : decode cX8_call 24 = .ok (.iload_n 1, 1) := by decide +kernel
theorem dX8_call_25 : decode cX8_call 25 = .ok (.iload_n 2, 1) := by decide +kernel
theorem dX8_call_26 : decode cX8_call 26 = .ok (.invokevirtual 145, 3) := by decide +kernel
theorem dX8_call_29 : decode cX8_call 29 = .ok (.ireturn, 1) := by decide +kernel
theorem dX8_look_0 : decode cX8_look 0 = .ok (.aload_n 0, 1) := by decide +kernel
theorem dX8_look_1 : decode cX8_look 1 = .ok (.getfield 32, 3) := by decide +kernel
theorem dX8_look_4 : decode cX8_look 4 = .ok (.iload_n 1, 1) := by decide +kernel
theorem dX8_look_5 : decode cX8_look 5 = .ok (.invokevirtual 149, 3) := by decide +kernel
theorem dX8_look_8 : decode cX8_look 8 = .ok (.ifCond .ne 13, 3) := by decide +kernel
theorem dX8_look_11 : decode cX8_look 11 = .ok (.new 104, 3) := by decide +kernel
theorem dX8_look_14 : decode cX8_look 14 = .ok (.dup, 1) := by decide +kernel
theorem dX8_look_15 : decode cX8_look 15 = .ok (.ldc 150, 2) := by decide +kernel
theorem dX8_look_17 : decode cX8_look 17 = .ok (.invokespecial 108, 3) := by decide +kernel
theorem dX8_look_20 : decode cX8_look 20 = .ok (.athrow, 1) := by decide +kernel
theorem dX8_look_21 : decode cX8_look 21 = .ok (.iload_n 2, 1) := by decide +kernel
theorem dX8_look_22 : decode cX8_look 22 = .ok (.tableswitch 112 0 5 #[38, 48, 58, 82, 92, 102], 38) := by decide +kernel
theorem dX8_look_60 : decode cX8_look 60 = .ok (.aload_n 0, 1) := by decide +kernel
theorem dX8_look_61 : decode cX8_look 61 = .ok (.getfield 32, 3) := by decide +kernel
theorem dX8_look_64 : decode cX8_look 64 = .ok (.getfield 152, 3) := by decide +kernel
theorem dX8_look_67 : decode cX8_look 67 = .ok (.iload_n 1, 1) := by decide +kernel
theorem dX8_look_68 : decode cX8_look 68 = .ok (.iaload, 1) := by decide +kernel
theorem dX8_look_69 : decode cX8_look 69 = .ok (.ireturn, 1) := by decide +kernel
theorem dX8_look_70 : decode cX8_look 70 = .ok (.aload_n 0, 1) := by decide +kernel
theorem dX8_look_71 : decode cX8_look 71 = .ok (.getfield 32, 3) := by decide +kernel
theorem dX8_look_74 : decode cX8_look 74 = .ok (.getfield 155, 3) := by decide +kernel
theorem dX8_look_77 : decode cX8_look 77 = .ok (.iload_n 1, 1) := by decide +kernel
theorem dX8_look_78 : decode cX8_look 78 = .ok (.iaload, 1) := by decide +kernel
theorem dX8_look_79 : decode cX8_look 79 = .ok (.ireturn, 1) := by decide +kernel
theorem dX8_look_80 : decode cX8_look 80 = .ok (.aload_n 0, 1) := by decide +kernel
theorem dX8_look_81 : decode cX8_look 81 = .ok (.getfield 32, 3) := by decide +kernel
theorem dX8_look_84 : decode cX8_look 84 = .ok (.iload_n 1, 1) := by decide +kernel
theorem dX8_look_85 : decode cX8_look 85 = .ok (.aload_n 0, 1) := by decide +kernel
theorem dX8_look_86 : decode cX8_look 86 = .ok (.getfield 55, 3) := by decide +kernel
theorem dX8_look_89 : decode cX8_look 89 = .ok (.getfield 96, 3) := by decide +kernel
theorem dX8_look_92 : decode cX8_look 92 = .ok (.invokevirtual 158, 3) := by decide +kernel
theorem dX8_look_95 : decode cX8_look 95 = .ok (.ifCond .eq 7, 3) := by decide +kernel
theorem dX8_look_98 : decode cX8_look 98 = .ok (.iconst 1, 1) := by decide +kernel
theorem dX8_look_99 : decode cX8_look 99 = .ok (.goto 4, 3) := by decide +kernel
theorem dX8_look_102 : decode cX8_look 102 = .ok (.iconst 0, 1) := by decide +kernel
theorem dX8_look_103 : decode cX8_look 103 = .ok (.ireturn, 1) := by decide +kernel
theorem dX8_look_104 : decode cX8_look 104 = .ok (.aload_n 0, 1) := by decide +kernel
theorem dX8_look_105 : decode cX8_look 105 = .ok (.getfield 32, 3) := by decide +kernel
theorem dX8_look_108 : decode cX8_look 108 = .ok (.getfield 162, 3) := by decide +kernel
theorem dX8_look_111 : decode cX8_look 111 = .ok (.iload_n 1, 1) := by decide +kernel
theorem dX8_look_112 : decode cX8_look 112 = .ok (.iaload, 1) := by decide +kernel
theorem dX8_look_113 : decode cX8_look 113 = .ok (.ireturn, 1) := by decide +kernel
theorem dX8_look_114 : decode cX8_look 114 = .ok (.aload_n 0, 1) := by decide +kernel
theorem dX8_look_115 : decode cX8_look 115 = .ok (.getfield 32, 3) := by decide +kernel
theorem dX8_look_118 : decode cX8_look 118 = .ok (.getfield 165, 3) := by decide +kernel
theorem dX8_look_121 : decode cX8_look 121 = .ok (.iload_n 1, 1) := by decide +kernel
theorem dX8_look_122 : decode cX8_look 122 = .ok (.iaload, 1) := by decide +kernel
theorem dX8_look_123 : decode cX8_look 123 = .ok (.ireturn, 1) := by decide +kernel
theorem dX8_look_124 : decode cX8_look 124 = .ok (.aload_n 0, 1) := by decide +kernel
theorem dX8_look_125 : decode cX8_look 125 = .ok (.getfield 32, 3) := by decide +kernel
theorem dX8_look_128 : decode cX8_look 128 = .ok (.getfield 168, 3) := by decide +kernel
theorem dX8_look_131 : decode cX8_look 131 = .ok (.iload_n 1, 1) := by decide +kernel
theorem dX8_look_132 : decode cX8_look 132 = .ok (.iaload, 1) := by decide +kernel
theorem dX8_look_133 : decode cX8_look 133 = .ok (.ireturn, 1) := by decide +kernel
theorem dX8_look_134 : decode cX8_look 134 = .ok (.new 138, 3) := by decide +kernel
theorem dX8_look_137 : decode cX8_look 137 = .ok (.dup, 1) := by decide +kernel
theorem dX8_look_138 : decode cX8_look 138 = .ok (.ldc 171, 2) := by decide +kernel
theorem dX8_look_140 : decode cX8_look 140 = .ok (.invokespecial 142, 3) := by decide +kernel
theorem dX8_look_143 : decode cX8_look 143 = .ok (.athrow, 1) := by decide +kernel
theorem dX8_tons_0 : decode cX8_tons 0 = .ok (.aload_n 0, 1) := by decide +kernel
theorem dX8_tons_1 : decode cX8_tons 1 = .ok (.getfield 39, 3) := by decide +kernel
theorem dX8_tons_4 : decode cX8_tons 4 = .ok (.iload_n 1, 1) := by decide +kernel
theorem dX8_tons_5 : decode cX8_tons 5 = .ok (.invokevirtual 100, 3) := by decide +kernel
theorem dX8_tons_8 : decode cX8_tons 8 = .ok (.ifCond .eq 20, 3) := by decide +kernel
theorem dX8_tons_11 : decode cX8_tons 11 = .ok (.iload_n 2, 1) := by decide +kernel
theorem dX8_tons_12 : decode cX8_tons 12 = .ok (.ifCond .lt 16, 3) := by decide +kernel
theorem dX8_tons_15 : decode cX8_tons 15 = .ok (.iload_n 2, 1) := by decide +kernel
theorem dX8_tons_16 : decode cX8_tons 16 = .ok (.aload_n 0, 1) := by decide +kernel
theorem dX8_tons_17 : decode cX8_tons 17 = .ok (.getfield 39, 3) := by decide +kernel
theorem dX8_tons_20 : decode cX8_tons 20 = .ok (.getfield 111, 3) := by decide +kernel
theorem dX8_tons_23 : decode cX8_tons 23 = .ok (.iload_n 1, 1) := by decide +kernel
theorem dX8_tons_24 : decode cX8_tons 24 = .ok (.iaload, 1) := by decide +kernel
theorem dX8_tons_25 : decode cX8_tons 25 = .ok (.if_icmp .lt 13, 3) := by decide +kernel
theorem dX8_tons_28 : decode cX8_tons 28 = .ok (.new 104, 3) := by decide +kernel
theorem dX8_tons_31 : decode cX8_tons 31 = .ok (.dup, 1) := by decide +kernel
theorem dX8_tons_32 : decode cX8_tons 32 = .ok (.ldc 173, 2) := by decide +kernel
theorem dX8_tons_34 : decode cX8_tons 34 = .ok (.invokespecial 108, 3) := by decide +kernel
theorem dX8_tons_37 : decode cX8_tons 37 = .ok (.athrow, 1) := by decide +kernel
theorem dX8_tons_38 : decode cX8_tons 38 = .ok (.aload_n 0, 1) := by decide +kernel
theorem dX8_tons_39 : decode cX8_tons 39 = .ok (.getfield 39, 3) := by decide +kernel
theorem dX8_tons_42 : decode cX8_tons 42 = .ok (.getfield 175, 3) := by decide +kernel
theorem dX8_tons_45 : decode cX8_tons 45 = .ok (.iload_n 1, 1) := by decide +kernel
theorem dX8_tons_46 : decode cX8_tons 46 = .ok (.iload_n 2, 1) := by decide +kernel
theorem dX8_tons_47 : decode cX8_tons 47 = .ok (.invokestatic 178, 3) := by decide +kernel
theorem dX8_tons_50 : decode cX8_tons 50 = .ok (.iaload, 1) := by decide +kernel
theorem dX8_tons_51 : decode cX8_tons 51 = .ok (.ireturn, 1) := by decide +kernel
theorem dX8_state_0 : decode cX8_state 0 = .ok (.aload_n 0, 1) := by decide +kernel
theorem dX8_state_1 : decode cX8_state 1 = .ok (.getfield 39, 3) := by decide +kernel
theorem dX8_state_4 : decode cX8_state 4 = .ok (.iload_n 1, 1) := by decide +kernel
theorem dX8_state_5 : decode cX8_state 5 = .ok (.invokevirtual 100, 3) := by decide +kernel
theorem dX8_state_8 : decode cX8_state 8 = .ok (.ifCond .ne 13, 3) := by decide +kernel
theorem dX8_state_11 : decode cX8_state 11 = .ok (.new 104, 3) := by decide +kernel
theorem dX8_state_14 : decode cX8_state 14 = .ok (.dup, 1) := by decide +kernel
theorem dX8_state_15 : decode cX8_state 15 = .ok (.ldc 106, 2) := by decide +kernel
theorem dX8_state_17 : decode cX8_state 17 = .ok (.invokespecial 108, 3) := by decide +kernel
theorem dX8_state_20 : decode cX8_state 20 = .ok (.athrow, 1) := by decide +kernel
theorem dX8_state_21 : decode cX8_state 21 = .ok (.iload_n 2, 1) := by decide +kernel
theorem dX8_state_22 : decode cX8_state 22 = .ok (.tableswitch 77 0 3 #[30, 40, 50, 67], 30) := by decide +kernel
theorem dX8_state_52 : decode cX8_state 52 = .ok (.aload_n 0, 1) := by decide +kernel
theorem dX8_state_53 : decode cX8_state 53 = .ok (.getfield 39, 3) := by decide +kernel
theorem dX8_state_56 : decode cX8_state 56 = .ok (.getfield 181, 3) := by decide +kernel
theorem dX8_state_59 : decode cX8_state 59 = .ok (.iload_n 1, 1) := by decide +kernel
theorem dX8_state_60 : decode cX8_state 60 = .ok (.iaload, 1) := by decide +kernel
theorem dX8_state_61 : decode cX8_state 61 = .ok (.ireturn, 1) := by decide +kernel
theorem dX8_state_62 : decode cX8_state 62 = .ok (.aload_n 0, 1) := by decide +kernel
theorem dX8_state_63 : decode cX8_state 63 = .ok (.getfield 39, 3) := by decide +kernel
theorem dX8_state_66 : decode cX8_state 66 = .ok (.getfield 111, 3) := by decide +kernel
theorem dX8_state_69 : decode cX8_state 69 = .ok (.iload_n 1, 1) := by decide +kernel
theorem dX8_state_70 : decode cX8_state 70 = .ok (.iaload, 1) := by decide +kernel
theorem dX8_state_71 : decode cX8_state 71 = .ok (.ireturn, 1) := by decide +kernel
theorem dX8_state_72 : decode cX8_state 72 = .ok (.aload_n 0, 1) := by decide +kernel
theorem dX8_state_73 : decode cX8_state 73 = .ok (.getfield 39, 3) := by decide +kernel
theorem dX8_state_76 : decode cX8_state 76 = .ok (.iload_n 1, 1) := by decide +kernel
theorem dX8_state_77 : decode cX8_state 77 = .ok (.invokevirtual 184, 3) := by decide +kernel
theorem dX8_state_80 : decode cX8_state 80 = .ok (.ifCond .eq 7, 3) := by decide +kernel
theorem dX8_state_83 : decode cX8_state 83 = .ok (.iconst 1, 1) := by decide +kernel
theorem dX8_state_84 : decode cX8_state 84 = .ok (.goto 4, 3) := by decide +kernel
theorem dX8_state_87 : decode cX8_state 87 = .ok (.iconst 0, 1) := by decide +kernel
theorem dX8_state_88 : decode cX8_state 88 = .ok (.ireturn, 1) := by decide +kernel
theorem dX8_state_89 : decode cX8_state 89 = .ok (.aload_n 0, 1) := by decide +kernel
theorem dX8_state_90 : decode cX8_state 90 = .ok (.getfield 39, 3) := by decide +kernel
theorem dX8_state_93 : decode cX8_state 93 = .ok (.getfield 187, 3) := by decide +kernel
theorem dX8_state_96 : decode cX8_state 96 = .ok (.iload_n 1, 1) := by decide +kernel
theorem dX8_state_97 : decode cX8_state 97 = .ok (.iaload, 1) := by decide +kernel
theorem dX8_state_98 : decode cX8_state 98 = .ok (.ireturn, 1) := by decide +kernel
theorem dX8_state_99 : decode cX8_state 99 = .ok (.new 138, 3) := by decide +kernel
theorem dX8_state_102 : decode cX8_state 102 = .ok (.dup, 1) := by decide +kernel
theorem dX8_state_103 : decode cX8_state 103 = .ok (.ldc 190, 2) := by decide +kernel
theorem dX8_state_105 : decode cX8_state 105 = .ok (.invokespecial 142, 3) := by decide +kernel
theorem dX8_state_108 : decode cX8_state 108 = .ok (.athrow, 1) := by decide +kernel
theorem dX8_entry_0 : decode cX8_entry 0 = .ok (.aload_n 0, 1) := by decide +kernel
theorem dX8_entry_1 : decode cX8_entry 1 = .ok (.getfield 46, 3) := by decide +kernel
theorem dX8_entry_4 : decode cX8_entry 4 = .ok (.iload_n 1, 1) := by decide +kernel
theorem dX8_entry_5 : decode cX8_entry 5 = .ok (.invokevirtual 192, 3) := by decide +kernel
theorem dX8_entry_8 : decode cX8_entry 8 = .ok (.ifCond .ne 13, 3) := by decide +kernel
theorem dX8_entry_11 : decode cX8_entry 11 = .ok (.new 104, 3) := by decide +kernel
theorem dX8_entry_14 : decode cX8_entry 14 = .ok (.dup, 1) := by decide +kernel
theorem dX8_entry_15 : decode cX8_entry 15 = .ok (.ldc 193, 2) := by decide +kernel
theorem dX8_entry_17 : decode cX8_entry 17 = .ok (.invokespecial 108, 3) := by decide +kernel
theorem dX8_entry_20 : decode cX8_entry 20 = .ok (.athrow, 1) := by decide +kernel
theorem dX8_entry_21 : decode cX8_entry 21 = .ok (.iload_n 2, 1) := by decide +kernel
theorem dX8_entry_22 : decode cX8_entry 22 = .ok (.tableswitch 76 0 3 #[30, 40, 50, 60], 30) := by decide +kernel
theorem dX8_entry_52 : decode cX8_entry 52 = .ok (.aload_n 0, 1) := by decide +kernel
theorem dX8_entry_53 : decode cX8_entry 53 = .ok (.getfield 46, 3) := by decide +kernel
theorem dX8_entry_56 : decode cX8_entry 56 = .ok (.getfield 195, 3) := by decide +kernel
theorem dX8_entry_59 : decode cX8_entry 59 = .ok (.iload_n 1, 1) := by decide +kernel
theorem dX8_entry_60 : decode cX8_entry 60 = .ok (.iaload, 1) := by decide +kernel
theorem dX8_entry_61 : decode cX8_entry 61 = .ok (.ireturn, 1) := by decide +kernel
theorem dX8_entry_62 : decode cX8_entry 62 = .ok (.aload_n 0, 1) := by decide +kernel
theorem dX8_entry_63 : decode cX8_entry 63 = .ok (.getfield 46, 3) := by decide +kernel
theorem dX8_entry_66 : decode cX8_entry 66 = .ok (.getfield 198, 3) := by decide +kernel
theorem dX8_entry_69 : decode cX8_entry 69 = .ok (.iload_n 1, 1) := by decide +kernel
theorem dX8_entry_70 : decode cX8_entry 70 = .ok (.iaload, 1) := by decide +kernel
theorem dX8_entry_71 : decode cX8_entry 71 = .ok (.ireturn, 1) := by decide +kernel
theorem dX8_entry_72 : decode cX8_entry 72 = .ok (.aload_n 0, 1) := by decide +kernel
theorem dX8_entry_73 : decode cX8_entry 73 = .ok (.getfield 46, 3) := by decide +kernel
theorem dX8_entry_76 : decode cX8_entry 76 = .ok (.getfield 201, 3) := by decide +kernel
theorem dX8_entry_79 : decode cX8_entry 79 = .ok (.iload_n 1, 1) := by decide +kernel
theorem dX8_entry_80 : decode cX8_entry 80 = .ok (.iaload, 1) := by decide +kernel
theorem dX8_entry_81 : decode cX8_entry 81 = .ok (.ireturn, 1) := by decide +kernel
theorem dX8_entry_82 : decode cX8_entry 82 = .ok (.aload_n 0, 1) := by decide +kernel
theorem dX8_entry_83 : decode cX8_entry 83 = .ok (.getfield 46, 3) := by decide +kernel
theorem dX8_entry_86 : decode cX8_entry 86 = .ok (.iload_n 1, 1) := by decide +kernel
theorem dX8_entry_87 : decode cX8_entry 87 = .ok (.aload_n 0, 1) := by decide +kernel
theorem dX8_entry_88 : decode cX8_entry 88 = .ok (.getfield 55, 3) := by decide +kernel
theorem dX8_entry_91 : decode cX8_entry 91 = .ok (.getfield 96, 3) := by decide +kernel
theorem dX8_entry_94 : decode cX8_entry 94 = .ok (.invokevirtual 204, 3) := by decide +kernel
theorem dX8_entry_97 : decode cX8_entry 97 = .ok (.ireturn, 1) := by decide +kernel
theorem dX8_entry_98 : decode cX8_entry 98 = .ok (.new 138, 3) := by decide +kernel
theorem dX8_entry_101 : decode cX8_entry 101 = .ok (.dup, 1) := by decide +kernel
theorem dX8_entry_102 : decode cX8_entry 102 = .ok (.ldc 207, 2) := by decide +kernel
theorem dX8_entry_104 : decode cX8_entry 104 = .ok (.invokespecial 142, 3) := by decide +kernel
theorem dX8_entry_107 : decode cX8_entry 107 = .ok (.athrow, 1) := by decide +kernel
theorem dX8_rule_0 : decode cX8_rule 0 = .ok (.aload_n 0, 1) := by decide +kernel
theorem dX8_rule_1 : decode cX8_rule 1 = .ok (.getfield 46, 3) := by decide +kernel
theorem dX8_rule_4 : decode cX8_rule 4 = .ok (.iload_n 1, 1) := by decide +kernel
theorem dX8_rule_5 : decode cX8_rule 5 = .ok (.invokevirtual 192, 3) := by decide +kernel
theorem dX8_rule_8 : decode cX8_rule 8 = .ok (.ifCond .ne 13, 3) := by decide +kernel
theorem dX8_rule_11 : decode cX8_rule 11 = .ok (.new 104, 3) := by decide +kernel
theorem dX8_rule_14 : decode cX8_rule 14 = .ok (.dup, 1) := by decide +kernel
theorem dX8_rule_15 : decode cX8_rule 15 = .ok (.ldc 193, 2) := by decide +kernel
theorem dX8_rule_17 : decode cX8_rule 17 = .ok (.invokespecial 108, 3) := by decide +kernel
theorem dX8_rule_20 : decode cX8_rule 20 = .ok (.athrow, 1) := by decide +kernel
theorem dX8_rule_21 : decode cX8_rule 21 = .ok (.iload_n 2, 1) := by decide +kernel
theorem dX8_rule_22 : decode cX8_rule 22 = .ok (.ifCond .lt 9, 3) := by decide +kernel
theorem dX8_rule_25 : decode cX8_rule 25 = .ok (.iload_n 2, 1) := by decide +kernel
theorem dX8_rule_26 : decode cX8_rule 26 = .ok (.ldc 209, 2) := by decide +kernel
theorem dX8_rule_28 : decode cX8_rule 28 = .ok (.if_icmp .le 13, 3) := by decide +kernel
theorem dX8_rule_31 : decode cX8_rule 31 = .ok (.new 74, 3) := by decide +kernel
theorem dX8_rule_34 : decode cX8_rule 34 = .ok (.dup, 1) := by decide +kernel
theorem dX8_rule_35 : decode cX8_rule 35 = .ok (.ldc 210, 2) := by decide +kernel
theorem dX8_rule_37 : decode cX8_rule 37 = .ok (.invokespecial 78, 3) := by decide +kernel
theorem dX8_rule_40 : decode cX8_rule 40 = .ok (.athrow, 1) := by decide +kernel
theorem dX8_rule_41 : decode cX8_rule 41 = .ok (.aload_n 0, 1) := by decide +kernel
theorem dX8_rule_42 : decode cX8_rule 42 = .ok (.getfield 46, 3) := by decide +kernel
theorem dX8_rule_45 : decode cX8_rule 45 = .ok (.iload_n 1, 1) := by decide +kernel
theorem dX8_rule_46 : decode cX8_rule 46 = .ok (.iload_n 2, 1) := by decide +kernel
theorem dX8_rule_47 : decode cX8_rule 47 = .ok (.aload_n 0, 1) := by decide +kernel
theorem dX8_rule_48 : decode cX8_rule 48 = .ok (.getfield 55, 3) := by decide +kernel
theorem dX8_rule_51 : decode cX8_rule 51 = .ok (.getfield 96, 3) := by decide +kernel
theorem dX8_rule_54 : decode cX8_rule 54 = .ok (.invokevirtual 212, 3) := by decide +kernel
theorem dX8_rule_57 : decode cX8_rule 57 = .ok (.ireturn, 1) := by decide +kernel
theorem dX8_earned_0 : decode cX8_earned 0 = .ok (.aload_n 0, 1) := by decide +kernel
theorem dX8_earned_1 : decode cX8_earned 1 = .ok (.getfield 32, 3) := by decide +kernel
theorem dX8_earned_4 : decode cX8_earned 4 = .ok (.iload_n 1, 1) := by decide +kernel
theorem dX8_earned_5 : decode cX8_earned 5 = .ok (.invokevirtual 149, 3) := by decide +kernel
theorem dX8_earned_8 : decode cX8_earned 8 = .ok (.ifCond .ne 13, 3) := by decide +kernel
theorem dX8_earned_11 : decode cX8_earned 11 = .ok (.new 104, 3) := by decide +kernel
theorem dX8_earned_14 : decode cX8_earned 14 = .ok (.dup, 1) := by decide +kernel
theorem dX8_earned_15 : decode cX8_earned 15 = .ok (.ldc 150, 2) := by decide +kernel
theorem dX8_earned_17 : decode cX8_earned 17 = .ok (.invokespecial 108, 3) := by decide +kernel
theorem dX8_earned_20 : decode cX8_earned 20 = .ok (.athrow, 1) := by decide +kernel
theorem dX8_earned_21 : decode cX8_earned 21 = .ok (.aload_n 0, 1) := by decide +kernel
theorem dX8_earned_22 : decode cX8_earned 22 = .ok (.getfield 46, 3) := by decide +kernel
theorem dX8_earned_25 : decode cX8_earned 25 = .ok (.iload_n 1, 1) := by decide +kernel
theorem dX8_earned_26 : decode cX8_earned 26 = .ok (.iload_n 2, 1) := by decide +kernel
theorem dX8_earned_27 : decode cX8_earned 27 = .ok (.iload_n 3, 1) := by decide +kernel
theorem dX8_earned_28 : decode cX8_earned 28 = .ok (.invokevirtual 216, 3) := by decide +kernel
theorem dX8_earned_31 : decode cX8_earned 31 = .ok (.ireturn, 1) := by decide +kernel
theorem dX8_want_0 : decode cX8_want 0 = .ok (.iload_n 1, 1) := by decide +kernel
theorem dX8_want_1 : decode cX8_want 1 = .ok (.ifCond .lt 19, 3) := by decide +kernel
theorem dX8_want_4 : decode cX8_want 4 = .ok (.iload_n 1, 1) := by decide +kernel
theorem dX8_want_5 : decode cX8_want 5 = .ok (.bipush 8, 2) := by decide +kernel
theorem dX8_want_7 : decode cX8_want 7 = .ok (.if_icmp .gt 13, 3) := by decide +kernel
theorem dX8_want_10 : decode cX8_want 10 = .ok (.iload_n 2, 1) := by decide +kernel
theorem dX8_want_11 : decode cX8_want 11 = .ok (.iconst 1, 1) := by decide +kernel
theorem dX8_want_12 : decode cX8_want 12 = .ok (.if_icmp .lt 8, 3) := by decide +kernel
theorem dX8_want_15 : decode cX8_want 15 = .ok (.iload_n 2, 1) := by decide +kernel
theorem dX8_want_16 : decode cX8_want 16 = .ok (.iconst 4, 1) := by decide +kernel
theorem dX8_want_17 : decode cX8_want 17 = .ok (.if_icmp .le 13, 3) := by decide +kernel
theorem dX8_want_20 : decode cX8_want 20 = .ok (.new 74, 3) := by decide +kernel
theorem dX8_want_23 : decode cX8_want 23 = .ok (.dup, 1) := by decide +kernel
theorem dX8_want_24 : decode cX8_want 24 = .ok (.ldc 220, 2) := by decide +kernel
theorem dX8_want_26 : decode cX8_want 26 = .ok (.invokespecial 78, 3) := by decide +kernel
theorem dX8_want_29 : decode cX8_want 29 = .ok (.athrow, 1) := by decide +kernel
theorem dX8_want_30 : decode cX8_want 30 = .ok (.aload_n 0, 1) := by decide +kernel
theorem dX8_want_31 : decode cX8_want 31 = .ok (.getfield 62, 3) := by decide +kernel
theorem dX8_want_34 : decode cX8_want 34 = .ok (.iload_n 1, 1) := by decide +kernel
theorem dX8_want_35 : decode cX8_want 35 = .ok (.iload_n 2, 1) := by decide +kernel
theorem dX8_want_36 : decode cX8_want 36 = .ok (.invokevirtual 222, 3) := by decide +kernel
theorem dX8_want_39 : decode cX8_want 39 = .ok (.ireturn, 1) := by decide +kernel
theorem dX8_unwant_0 : decode cX8_unwant 0 = .ok (.aload_n 0, 1) := by decide +kernel
theorem dX8_unwant_1 : decode cX8_unwant 1 = .ok (.getfield 62, 3) := by decide +kernel
theorem dX8_unwant_4 : decode cX8_unwant 4 = .ok (.invokevirtual 224, 3) := by decide +kernel
theorem dX8_unwant_7 : decode cX8_unwant 7 = .ok (.ireturn, 1) := by decide +kernel
theorem dX8_plan_0 : decode cX8_plan 0 = .ok (.iload_n 1, 1) := by decide +kernel
theorem dX8_plan_1 : decode cX8_plan 1 = .ok (.iconst 1, 1) := by decide +kernel
theorem dX8_plan_2 : decode cX8_plan 2 = .ok (.if_icmp .lt 9, 3) := by decide +kernel
theorem dX8_plan_5 : decode cX8_plan 5 = .ok (.iload_n 1, 1) := by decide +kernel
theorem dX8_plan_6 : decode cX8_plan 6 = .ok (.bipush 8, 2) := by decide +kernel
theorem dX8_plan_8 : decode cX8_plan 8 = .ok (.if_icmp .le 13, 3) := by decide +kernel
theorem dX8_plan_11 : decode cX8_plan 11 = .ok (.new 74, 3) := by decide +kernel
theorem dX8_plan_14 : decode cX8_plan 14 = .ok (.dup, 1) := by decide +kernel
theorem dX8_plan_15 : decode cX8_plan 15 = .ok (.ldc 228, 2) := by decide +kernel
theorem dX8_plan_17 : decode cX8_plan 17 = .ok (.invokespecial 78, 3) := by decide +kernel
theorem dX8_plan_20 : decode cX8_plan 20 = .ok (.athrow, 1) := by decide +kernel
theorem dX8_plan_21 : decode cX8_plan 21 = .ok (.aload_n 0, 1) := by decide +kernel
theorem dX8_plan_22 : decode cX8_plan 22 = .ok (.getfield 62, 3) := by decide +kernel
theorem dX8_plan_25 : decode cX8_plan 25 = .ok (.iload_n 1, 1) := by decide +kernel
theorem dX8_plan_26 : decode cX8_plan 26 = .ok (.invokevirtual 230, 3) := by decide +kernel
theorem dX8_plan_29 : decode cX8_plan 29 = .ok (.ireturn, 1) := by decide +kernel
theorem dX8_count_0 : decode cX8_count 0 = .ok (.iload_n 1, 1) := by decide +kernel
theorem dX8_count_1 : decode cX8_count 1 = .ok (.tableswitch 135 0 9 #[55, 63, 71, 79, 87, 95, 103, 111, 119, 127], 55) := by decide +kernel
theorem dX8_count_56 : decode cX8_count 56 = .ok (.aload_n 0, 1) := by decide +kernel
theorem dX8_count_57 : decode cX8_count 57 = .ok (.getfield 32, 3) := by decide +kernel
theorem dX8_count_60 : decode cX8_count 60 = .ok (.getfield 81, 3) := by decide +kernel
theorem dX8_count_63 : decode cX8_count 63 = .ok (.ireturn, 1) := by decide +kernel
theorem dX8_count_64 : decode cX8_count 64 = .ok (.aload_n 0, 1) := by decide +kernel
theorem dX8_count_65 : decode cX8_count 65 = .ok (.getfield 39, 3) := by decide +kernel
theorem dX8_count_68 : decode cX8_count 68 = .ok (.getfield 93, 3) := by decide +kernel
theorem dX8_count_71 : decode cX8_count 71 = .ok (.ireturn, 1) := by decide +kernel
theorem dX8_count_72 : decode cX8_count 72 = .ok (.aload_n 0, 1) := by decide +kernel
theorem dX8_count_73 : decode cX8_count 73 = .ok (.getfield 55, 3) := by decide +kernel
theorem dX8_count_76 : decode cX8_count 76 = .ok (.getfield 96, 3) := by decide +kernel
theorem dX8_count_79 : decode cX8_count 79 = .ok (.ireturn, 1) := by decide +kernel
theorem dX8_count_80 : decode cX8_count 80 = .ok (.aload_n 0, 1) := by decide +kernel
theorem dX8_count_81 : decode cX8_count 81 = .ok (.getfield 46, 3) := by decide +kernel
theorem dX8_count_84 : decode cX8_count 84 = .ok (.getfield 233, 3) := by decide +kernel
theorem dX8_count_87 : decode cX8_count 87 = .ok (.ireturn, 1) := by decide +kernel
theorem dX8_count_88 : decode cX8_count 88 = .ok (.aload_n 0, 1) := by decide +kernel
theorem dX8_count_89 : decode cX8_count 89 = .ok (.getfield 39, 3) := by decide +kernel
theorem dX8_count_92 : decode cX8_count 92 = .ok (.invokevirtual 234, 3) := by decide +kernel
theorem dX8_count_95 : decode cX8_count 95 = .ok (.ireturn, 1) := by decide +kernel
theorem dX8_count_96 : decode cX8_count 96 = .ok (.aload_n 0, 1) := by decide +kernel
theorem dX8_count_97 : decode cX8_count 97 = .ok (.getfield 55, 3) := by decide +kernel
theorem dX8_count_100 : decode cX8_count 100 = .ok (.getfield 237, 3) := by decide +kernel
theorem dX8_count_103 : decode cX8_count 103 = .ok (.ireturn, 1) := by decide +kernel
theorem dX8_count_104 : decode cX8_count 104 = .ok (.aload_n 0, 1) := by decide +kernel
theorem dX8_count_105 : decode cX8_count 105 = .ok (.getfield 55, 3) := by decide +kernel
theorem dX8_count_108 : decode cX8_count 108 = .ok (.getfield 240, 3) := by decide +kernel
theorem dX8_count_111 : decode cX8_count 111 = .ok (.ireturn, 1) := by decide +kernel
theorem dX8_count_112 : decode cX8_count 112 = .ok (.aload_n 0, 1) := by decide +kernel
theorem dX8_count_113 : decode cX8_count 113 = .ok (.getfield 55, 3) := by decide +kernel
theorem dX8_count_116 : decode cX8_count 116 = .ok (.getfield 243, 3) := by decide +kernel
theorem dX8_count_119 : decode cX8_count 119 = .ok (.ireturn, 1) := by decide +kernel
theorem dX8_count_120 : decode cX8_count 120 = .ok (.aload_n 0, 1) := by decide +kernel
theorem dX8_count_121 : decode cX8_count 121 = .ok (.getfield 46, 3) := by decide +kernel
theorem dX8_count_124 : decode cX8_count 124 = .ok (.getfield 246, 3) := by decide +kernel
theorem dX8_count_127 : decode cX8_count 127 = .ok (.ireturn, 1) := by decide +kernel
theorem dX8_count_128 : decode cX8_count 128 = .ok (.aload_n 0, 1) := by decide +kernel
theorem dX8_count_129 : decode cX8_count 129 = .ok (.getfield 46, 3) := by decide +kernel
theorem dX8_count_132 : decode cX8_count 132 = .ok (.getfield 249, 3) := by decide +kernel
theorem dX8_count_135 : decode cX8_count 135 = .ok (.ireturn, 1) := by decide +kernel
theorem dX8_count_136 : decode cX8_count 136 = .ok (.iconst (-1), 1) := by decide +kernel
theorem dX8_count_137 : decode cX8_count 137 = .ok (.ireturn, 1) := by decide +kernel
theorem dX9_init_0 : decode cX9_init 0 = .ok (.aload_n 0, 1) := by decide +kernel
theorem dX9_init_1 : decode cX9_init 1 = .ok (.invokespecial 1, 3) := by decide +kernel
theorem dX9_init_4 : decode cX9_init 4 = .ok (.aload_n 0, 1) := by decide +kernel
theorem dX9_init_5 : decode cX9_init 5 = .ok (.bipush 24, 2) := by decide +kernel
theorem dX9_init_7 : decode cX9_init 7 = .ok (.newarray .int, 2) := by decide +kernel
theorem dX9_init_9 : decode cX9_init 9 = .ok (.putfield 9, 3) := by decide +kernel
theorem dX9_init_12 : decode cX9_init 12 = .ok (.aload_n 0, 1) := by decide +kernel
theorem dX9_init_13 : decode cX9_init 13 = .ok (.bipush 24, 2) := by decide +kernel
theorem dX9_init_15 : decode cX9_init 15 = .ok (.newarray .int, 2) := by decide +kernel
theorem dX9_init_17 : decode cX9_init 17 = .ok (.putfield 13, 3) := by decide +kernel
theorem dX9_init_20 : decode cX9_init 20 = .ok (.aload_n 0, 1) := by decide +kernel
theorem dX9_init_21 : decode cX9_init 21 = .ok (.bipush 24, 2) := by decide +kernel
theorem dX9_init_23 : decode cX9_init 23 = .ok (.newarray .int, 2) := by decide +kernel
theorem dX9_init_25 : decode cX9_init 25 = .ok (.putfield 16, 3) := by decide +kernel
theorem dX9_init_28 : decode cX9_init 28 = .ok (.aload_n 0, 1) := by decide +kernel
theorem dX9_init_29 : decode cX9_init 29 = .ok (.bipush 24, 2) := by decide +kernel
theorem dX9_init_31 : decode cX9_init 31 = .ok (.newarray .int, 2) := by decide +kernel
theorem dX9_init_33 : decode cX9_init 33 = .ok (.putfield 19, 3) := by decide +kernel
theorem dX9_init_36 : decode cX9_init 36 = .ok (.aload_n 0, 1) := by decide +kernel
theorem dX9_init_37 : decode cX9_init 37 = .ok (.bipush 24, 2) := by decide +kernel
theorem dX9_init_39 : decode cX9_init 39 = .ok (.newarray .int, 2) := by decide +kernel
theorem dX9_init_41 : decode cX9_init 41 = .ok (.putfield 22, 3) := by decide +kernel
theorem dX9_init_44 : decode cX9_init 44 = .ok (.aload_n 0, 1) := by decide +kernel
theorem dX9_init_45 : decode cX9_init 45 = .ok (.bipush 24, 2) := by decide +kernel
theorem dX9_init_47 : decode cX9_init 47 = .ok (.newarray .int, 2) := by decide +kernel
theorem dX9_init_49 : decode cX9_init 49 = .ok (.putfield 25, 3) := by decide +kernel
theorem dX9_init_52 : decode cX9_init 52 = .ok (.aload_n 0, 1) := by decide +kernel
theorem dX9_init_53 : decode cX9_init 53 = .ok (.bipush 10, 2) := by decide +kernel
theorem dX9_init_55 : decode cX9_init 55 = .ok (.newarray .int, 2) := by decide +kernel
theorem dX9_init_57 : decode cX9_init 57 = .ok (.putfield 28, 3) := by decide +kernel
theorem dX9_init_60 : decode cX9_init 60 = .ok (.aload_n 0, 1) := by decide +kernel
theorem dX9_init_61 : decode cX9_init 61 = .ok (.bipush 10, 2) := by decide +kernel
theorem dX9_init_63 : decode cX9_init 63 = .ok (.newarray .int, 2) := by decide +kernel
theorem dX9_init_65 : decode cX9_init 65 = .ok (.putfield 31, 3) := by decide +kernel
theorem dX9_init_68 : decode cX9_init 68 = .ok (.aload_n 0, 1) := by decide +kernel
theorem dX9_init_69 : decode cX9_init 69 = .ok (.bipush 10, 2) := by decide +kernel
theorem dX9_init_71 : decode cX9_init 71 = .ok (.newarray .int, 2) := by decide +kernel
theorem dX9_init_73 : decode cX9_init 73 = .ok (.putfield 34, 3) := by decide +kernel
theorem dX9_init_76 : decode cX9_init 76 = .ok (.aload_n 0, 1) := by decide +kernel
theorem dX9_init_77 : decode cX9_init 77 = .ok (.bipush 40, 2) := by decide +kernel
theorem dX9_init_79 : decode cX9_init 79 = .ok (.newarray .int, 2) := by decide +kernel
theorem dX9_init_81 : decode cX9_init 81 = .ok (.putfield 37, 3) := by decide +kernel
theorem dX9_init_84 : decode cX9_init 84 = .ok (.aload_n 0, 1) := by decide +kernel
theorem dX9_init_85 : decode cX9_init 85 = .ok (.bipush 40, 2) := by decide +kernel
theorem dX9_init_87 : decode cX9_init 87 = .ok (.newarray .int, 2) := by decide +kernel
theorem dX9_init_89 : decode cX9_init 89 = .ok (.putfield 40, 3) := by decide +kernel
theorem dX9_init_92 : decode cX9_init 92 = .ok (.aload_n 0, 1) := by decide +kernel
theorem dX9_init_93 : decode cX9_init 93 = .ok (.bipush 40, 2) := by decide +kernel
theorem dX9_init_95 : decode cX9_init 95 = .ok (.newarray .boolean, 2) := by decide +kernel
theorem dX9_init_97 : decode cX9_init 97 = .ok (.putfield 43, 3) := by decide +kernel
theorem dX9_init_100 : decode cX9_init 100 = .ok (.aload_n 0, 1) := by decide +kernel
theorem dX9_init_101 : decode cX9_init 101 = .ok (.bipush 11, 2) := by decide +kernel
theorem dX9_init_103 : decode cX9_init 103 = .ok (.newarray .int, 2) := by decide +kernel
theorem dX9_init_105 : decode cX9_init 105 = .ok (.dup, 1) := by decide +kernel
theorem dX9_init_106 : decode cX9_init 106 = .ok (.iconst 0, 1) := by decide +kernel
theorem dX9_init_107 : decode cX9_init 107 = .ok (.iconst 4, 1) := by decide +kernel
theorem dX9_init_108 : decode cX9_init 108 = .ok (.iastore, 1) := by decide +kernel
theorem dX9_init_109 : decode cX9_init 109 = .ok (.dup, 1) := by decide +kernel
theorem dX9_init_110 : decode cX9_init 110 = .ok (.iconst 1, 1) := by decide +kernel
theorem dX9_init_111 : decode cX9_init 111 = .ok (.bipush 12, 2) := by decide +kernel
theorem dX9_init_113 : decode cX9_init 113 = .ok (.iastore, 1) := by decide +kernel
theorem dX9_init_114 : decode cX9_init 114 = .ok (.dup, 1) := by decide +kernel
theorem dX9_init_115 : decode cX9_init 115 = .ok (.iconst 2, 1) := by decide +kernel
theorem dX9_init_116 : decode cX9_init 116 = .ok (.iconst 2, 1) := by decide +kernel
theorem dX9_init_117 : decode cX9_init 117 = .ok (.iastore, 1) := by decide +kernel
theorem dX9_init_118 : decode cX9_init 118 = .ok (.dup, 1) := by decide +kernel
theorem dX9_init_119 : decode cX9_init 119 = .ok (.iconst 3, 1) := by decide +kernel
theorem dX9_init_120 : decode cX9_init 120 = .ok (.bipush 10, 2) := by decide +kernel
theorem dX9_init_122 : decode cX9_init 122 = .ok (.iastore, 1) := by decide +kernel
theorem dX9_init_123 : decode cX9_init 123 = .ok (.dup, 1) := by decide +kernel
theorem dX9_init_124 : decode cX9_init 124 = .ok (.iconst 4, 1) := by decide +kernel
theorem dX9_init_125 : decode cX9_init 125 = .ok (.bipush 50, 2) := by decide +kernel
theorem dX9_init_127 : decode cX9_init 127 = .ok (.iastore, 1) := by decide +kernel
theorem dX9_init_128 : decode cX9_init 128 = .ok (.dup, 1) := by decide +kernel
theorem dX9_init_129 : decode cX9_init 129 = .ok (.iconst 5, 1) := by decide +kernel
theorem dX9_init_130 : decode cX9_init 130 = .ok (.iconst 2, 1) := by decide +kernel
theorem dX9_init_131 : decode cX9_init 131 = .ok (.iastore, 1) := by decide +kernel
theorem dX9_init_132 : decode cX9_init 132 = .ok (.dup, 1) := by decide +kernel
theorem dX9_init_133 : decode cX9_init 133 = .ok (.bipush 6, 2) := by decide +kernel
theorem dX9_init_135 : decode cX9_init 135 = .ok (.iconst 0, 1) := by decide +kernel
theorem dX9_init_136 : decode cX9_init 136 = .ok (.iastore, 1) := by decide +kernel
theorem dX9_init_137 : decode cX9_init 137 = .ok (.dup, 1) := by decide +kernel
theorem dX9_init_138 : decode cX9_init 138 = .ok (.bipush 7, 2) := by decide +kernel
theorem dX9_init_140 : decode cX9_init 140 = .ok (.bipush 10, 2) := by decide +kernel
theorem dX9_init_142 : decode cX9_init 142 = .ok (.iastore, 1) := by decide +kernel
theorem dX9_init_143 : decode cX9_init 143 = .ok (.dup, 1) := by decide +kernel
theorem dX9_init_144 : decode cX9_init 144 = .ok (.bipush 8, 2) := by decide +kernel
theorem dX9_init_146 : decode cX9_init 146 = .ok (.bipush 10, 2) := by decide +kernel
theorem dX9_init_148 : decode cX9_init 148 = .ok (.iastore, 1) := by decide +kernel
theorem dX9_init_149 : decode cX9_init 149 = .ok (.dup, 1) := by decide +kernel
theorem dX9_init_150 : decode cX9_init 150 = .ok (.bipush 9, 2) := by decide +kernel
theorem dX9_init_152 : decode cX9_init 152 = .ok (.bipush 10, 2) := by decide +kernel
theorem dX9_init_154 : decode cX9_init 154 = .ok (.iastore, 1) := by decide +kernel
theorem dX9_init_155 : decode cX9_init 155 = .ok (.dup, 1) := by decide +kernel
theorem dX9_init_156 : decode cX9_init 156 = .ok (.bipush 10, 2) := by decide +kernel
theorem dX9_init_158 : decode cX9_init 158 = .ok (.bipush 10, 2) := by decide +kernel
theorem dX9_init_160 : decode cX9_init 160 = .ok (.iastore, 1) := by decide +kernel
theorem dX9_init_161 : decode cX9_init 161 = .ok (.putfield 47, 3) := by decide +kernel
theorem dX9_init_164 : decode cX9_init 164 = .ok (.aload_n 0, 1) := by decide +kernel
theorem dX9_init_165 : decode cX9_init 165 = .ok (.bipush 11, 2) := by decide +kernel
theorem dX9_init_167 : decode cX9_init 167 = .ok (.newarray .int, 2) := by decide +kernel
theorem dX9_init_169 : decode cX9_init 169 = .ok (.putfield 50, 3) := by decide +kernel
theorem dX9_init_172 : decode cX9_init 172 = .ok (.aload_n 0, 1) := by decide +kernel
theorem dX9_init_173 : decode cX9_init 173 = .ok (.sipush 800, 3) := by decide +kernel
theorem dX9_init_176 : decode cX9_init 176 = .ok (.newarray .int, 2) := by decide +kernel
theorem dX9_init_178 : decode cX9_init 178 = .ok (.putfield 53, 3) := by decide +kernel
theorem dX9_init_181 : decode cX9_init 181 = .ok (.aload_n 0, 1) := by decide +kernel
theorem dX9_init_182 : decode cX9_init 182 = .ok (.sipush 800, 3) := by decide +kernel
theorem dX9_init_185 : decode cX9_init 185 = .ok (.newarray .int, 2) := by decide +kernel
theorem dX9_init_187 : decode cX9_init 187 = .ok (.putfield 56, 3) := by decide +kernel
theorem dX9_init_190 : decode cX9_init 190 = .ok (.aload_n 0, 1) := by decide +kernel
theorem dX9_init_191 : decode cX9_init 191 = .ok (.sipush 800, 3) := by decide +kernel
theorem dX9_init_194 : decode cX9_init 194 = .ok (.newarray .int, 2) := by decide +kernel
theorem dX9_init_196 : decode cX9_init 196 = .ok (.putfield 59, 3) := by decide +kernel
theorem dX9_init_199 : decode cX9_init 199 = .ok (.aload_n 0, 1) := by decide +kernel
theorem dX9_init_200 : decode cX9_init 200 = .ok (.bipush 100, 2) := by decide +kernel
theorem dX9_init_202 : decode cX9_init 202 = .ok (.newarray .int, 2) := by decide +kernel
theorem dX9_init_204 : decode cX9_init 204 = .ok (.putfield 62, 3) := by decide +kernel
theorem dX9_init_207 : decode cX9_init 207 = .ok (.aload_n 0, 1) := by decide +kernel
theorem dX9_init_208 : decode cX9_init 208 = .ok (.bipush 100, 2) := by decide +kernel
theorem dX9_init_210 : decode cX9_init 210 = .ok (.newarray .int, 2) := by decide +kernel
theorem dX9_init_212 : decode cX9_init 212 = .ok (.putfield 65, 3) := by decide +kernel
theorem dX9_init_215 : decode cX9_init 215 = .ok (.aload_n 0, 1) := by decide +kernel
theorem dX9_init_216 : decode cX9_init 216 = .ok (.bipush 100, 2) := by decide +kernel
theorem dX9_init_218 : decode cX9_init 218 = .ok (.newarray .int, 2) := by decide +kernel
theorem dX9_init_220 : decode cX9_init 220 = .ok (.putfield 68, 3) := by decide +kernel
theorem dX9_init_223 : decode cX9_init 223 = .ok (.aload_n 0, 1) := by decide +kernel
theorem dX9_init_224 : decode cX9_init 224 = .ok (.sipush 400, 3) := by decide +kernel
theorem dX9_init_227 : decode cX9_init 227 = .ok (.newarray .byte, 2) := by decide +kernel
theorem dX9_init_229 : decode cX9_init 229 = .ok (.putfield 71, 3) := by decide +kernel
theorem dX9_init_232 : decode cX9_init 232 = .ok (.aload_n 0, 1) := by decide +kernel
theorem dX9_init_233 : decode cX9_init 233 = .ok (.iconst 5, 1) := by decide +kernel
theorem dX9_init_234 : decode cX9_init 234 = .ok (.newarray .int, 2) := by decide +kernel
theorem dX9_init_236 : decode cX9_init 236 = .ok (.putfield 75, 3) := by decide +kernel
theorem dX9_init_239 : decode cX9_init 239 = .ok (.aload_n 0, 1) := by decide +kernel
theorem dX9_init_240 : decode cX9_init 240 = .ok (.iconst (-1), 1) := by decide +kernel
theorem dX9_init_241 : decode cX9_init 241 = .ok (.putfield 78, 3) := by decide +kernel
theorem dX9_init_244 : decode cX9_init 244 = .ok (.aload_n 0, 1) := by decide +kernel
theorem dX9_init_245 : decode cX9_init 245 = .ok (.bipush 10, 2) := by decide +kernel
theorem dX9_init_247 : decode cX9_init 247 = .ok (.newarray .boolean, 2) := by decide +kernel
theorem dX9_init_249 : decode cX9_init 249 = .ok (.putfield 82, 3) := by decide +kernel
theorem dX9_init_252 : decode cX9_init 252 = .ok (.aload_n 0, 1) := by decide +kernel
theorem dX9_init_253 : decode cX9_init 253 = .ok (.bipush 10, 2) := by decide +kernel
theorem dX9_init_255 : decode cX9_init 255 = .ok (.newarray .int, 2) := by decide +kernel
theorem dX9_init_257 : decode cX9_init 257 = .ok (.putfield 85, 3) := by decide +kernel
theorem dX9_init_260 : decode cX9_init 260 = .ok (.aload_n 0, 1) := by decide +kernel
theorem dX9_init_261 : decode cX9_init 261 = .ok (.bipush 24, 2) := by decide +kernel
theorem dX9_init_263 : decode cX9_init 263 = .ok (.newarray .boolean, 2) := by decide +kernel
theorem dX9_init_265 : decode cX9_init 265 = .ok (.putfield 88, 3) := by decide +kernel
theorem dX9_init_268 : decode cX9_init 268 = .ok (.aload_n 0, 1) := by decide +kernel
theorem dX9_init_269 : decode cX9_init 269 = .ok (.bipush 24, 2) := by decide +kernel
theorem dX9_init_271 : decode cX9_init 271 = .ok (.newarray .boolean, 2) := by decide +kernel
theorem dX9_init_273 : decode cX9_init 273 = .ok (.putfield 91, 3) := by decide +kernel
theorem dX9_init_276 : decode cX9_init 276 = .ok (.aload_n 0, 1) := by decide +kernel
theorem dX9_init_277 : decode cX9_init 277 = .ok (.bipush 8, 2) := by decide +kernel
theorem dX9_init_279 : decode cX9_init 279 = .ok (.newarray .int, 2) := by decide +kernel
theorem dX9_init_281 : decode cX9_init 281 = .ok (.putfield 94, 3) := by decide +kernel
theorem dX9_init_284 : decode cX9_init 284 = .ok (.aload_n 0, 1) := by decide +kernel
theorem dX9_init_285 : decode cX9_init 285 = .ok (.bipush 24, 2) := by decide +kernel
theorem dX9_init_287 : decode cX9_init 287 = .ok (.newarray .int, 2) := by decide +kernel
theorem dX9_init_289 : decode cX9_init 289 = .ok (.putfield 97, 3) := by decide +kernel
theorem dX9_init_292 : decode cX9_init 292 = .ok (.aload_n 0, 1) := by decide +kernel
theorem dX9_init_293 : decode cX9_init 293 = .ok (.iconst 4, 1) := by decide +kernel
theorem dX9_init_294 : decode cX9_init 294 = .ok (.newarray .int, 2) := by decide +kernel
theorem dX9_init_296 : decode cX9_init 296 = .ok (.putfield 100, 3) := by decide +kernel
theorem dX9_init_299 : decode cX9_init 299 = .ok (.aload_n 0, 1) := by decide +kernel
theorem dX9_init_300 : decode cX9_init 300 = .ok (.iconst 4, 1) := by decide +kernel
theorem dX9_init_301 : decode cX9_init 301 = .ok (.newarray .int, 2) := by decide +kernel
theorem dX9_init_303 : decode cX9_init 303 = .ok (.putfield 103, 3) := by decide +kernel
theorem dX9_init_306 : decode cX9_init 306 = .ok (.aload_n 0, 1) := by decide +kernel
theorem dX9_init_307 : decode cX9_init 307 = .ok (.sipush 6561, 3) := by decide +kernel
theorem dX9_init_310 : decode cX9_init 310 = .ok (.newarray .int, 2) := by decide +kernel
theorem dX9_init_312 : decode cX9_init 312 = .ok (.putfield 106, 3) := by decide +kernel
theorem dX9_init_315 : decode cX9_init 315 = .ok (.return_, 1) := by decide +kernel
theorem dX9_thrown_0 : decode cX9_thrown 0 = .ok (.aload_n 0, 1) := by decide +kernel
theorem dX9_thrown_1 : decode cX9_thrown 1 = .ok (.getfield 109, 3) := by decide +kernel
theorem dX9_thrown_4 : decode cX9_thrown 4 = .ok (.ireturn, 1) := by decide +kernel
theorem dX9_throwsIf_0 : decode cX9_throwsIf 0 = .ok (.iload_n 1, 1) := by decide +kernel
theorem dX9_throwsIf_1 : decode cX9_throwsIf 1 = .ok (.ifCond .eq 8, 3) := by decide +kernel
theorem dX9_throwsIf_4 : decode cX9_throwsIf 4 = .ok (.aload_n 0, 1) := by decide +kernel
theorem dX9_throwsIf_5 : decode cX9_throwsIf 5 = .ok (.iload_n 2, 1) := by decide +kernel
theorem dX9_throwsIf_6 : decode cX9_throwsIf 6 = .ok (.putfield 109, 3) := by decide +kernel
theorem dX9_throwsIf_9 : decode cX9_throwsIf 9 = .ok (.iload_n 1, 1) := by decide +kernel
theorem dX9_throwsIf_10 : decode cX9_throwsIf 10 = .ok (.ireturn, 1) := by decide +kernel
theorem dX9_in_0 : decode cX9_in 0 = .ok (.lload_n 0, 1) := by decide +kernel
theorem dX9_in_1 : decode cX9_in 1 = .ok (.lload_n 2, 1) := by decide +kernel
theorem dX9_in_2 : decode cX9_in 2 = .ok (.lcmp, 1) := by decide +kernel
theorem dX9_in_3 : decode cX9_in 3 = .ok (.ifCond .lt 14, 3) := by decide +kernel
theorem dX9_in_6 : decode cX9_in 6 = .ok (.lload_n 0, 1) := by decide +kernel
theorem dX9_in_7 : decode cX9_in 7 = .ok (.lload 4, 2) := by decide +kernel
theorem dX9_in_9 : decode cX9_in 9 = .ok (.lcmp, 1) := by decide +kernel
theorem dX9_in_10 : decode cX9_in 10 = .ok (.ifCond .gt 7, 3) := by decide +kernel
theorem dX9_in_13 : decode cX9_in 13 = .ok (.iconst 1, 1) := by decide +kernel
theorem dX9_in_14 : decode cX9_in 14 = .ok (.goto 4, 3) := by decide +kernel
theorem dX9_in_17 : decode cX9_in 17 = .ok (.iconst 0, 1) := by decide +kernel
theorem dX9_in_18 : decode cX9_in 18 = .ok (.ireturn, 1) := by decide +kernel
theorem dX9_noMan_0 : decode cX9_noMan 0 = .ok (.iload_n 1, 1) := by decide +kernel
theorem dX9_noMan_1 : decode cX9_noMan 1 = .ok (.i2l, 1) := by decide +kernel
theorem dX9_noMan_2 : decode cX9_noMan 2 = .ok (.lconst 0, 1) := by decide +kernel
theorem dX9_noMan_3 : decode cX9_noMan 3 = .ok (.aload_n 0, 1) := by decide +kernel
theorem dX9_noMan_4 : decode cX9_noMan 4 = .ok (.getfield 112, 3) := by decide +kernel
theorem dX9_noMan_7 : decode cX9_noMan 7 = .ok (.iconst 1, 1) := by decide +kernel
theorem dX9_noMan_8 : decode cX9_noMan 8 = .ok (.isub, 1) := by decide +kernel
theorem dX9_noMan_9 : decode cX9_noMan 9 = .ok (.i2l, 1) := by decide +kernel
theorem dX9_noMan_10 : decode cX9_noMan 10 = .ok (.invokestatic 115, 3) := by decide +kernel
theorem dX9_noMan_13 : decode cX9_noMan 13 = .ok (.ifCond .ne 7, 3) := by decide +kernel
theorem dX9_noMan_16 : decode cX9_noMan 16 = .ok (.iconst 1, 1) := by decide +kernel
theorem dX9_noMan_17 : decode cX9_noMan 17 = .ok (.goto 4, 3) := by decide +kernel
theorem dX9_noMan_20 : decode cX9_noMan 20 = .ok (.iconst 0, 1) := by decide +kernel
theorem dX9_noMan_21 : decode cX9_noMan 21 = .ok (.ireturn, 1) := by decide +kernel
theorem dX9_noShip_0 : decode cX9_noShip 0 = .ok (.iload_n 1, 1) := by decide +kernel
theorem dX9_noShip_1 : decode cX9_noShip 1 = .ok (.i2l, 1) := by decide +kernel
theorem dX9_noShip_2 : decode cX9_noShip 2 = .ok (.lconst 0, 1) := by decide +kernel
theorem dX9_noShip_3 : decode cX9_noShip 3 = .ok (.aload_n 0, 1) := by decide +kernel
theorem dX9_noShip_4 : decode cX9_noShip 4 = .ok (.getfield 119, 3) := by decide +kernel
theorem dX9_noShip_7 : decode cX9_noShip 7 = .ok (.iconst 1, 1) := by decide +kernel
theorem dX9_noShip_8 : decode cX9_noShip 8 = .ok (.isub, 1) := by decide +kernel
theorem dX9_noShip_9 : decode cX9_noShip 9 = .ok (.i2l, 1) := by decide +kernel
theorem dX9_noShip_10 : decode cX9_noShip 10 = .ok (.invokestatic 115, 3) := by decide +kernel
theorem dX9_noShip_13 : decode cX9_noShip 13 = .ok (.ifCond .ne 7, 3) := by decide +kernel
theorem dX9_noShip_16 : decode cX9_noShip 16 = .ok (.iconst 1, 1) := by decide +kernel
theorem dX9_noShip_17 : decode cX9_noShip 17 = .ok (.goto 4, 3) := by decide +kernel
theorem dX9_noShip_20 : decode cX9_noShip 20 = .ok (.iconst 0, 1) := by decide +kernel
theorem dX9_noShip_21 : decode cX9_noShip 21 = .ok (.ireturn, 1) := by decide +kernel
theorem dX9_tonsOf_0 : decode cX9_tonsOf 0 = .ok (.iconst 0, 1) := by decide +kernel
theorem dX9_tonsOf_1 : decode cX9_tonsOf 1 = .ok (.istore_n 2, 1) := by decide +kernel
theorem dX9_tonsOf_2 : decode cX9_tonsOf 2 = .ok (.iconst 0, 1) := by decide +kernel
theorem dX9_tonsOf_3 : decode cX9_tonsOf 3 = .ok (.istore_n 3, 1) := by decide +kernel
theorem dX9_tonsOf_4 : decode cX9_tonsOf 4 = .ok (.iload_n 3, 1) := by decide +kernel
theorem dX9_tonsOf_5 : decode cX9_tonsOf 5 = .ok (.aload_n 0, 1) := by decide +kernel
theorem dX9_tonsOf_6 : decode cX9_tonsOf 6 = .ok (.getfield 31, 3) := by decide +kernel
theorem dX9_tonsOf_9 : decode cX9_tonsOf 9 = .ok (.iload_n 1, 1) := by decide +kernel
theorem dX9_tonsOf_10 : decode cX9_tonsOf 10 = .ok (.iaload, 1) := by decide +kernel
theorem dX9_tonsOf_11 : decode cX9_tonsOf 11 = .ok (.if_icmp .ge 22, 3) := by decide +kernel
theorem dX9_tonsOf_14 : decode cX9_tonsOf 14 = .ok (.iload_n 2, 1) := by decide +kernel
theorem dX9_tonsOf_15 : decode cX9_tonsOf 15 = .ok (.aload_n 0, 1) := by decide +kernel
theorem dX9_tonsOf_16 : decode cX9_tonsOf 16 = .ok (.getfield 37, 3) := by decide +kernel
theorem dX9_tonsOf_19 : decode cX9_tonsOf 19 = .ok (.iconst 4, 1) := by decide +kernel
theorem dX9_tonsOf_20 : decode cX9_tonsOf 20 = .ok (.iload_n 1, 1) := by decide +kernel
theorem dX9_tonsOf_21 : decode cX9_tonsOf 21 = .ok (.imul, 1) := by decide +kernel
theorem dX9_tonsOf_22 : decode cX9_tonsOf 22 = .ok (.iload_n 3, 1) := by decide +kernel
theorem dX9_tonsOf_23 : decode cX9_tonsOf 23 = .ok (.iadd, 1) := by decide +kernel
theorem dX9_tonsOf_24 : decode cX9_tonsOf 24 = .ok (.iaload, 1) := by decide +kernel
theorem dX9_tonsOf_25 : decode cX9_tonsOf 25 = .ok (.iadd, 1) := by decide +kernel
theorem dX9_tonsOf_26 : decode cX9_tonsOf 26 = .ok (.istore_n 2, 1) := by decide +kernel
theorem dX9_tonsOf_27 : decode cX9_tonsOf 27 = .ok (.iinc 3 1, 3) := by decide +kernel
theorem dX9_tonsOf_30 : decode cX9_tonsOf 30 = .ok (.goto (-26), 3) := by decide +kernel
theorem dX9_tonsOf_33 : decode cX9_tonsOf 33 = .ok (.iload_n 2, 1) := by decide +kernel
theorem dX9_tonsOf_34 : decode cX9_tonsOf 34 = .ok (.ireturn, 1) := by decide +kernel
theorem dX9_man_0 : decode cX9_man 0 = .ok (.aload_n 0, 1) := by decide +kernel
theorem dX9_man_1 : decode cX9_man 1 = .ok (.iconst 0, 1) := by decide +kernel
theorem dX9_man_2 : decode cX9_man 2 = .ok (.putfield 109, 3) := by decide +kernel
theorem dX9_man_5 : decode cX9_man 5 = .ok (.aload_n 0, 1) := by decide +kernel
theorem dX9_man_6 : decode cX9_man 6 = .ok (.iload_n 1, 1) := by decide +kernel
theorem dX9_man_7 : decode cX9_man 7 = .ok (.i2l, 1) := by decide +kernel
theorem dX9_man_8 : decode cX9_man 8 = .ok (.lconst 1, 1) := by decide +kernel
theorem dX9_man_9 : decode cX9_man 9 = .ok (.ldc2_w 122, 3) := by decide +kernel
theorem dX9_man_12 : decode cX9_man 12 = .ok (.invokestatic 115, 3) := by decide +kernel
theorem dX9_man_15 : decode cX9_man 15 = .ok (.ifCond .ne 7, 3) := by decide +kernel
theorem dX9_man_18 : decode cX9_man 18 = .ok (.iconst 1, 1) := by decide +kernel
theorem dX9_man_19 : decode cX9_man 19 = .ok (.goto 4, 3) := by decide +kernel
theorem dX9_man_22 : decode cX9_man 22 = .ok (.iconst 0, 1) := by decide +kernel
theorem dX9_man_23 : decode cX9_man 23 = .ok (.iconst 1, 1) := by decide +kernel
theorem dX9_man_24 : decode cX9_man 24 = .ok (.invokevirtual 124, 3) := by decide +kernel
theorem dX9_man_27 : decode cX9_man 27 = .ok (.ifCond .ne 25, 3) := by decide +kernel
theorem dX9_man_30 : decode cX9_man 30 = .ok (.aload_n 0, 1) := by decide +kernel
theorem dX9_man_31 : decode cX9_man 31 = .ok (.aload_n 0, 1) := by decide +kernel
theorem dX9_man_32 : decode cX9_man 32 = .ok (.getfield 112, 3) := by decide +kernel
theorem dX9_man_35 : decode cX9_man 35 = .ok (.bipush 24, 2) := by decide +kernel
theorem dX9_man_37 : decode cX9_man 37 = .ok (.if_icmp .ne 7, 3) := by decide +kernel
theorem dX9_man_40 : decode cX9_man 40 = .ok (.iconst 1, 1) := by decide +kernel
theorem dX9_man_41 : decode cX9_man 41 = .ok (.goto 4, 3) := by decide +kernel
theorem dX9_man_44 : decode cX9_man 44 = .ok (.iconst 0, 1) := by decide +kernel
theorem dX9_man_45 : decode cX9_man 45 = .ok (.iconst 2, 1) := by decide +kernel
theorem dX9_man_46 : decode cX9_man 46 = .ok (.invokevirtual 124, 3) := by decide +kernel
theorem dX9_man_49 : decode cX9_man 49 = .ok (.ifCond .eq 5, 3) := by decide +kernel
theorem dX9_man_52 : decode cX9_man 52 = .ok (.iconst 0, 1) := by decide +kernel
theorem dX9_man_53 : decode cX9_man 53 = .ok (.ireturn, 1) := by decide +kernel
theorem dX9_man_54 : decode cX9_man 54 = .ok (.aload_n 0, 1) := by decide +kernel
theorem dX9_man_55 : decode cX9_man 55 = .ok (.getfield 9, 3) := by decide +kernel
theorem dX9_man_58 : decode cX9_man 58 = .ok (.aload_n 0, 1) := by decide +kernel
theorem dX9_man_59 : decode cX9_man 59 = .ok (.getfield 112, 3) := by decide +kernel
theorem dX9_man_62 : decode cX9_man 62 = .ok (.iload_n 1, 1) := by decide +kernel
theorem dX9_man_63 : decode cX9_man 63 = .ok (.iastore, 1) := by decide +kernel
theorem dX9_man_64 : decode cX9_man 64 = .ok (.aload_n 0, 1) := by decide +kernel
theorem dX9_man_65 : decode cX9_man 65 = .ok (.getfield 16, 3) := by decide +kernel
theorem dX9_man_68 : decode cX9_man 68 = .ok (.aload_n 0, 1) := by decide +kernel
theorem dX9_man_69 : decode cX9_man 69 = .ok (.getfield 112, 3) := by decide +kernel
theorem dX9_man_72 : decode cX9_man 72 = .ok (.iconst (-1), 1) := by decide +kernel
theorem dX9_man_73 : decode cX9_man 73 = .ok (.iastore, 1) := by decide +kernel
theorem dX9_man_74 : decode cX9_man 74 = .ok (.aload_n 0, 1) := by decide +kernel
theorem dX9_man_75 : decode cX9_man 75 = .ok (.getfield 22, 3) := by decide +kernel
theorem dX9_man_78 : decode cX9_man 78 = .ok (.aload_n 0, 1) := by decide +kernel
theorem dX9_man_79 : decode cX9_man 79 = .ok (.getfield 112, 3) := by decide +kernel
theorem dX9_man_82 : decode cX9_man 82 = .ok (.iconst (-1), 1) := by decide +kernel
theorem dX9_man_83 : decode cX9_man 83 = .ok (.iastore, 1) := by decide +kernel
theorem dX9_man_84 : decode cX9_man 84 = .ok (.aload_n 0, 1) := by decide +kernel
theorem dX9_man_85 : decode cX9_man 85 = .ok (.getfield 25, 3) := by decide +kernel
theorem dX9_man_88 : decode cX9_man 88 = .ok (.aload_n 0, 1) := by decide +kernel
theorem dX9_man_89 : decode cX9_man 89 = .ok (.getfield 112, 3) := by decide +kernel
theorem dX9_man_92 : decode cX9_man 92 = .ok (.iconst (-1), 1) := by decide +kernel
theorem dX9_man_93 : decode cX9_man 93 = .ok (.iastore, 1) := by decide +kernel
theorem dX9_man_94 : decode cX9_man 94 = .ok (.aload_n 0, 1) := by decide +kernel
theorem dX9_man_95 : decode cX9_man 95 = .ok (.dup, 1) := by decide +kernel
theorem dX9_man_96 : decode cX9_man 96 = .ok (.getfield 112, 3) := by decide +kernel
theorem dX9_man_99 : decode cX9_man 99 = .ok (.iconst 1, 1) := by decide +kernel
theorem dX9_man_100 : decode cX9_man 100 = .ok (.iadd, 1) := by decide +kernel
theorem dX9_man_101 : decode cX9_man 101 = .ok (.putfield 112, 3) := by decide +kernel
theorem dX9_man_104 : decode cX9_man 104 = .ok (.aload_n 0, 1) := by decide +kernel
theorem dX9_man_105 : decode cX9_man 105 = .ok (.getfield 112, 3) := by decide +kernel
theorem dX9_man_108 : decode cX9_man 108 = .ok (.iconst 1, 1) := by decide +kernel
theorem dX9_man_109 : decode cX9_man 109 = .ok (.isub, 1) := by decide +kernel
theorem dX9_man_110 : decode cX9_man 110 = .ok (.ireturn, 1) := by decide +kernel
theorem dX9_ship_0 : decode cX9_ship 0 = .ok (.aload_n 0, 1) := by decide +kernel
theorem dX9_ship_1 : decode cX9_ship 1 = .ok (.iconst 0, 1) := by decide +kernel
theorem dX9_ship_2 : decode cX9_ship 2 = .ok (.putfield 109, 3) := by decide +kernel
theorem dX9_ship_5 : decode cX9_ship 5 = .ok (.aload_n 0, 1) := by decide +kernel
theorem dX9_ship_6 : decode cX9_ship 6 = .ok (.aload_n 0, 1) := by decide +kernel
theorem dX9_ship_7 : decode cX9_ship 7 = .ok (.getfield 119, 3) := by decide +kernel
theorem dX9_ship_10 : decode cX9_ship 10 = .ok (.bipush 10, 2) := by decide +kernel
theorem dX9_ship_12 : decode cX9_ship 12 = .ok (.if_icmp .ne 7, 3) := by decide +kernel
theorem dX9_ship_15 : decode cX9_ship 15 = .ok (.iconst 1, 1) := by decide +kernel
theorem dX9_ship_16 : decode cX9_ship 16 = .ok (.goto 4, 3) := by decide +kernel
theorem dX9_ship_19 : decode cX9_ship 19 = .ok (.iconst 0, 1) := by decide +kernel
theorem dX9_ship_20 : decode cX9_ship 20 = .ok (.iconst 1, 1) := by decide +kernel
theorem dX9_ship_21 : decode cX9_ship 21 = .ok (.invokevirtual 124, 3) := by decide +kernel
theorem dX9_ship_24 : decode cX9_ship 24 = .ok (.ifCond .eq 5, 3) := by decide +kernel
theorem dX9_ship_27 : decode cX9_ship 27 = .ok (.iconst 0, 1) := by decide +kernel
theorem dX9_ship_28 : decode cX9_ship 28 = .ok (.ireturn, 1) := by decide +kernel
theorem dX9_ship_29 : decode cX9_ship 29 = .ok (.aload_n 0, 1) := by decide +kernel
theorem dX9_ship_30 : decode cX9_ship 30 = .ok (.getfield 28, 3) := by decide +kernel
theorem dX9_ship_33 : decode cX9_ship 33 = .ok (.aload_n 0, 1) := by decide +kernel
theorem dX9_ship_34 : decode cX9_ship 34 = .ok (.getfield 119, 3) := by decide +kernel
theorem dX9_ship_37 : decode cX9_ship 37 = .ok (.aload_n 0, 1) := by decide +kernel
theorem dX9_ship_38 : decode cX9_ship 38 = .ok (.getfield 128, 3) := by decide +kernel
theorem dX9_ship_41 : decode cX9_ship 41 = .ok (.iastore, 1) := by decide +kernel
theorem dX9_ship_42 : decode cX9_ship 42 = .ok (.aload_n 0, 1) := by decide +kernel
theorem dX9_ship_43 : decode cX9_ship 43 = .ok (.dup, 1) := by decide +kernel
theorem dX9_ship_44 : decode cX9_ship 44 = .ok (.getfield 119, 3) := by decide +kernel
theorem dX9_ship_47 : decode cX9_ship 47 = .ok (.iconst 1, 1) := by decide +kernel
theorem dX9_ship_48 : decode cX9_ship 48 = .ok (.iadd, 1) := by decide +kernel
theorem dX9_ship_49 : decode cX9_ship 49 = .ok (.putfield 119, 3) := by decide +kernel
theorem dX9_ship_52 : decode cX9_ship 52 = .ok (.aload_n 0, 1) := by decide +kernel
theorem dX9_ship_53 : decode cX9_ship 53 = .ok (.getfield 119, 3) := by decide +kernel
theorem dX9_ship_56 : decode cX9_ship 56 = .ok (.iconst 1, 1) := by decide +kernel
theorem dX9_ship_57 : decode cX9_ship 57 = .ok (.isub, 1) := by decide +kernel
theorem dX9_ship_58 : decode cX9_ship 58 = .ok (.ireturn, 1) := by decide +kernel
theorem dX9_hatch_0 : decode cX9_hatch 0 = .ok (.aload_n 0, 1) := by decide +kernel
theorem dX9_hatch_1 : decode cX9_hatch 1 = .ok (.iconst 0, 1) := by decide +kernel
theorem dX9_hatch_2 : decode cX9_hatch 2 = .ok (.putfield 109, 3) := by decide +kernel
theorem dX9_hatch_5 : decode cX9_hatch 5 = .ok (.aload_n 0, 1) := by decide +kernel
theorem dX9_hatch_6 : decode cX9_hatch 6 = .ok (.aload_n 0, 1) := by decide +kernel
theorem dX9_hatch_7 : decode cX9_hatch 7 = .ok (.iload_n 1, 1) := by decide +kernel
theorem dX9_hatch_8 : decode cX9_hatch 8 = .ok (.invokevirtual 131, 3) := by decide +kernel
theorem dX9_hatch_11 : decode cX9_hatch 11 = .ok (.iconst 1, 1) := by decide +kernel
theorem dX9_hatch_12 : decode cX9_hatch 12 = .ok (.invokevirtual 124, 3) := by decide +kernel
theorem dX9_hatch_15 : decode cX9_hatch 15 = .ok (.ifCond .ne 63, 3) := by decide +kernel
theorem dX9_hatch_18 : decode cX9_hatch 18 = .ok (.aload_n 0, 1) := by decide +kernel
theorem dX9_hatch_19 : decode cX9_hatch 19 = .ok (.iload_n 2, 1) := by decide +kernel
theorem dX9_hatch_20 : decode cX9_hatch 20 = .ok (.i2l, 1) := by decide +kernel
theorem dX9_hatch_21 : decode cX9_hatch 21 = .ok (.lconst 0, 1) := by decide +kernel
theorem dX9_hatch_22 : decode cX9_hatch 22 = .ok (.ldc2_w 135, 3) := by decide +kernel
theorem dX9_hatch_25 : decode cX9_hatch 25 = .ok (.invokestatic 115, 3) := by decide +kernel
theorem dX9_hatch_28 : decode cX9_hatch 28 = .ok (.ifCond .eq 15, 3) := by decide +kernel
theorem dX9_hatch_31 : decode cX9_hatch 31 = .ok (.iload_n 3, 1) := by decide +kernel
theorem dX9_hatch_32 : decode cX9_hatch 32 = .ok (.i2l, 1) := by decide +kernel
theorem dX9_hatch_33 : decode cX9_hatch 33 = .ok (.lconst 0, 1) := by decide +kernel
theorem dX9_hatch_34 : decode cX9_hatch 34 = .ok (.ldc2_w 137, 3) := by decide +kernel
theorem dX9_hatch_37 : decode cX9_hatch 37 = .ok (.invokestatic 115, 3) := by decide +kernel
theorem dX9_hatch_40 : decode cX9_hatch 40 = .ok (.ifCond .ne 7, 3) := by decide +kernel
theorem dX9_hatch_43 : decode cX9_hatch 43 = .ok (.iconst 1, 1) := by decide +kernel
theorem dX9_hatch_44 : decode cX9_hatch 44 = .ok (.goto 4, 3) := by decide +kernel
theorem dX9_hatch_47 : decode cX9_hatch 47 = .ok (.iconst 0, 1) := by decide +kernel
theorem dX9_hatch_48 : decode cX9_hatch 48 = .ok (.iconst 2, 1) := by decide +kernel
theorem dX9_hatch_49 : decode cX9_hatch 49 = .ok (.invokevirtual 124, 3) := by decide +kernel
theorem dX9_hatch_52 : decode cX9_hatch 52 = .ok (.ifCond .ne 26, 3) := by decide +kernel
theorem dX9_hatch_55 : decode cX9_hatch 55 = .ok (.aload_n 0, 1) := by decide +kernel
theorem dX9_hatch_56 : decode cX9_hatch 56 = .ok (.aload_n 0, 1) := by decide +kernel
theorem dX9_hatch_57 : decode cX9_hatch 57 = .ok (.getfield 31, 3) := by decide +kernel
theorem dX9_hatch_60 : decode cX9_hatch 60 = .ok (.iload_n 1, 1) := by decide +kernel
theorem dX9_hatch_61 : decode cX9_hatch 61 = .ok (.iaload, 1) := by decide +kernel
theorem dX9_hatch_62 : decode cX9_hatch 62 = .ok (.iconst 4, 1) := by decide +kernel
theorem dX9_hatch_63 : decode cX9_hatch 63 = .ok (.if_icmp .ne 7, 3) := by decide +kernel
theorem dX9_hatch_66 : decode cX9_hatch 66 = .ok (.iconst 1, 1) := by decide +kernel
theorem dX9_hatch_67 : decode cX9_hatch 67 = .ok (.goto 4, 3) := by decide +kernel
theorem dX9_hatch_70 : decode cX9_hatch 70 = .ok (.iconst 0, 1) := by decide +kernel
theorem dX9_hatch_71 : decode cX9_hatch 71 = .ok (.iconst 3, 1) := by decide +kernel
theorem dX9_hatch_72 : decode cX9_hatch 72 = .ok (.invokevirtual 124, 3) := by decide +kernel
theorem dX9_hatch_75 : decode cX9_hatch 75 = .ok (.ifCond .eq 5, 3) := by decide +kernel
theorem dX9_hatch_78 : decode cX9_hatch 78 = .ok (.iconst 0, 1) := by decide +kernel
theorem dX9_hatch_79 : decode cX9_hatch 79 = .ok (.ireturn, 1) := by decide +kernel
theorem dX9_hatch_80 : decode cX9_hatch 80 = .ok (.iconst 4, 1) := by decide +kernel
theorem dX9_hatch_81 : decode cX9_hatch 81 = .ok (.iload_n 1, 1) := by decide +kernel
theorem dX9_hatch_82 : decode cX9_hatch 82 = .ok (.imul, 1) := by decide +kernel
theorem dX9_hatch_83 : decode cX9_hatch 83 = .ok (.aload_n 0, 1) := by decide +kernel
theorem dX9_hatch_84 : decode cX9_hatch 84 = .ok (.getfield 31, 3) := by decide +kernel
theorem dX9_hatch_87 : decode cX9_hatch 87 = .ok (.iload_n 1, 1) := by decide +kernel
theorem dX9_hatch_88 : decode cX9_hatch 88 = .ok (.iaload, 1) := by decide +kernel
theorem dX9_hatch_89 : decode cX9_hatch 89 = .ok (.iadd, 1) := by decide +kernel
theorem dX9_hatch_90 : decode cX9_hatch 90 = .ok (.istore 5, 2) := by decide +kernel
theorem dX9_hatch_92 : decode cX9_hatch 92 = .ok (.aload_n 0, 1) := by decide +kernel
theorem dX9_hatch_93 : decode cX9_hatch 93 = .ok (.getfield 37, 3) := by decide +kernel
theorem dX9_hatch_96 : decode cX9_hatch 96 = .ok (.iload 5, 2) := by decide +kernel
theorem dX9_hatch_98 : decode cX9_hatch 98 = .ok (.iload_n 2, 1) := by decide +kernel
theorem dX9_hatch_99 : decode cX9_hatch 99 = .ok (.iastore, 1) := by decide +kernel
theorem dX9_hatch_100 : decode cX9_hatch 100 = .ok (.aload_n 0, 1) := by decide +kernel
theorem dX9_hatch_101 : decode cX9_hatch 101 = .ok (.getfield 40, 3) := by decide +kernel
theorem dX9_hatch_104 : decode cX9_hatch 104 = .ok (.iload 5, 2) := by decide +kernel
theorem dX9_hatch_106 : decode cX9_hatch 106 = .ok (.iload_n 3, 1) := by decide +kernel
theorem dX9_hatch_107 : decode cX9_hatch 107 = .ok (.iastore, 1) := by decide +kernel
theorem dX9_hatch_108 : decode cX9_hatch 108 = .ok (.aload_n 0, 1) := by decide +kernel
theorem dX9_hatch_109 : decode cX9_hatch 109 = .ok (.getfield 43, 3) := by decide +kernel
theorem dX9_hatch_112 : decode cX9_hatch 112 = .ok (.iload 5, 2) := by decide +kernel
theorem dX9_hatch_114 : decode cX9_hatch 114 = .ok (.iload 4, 2) := by decide +kernel
theorem dX9_hatch_116 : decode cX9_hatch 116 = .ok (.bastore, 1) := by decide +kernel
theorem dX9_hatch_117 : decode cX9_hatch 117 = .ok (.aload_n 0, 1) := by decide +kernel
theorem dX9_hatch_118 : decode cX9_hatch 118 = .ok (.getfield 31, 3) := by decide +kernel
theorem dX9_hatch_121 : decode cX9_hatch 121 = .ok (.iload_n 1, 1) := by decide +kernel
theorem dX9_hatch_122 : decode cX9_hatch 122 = .ok (.dup2, 1) := by decide +kernel
theorem dX9_hatch_123 : decode cX9_hatch 123 = .ok (.iaload, 1) := by decide +kernel
theorem dX9_hatch_124 : decode cX9_hatch 124 = .ok (.iconst 1, 1) := by decide +kernel
theorem dX9_hatch_125 : decode cX9_hatch 125 = .ok (.iadd, 1) := by decide +kernel
theorem dX9_hatch_126 : decode cX9_hatch 126 = .ok (.iastore, 1) := by decide +kernel
theorem dX9_hatch_127 : decode cX9_hatch 127 = .ok (.aload_n 0, 1) := by decide +kernel
theorem dX9_hatch_128 : decode cX9_hatch 128 = .ok (.getfield 31, 3) := by decide +kernel
theorem dX9_hatch_131 : decode cX9_hatch 131 = .ok (.iload_n 1, 1) := by decide +kernel
theorem dX9_hatch_132 : decode cX9_hatch 132 = .ok (.iaload, 1) := by decide +kernel
theorem dX9_hatch_133 : decode cX9_hatch 133 = .ok (.iconst 1, 1) := by decide +kernel
theorem dX9_hatch_134 : decode cX9_hatch 134 = .ok (.isub, 1) := by decide +kernel
theorem dX9_hatch_135 : decode cX9_hatch 135 = .ok (.ireturn, 1) := by decide +kernel
theorem dX9_feed_0 : decode cX9_feed 0 = .ok (.aload_n 0, 1) := by decide +kernel
theorem dX9_feed_1 : decode cX9_feed 1 = .ok (.iconst 0, 1) := by decide +kernel
theorem dX9_feed_2 : decode cX9_feed 2 = .ok (.putfield 109, 3) := by decide +kernel
theorem dX9_feed_5 : decode cX9_feed 5 = .ok (.aload_n 0, 1) := by decide +kernel
theorem dX9_feed_6 : decode cX9_feed 6 = .ok (.getfield 139, 3) := by decide +kernel
theorem dX9_feed_9 : decode cX9_feed 9 = .ok (.bipush 20, 2) := by decide +kernel
theorem dX9_feed_11 : decode cX9_feed 11 = .ok (.iadd, 1) := by decide +kernel
theorem dX9_feed_12 : decode cX9_feed 12 = .ok (.sipush 400, 3) := by decide +kernel
theorem dX9_feed_15 : decode cX9_feed 15 = .ok (.if_icmp .le 5, 3) := by decide +kernel
theorem dX9_feed_18 : decode cX9_feed 18 = .ok (.iconst (-1), 1) := by decide +kernel
theorem dX9_feed_19 : decode cX9_feed 19 = .ok (.ireturn, 1) := by decide +kernel
theorem dX9_feed_20 : decode cX9_feed 20 = .ok (.aload_n 0, 1) := by decide +kernel
theorem dX9_feed_21 : decode cX9_feed 21 = .ok (.getfield 75, 3) := by decide +kernel
theorem dX9_feed_24 : decode cX9_feed 24 = .ok (.iconst 0, 1) := by decide +kernel
theorem dX9_feed_25 : decode cX9_feed 25 = .ok (.iload_n 1, 1) := by decide +kernel
theorem dX9_feed_26 : decode cX9_feed 26 = .ok (.iastore, 1) := by decide +kernel
theorem dX9_feed_27 : decode cX9_feed 27 = .ok (.aload_n 0, 1) := by decide +kernel
theorem dX9_feed_28 : decode cX9_feed 28 = .ok (.getfield 75, 3) := by decide +kernel
theorem dX9_feed_31 : decode cX9_feed 31 = .ok (.iconst 1, 1) := by decide +kernel
theorem dX9_feed_32 : decode cX9_feed 32 = .ok (.iload_n 2, 1) := by decide +kernel
theorem dX9_feed_33 : decode cX9_feed 33 = .ok (.iastore, 1) := by decide +kernel
theorem dX9_feed_34 : decode cX9_feed 34 = .ok (.aload_n 0, 1) := by decide +kernel
theorem dX9_feed_35 : decode cX9_feed 35 = .ok (.getfield 75, 3) := by decide +kernel
theorem dX9_feed_38 : decode cX9_feed 38 = .ok (.iconst 2, 1) := by decide +kernel
theorem dX9_feed_39 : decode cX9_feed 39 = .ok (.iload_n 3, 1) := by decide +kernel
theorem dX9_feed_40 : decode cX9_feed 40 = .ok (.iastore, 1) := by decide +kernel
theorem dX9_feed_41 : decode cX9_feed 41 = .ok (.aload_n 0, 1) := by decide +kernel
theorem dX9_feed_42 : decode cX9_feed 42 = .ok (.getfield 75, 3) := by decide +kernel
theorem dX9_feed_45 : decode cX9_feed 45 = .ok (.iconst 3, 1) := by decide +kernel
theorem dX9_feed_46 : decode cX9_feed 46 = .ok (.iload 4, 2) := by decide +kernel
theorem dX9_feed_48 : decode cX9_feed 48 = .ok (.iastore, 1) := by decide +kernel
theorem dX9_feed_49 : decode cX9_feed 49 = .ok (.aload_n 0, 1) := by decide +kernel
theorem dX9_feed_50 : decode cX9_feed 50 = .ok (.getfield 75, 3) := by decide +kernel
theorem dX9_feed_53 : decode cX9_feed 53 = .ok (.iconst 4, 1) := by decide +kernel
theorem dX9_feed_54 : decode cX9_feed 54 = .ok (.iload 5, 2) := by decide +kernel
theorem dX9_feed_56 : decode cX9_feed 56 = .ok (.iastore, 1) := by decide +kernel
theorem dX9_feed_57 : decode cX9_feed 57 = .ok (.iconst 0, 1) := by decide +kernel
theorem dX9_feed_58 : decode cX9_feed 58 = .ok (.istore 6, 2) := by decide +kernel
theorem dX9_feed_60 : decode cX9_feed 60 = .ok (.iload 6, 2) := by decide +kernel
theorem dX9_feed_62 : decode cX9_feed 62 = .ok (.bipush 20, 2) := by decide +kernel
theorem dX9_feed_64 : decode cX9_feed 64 = .ok (.if_icmp .ge 42, 3) := by decide +kernel
theorem dX9_feed_67 : decode cX9_feed 67 = .ok (.aload_n 0, 1) := by decide +kernel
theorem dX9_feed_68 : decode cX9_feed 68 = .ok (.getfield 71, 3) := by decide +kernel
theorem dX9_feed_71 : decode cX9_feed 71 = .ok (.aload_n 0, 1) := by decide +kernel
theorem dX9_feed_72 : decode cX9_feed 72 = .ok (.getfield 139, 3) := by decide +kernel
theorem dX9_feed_75 : decode cX9_feed 75 = .ok (.iload 6, 2) := by decide +kernel
theorem dX9_feed_77 : decode cX9_feed 77 = .ok (.iadd, 1) := by decide +kernel
theorem dX9_feed_78 : decode cX9_feed 78 = .ok (.aload_n 0, 1) := by decide +kernel
theorem dX9_feed_79 : decode cX9_feed 79 = .ok (.getfield 75, 3) := by decide +kernel
theorem dX9_feed_82 : decode cX9_feed 82 = .ok (.iload 6, 2) := by decide +kernel
theorem dX9_feed_84 : decode cX9_feed 84 = .ok (.iconst 4, 1) := by decide +kernel
theorem dX9_feed_85 : decode cX9_feed 85 = .ok (.idiv, 1) := by decide +kernel
theorem dX9_feed_86 : decode cX9_feed 86 = .ok (.iaload, 1) := by decide +kernel
theorem dX9_feed_87 : decode cX9_feed 87 = .ok (.bipush 24, 2) := by decide +kernel
theorem dX9_feed_89 : decode cX9_feed 89 = .ok (.bipush 8, 2) := by decide +kernel
theorem dX9_feed_91 : decode cX9_feed 91 = .ok (.iload 6, 2) := by decide +kernel
theorem dX9_feed_93 : decode cX9_feed 93 = .ok (.iconst 4, 1) := by decide +kernel
theorem dX9_feed_94 : decode cX9_feed 94 = .ok (.irem, 1) := by decide +kernel
theorem dX9_feed_95 : decode cX9_feed 95 = .ok (.imul, 1) := by decide +kernel
theorem dX9_feed_96 : decode cX9_feed 96 = .ok (.isub, 1) := by decide +kernel
theorem dX9_feed_97 : decode cX9_feed 97 = .ok (.ishr, 1) := by decide +kernel
theorem dX9_feed_98 : decode cX9_feed 98 = .ok (.i2b, 1) := by decide +kernel
theorem dX9_feed_99 : decode cX9_feed 99 = .ok (.bastore, 1) := by decide +kernel
theorem dX9_feed_100 : decode cX9_feed 100 = .ok (.iinc 6 1, 3) := by decide +kernel
theorem dX9_feed_103 : decode cX9_feed 103 = .ok (.goto (-43), 3) := by decide +kernel
theorem dX9_feed_106 : decode cX9_feed 106 = .ok (.aload_n 0, 1) := by decide +kernel
theorem dX9_feed_107 : decode cX9_feed 107 = .ok (.dup, 1) := by decide +kernel
theorem dX9_feed_108 : decode cX9_feed 108 = .ok (.getfield 139, 3) := by decide +kernel
theorem dX9_feed_111 : decode cX9_feed 111 = .ok (.bipush 20, 2) := by decide +kernel
theorem dX9_feed_113 : decode cX9_feed 113 = .ok (.iadd, 1) := by decide +kernel
theorem dX9_feed_114 : decode cX9_feed 114 = .ok (.putfield 139, 3) := by decide +kernel
theorem dX9_feed_117 : decode cX9_feed 117 = .ok (.aload_n 0, 1) := by decide +kernel
theorem dX9_feed_118 : decode cX9_feed 118 = .ok (.getfield 139, 3) := by decide +kernel
theorem dX9_feed_121 : decode cX9_feed 121 = .ok (.ireturn, 1) := by decide +kernel
theorem dX9_end_0 : decode cX9_end 0 = .ok (.aload_n 0, 1) := by decide +kernel
theorem dX9_end_1 : decode cX9_end 1 = .ok (.iconst 0, 1) := by decide +kernel
theorem dX9_end_2 : decode cX9_end 2 = .ok (.putfield 109, 3) := by decide +kernel
theorem dX9_end_5 : decode cX9_end 5 = .ok (.iload_n 1, 1) := by decide +kernel
theorem dX9_end_6 : decode cX9_end 6 = .ok (.ifCond .lt 11, 3) := by decide +kernel
theorem dX9_end_9 : decode cX9_end 9 = .ok (.iload_n 1, 1) := by decide +kernel
theorem dX9_end_10 : decode cX9_end 10 = .ok (.aload_n 0, 1) := by decide +kernel
theorem dX9_end_11 : decode cX9_end 11 = .ok (.getfield 139, 3) := by decide +kernel
theorem dX9_end_14 : decode cX9_end 14 = .ok (.if_icmp .le 5, 3) := by decide +kernel
theorem dX9_end_17 : decode cX9_end 17 = .ok (.iconst 0, 1) := by decide +kernel
theorem dX9_end_18 : decode cX9_end 18 = .ok (.ireturn, 1) := by decide +kernel
theorem dX9_end_19 : decode cX9_end 19 = .ok (.aload_n 0, 1) := by decide +kernel
theorem dX9_end_20 : decode cX9_end 20 = .ok (.iload_n 1, 1) := by decide +kernel
theorem dX9_end_21 : decode cX9_end 21 = .ok (.putfield 139, 3) := by decide +kernel
theorem dX9_end_24 : decode cX9_end 24 = .ok (.iconst 1, 1) := by decide +kernel
theorem dX9_end_25 : decode cX9_end 25 = .ok (.ireturn, 1) := by decide +kernel
theorem dX9_isAt_0 : decode cX9_isAt 0 = .ok (.aload_n 0, 1) := by decide +kernel
theorem dX9_isAt_1 : decode cX9_isAt 1 = .ok (.getfield 142, 3) := by decide +kernel
theorem dX9_isAt_4 : decode cX9_isAt 4 = .ok (.aload_n 0, 1) := by decide +kernel
theorem dX9_isAt_5 : decode cX9_isAt 5 = .ok (.getfield 145, 3) := by decide +kernel
theorem dX9_isAt_8 : decode cX9_isAt 8 = .ok (.if_icmp .ge 33, 3) := by decide +kernel
theorem dX9_isAt_11 : decode cX9_isAt 11 = .ok (.aload_n 0, 1) := by decide +kernel
theorem dX9_isAt_12 : decode cX9_isAt 12 = .ok (.getfield 71, 3) := by decide +kernel
theorem dX9_isAt_15 : decode cX9_isAt 15 = .ok (.aload_n 0, 1) := by decide +kernel
theorem dX9_isAt_16 : decode cX9_isAt 16 = .ok (.getfield 142, 3) := by decide +kernel
theorem dX9_isAt_19 : decode cX9_isAt 19 = .ok (.baload, 1) := by decide +kernel
theorem dX9_isAt_20 : decode cX9_isAt 20 = .ok (.iload_n 1, 1) := by decide +kernel
theorem dX9_isAt_21 : decode cX9_isAt 21 = .ok (.if_icmp .lt 20, 3) := by decide +kernel
theorem dX9_isAt_24 : decode cX9_isAt 24 = .ok (.aload_n 0, 1) := by decide +kernel
theorem dX9_isAt_25 : decode cX9_isAt 25 = .ok (.getfield 71, 3) := by decide +kernel
theorem dX9_isAt_28 : decode cX9_isAt 28 = .ok (.aload_n 0, 1) := by decide +kernel
theorem dX9_isAt_29 : decode cX9_isAt 29 = .ok (.getfield 142, 3) := by decide +kernel
theorem dX9_isAt_32 : decode cX9_isAt 32 = .ok (.baload, 1) := by decide +kernel
theorem dX9_isAt_33 : decode cX9_isAt 33 = .ok (.iload_n 2, 1) := by decide +kernel
theorem dX9_isAt_34 : decode cX9_isAt 34 = .ok (.if_icmp .gt 7, 3) := by decide +kernel
theorem dX9_isAt_37 : decode cX9_isAt 37 = .ok (.iconst 1, 1) := by decide +kernel
theorem dX9_isAt_38 : decode cX9_isAt 38 = .ok (.goto 4, 3) := by decide +kernel
theorem dX9_isAt_41 : decode cX9_isAt 41 = .ok (.iconst 0, 1) := by decide +kernel
theorem dX9_isAt_42 : decode cX9_isAt 42 = .ok (.ireturn, 1) := by decide +kernel
theorem dX9_blanks_0 : decode cX9_blanks 0 = .ok (.aload_n 0, 1) := by decide +kernel
theorem dX9_blanks_1 : decode cX9_blanks 1 = .ok (.bipush 32, 2) := by decide +kernel
theorem dX9_blanks_3 : decode cX9_blanks 3 = .ok (.bipush 32, 2) := by decide +kernel
theorem dX9_blanks_5 : decode cX9_blanks 5 = .ok (.invokevirtual 148, 3) := by decide +kernel
theorem dX9_blanks_8 : decode cX9_blanks 8 = .ok (.ifCond .eq 16, 3) := by decide +kernel
theorem dX9_blanks_11 : decode cX9_blanks 11 = .ok (.aload_n 0, 1) := by decide +kernel
theorem dX9_blanks_12 : decode cX9_blanks 12 = .ok (.dup, 1) := by decide +kernel
theorem dX9_blanks_13 : decode cX9_blanks 13 = .ok (.getfield 142, 3) := by decide +kernel
theorem dX9_blanks_16 : decode cX9_blanks 16 = .ok (.iconst 1, 1) := by decide +kernel
theorem dX9_blanks_17 : decode cX9_blanks 17 = .ok (.iadd, 1) := by decide +kernel
theorem dX9_blanks_18 : decode cX9_blanks 18 = .ok (.putfield 142, 3) := by decide +kernel
theorem dX9_blanks_21 : decode cX9_blanks 21 = .ok (.goto (-21), 3) := by decide +kernel
theorem dX9_blanks_24 : decode cX9_blanks 24 = .ok (.aload_n 0, 1) := by decide +kernel
theorem dX9_blanks_25 : decode cX9_blanks 25 = .ok (.aload_n 0, 1) := by decide +kernel
theorem dX9_blanks_26 : decode cX9_blanks 26 = .ok (.getfield 142, 3) := by decide +kernel
theorem dX9_blanks_29 : decode cX9_blanks 29 = .ok (.putfield 152, 3) := by decide +kernel
theorem dX9_blanks_32 : decode cX9_blanks 32 = .ok (.return_, 1) := by decide +kernel
theorem dX9_isWord_0 : decode cX9_isWord 0 = .ok (.aload_n 0, 1) := by decide +kernel
theorem dX9_isWord_1 : decode cX9_isWord 1 = .ok (.getfield 142, 3) := by decide +kernel
theorem dX9_isWord_4 : decode cX9_isWord 4 = .ok (.aload_n 0, 1) := by decide +kernel
theorem dX9_isWord_5 : decode cX9_isWord 5 = .ok (.getfield 152, 3) := by decide +kernel
theorem dX9_isWord_8 : decode cX9_isWord 8 = .ok (.isub, 1) := by decide +kernel
theorem dX9_isWord_9 : decode cX9_isWord 9 = .ok (.aload_n 1, 1) := by decide +kernel
theorem dX9_isWord_10 : decode cX9_isWord 10 = .ok (.invokevirtual 155, 3) := by decide +kernel
theorem dX9_isWord_13 : decode cX9_isWord 13 = .ok (.if_icmp .ne 7, 3) := by decide +kernel
theorem dX9_isWord_16 : decode cX9_isWord 16 = .ok (.iconst 1, 1) := by decide +kernel
theorem dX9_isWord_17 : decode cX9_isWord 17 = .ok (.goto 4, 3) := by decide +kernel
theorem dX9_isWord_20 : decode cX9_isWord 20 = .ok (.iconst 0, 1) := by decide +kernel
theorem dX9_isWord_21 : decode cX9_isWord 21 = .ok (.istore_n 2, 1) := by decide +kernel
theorem dX9_isWord_22 : decode cX9_isWord 22 = .ok (.iconst 0, 1) := by decide +kernel
theorem dX9_isWord_23 : decode cX9_isWord 23 = .ok (.istore_n 3, 1) := by decide +kernel
theorem dX9_isWord_24 : decode cX9_isWord 24 = .ok (.iload_n 2, 1) := by decide +kernel
theorem dX9_isWord_25 : decode cX9_isWord 25 = .ok (.ifCond .eq 42, 3) := by decide +kernel
theorem dX9_isWord_28 : decode cX9_isWord 28 = .ok (.iload_n 3, 1) := by decide +kernel
theorem dX9_isWord_29 : decode cX9_isWord 29 = .ok (.aload_n 1, 1) := by decide +kernel
theorem dX9_isWord_30 : decode cX9_isWord 30 = .ok (.invokevirtual 155, 3) := by decide +kernel
theorem dX9_isWord_33 : decode cX9_isWord 33 = .ok (.if_icmp .ge 34, 3) := by decide +kernel
theorem dX9_isWord_36 : decode cX9_isWord 36 = .ok (.aload_n 0, 1) := by decide +kernel
theorem dX9_isWord_37 : decode cX9_isWord 37 = .ok (.getfield 71, 3) := by decide +kernel
theorem dX9_isWord_40 : decode cX9_isWord 40 = .ok (.aload_n 0, 1) := by decide +kernel
theorem dX9_isWord_41 : decode cX9_isWord 41 = .ok (.getfield 152, 3) := by decide +kernel
theorem dX9_isWord_44 : decode cX9_isWord 44 = .ok (.iload_n 3, 1) := by decide +kernel
theorem dX9_isWord_45 : decode cX9_isWord 45 = .ok (.iadd, 1) := by decide +kernel
theorem dX9_isWord_46 : decode cX9_isWord 46 = .ok (.baload, 1) := by decide +kernel
theorem dX9_isWord_47 : decode cX9_isWord 47 = .ok (.aload_n 1, 1) := by decide +kernel
theorem dX9_isWord_48 : decode cX9_isWord 48 = .ok (.iload_n 3, 1) := by decide +kernel
theorem dX9_isWord_49 : decode cX9_isWord 49 = .ok (.invokevirtual 161, 3) := by decide +kernel
theorem dX9_isWord_52 : decode cX9_isWord 52 = .ok (.if_icmp .ne 7, 3) := by decide +kernel
theorem dX9_isWord_55 : decode cX9_isWord 55 = .ok (.iconst 1, 1) := by decide +kernel
theorem dX9_isWord_56 : decode cX9_isWord 56 = .ok (.goto 4, 3) := by decide +kernel
theorem dX9_isWord_59 : decode cX9_isWord 59 = .ok (.iconst 0, 1) := by decide +kernel
theorem dX9_isWord_60 : decode cX9_isWord 60 = .ok (.istore_n 2, 1) := by decide +kernel
theorem dX9_isWord_61 : decode cX9_isWord 61 = .ok (.iinc 3 1, 3) := by decide +kernel
theorem dX9_isWord_64 : decode cX9_isWord 64 = .ok (.goto (-40), 3) := by decide +kernel
theorem dX9_isWord_67 : decode cX9_isWord 67 = .ok (.iload_n 2, 1) := by decide +kernel
theorem dX9_isWord_68 : decode cX9_isWord 68 = .ok (.ireturn, 1) := by decide +kernel
theorem dX9_word_0 : decode cX9_word 0 = .ok (.iload_n 0, 1) := by decide +kernel
theorem dX9_word_1 : decode cX9_word 1 = .ok (.tableswitch 85 0 9 #[55, 58, 61, 64, 67, 70, 73, 76, 79, 82], 55) := by decide +kernel
theorem dX9_word_56 : decode cX9_word 56 = .ok (.ldc 165, 2) := by decide +kernel
theorem dX9_word_58 : decode cX9_word 58 = .ok (.areturn, 1) := by decide +kernel
theorem dX9_word_59 : decode cX9_word 59 = .ok (.ldc 166, 2) := by decide +kernel
theorem dX9_word_61 : decode cX9_word 61 = .ok (.areturn, 1) := by decide +kernel
theorem dX9_word_62 : decode cX9_word 62 = .ok (.ldc 168, 2) := by decide +kernel
theorem dX9_word_64 : decode cX9_word 64 = .ok (.areturn, 1) := by decide +kernel
theorem dX9_word_65 : decode cX9_word 65 = .ok (.ldc 170, 2) := by decide +kernel
theorem dX9_word_67 : decode cX9_word 67 = .ok (.areturn, 1) := by decide +kernel
theorem dX9_word_68 : decode cX9_word 68 = .ok (.ldc 172, 2) := by decide +kernel
theorem dX9_word_70 : decode cX9_word 70 = .ok (.areturn, 1) := by decide +kernel
theorem dX9_word_71 : decode cX9_word 71 = .ok (.ldc 174, 2) := by decide +kernel
theorem dX9_word_73 : decode cX9_word 73 = .ok (.areturn, 1) := by decide +kernel
theorem dX9_word_74 : decode cX9_word 74 = .ok (.ldc 176, 2) := by decide +kernel
theorem dX9_word_76 : decode cX9_word 76 = .ok (.areturn, 1) := by decide +kernel
theorem dX9_word_77 : decode cX9_word 77 = .ok (.ldc 178, 2) := by decide +kernel
theorem dX9_word_79 : decode cX9_word 79 = .ok (.areturn, 1) := by decide +kernel
theorem dX9_word_80 : decode cX9_word 80 = .ok (.ldc 180, 2) := by decide +kernel
theorem dX9_word_82 : decode cX9_word 82 = .ok (.areturn, 1) := by decide +kernel
theorem dX9_word_83 : decode cX9_word 83 = .ok (.ldc 182, 2) := by decide +kernel
theorem dX9_word_85 : decode cX9_word 85 = .ok (.areturn, 1) := by decide +kernel
theorem dX9_word_86 : decode cX9_word 86 = .ok (.ldc 183, 2) := by decide +kernel
theorem dX9_word_88 : decode cX9_word 88 = .ok (.areturn, 1) := by decide +kernel
theorem dX9_readWord_0 : decode cX9_readWord 0 = .ok (.aload_n 0, 1) := by decide +kernel
theorem dX9_readWord_1 : decode cX9_readWord 1 = .ok (.invokevirtual 185, 3) := by decide +kernel
theorem dX9_readWord_4 : decode cX9_readWord 4 = .ok (.aload_n 0, 1) := by decide +kernel
theorem dX9_readWord_5 : decode cX9_readWord 5 = .ok (.bipush 97, 2) := by decide +kernel
theorem dX9_readWord_7 : decode cX9_readWord 7 = .ok (.bipush 122, 2) := by decide +kernel
theorem dX9_readWord_9 : decode cX9_readWord 9 = .ok (.invokevirtual 148, 3) := by decide +kernel
theorem dX9_readWord_12 : decode cX9_readWord 12 = .ok (.ifCond .eq 16, 3) := by decide +kernel
theorem dX9_readWord_15 : decode cX9_readWord 15 = .ok (.aload_n 0, 1) := by decide +kernel
theorem dX9_readWord_16 : decode cX9_readWord 16 = .ok (.dup, 1) := by decide +kernel
theorem dX9_readWord_17 : decode cX9_readWord 17 = .ok (.getfield 142, 3) := by decide +kernel
theorem dX9_readWord_20 : decode cX9_readWord 20 = .ok (.iconst 1, 1) := by decide +kernel
theorem dX9_readWord_21 : decode cX9_readWord 21 = .ok (.iadd, 1) := by decide +kernel
theorem dX9_readWord_22 : decode cX9_readWord 22 = .ok (.putfield 142, 3) := by decide +kernel
theorem dX9_readWord_25 : decode cX9_readWord 25 = .ok (.goto (-21), 3) := by decide +kernel
theorem dX9_readWord_28 : decode cX9_readWord 28 = .ok (.iload_n 1, 1) := by decide +kernel
theorem dX9_readWord_29 : decode cX9_readWord 29 = .ok (.istore_n 3, 1) := by decide +kernel
theorem dX9_readWord_30 : decode cX9_readWord 30 = .ok (.iload_n 3, 1) := by decide +kernel
theorem dX9_readWord_31 : decode cX9_readWord 31 = .ok (.iload_n 2, 1) := by decide +kernel
theorem dX9_readWord_32 : decode cX9_readWord 32 = .ok (.if_icmp .gt 22, 3) := by decide +kernel
theorem dX9_readWord_35 : decode cX9_readWord 35 = .ok (.aload_n 0, 1) := by decide +kernel
theorem dX9_readWord_36 : decode cX9_readWord 36 = .ok (.iload_n 3, 1) := by decide +kernel
theorem dX9_readWord_37 : decode cX9_readWord 37 = .ok (.invokestatic 188, 3) := by decide +kernel
theorem dX9_readWord_40 : decode cX9_readWord 40 = .ok (.invokevirtual 192, 3) := by decide +kernel
theorem dX9_readWord_43 : decode cX9_readWord 43 = .ok (.ifCond .eq 5, 3) := by decide +kernel
theorem dX9_readWord_46 : decode cX9_readWord 46 = .ok (.iload_n 3, 1) := by decide +kernel
theorem dX9_readWord_47 : decode cX9_readWord 47 = .ok (.ireturn, 1) := by decide +kernel
theorem dX9_readWord_48 : decode cX9_readWord 48 = .ok (.iinc 3 1, 3) := by decide +kernel
theorem dX9_readWord_51 : decode cX9_readWord 51 = .ok (.goto (-21), 3) := by decide +kernel
theorem dX9_readWord_54 : decode cX9_readWord 54 = .ok (.iconst (-1), 1) := by decide +kernel
theorem dX9_readWord_55 : decode cX9_readWord 55 = .ok (.ireturn, 1) := by decide +kernel
theorem dX9_readNumber_0 : decode cX9_readNumber 0 = .ok (.aload_n 0, 1) := by decide +kernel
theorem dX9_readNumber_1 : decode cX9_readNumber 1 = .ok (.invokevirtual 185, 3) := by decide +kernel
theorem dX9_readNumber_4 : decode cX9_readNumber 4 = .ok (.iconst 0, 1) := by decide +kernel
theorem dX9_readNumber_5 : decode cX9_readNumber 5 = .ok (.istore_n 3, 1) := by decide +kernel
theorem dX9_readNumber_6 : decode cX9_readNumber 6 = .ok (.aload_n 0, 1) := by decide +kernel
theorem dX9_readNumber_7 : decode cX9_readNumber 7 = .ok (.bipush 48, 2) := by decide +kernel
theorem dX9_readNumber_9 : decode cX9_readNumber 9 = .ok (.bipush 57, 2) := by decide +kernel
theorem dX9_readNumber_11 : decode cX9_readNumber 11 = .ok (.invokevirtual 148, 3) := by decide +kernel
theorem dX9_readNumber_14 : decode cX9_readNumber 14 = .ok (.ifCond .eq 51, 3) := by decide +kernel
theorem dX9_readNumber_17 : decode cX9_readNumber 17 = .ok (.aload_n 0, 1) := by decide +kernel
theorem dX9_readNumber_18 : decode cX9_readNumber 18 = .ok (.getfield 142, 3) := by decide +kernel
theorem dX9_readNumber_21 : decode cX9_readNumber 21 = .ok (.aload_n 0, 1) := by decide +kernel
theorem dX9_readNumber_22 : decode cX9_readNumber 22 = .ok (.getfield 152, 3) := by decide +kernel
theorem dX9_readNumber_25 : decode cX9_readNumber 25 = .ok (.isub, 1) := by decide +kernel
theorem dX9_readNumber_26 : decode cX9_readNumber 26 = .ok (.iconst 4, 1) := by decide +kernel
theorem dX9_readNumber_27 : decode cX9_readNumber 27 = .ok (.if_icmp .ge 23, 3) := by decide +kernel
theorem dX9_readNumber_30 : decode cX9_readNumber 30 = .ok (.bipush 10, 2) := by decide +kernel
theorem dX9_readNumber_32 : decode cX9_readNumber 32 = .ok (.iload_n 3, 1) := by decide +kernel
theorem dX9_readNumber_33 : decode cX9_readNumber 33 = .ok (.imul, 1) := by decide +kernel
theorem dX9_readNumber_34 : decode cX9_readNumber 34 = .ok (.aload_n 0, 1) := by decide +kernel
theorem dX9_readNumber_35 : decode cX9_readNumber 35 = .ok (.getfield 71, 3) := by decide +kernel
theorem dX9_readNumber_38 : decode cX9_readNumber 38 = .ok (.aload_n 0, 1) := by decide +kernel
theorem dX9_readNumber_39 : decode cX9_readNumber 39 = .ok (.getfield 142, 3) := by decide +kernel
theorem dX9_readNumber_42 : decode cX9_readNumber 42 = .ok (.baload, 1) := by decide +kernel
theorem dX9_readNumber_43 : decode cX9_readNumber 43 = .ok (.iadd, 1) := by decide +kernel
theorem dX9_readNumber_44 : decode cX9_readNumber 44 = .ok (.bipush 48, 2) := by decide +kernel
theorem dX9_readNumber_46 : decode cX9_readNumber 46 = .ok (.isub, 1) := by decide +kernel
theorem dX9_readNumber_47 : decode cX9_readNumber 47 = .ok (.goto 4, 3) := by decide +kernel
theorem dX9_readNumber_50 : decode cX9_readNumber 50 = .ok (.iload_n 3, 1) := by decide +kernel
theorem dX9_readNumber_51 : decode cX9_readNumber 51 = .ok (.istore_n 3, 1) := by decide +kernel
theorem dX9_readNumber_52 : decode cX9_readNumber 52 = .ok (.aload_n 0, 1) := by decide +kernel
theorem dX9_readNumber_53 : decode cX9_readNumber 53 = .ok (.dup, 1) := by decide +kernel
theorem dX9_readNumber_54 : decode cX9_readNumber 54 = .ok (.getfield 142, 3) := by decide +kernel
theorem dX9_readNumber_57 : decode cX9_readNumber 57 = .ok (.iconst 1, 1) := by decide +kernel
theorem dX9_readNumber_58 : decode cX9_readNumber 58 = .ok (.iadd, 1) := by decide +kernel
theorem dX9_readNumber_59 : decode cX9_readNumber 59 = .ok (.putfield 142, 3) := by decide +kernel
theorem dX9_readNumber_62 : decode cX9_readNumber 62 = .ok (.goto (-56), 3) := by decide +kernel
theorem dX9_readNumber_65 : decode cX9_readNumber 65 = .ok (.aload_n 0, 1) := by decide +kernel
theorem dX9_readNumber_66 : decode cX9_readNumber 66 = .ok (.getfield 142, 3) := by decide +kernel
theorem dX9_readNumber_69 : decode cX9_readNumber 69 = .ok (.aload_n 0, 1) := by decide +kernel
theorem dX9_readNumber_70 : decode cX9_readNumber 70 = .ok (.getfield 152, 3) := by decide +kernel
theorem dX9_readNumber_73 : decode cX9_readNumber 73 = .ok (.if_icmp .eq 26, 3) := by decide +kernel
theorem dX9_readNumber_76 : decode cX9_readNumber 76 = .ok (.aload_n 0, 1) := by decide +kernel
theorem dX9_readNumber_77 : decode cX9_readNumber 77 = .ok (.getfield 142, 3) := by decide +kernel
theorem dX9_readNumber_80 : decode cX9_readNumber 80 = .ok (.aload_n 0, 1) := by decide +kernel
theorem dX9_readNumber_81 : decode cX9_readNumber 81 = .ok (.getfield 152, 3) := by decide +kernel
theorem dX9_readNumber_84 : decode cX9_readNumber 84 = .ok (.isub, 1) := by decide +kernel
theorem dX9_readNumber_85 : decode cX9_readNumber 85 = .ok (.iconst 4, 1) := by decide +kernel
theorem dX9_readNumber_86 : decode cX9_readNumber 86 = .ok (.if_icmp .gt 13, 3) := by decide +kernel
theorem dX9_readNumber_89 : decode cX9_readNumber 89 = .ok (.iload_n 3, 1) := by decide +kernel
theorem dX9_readNumber_90 : decode cX9_readNumber 90 = .ok (.iload_n 1, 1) := by decide +kernel
theorem dX9_readNumber_91 : decode cX9_readNumber 91 = .ok (.if_icmp .lt 8, 3) := by decide +kernel
theorem dX9_readNumber_94 : decode cX9_readNumber 94 = .ok (.iload_n 3, 1) := by decide +kernel
theorem dX9_readNumber_95 : decode cX9_readNumber 95 = .ok (.iload_n 2, 1) := by decide +kernel
theorem dX9_readNumber_96 : decode cX9_readNumber 96 = .ok (.if_icmp .le 7, 3) := by decide +kernel
theorem dX9_readNumber_99 : decode cX9_readNumber 99 = .ok (.iconst (-1), 1) := by decide +kernel
theorem dX9_readNumber_100 : decode cX9_readNumber 100 = .ok (.goto 4, 3) := by decide +kernel
theorem dX9_readNumber_103 : decode cX9_readNumber 103 = .ok (.iload_n 3, 1) := by decide +kernel
theorem dX9_readNumber_104 : decode cX9_readNumber 104 = .ok (.ireturn, 1) := by decide +kernel
theorem dX9_sets_0 : decode cX9_sets 0 = .ok (.aload_n 0, 1) := by decide +kernel
theorem dX9_sets_1 : decode cX9_sets 1 = .ok (.iload_n 2, 1) := by decide +kernel
theorem dX9_sets_2 : decode cX9_sets 2 = .ok (.iload_n 3, 1) := by decide +kernel
theorem dX9_sets_3 : decode cX9_sets 3 = .ok (.invokevirtual 196, 3) := by decide +kernel
theorem dX9_sets_6 : decode cX9_sets 6 = .ok (.istore 4, 2) := by decide +kernel
theorem dX9_sets_8 : decode cX9_sets 8 = .ok (.iload 4, 2) := by decide +kernel
theorem dX9_sets_10 : decode cX9_sets 10 = .ok (.ifCond .lt 11, 3) := by decide +kernel
theorem dX9_sets_13 : decode cX9_sets 13 = .ok (.aload_n 0, 1) := by decide +kernel
theorem dX9_sets_14 : decode cX9_sets 14 = .ok (.getfield 50, 3) := by decide +kernel
theorem dX9_sets_17 : decode cX9_sets 17 = .ok (.iload_n 1, 1) := by decide +kernel
theorem dX9_sets_18 : decode cX9_sets 18 = .ok (.iload 4, 2) := by decide +kernel
theorem dX9_sets_20 : decode cX9_sets 20 = .ok (.iastore, 1) := by decide +kernel
theorem dX9_sets_21 : decode cX9_sets 21 = .ok (.iload 4, 2) := by decide +kernel
theorem dX9_sets_23 : decode cX9_sets 23 = .ok (.ifCond .lt 7, 3) := by decide +kernel
theorem dX9_sets_26 : decode cX9_sets 26 = .ok (.iconst 1, 1) := by decide +kernel
theorem dX9_sets_27 : decode cX9_sets 27 = .ok (.goto 4, 3) := by decide +kernel
theorem dX9_sets_30 : decode cX9_sets 30 = .ok (.iconst 0, 1) := by decide +kernel
theorem dX9_sets_31 : decode cX9_sets 31 = .ok (.ireturn, 1) := by decide +kernel
theorem dX9_readClause_0 : decode cX9_readClause 0 = .ok (.aload_n 0, 1) := by decide +kernel
theorem dX9_readClause_1 : decode cX9_readClause 1 = .ok (.iconst 0, 1) := by decide +kernel
theorem dX9_readClause_2 : decode cX9_readClause 2 = .ok (.bipush 7, 2) := by decide +kernel
theorem dX9_readClause_4 : decode cX9_readClause 4 = .ok (.invokevirtual 200, 3) := by decide +kernel
theorem dX9_readClause_7 : decode cX9_readClause 7 = .ok (.istore_n 1, 1) := by decide +kernel
theorem dX9_readClause_8 : decode cX9_readClause 8 = .ok (.iload_n 1, 1) := by decide +kernel
theorem dX9_readClause_9 : decode cX9_readClause 9 = .ok (.tableswitch 163 0 7 #[47, 56, 65, 74, 84, 93, 101, 131], 47) := by decide +kernel
theorem dX9_readClause_56 : decode cX9_readClause 56 = .ok (.aload_n 0, 1) := by decide +kernel
theorem dX9_readClause_57 : decode cX9_readClause 57 = .ok (.iconst 0, 1) := by decide +kernel
theorem dX9_readClause_58 : decode cX9_readClause 58 = .ok (.iconst 1, 1) := by decide +kernel
theorem dX9_readClause_59 : decode cX9_readClause 59 = .ok (.bipush 8, 2) := by decide +kernel
theorem dX9_readClause_61 : decode cX9_readClause 61 = .ok (.invokevirtual 203, 3) := by decide +kernel
theorem dX9_readClause_64 : decode cX9_readClause 64 = .ok (.ireturn, 1) := by decide +kernel
theorem dX9_readClause_65 : decode cX9_readClause 65 = .ok (.aload_n 0, 1) := by decide +kernel
theorem dX9_readClause_66 : decode cX9_readClause 66 = .ok (.iconst 1, 1) := by decide +kernel
theorem dX9_readClause_67 : decode cX9_readClause 67 = .ok (.iconst 1, 1) := by decide +kernel
theorem dX9_readClause_68 : decode cX9_readClause 68 = .ok (.bipush 12, 2) := by decide +kernel
theorem dX9_readClause_70 : decode cX9_readClause 70 = .ok (.invokevirtual 203, 3) := by decide +kernel
theorem dX9_readClause_73 : decode cX9_readClause 73 = .ok (.ireturn, 1) := by decide +kernel
theorem dX9_readClause_74 : decode cX9_readClause 74 = .ok (.aload_n 0, 1) := by decide +kernel
theorem dX9_readClause_75 : decode cX9_readClause 75 = .ok (.iconst 2, 1) := by decide +kernel
theorem dX9_readClause_76 : decode cX9_readClause 76 = .ok (.iconst 0, 1) := by decide +kernel
theorem dX9_readClause_77 : decode cX9_readClause 77 = .ok (.bipush 20, 2) := by decide +kernel
theorem dX9_readClause_79 : decode cX9_readClause 79 = .ok (.invokevirtual 203, 3) := by decide +kernel
theorem dX9_readClause_82 : decode cX9_readClause 82 = .ok (.ireturn, 1) := by decide +kernel
theorem dX9_readClause_83 : decode cX9_readClause 83 = .ok (.aload_n 0, 1) := by decide +kernel
theorem dX9_readClause_84 : decode cX9_readClause 84 = .ok (.iconst 3, 1) := by decide +kernel
theorem dX9_readClause_85 : decode cX9_readClause 85 = .ok (.iconst 0, 1) := by decide +kernel
theorem dX9_readClause_86 : decode cX9_readClause 86 = .ok (.sipush 1000, 3) := by decide +kernel
theorem dX9_readClause_89 : decode cX9_readClause 89 = .ok (.invokevirtual 203, 3) := by decide +kernel
theorem dX9_readClause_92 : decode cX9_readClause 92 = .ok (.ireturn, 1) := by decide +kernel
theorem dX9_readClause_93 : decode cX9_readClause 93 = .ok (.aload_n 0, 1) := by decide +kernel
theorem dX9_readClause_94 : decode cX9_readClause 94 = .ok (.iconst 4, 1) := by decide +kernel
theorem dX9_readClause_95 : decode cX9_readClause 95 = .ok (.iconst 0, 1) := by decide +kernel
theorem dX9_readClause_96 : decode cX9_readClause 96 = .ok (.bipush 100, 2) := by decide +kernel
theorem dX9_readClause_98 : decode cX9_readClause 98 = .ok (.invokevirtual 203, 3) := by decide +kernel
theorem dX9_readClause_101 : decode cX9_readClause 101 = .ok (.ireturn, 1) := by decide +kernel
theorem dX9_readClause_102 : decode cX9_readClause 102 = .ok (.aload_n 0, 1) := by decide +kernel
theorem dX9_readClause_103 : decode cX9_readClause 103 = .ok (.iconst 5, 1) := by decide +kernel
theorem dX9_readClause_104 : decode cX9_readClause 104 = .ok (.iconst 0, 1) := by decide +kernel
theorem dX9_readClause_105 : decode cX9_readClause 105 = .ok (.iconst 4, 1) := by decide +kernel
theorem dX9_readClause_106 : decode cX9_readClause 106 = .ok (.invokevirtual 203, 3) := by decide +kernel
theorem dX9_readClause_109 : decode cX9_readClause 109 = .ok (.ireturn, 1) := by decide +kernel
theorem dX9_readClause_110 : decode cX9_readClause 110 = .ok (.aload_n 0, 1) := by decide +kernel
theorem dX9_readClause_111 : decode cX9_readClause 111 = .ok (.bipush 8, 2) := by decide +kernel
theorem dX9_readClause_113 : decode cX9_readClause 113 = .ok (.bipush 10, 2) := by decide +kernel
theorem dX9_readClause_115 : decode cX9_readClause 115 = .ok (.invokevirtual 200, 3) := by decide +kernel
theorem dX9_readClause_118 : decode cX9_readClause 118 = .ok (.istore_n 2, 1) := by decide +kernel
theorem dX9_readClause_119 : decode cX9_readClause 119 = .ok (.aload_n 0, 1) := by decide +kernel
theorem dX9_readClause_120 : decode cX9_readClause 120 = .ok (.getfield 50, 3) := by decide +kernel
theorem dX9_readClause_123 : decode cX9_readClause 123 = .ok (.bipush 6, 2) := by decide +kernel
theorem dX9_readClause_125 : decode cX9_readClause 125 = .ok (.iload_n 2, 1) := by decide +kernel
theorem dX9_readClause_126 : decode cX9_readClause 126 = .ok (.bipush 8, 2) := by decide +kernel
theorem dX9_readClause_128 : decode cX9_readClause 128 = .ok (.isub, 1) := by decide +kernel
theorem dX9_readClause_129 : decode cX9_readClause 129 = .ok (.iastore, 1) := by decide +kernel
theorem dX9_readClause_130 : decode cX9_readClause 130 = .ok (.iload_n 2, 1) := by decide +kernel
theorem dX9_readClause_131 : decode cX9_readClause 131 = .ok (.ifCond .lt 7, 3) := by decide +kernel
theorem dX9_readClause_134 : decode cX9_readClause 134 = .ok (.iconst 1, 1) := by decide +kernel
theorem dX9_readClause_135 : decode cX9_readClause 135 = .ok (.goto 4, 3) := by decide +kernel
theorem dX9_readClause_138 : decode cX9_readClause 138 = .ok (.iconst 0, 1) := by decide +kernel
theorem dX9_readClause_139 : decode cX9_readClause 139 = .ok (.ireturn, 1) := by decide +kernel
theorem dX9_readClause_140 : decode cX9_readClause 140 = .ok (.aload_n 0, 1) := by decide +kernel
theorem dX9_readClause_141 : decode cX9_readClause 141 = .ok (.iconst 0, 1) := by decide +kernel
theorem dX9_readClause_142 : decode cX9_readClause 142 = .ok (.iconst 3, 1) := by decide +kernel
theorem dX9_readClause_143 : decode cX9_readClause 143 = .ok (.invokevirtual 196, 3) := by decide +kernel
theorem dX9_readClause_146 : decode cX9_readClause 146 = .ok (.istore_n 2, 1) := by decide +kernel
theorem dX9_readClause_147 : decode cX9_readClause 147 = .ok (.iload_n 2, 1) := by decide +kernel
theorem dX9_readClause_148 : decode cX9_readClause 148 = .ok (.ifCond .lt 22, 3) := by decide +kernel
theorem dX9_readClause_151 : decode cX9_readClause 151 = .ok (.aload_n 0, 1) := by decide +kernel
theorem dX9_readClause_152 : decode cX9_readClause 152 = .ok (.bipush 7, 2) := by decide +kernel
theorem dX9_readClause_154 : decode cX9_readClause 154 = .ok (.iload_n 2, 1) := by decide +kernel
theorem dX9_readClause_155 : decode cX9_readClause 155 = .ok (.iadd, 1) := by decide +kernel
theorem dX9_readClause_156 : decode cX9_readClause 156 = .ok (.iconst 1, 1) := by decide +kernel
theorem dX9_readClause_157 : decode cX9_readClause 157 = .ok (.sipush 500, 3) := by decide +kernel
theorem dX9_readClause_160 : decode cX9_readClause 160 = .ok (.invokevirtual 203, 3) := by decide +kernel
theorem dX9_readClause_163 : decode cX9_readClause 163 = .ok (.ifCond .eq 7, 3) := by decide +kernel
theorem dX9_readClause_166 : decode cX9_readClause 166 = .ok (.iconst 1, 1) := by decide +kernel
theorem dX9_readClause_167 : decode cX9_readClause 167 = .ok (.goto 4, 3) := by decide +kernel
theorem dX9_readClause_170 : decode cX9_readClause 170 = .ok (.iconst 0, 1) := by decide +kernel
theorem dX9_readClause_171 : decode cX9_readClause 171 = .ok (.ireturn, 1) := by decide +kernel
theorem dX9_readClause_172 : decode cX9_readClause 172 = .ok (.iconst 0, 1) := by decide +kernel
theorem dX9_readClause_173 : decode cX9_readClause 173 = .ok (.ireturn, 1) := by decide +kernel
theorem dX9_agree_0 : decode cX9_agree 0 = .ok (.aload_n 0, 1) := by decide +kernel
theorem dX9_agree_1 : decode cX9_agree 1 = .ok (.iconst 0, 1) := by decide +kernel
theorem dX9_agree_2 : decode cX9_agree 2 = .ok (.putfield 109, 3) := by decide +kernel
theorem dX9_agree_5 : decode cX9_agree 5 = .ok (.aload_n 0, 1) := by decide +kernel
theorem dX9_agree_6 : decode cX9_agree 6 = .ok (.aload_n 0, 1) := by decide +kernel
theorem dX9_agree_7 : decode cX9_agree 7 = .ok (.getfield 139, 3) := by decide +kernel
theorem dX9_agree_10 : decode cX9_agree 10 = .ok (.putfield 145, 3) := by decide +kernel
theorem dX9_agree_13 : decode cX9_agree 13 = .ok (.aload_n 0, 1) := by decide +kernel
theorem dX9_agree_14 : decode cX9_agree 14 = .ok (.iconst 0, 1) := by decide +kernel
theorem dX9_agree_15 : decode cX9_agree 15 = .ok (.putfield 139, 3) := by decide +kernel
theorem dX9_agree_18 : decode cX9_agree 18 = .ok (.aload_n 0, 1) := by decide +kernel
theorem dX9_agree_19 : decode cX9_agree 19 = .ok (.iconst 0, 1) := by decide +kernel
theorem dX9_agree_20 : decode cX9_agree 20 = .ok (.putfield 142, 3) := by decide +kernel
theorem dX9_agree_23 : decode cX9_agree 23 = .ok (.iconst 0, 1) := by decide +kernel
theorem dX9_agree_24 : decode cX9_agree 24 = .ok (.istore_n 1, 1) := by decide +kernel
theorem dX9_agree_25 : decode cX9_agree 25 = .ok (.iload_n 1, 1) := by decide +kernel
theorem dX9_agree_26 : decode cX9_agree 26 = .ok (.bipush 11, 2) := by decide +kernel
theorem dX9_agree_28 : decode cX9_agree 28 = .ok (.if_icmp .ge 21, 3) := by decide +kernel
theorem dX9_agree_31 : decode cX9_agree 31 = .ok (.aload_n 0, 1) := by decide +kernel
theorem dX9_agree_32 : decode cX9_agree 32 = .ok (.getfield 50, 3) := by decide +kernel
theorem dX9_agree_35 : decode cX9_agree 35 = .ok (.iload_n 1, 1) := by decide +kernel
theorem dX9_agree_36 : decode cX9_agree 36 = .ok (.aload_n 0, 1) := by decide +kernel
theorem dX9_agree_37 : decode cX9_agree 37 = .ok (.getfield 47, 3) := by decide +kernel
theorem dX9_agree_40 : decode cX9_agree 40 = .ok (.iload_n 1, 1) := by decide +kernel
theorem dX9_agree_41 : decode cX9_agree 41 = .ok (.iaload, 1) := by decide +kernel
theorem dX9_agree_42 : decode cX9_agree 42 = .ok (.iastore, 1) := by decide +kernel
theorem dX9_agree_43 : decode cX9_agree 43 = .ok (.iinc 1 1, 3) := by decide +kernel
theorem dX9_agree_46 : decode cX9_agree 46 = .ok (.goto (-21), 3) := by decide +kernel
theorem dX9_agree_49 : decode cX9_agree 49 = .ok (.iconst 0, 1) := by decide +kernel
theorem dX9_agree_50 : decode cX9_agree 50 = .ok (.istore_n 1, 1) := by decide +kernel
theorem dX9_agree_51 : decode cX9_agree 51 = .ok (.iconst 1, 1) := by decide +kernel
theorem dX9_agree_52 : decode cX9_agree 52 = .ok (.istore_n 2, 1) := by decide +kernel
theorem dX9_agree_53 : decode cX9_agree 53 = .ok (.iconst 1, 1) := by decide +kernel
theorem dX9_agree_54 : decode cX9_agree 54 = .ok (.istore_n 3, 1) := by decide +kernel
theorem dX9_agree_55 : decode cX9_agree 55 = .ok (.iload_n 2, 1) := by decide +kernel
theorem dX9_agree_56 : decode cX9_agree 56 = .ok (.ifCond .eq 72, 3) := by decide +kernel
theorem dX9_agree_59 : decode cX9_agree 59 = .ok (.iload_n 3, 1) := by decide +kernel
theorem dX9_agree_60 : decode cX9_agree 60 = .ok (.ifCond .eq 68, 3) := by decide +kernel
theorem dX9_agree_63 : decode cX9_agree 63 = .ok (.aload_n 0, 1) := by decide +kernel
theorem dX9_agree_64 : decode cX9_agree 64 = .ok (.invokevirtual 207, 3) := by decide +kernel
theorem dX9_agree_67 : decode cX9_agree 67 = .ok (.istore_n 2, 1) := by decide +kernel
theorem dX9_agree_68 : decode cX9_agree 68 = .ok (.iload_n 2, 1) := by decide +kernel
theorem dX9_agree_69 : decode cX9_agree 69 = .ok (.ifCond .ne 6, 3) := by decide +kernel
theorem dX9_agree_72 : decode cX9_agree 72 = .ok (.goto 56, 3) := by decide +kernel
theorem dX9_agree_75 : decode cX9_agree 75 = .ok (.iinc 1 1, 3) := by decide +kernel
theorem dX9_agree_78 : decode cX9_agree 78 = .ok (.aload_n 0, 1) := by decide +kernel
theorem dX9_agree_79 : decode cX9_agree 79 = .ok (.invokevirtual 185, 3) := by decide +kernel
theorem dX9_agree_82 : decode cX9_agree 82 = .ok (.aload_n 0, 1) := by decide +kernel
theorem dX9_agree_83 : decode cX9_agree 83 = .ok (.bipush 59, 2) := by decide +kernel
theorem dX9_agree_85 : decode cX9_agree 85 = .ok (.bipush 59, 2) := by decide +kernel
theorem dX9_agree_87 : decode cX9_agree 87 = .ok (.invokevirtual 148, 3) := by decide +kernel
theorem dX9_agree_90 : decode cX9_agree 90 = .ok (.istore_n 3, 1) := by decide +kernel
theorem dX9_agree_91 : decode cX9_agree 91 = .ok (.iload_n 3, 1) := by decide +kernel
theorem dX9_agree_92 : decode cX9_agree 92 = .ok (.ifCond .eq 16, 3) := by decide +kernel
theorem dX9_agree_95 : decode cX9_agree 95 = .ok (.aload_n 0, 1) := by decide +kernel
theorem dX9_agree_96 : decode cX9_agree 96 = .ok (.dup, 1) := by decide +kernel
theorem dX9_agree_97 : decode cX9_agree 97 = .ok (.getfield 142, 3) := by decide +kernel
theorem dX9_agree_100 : decode cX9_agree 100 = .ok (.iconst 1, 1) := by decide +kernel
theorem dX9_agree_101 : decode cX9_agree 101 = .ok (.iadd, 1) := by decide +kernel
theorem dX9_agree_102 : decode cX9_agree 102 = .ok (.putfield 142, 3) := by decide +kernel
theorem dX9_agree_105 : decode cX9_agree 105 = .ok (.goto (-50), 3) := by decide +kernel
theorem dX9_agree_108 : decode cX9_agree 108 = .ok (.aload_n 0, 1) := by decide +kernel
theorem dX9_agree_109 : decode cX9_agree 109 = .ok (.getfield 142, 3) := by decide +kernel
theorem dX9_agree_112 : decode cX9_agree 112 = .ok (.aload_n 0, 1) := by decide +kernel
theorem dX9_agree_113 : decode cX9_agree 113 = .ok (.getfield 145, 3) := by decide +kernel
theorem dX9_agree_116 : decode cX9_agree 116 = .ok (.if_icmp .ne 7, 3) := by decide +kernel
theorem dX9_agree_119 : decode cX9_agree 119 = .ok (.iconst 1, 1) := by decide +kernel
theorem dX9_agree_120 : decode cX9_agree 120 = .ok (.goto 4, 3) := by decide +kernel
theorem dX9_agree_123 : decode cX9_agree 123 = .ok (.iconst 0, 1) := by decide +kernel
theorem dX9_agree_124 : decode cX9_agree 124 = .ok (.istore_n 2, 1) := by decide +kernel
theorem dX9_agree_125 : decode cX9_agree 125 = .ok (.goto (-70), 3) := by decide +kernel
theorem dX9_agree_128 : decode cX9_agree 128 = .ok (.aload_n 0, 1) := by decide +kernel
theorem dX9_agree_129 : decode cX9_agree 129 = .ok (.iload_n 2, 1) := by decide +kernel
theorem dX9_agree_130 : decode cX9_agree 130 = .ok (.ifCond .eq 7, 3) := by decide +kernel
theorem dX9_agree_133 : decode cX9_agree 133 = .ok (.iconst (-1), 1) := by decide +kernel
theorem dX9_agree_134 : decode cX9_agree 134 = .ok (.goto 7, 3) := by decide +kernel
theorem dX9_agree_137 : decode cX9_agree 137 = .ok (.aload_n 0, 1) := by decide +kernel
theorem dX9_agree_138 : decode cX9_agree 138 = .ok (.getfield 152, 3) := by decide +kernel
theorem dX9_agree_141 : decode cX9_agree 141 = .ok (.putfield 78, 3) := by decide +kernel
theorem dX9_agree_144 : decode cX9_agree 144 = .ok (.aload_n 0, 1) := by decide +kernel
theorem dX9_agree_145 : decode cX9_agree 145 = .ok (.iload_n 2, 1) := by decide +kernel
theorem dX9_agree_146 : decode cX9_agree 146 = .ok (.ifCond .ne 7, 3) := by decide +kernel
theorem dX9_agree_149 : decode cX9_agree 149 = .ok (.iconst 1, 1) := by decide +kernel
theorem dX9_agree_150 : decode cX9_agree 150 = .ok (.goto 4, 3) := by decide +kernel
theorem dX9_agree_153 : decode cX9_agree 153 = .ok (.iconst 0, 1) := by decide +kernel
theorem dX9_agree_154 : decode cX9_agree 154 = .ok (.iconst 1, 1) := by decide +kernel
theorem dX9_agree_155 : decode cX9_agree 155 = .ok (.invokevirtual 124, 3) := by decide +kernel
theorem dX9_agree_158 : decode cX9_agree 158 = .ok (.ifCond .eq 5, 3) := by decide +kernel
theorem dX9_agree_161 : decode cX9_agree 161 = .ok (.iconst 0, 1) := by decide +kernel
theorem dX9_agree_162 : decode cX9_agree 162 = .ok (.ireturn, 1) := by decide +kernel
theorem dX9_agree_163 : decode cX9_agree 163 = .ok (.iconst 0, 1) := by decide +kernel
theorem dX9_agree_164 : decode cX9_agree 164 = .ok (.istore 4, 2) := by decide +kernel
theorem dX9_agree_166 : decode cX9_agree 166 = .ok (.iload 4, 2) := by decide +kernel
theorem dX9_agree_168 : decode cX9_agree 168 = .ok (.bipush 11, 2) := by decide +kernel
theorem dX9_agree_170 : decode cX9_agree 170 = .ok (.if_icmp .ge 23, 3) := by decide +kernel
theorem dX9_agree_173 : decode cX9_agree 173 = .ok (.aload_n 0, 1) := by decide +kernel
theorem dX9_agree_174 : decode cX9_agree 174 = .ok (.getfield 47, 3) := by decide +kernel
theorem dX9_agree_177 : decode cX9_agree 177 = .ok (.iload 4, 2) := by decide +kernel
theorem dX9_agree_179 : decode cX9_agree 179 = .ok (.aload_n 0, 1) := by decide +kernel
theorem dX9_agree_180 : decode cX9_agree 180 = .ok (.getfield 50, 3) := by decide +kernel
theorem dX9_agree_183 : decode cX9_agree 183 = .ok (.iload 4, 2) := by decide +kernel
theorem dX9_agree_185 : decode cX9_agree 185 = .ok (.iaload, 1) := by decide +kernel
theorem dX9_agree_186 : decode cX9_agree 186 = .ok (.iastore, 1) := by decide +kernel
theorem dX9_agree_187 : decode cX9_agree 187 = .ok (.iinc 4 1, 3) := by decide +kernel
theorem dX9_agree_190 : decode cX9_agree 190 = .ok (.goto (-24), 3) := by decide +kernel
theorem dX9_agree_193 : decode cX9_agree 193 = .ok (.iload_n 1, 1) := by decide +kernel
theorem dX9_agree_194 : decode cX9_agree 194 = .ok (.ireturn, 1) := by decide +kernel
theorem dX9_fault_0 : decode cX9_fault 0 = .ok (.aload_n 0, 1) := by decide +kernel
theorem dX9_fault_1 : decode cX9_fault 1 = .ok (.iconst 0, 1) := by decide +kernel
theorem dX9_fault_2 : decode cX9_fault 2 = .ok (.putfield 109, 3) := by decide +kernel
theorem dX9_fault_5 : decode cX9_fault 5 = .ok (.aload_n 0, 1) := by decide +kernel
theorem dX9_fault_6 : decode cX9_fault 6 = .ok (.getfield 78, 3) := by decide +kernel
theorem dX9_fault_9 : decode cX9_fault 9 = .ok (.ireturn, 1) := by decide +kernel
theorem dX9_says_0 : decode cX9_says 0 = .ok (.aload_n 0, 1) := by decide +kernel
theorem dX9_says_1 : decode cX9_says 1 = .ok (.iconst 0, 1) := by decide +kernel
theorem dX9_says_2 : decode cX9_says 2 = .ok (.putfield 109, 3) := by decide +kernel
theorem dX9_says_5 : decode cX9_says 5 = .ok (.aload_n 0, 1) := by decide +kernel
theorem dX9_says_6 : decode cX9_says 6 = .ok (.iload_n 1, 1) := by decide +kernel
theorem dX9_says_7 : decode cX9_says 7 = .ok (.i2l, 1) := by decide +kernel
theorem dX9_says_8 : decode cX9_says 8 = .ok (.lconst 0, 1) := by decide +kernel
theorem dX9_says_9 : decode cX9_says 9 = .ok (.ldc2_w 211, 3) := by decide +kernel
theorem dX9_says_12 : decode cX9_says 12 = .ok (.invokestatic 115, 3) := by decide +kernel
theorem dX9_says_15 : decode cX9_says 15 = .ok (.ifCond .ne 7, 3) := by decide +kernel
theorem dX9_says_18 : decode cX9_says 18 = .ok (.iconst 1, 1) := by decide +kernel
theorem dX9_says_19 : decode cX9_says 19 = .ok (.goto 4, 3) := by decide +kernel
theorem dX9_says_22 : decode cX9_says 22 = .ok (.iconst 0, 1) := by decide +kernel
theorem dX9_says_23 : decode cX9_says 23 = .ok (.iconst 1, 1) := by decide +kernel
theorem dX9_says_24 : decode cX9_says 24 = .ok (.invokevirtual 124, 3) := by decide +kernel
theorem dX9_says_27 : decode cX9_says 27 = .ok (.ifCond .eq 7, 3) := by decide +kernel
theorem dX9_says_30 : decode cX9_says 30 = .ok (.iconst 0, 1) := by decide +kernel
theorem dX9_says_31 : decode cX9_says 31 = .ok (.goto 9, 3) := by decide +kernel
theorem dX9_says_34 : decode cX9_says 34 = .ok (.aload_n 0, 1) := by decide +kernel
theorem dX9_says_35 : decode cX9_says 35 = .ok (.getfield 47, 3) := by decide +kernel
theorem dX9_says_38 : decode cX9_says 38 = .ok (.iload_n 1, 1) := by decide +kernel
theorem dX9_says_39 : decode cX9_says 39 = .ok (.iaload, 1) := by decide +kernel
theorem dX9_says_40 : decode cX9_says 40 = .ok (.ireturn, 1) := by decide +kernel
theorem dX9_isAhead_0 : decode cX9_isAhead 0 = .ok (.aload_n 0, 1) := by decide +kernel
theorem dX9_isAhead_1 : decode cX9_isAhead 1 = .ok (.getfield 47, 3) := by decide +kernel
theorem dX9_isAhead_4 : decode cX9_isAhead 4 = .ok (.bipush 6, 2) := by decide +kernel
theorem dX9_isAhead_6 : decode cX9_isAhead 6 = .ok (.iaload, 1) := by decide +kernel
theorem dX9_isAhead_7 : decode cX9_isAhead 7 = .ok (.ifCond .ne 39, 3) := by decide +kernel
theorem dX9_isAhead_10 : decode cX9_isAhead 10 = .ok (.aload_n 0, 1) := by decide +kernel
theorem dX9_isAhead_11 : decode cX9_isAhead 11 = .ok (.getfield 28, 3) := by decide +kernel
theorem dX9_isAhead_14 : decode cX9_isAhead 14 = .ok (.iload_n 1, 1) := by decide +kernel
theorem dX9_isAhead_15 : decode cX9_isAhead 15 = .ok (.iaload, 1) := by decide +kernel
theorem dX9_isAhead_16 : decode cX9_isAhead 16 = .ok (.aload_n 0, 1) := by decide +kernel
theorem dX9_isAhead_17 : decode cX9_isAhead 17 = .ok (.getfield 28, 3) := by decide +kernel
theorem dX9_isAhead_20 : decode cX9_isAhead 20 = .ok (.iload_n 2, 1) := by decide +kernel
theorem dX9_isAhead_21 : decode cX9_isAhead 21 = .ok (.iaload, 1) := by decide +kernel
theorem dX9_isAhead_22 : decode cX9_isAhead 22 = .ok (.if_icmp .eq 24, 3) := by decide +kernel
theorem dX9_isAhead_25 : decode cX9_isAhead 25 = .ok (.aload_n 0, 1) := by decide +kernel
theorem dX9_isAhead_26 : decode cX9_isAhead 26 = .ok (.getfield 28, 3) := by decide +kernel
theorem dX9_isAhead_29 : decode cX9_isAhead 29 = .ok (.iload_n 1, 1) := by decide +kernel
theorem dX9_isAhead_30 : decode cX9_isAhead 30 = .ok (.iaload, 1) := by decide +kernel
theorem dX9_isAhead_31 : decode cX9_isAhead 31 = .ok (.aload_n 0, 1) := by decide +kernel
theorem dX9_isAhead_32 : decode cX9_isAhead 32 = .ok (.getfield 28, 3) := by decide +kernel
theorem dX9_isAhead_35 : decode cX9_isAhead 35 = .ok (.iload_n 2, 1) := by decide +kernel
theorem dX9_isAhead_36 : decode cX9_isAhead 36 = .ok (.iaload, 1) := by decide +kernel
theorem dX9_isAhead_37 : decode cX9_isAhead 37 = .ok (.if_icmp .ge 7, 3) := by decide +kernel
theorem dX9_isAhead_40 : decode cX9_isAhead 40 = .ok (.iconst 1, 1) := by decide +kernel
theorem dX9_isAhead_41 : decode cX9_isAhead 41 = .ok (.goto 4, 3) := by decide +kernel
theorem dX9_isAhead_44 : decode cX9_isAhead 44 = .ok (.iconst 0, 1) := by decide +kernel
theorem dX9_isAhead_45 : decode cX9_isAhead 45 = .ok (.ireturn, 1) := by decide +kernel
theorem dX9_isAhead_46 : decode cX9_isAhead 46 = .ok (.aload_n 0, 1) := by decide +kernel
theorem dX9_isAhead_47 : decode cX9_isAhead 47 = .ok (.getfield 47, 3) := by decide +kernel
theorem dX9_isAhead_50 : decode cX9_isAhead 50 = .ok (.bipush 6, 2) := by decide +kernel
theorem dX9_isAhead_52 : decode cX9_isAhead 52 = .ok (.iaload, 1) := by decide +kernel
theorem dX9_isAhead_53 : decode cX9_isAhead 53 = .ok (.iconst 1, 1) := by decide +kernel
theorem dX9_isAhead_54 : decode cX9_isAhead 54 = .ok (.if_icmp .ne 39, 3) := by decide +kernel
theorem dX9_isAhead_57 : decode cX9_isAhead 57 = .ok (.aload_n 0, 1) := by decide +kernel
theorem dX9_isAhead_58 : decode cX9_isAhead 58 = .ok (.getfield 85, 3) := by decide +kernel
theorem dX9_isAhead_61 : decode cX9_isAhead 61 = .ok (.iload_n 1, 1) := by decide +kernel
theorem dX9_isAhead_62 : decode cX9_isAhead 62 = .ok (.iaload, 1) := by decide +kernel
theorem dX9_isAhead_63 : decode cX9_isAhead 63 = .ok (.aload_n 0, 1) := by decide +kernel
theorem dX9_isAhead_64 : decode cX9_isAhead 64 = .ok (.getfield 85, 3) := by decide +kernel
theorem dX9_isAhead_67 : decode cX9_isAhead 67 = .ok (.iload_n 2, 1) := by decide +kernel
theorem dX9_isAhead_68 : decode cX9_isAhead 68 = .ok (.iaload, 1) := by decide +kernel
theorem dX9_isAhead_69 : decode cX9_isAhead 69 = .ok (.if_icmp .eq 24, 3) := by decide +kernel
theorem dX9_isAhead_72 : decode cX9_isAhead 72 = .ok (.aload_n 0, 1) := by decide +kernel
theorem dX9_isAhead_73 : decode cX9_isAhead 73 = .ok (.getfield 85, 3) := by decide +kernel
theorem dX9_isAhead_76 : decode cX9_isAhead 76 = .ok (.iload_n 1, 1) := by decide +kernel
theorem dX9_isAhead_77 : decode cX9_isAhead 77 = .ok (.iaload, 1) := by decide +kernel
theorem dX9_isAhead_78 : decode cX9_isAhead 78 = .ok (.aload_n 0, 1) := by decide +kernel
theorem dX9_isAhead_79 : decode cX9_isAhead 79 = .ok (.getfield 85, 3) := by decide +kernel
theorem dX9_isAhead_82 : decode cX9_isAhead 82 = .ok (.iload_n 2, 1) := by decide +kernel
theorem dX9_isAhead_83 : decode cX9_isAhead 83 = .ok (.iaload, 1) := by decide +kernel
theorem dX9_isAhead_84 : decode cX9_isAhead 84 = .ok (.if_icmp .le 7, 3) := by decide +kernel
theorem dX9_isAhead_87 : decode cX9_isAhead 87 = .ok (.iconst 1, 1) := by decide +kernel
theorem dX9_isAhead_88 : decode cX9_isAhead 88 = .ok (.goto 4, 3) := by decide +kernel
theorem dX9_isAhead_91 : decode cX9_isAhead 91 = .ok (.iconst 0, 1) := by decide +kernel
theorem dX9_isAhead_92 : decode cX9_isAhead 92 = .ok (.ireturn, 1) := by decide +kernel
theorem dX9_isAhead_93 : decode cX9_isAhead 93 = .ok (.iload_n 1, 1) := by decide +kernel
theorem dX9_isAhead_94 : decode cX9_isAhead 94 = .ok (.iload_n 2, 1) := by decide +kernel
theorem dX9_isAhead_95 : decode cX9_isAhead 95 = .ok (.if_icmp .ge 7, 3) := by decide +kernel
theorem dX9_isAhead_98 : decode cX9_isAhead 98 = .ok (.iconst 1, 1) := by decide +kernel
theorem dX9_isAhead_99 : decode cX9_isAhead 99 = .ok (.goto 4, 3) := by decide +kernel
theorem dX9_isAhead_102 : decode cX9_isAhead 102 = .ok (.iconst 0, 1) := by decide +kernel
theorem dX9_isAhead_103 : decode cX9_isAhead 103 = .ok (.ireturn, 1) := by decide +kernel
theorem dX9_nextShip_0 : decode cX9_nextShip 0 = .ok (.iconst (-1), 1) := by decide +kernel
theorem dX9_nextShip_1 : decode cX9_nextShip 1 = .ok (.istore_n 1, 1) := by decide +kernel
theorem dX9_nextShip_2 : decode cX9_nextShip 2 = .ok (.iconst 0, 1) := by decide +kernel
theorem dX9_nextShip_3 : decode cX9_nextShip 3 = .ok (.istore_n 2, 1) := by decide +kernel
theorem dX9_nextShip_4 : decode cX9_nextShip 4 = .ok (.iload_n 2, 1) := by decide +kernel
theorem dX9_nextShip_5 : decode cX9_nextShip 5 = .ok (.aload_n 0, 1) := by decide +kernel
theorem dX9_nextShip_6 : decode cX9_nextShip 6 = .ok (.getfield 119, 3) := by decide +kernel
theorem dX9_nextShip_9 : decode cX9_nextShip 9 = .ok (.if_icmp .ge 42, 3) := by decide +kernel
theorem dX9_nextShip_12 : decode cX9_nextShip 12 = .ok (.aload_n 0, 1) := by decide +kernel
theorem dX9_nextShip_13 : decode cX9_nextShip 13 = .ok (.getfield 82, 3) := by decide +kernel
theorem dX9_nextShip_16 : decode cX9_nextShip 16 = .ok (.iload_n 2, 1) := by decide +kernel
theorem dX9_nextShip_17 : decode cX9_nextShip 17 = .ok (.baload, 1) := by decide +kernel
theorem dX9_nextShip_18 : decode cX9_nextShip 18 = .ok (.ifCond .ne 27, 3) := by decide +kernel
theorem dX9_nextShip_21 : decode cX9_nextShip 21 = .ok (.aload_n 0, 1) := by decide +kernel
theorem dX9_nextShip_22 : decode cX9_nextShip 22 = .ok (.getfield 85, 3) := by decide +kernel
theorem dX9_nextShip_25 : decode cX9_nextShip 25 = .ok (.iload_n 2, 1) := by decide +kernel
theorem dX9_nextShip_26 : decode cX9_nextShip 26 = .ok (.iaload, 1) := by decide +kernel
theorem dX9_nextShip_27 : decode cX9_nextShip 27 = .ok (.ifCond .le 18, 3) := by decide +kernel
theorem dX9_nextShip_30 : decode cX9_nextShip 30 = .ok (.iload_n 1, 1) := by decide +kernel
theorem dX9_nextShip_31 : decode cX9_nextShip 31 = .ok (.ifCond .lt 12, 3) := by decide +kernel
theorem dX9_nextShip_34 : decode cX9_nextShip 34 = .ok (.aload_n 0, 1) := by decide +kernel
theorem dX9_nextShip_35 : decode cX9_nextShip 35 = .ok (.iload_n 2, 1) := by decide +kernel
theorem dX9_nextShip_36 : decode cX9_nextShip 36 = .ok (.iload_n 1, 1) := by decide +kernel
theorem dX9_nextShip_37 : decode cX9_nextShip 37 = .ok (.invokevirtual 213, 3) := by decide +kernel
theorem dX9_nextShip_40 : decode cX9_nextShip 40 = .ok (.ifCond .eq 5, 3) := by decide +kernel
theorem dX9_nextShip_43 : decode cX9_nextShip 43 = .ok (.iload_n 2, 1) := by decide +kernel
theorem dX9_nextShip_44 : decode cX9_nextShip 44 = .ok (.istore_n 1, 1) := by decide +kernel
theorem dX9_nextShip_45 : decode cX9_nextShip 45 = .ok (.iinc 2 1, 3) := by decide +kernel
theorem dX9_nextShip_48 : decode cX9_nextShip 48 = .ok (.goto (-44), 3) := by decide +kernel
theorem dX9_nextShip_51 : decode cX9_nextShip 51 = .ok (.iload_n 1, 1) := by decide +kernel
theorem dX9_nextShip_52 : decode cX9_nextShip 52 = .ok (.ireturn, 1) := by decide +kernel
theorem dX9_nextMan_0 : decode cX9_nextMan 0 = .ok (.iconst (-1), 1) := by decide +kernel
theorem dX9_nextMan_1 : decode cX9_nextMan 1 = .ok (.istore_n 2, 1) := by decide +kernel
theorem dX9_nextMan_2 : decode cX9_nextMan 2 = .ok (.iconst 0, 1) := by decide +kernel
theorem dX9_nextMan_3 : decode cX9_nextMan 3 = .ok (.istore_n 3, 1) := by decide +kernel
theorem dX9_nextMan_4 : decode cX9_nextMan 4 = .ok (.iload_n 3, 1) := by decide +kernel
theorem dX9_nextMan_5 : decode cX9_nextMan 5 = .ok (.aload_n 0, 1) := by decide +kernel
theorem dX9_nextMan_6 : decode cX9_nextMan 6 = .ok (.getfield 112, 3) := by decide +kernel
theorem dX9_nextMan_9 : decode cX9_nextMan 9 = .ok (.if_icmp .ge 77, 3) := by decide +kernel
theorem dX9_nextMan_12 : decode cX9_nextMan 12 = .ok (.aload_n 0, 1) := by decide +kernel
theorem dX9_nextMan_13 : decode cX9_nextMan 13 = .ok (.getfield 9, 3) := by decide +kernel
theorem dX9_nextMan_16 : decode cX9_nextMan 16 = .ok (.iload_n 3, 1) := by decide +kernel
theorem dX9_nextMan_17 : decode cX9_nextMan 17 = .ok (.iaload, 1) := by decide +kernel
theorem dX9_nextMan_18 : decode cX9_nextMan 18 = .ok (.iload_n 1, 1) := by decide +kernel
theorem dX9_nextMan_19 : decode cX9_nextMan 19 = .ok (.ishr, 1) := by decide +kernel
theorem dX9_nextMan_20 : decode cX9_nextMan 20 = .ok (.iconst 1, 1) := by decide +kernel
theorem dX9_nextMan_21 : decode cX9_nextMan 21 = .ok (.iand, 1) := by decide +kernel
theorem dX9_nextMan_22 : decode cX9_nextMan 22 = .ok (.ifCond .eq 58, 3) := by decide +kernel
theorem dX9_nextMan_25 : decode cX9_nextMan 25 = .ok (.aload_n 0, 1) := by decide +kernel
theorem dX9_nextMan_26 : decode cX9_nextMan 26 = .ok (.getfield 16, 3) := by decide +kernel
theorem dX9_nextMan_29 : decode cX9_nextMan 29 = .ok (.iload_n 3, 1) := by decide +kernel
theorem dX9_nextMan_30 : decode cX9_nextMan 30 = .ok (.iaload, 1) := by decide +kernel
theorem dX9_nextMan_31 : decode cX9_nextMan 31 = .ok (.aload_n 0, 1) := by decide +kernel
theorem dX9_nextMan_32 : decode cX9_nextMan 32 = .ok (.getfield 128, 3) := by decide +kernel
theorem dX9_nextMan_35 : decode cX9_nextMan 35 = .ok (.if_icmp .ge 45, 3) := by decide +kernel
theorem dX9_nextMan_38 : decode cX9_nextMan 38 = .ok (.aload_n 0, 1) := by decide +kernel
theorem dX9_nextMan_39 : decode cX9_nextMan 39 = .ok (.getfield 88, 3) := by decide +kernel
theorem dX9_nextMan_42 : decode cX9_nextMan 42 = .ok (.iload_n 3, 1) := by decide +kernel
theorem dX9_nextMan_43 : decode cX9_nextMan 43 = .ok (.baload, 1) := by decide +kernel
theorem dX9_nextMan_44 : decode cX9_nextMan 44 = .ok (.ifCond .ne 36, 3) := by decide +kernel
theorem dX9_nextMan_47 : decode cX9_nextMan 47 = .ok (.aload_n 0, 1) := by decide +kernel
theorem dX9_nextMan_48 : decode cX9_nextMan 48 = .ok (.getfield 91, 3) := by decide +kernel
theorem dX9_nextMan_51 : decode cX9_nextMan 51 = .ok (.iload_n 3, 1) := by decide +kernel
theorem dX9_nextMan_52 : decode cX9_nextMan 52 = .ok (.baload, 1) := by decide +kernel
theorem dX9_nextMan_53 : decode cX9_nextMan 53 = .ok (.ifCond .eq 6, 3) := by decide +kernel
theorem dX9_nextMan_56 : decode cX9_nextMan 56 = .ok (.goto 24, 3) := by decide +kernel
theorem dX9_nextMan_59 : decode cX9_nextMan 59 = .ok (.iload_n 2, 1) := by decide +kernel
theorem dX9_nextMan_60 : decode cX9_nextMan 60 = .ok (.ifCond .lt 18, 3) := by decide +kernel
theorem dX9_nextMan_63 : decode cX9_nextMan 63 = .ok (.aload_n 0, 1) := by decide +kernel
theorem dX9_nextMan_64 : decode cX9_nextMan 64 = .ok (.getfield 97, 3) := by decide +kernel
theorem dX9_nextMan_67 : decode cX9_nextMan 67 = .ok (.iload_n 3, 1) := by decide +kernel
theorem dX9_nextMan_68 : decode cX9_nextMan 68 = .ok (.iaload, 1) := by decide +kernel
theorem dX9_nextMan_69 : decode cX9_nextMan 69 = .ok (.aload_n 0, 1) := by decide +kernel
theorem dX9_nextMan_70 : decode cX9_nextMan 70 = .ok (.getfield 97, 3) := by decide +kernel
theorem dX9_nextMan_73 : decode cX9_nextMan 73 = .ok (.iload_n 2, 1) := by decide +kernel
theorem dX9_nextMan_74 : decode cX9_nextMan 74 = .ok (.iaload, 1) := by decide +kernel
theorem dX9_nextMan_75 : decode cX9_nextMan 75 = .ok (.if_icmp .ge 5, 3) := by decide +kernel
theorem dX9_nextMan_78 : decode cX9_nextMan 78 = .ok (.iload_n 3, 1) := by decide +kernel
theorem dX9_nextMan_79 : decode cX9_nextMan 79 = .ok (.istore_n 2, 1) := by decide +kernel
theorem dX9_nextMan_80 : decode cX9_nextMan 80 = .ok (.iinc 3 1, 3) := by decide +kernel
theorem dX9_nextMan_83 : decode cX9_nextMan 83 = .ok (.goto (-79), 3) := by decide +kernel
theorem dX9_nextMan_86 : decode cX9_nextMan 86 = .ok (.iload_n 2, 1) := by decide +kernel
theorem dX9_nextMan_87 : decode cX9_nextMan 87 = .ok (.ireturn, 1) := by decide +kernel
theorem dX9_gathers_0 : decode cX9_gathers 0 = .ok (.iconst 0, 1) := by decide +kernel
theorem dX9_gathers_1 : decode cX9_gathers 1 = .ok (.istore_n 3, 1) := by decide +kernel
theorem dX9_gathers_2 : decode cX9_gathers 2 = .ok (.iload_n 3, 1) := by decide +kernel
theorem dX9_gathers_3 : decode cX9_gathers 3 = .ok (.aload_n 0, 1) := by decide +kernel
theorem dX9_gathers_4 : decode cX9_gathers 4 = .ok (.getfield 112, 3) := by decide +kernel
theorem dX9_gathers_7 : decode cX9_gathers 7 = .ok (.if_icmp .ge 16, 3) := by decide +kernel
theorem dX9_gathers_10 : decode cX9_gathers 10 = .ok (.aload_n 0, 1) := by decide +kernel
theorem dX9_gathers_11 : decode cX9_gathers 11 = .ok (.getfield 91, 3) := by decide +kernel
theorem dX9_gathers_14 : decode cX9_gathers 14 = .ok (.iload_n 3, 1) := by decide +kernel
theorem dX9_gathers_15 : decode cX9_gathers 15 = .ok (.iconst 0, 1) := by decide +kernel
theorem dX9_gathers_16 : decode cX9_gathers 16 = .ok (.bastore, 1) := by decide +kernel
theorem dX9_gathers_17 : decode cX9_gathers 17 = .ok (.iinc 3 1, 3) := by decide +kernel
theorem dX9_gathers_20 : decode cX9_gathers 20 = .ok (.goto (-18), 3) := by decide +kernel
theorem dX9_gathers_23 : decode cX9_gathers 23 = .ok (.iconst 0, 1) := by decide +kernel
theorem dX9_gathers_24 : decode cX9_gathers 24 = .ok (.istore_n 3, 1) := by decide +kernel
theorem dX9_gathers_25 : decode cX9_gathers 25 = .ok (.iload_n 3, 1) := by decide +kernel
theorem dX9_gathers_26 : decode cX9_gathers 26 = .ok (.aload_n 0, 1) := by decide +kernel
theorem dX9_gathers_27 : decode cX9_gathers 27 = .ok (.getfield 47, 3) := by decide +kernel
theorem dX9_gathers_30 : decode cX9_gathers 30 = .ok (.iconst 0, 1) := by decide +kernel
theorem dX9_gathers_31 : decode cX9_gathers 31 = .ok (.iaload, 1) := by decide +kernel
theorem dX9_gathers_32 : decode cX9_gathers 32 = .ok (.if_icmp .ge 81, 3) := by decide +kernel
theorem dX9_gathers_35 : decode cX9_gathers 35 = .ok (.aload_n 0, 1) := by decide +kernel
theorem dX9_gathers_36 : decode cX9_gathers 36 = .ok (.iload_n 1, 1) := by decide +kernel
theorem dX9_gathers_37 : decode cX9_gathers 37 = .ok (.invokevirtual 216, 3) := by decide +kernel
theorem dX9_gathers_40 : decode cX9_gathers 40 = .ok (.istore 4, 2) := by decide +kernel
theorem dX9_gathers_42 : decode cX9_gathers 42 = .ok (.iload 4, 2) := by decide +kernel
theorem dX9_gathers_44 : decode cX9_gathers 44 = .ok (.ifCond .ge 5, 3) := by decide +kernel
theorem dX9_gathers_47 : decode cX9_gathers 47 = .ok (.iconst 0, 1) := by decide +kernel
theorem dX9_gathers_48 : decode cX9_gathers 48 = .ok (.ireturn, 1) := by decide +kernel
theorem dX9_gathers_49 : decode cX9_gathers 49 = .ok (.aload_n 0, 1) := by decide +kernel
theorem dX9_gathers_50 : decode cX9_gathers 50 = .ok (.getfield 91, 3) := by decide +kernel
theorem dX9_gathers_53 : decode cX9_gathers 53 = .ok (.iload 4, 2) := by decide +kernel
theorem dX9_gathers_55 : decode cX9_gathers 55 = .ok (.iconst 1, 1) := by decide +kernel
theorem dX9_gathers_56 : decode cX9_gathers 56 = .ok (.bastore, 1) := by decide +kernel
theorem dX9_gathers_57 : decode cX9_gathers 57 = .ok (.iload_n 2, 1) := by decide +kernel
theorem dX9_gathers_58 : decode cX9_gathers 58 = .ok (.iload 4, 2) := by decide +kernel
theorem dX9_gathers_60 : decode cX9_gathers 60 = .ok (.ishr, 1) := by decide +kernel
theorem dX9_gathers_61 : decode cX9_gathers 61 = .ok (.iconst 1, 1) := by decide +kernel
theorem dX9_gathers_62 : decode cX9_gathers 62 = .ok (.iand, 1) := by decide +kernel
theorem dX9_gathers_63 : decode cX9_gathers 63 = .ok (.iconst 1, 1) := by decide +kernel
theorem dX9_gathers_64 : decode cX9_gathers 64 = .ok (.if_icmp .ne 35, 3) := by decide +kernel
theorem dX9_gathers_67 : decode cX9_gathers 67 = .ok (.aload_n 0, 1) := by decide +kernel
theorem dX9_gathers_68 : decode cX9_gathers 68 = .ok (.getfield 16, 3) := by decide +kernel
theorem dX9_gathers_71 : decode cX9_gathers 71 = .ok (.iload 4, 2) := by decide +kernel
theorem dX9_gathers_73 : decode cX9_gathers 73 = .ok (.aload_n 0, 1) := by decide +kernel
theorem dX9_gathers_74 : decode cX9_gathers 74 = .ok (.getfield 128, 3) := by decide +kernel
theorem dX9_gathers_77 : decode cX9_gathers 77 = .ok (.aload_n 0, 1) := by decide +kernel
theorem dX9_gathers_78 : decode cX9_gathers 78 = .ok (.getfield 47, 3) := by decide +kernel
theorem dX9_gathers_81 : decode cX9_gathers 81 = .ok (.iconst 2, 1) := by decide +kernel
theorem dX9_gathers_82 : decode cX9_gathers 82 = .ok (.iaload, 1) := by decide +kernel
theorem dX9_gathers_83 : decode cX9_gathers 83 = .ok (.iadd, 1) := by decide +kernel
theorem dX9_gathers_84 : decode cX9_gathers 84 = .ok (.iastore, 1) := by decide +kernel
theorem dX9_gathers_85 : decode cX9_gathers 85 = .ok (.aload_n 0, 1) := by decide +kernel
theorem dX9_gathers_86 : decode cX9_gathers 86 = .ok (.getfield 19, 3) := by decide +kernel
theorem dX9_gathers_89 : decode cX9_gathers 89 = .ok (.iload 4, 2) := by decide +kernel
theorem dX9_gathers_91 : decode cX9_gathers 91 = .ok (.dup2, 1) := by decide +kernel
theorem dX9_gathers_92 : decode cX9_gathers 92 = .ok (.iaload, 1) := by decide +kernel
theorem dX9_gathers_93 : decode cX9_gathers 93 = .ok (.iconst 1, 1) := by decide +kernel
theorem dX9_gathers_94 : decode cX9_gathers 94 = .ok (.iadd, 1) := by decide +kernel
theorem dX9_gathers_95 : decode cX9_gathers 95 = .ok (.iastore, 1) := by decide +kernel
theorem dX9_gathers_96 : decode cX9_gathers 96 = .ok (.goto (-71), 3) := by decide +kernel
theorem dX9_gathers_99 : decode cX9_gathers 99 = .ok (.aload_n 0, 1) := by decide +kernel
theorem dX9_gathers_100 : decode cX9_gathers 100 = .ok (.getfield 94, 3) := by decide +kernel
theorem dX9_gathers_103 : decode cX9_gathers 103 = .ok (.iload_n 3, 1) := by decide +kernel
theorem dX9_gathers_104 : decode cX9_gathers 104 = .ok (.iload 4, 2) := by decide +kernel
theorem dX9_gathers_106 : decode cX9_gathers 106 = .ok (.iastore, 1) := by decide +kernel
theorem dX9_gathers_107 : decode cX9_gathers 107 = .ok (.iinc 3 1, 3) := by decide +kernel
theorem dX9_gathers_110 : decode cX9_gathers 110 = .ok (.goto (-85), 3) := by decide +kernel
theorem dX9_gathers_113 : decode cX9_gathers 113 = .ok (.iconst 1, 1) := by decide +kernel
theorem dX9_gathers_114 : decode cX9_gathers 114 = .ok (.ireturn, 1) := by decide +kernel
theorem dX9_writes_0 : decode cX9_writes 0 = .ok (.aload_n 0, 1) := by decide +kernel
theorem dX9_writes_1 : decode cX9_writes 1 = .ok (.dup, 1) := by decide +kernel
theorem dX9_writes_2 : decode cX9_writes 2 = .ok (.getfield 220, 3) := by decide +kernel
theorem dX9_writes_5 : decode cX9_writes 5 = .ok (.iload_n 2, 1) := by decide +kernel
theorem dX9_writes_6 : decode cX9_writes 6 = .ok (.i2l, 1) := by decide +kernel
theorem dX9_writes_7 : decode cX9_writes 7 = .ok (.ladd, 1) := by decide +kernel
theorem dX9_writes_8 : decode cX9_writes 8 = .ok (.putfield 220, 3) := by decide +kernel
theorem dX9_writes_11 : decode cX9_writes 11 = .ok (.aload_n 0, 1) := by decide +kernel
theorem dX9_writes_12 : decode cX9_writes 12 = .ok (.getfield 224, 3) := by decide +kernel
theorem dX9_writes_15 : decode cX9_writes 15 = .ok (.sipush 800, 3) := by decide +kernel
theorem dX9_writes_18 : decode cX9_writes 18 = .ok (.if_icmp .ne 4, 3) := by decide +kernel
theorem dX9_writes_21 : decode cX9_writes 21 = .ok (.return_, 1) := by decide +kernel
theorem dX9_writes_22 : decode cX9_writes 22 = .ok (.aload_n 0, 1) := by decide +kernel
theorem dX9_writes_23 : decode cX9_writes 23 = .ok (.getfield 53, 3) := by decide +kernel
theorem dX9_writes_26 : decode cX9_writes 26 = .ok (.aload_n 0, 1) := by decide +kernel
theorem dX9_writes_27 : decode cX9_writes 27 = .ok (.getfield 224, 3) := by decide +kernel
theorem dX9_writes_30 : decode cX9_writes 30 = .ok (.aload_n 0, 1) := by decide +kernel
theorem dX9_writes_31 : decode cX9_writes 31 = .ok (.getfield 128, 3) := by decide +kernel
theorem dX9_writes_34 : decode cX9_writes 34 = .ok (.iastore, 1) := by decide +kernel
theorem dX9_writes_35 : decode cX9_writes 35 = .ok (.aload_n 0, 1) := by decide +kernel
theorem dX9_writes_36 : decode cX9_writes 36 = .ok (.getfield 56, 3) := by decide +kernel
theorem dX9_writes_39 : decode cX9_writes 39 = .ok (.aload_n 0, 1) := by decide +kernel
theorem dX9_writes_40 : decode cX9_writes 40 = .ok (.getfield 224, 3) := by decide +kernel
theorem dX9_writes_43 : decode cX9_writes 43 = .ok (.iload_n 1, 1) := by decide +kernel
theorem dX9_writes_44 : decode cX9_writes 44 = .ok (.iastore, 1) := by decide +kernel
theorem dX9_writes_45 : decode cX9_writes 45 = .ok (.aload_n 0, 1) := by decide +kernel
theorem dX9_writes_46 : decode cX9_writes 46 = .ok (.getfield 59, 3) := by decide +kernel
theorem dX9_writes_49 : decode cX9_writes 49 = .ok (.aload_n 0, 1) := by decide +kernel
theorem dX9_writes_50 : decode cX9_writes 50 = .ok (.getfield 224, 3) := by decide +kernel
theorem dX9_writes_53 : decode cX9_writes 53 = .ok (.iload_n 2, 1) := by decide +kernel
theorem dX9_writes_54 : decode cX9_writes 54 = .ok (.iastore, 1) := by decide +kernel
theorem dX9_writes_55 : decode cX9_writes 55 = .ok (.aload_n 0, 1) := by decide +kernel
theorem dX9_writes_56 : decode cX9_writes 56 = .ok (.dup, 1) := by decide +kernel
theorem dX9_writes_57 : decode cX9_writes 57 = .ok (.getfield 224, 3) := by decide +kernel
theorem dX9_writes_60 : decode cX9_writes 60 = .ok (.iconst 1, 1) := by decide +kernel
theorem dX9_writes_61 : decode cX9_writes 61 = .ok (.iadd, 1) := by decide +kernel
theorem dX9_writes_62 : decode cX9_writes 62 = .ok (.putfield 224, 3) := by decide +kernel
theorem dX9_writes_65 : decode cX9_writes 65 = .ok (.return_, 1) := by decide +kernel
theorem dX9_works_0 : decode cX9_works 0 = .ok (.iconst 4, 1) := by decide +kernel
theorem dX9_works_1 : decode cX9_works 1 = .ok (.iload_n 1, 1) := by decide +kernel
theorem dX9_works_2 : decode cX9_works 2 = .ok (.imul, 1) := by decide +kernel
theorem dX9_works_3 : decode cX9_works 3 = .ok (.iload_n 2, 1) := by decide +kernel
theorem dX9_works_4 : decode cX9_works 4 = .ok (.iadd, 1) := by decide +kernel
theorem dX9_works_5 : decode cX9_works 5 = .ok (.istore 4, 2) := by decide +kernel
theorem dX9_works_7 : decode cX9_works 7 = .ok (.iconst 0, 1) := by decide +kernel
theorem dX9_works_8 : decode cX9_works 8 = .ok (.istore 5, 2) := by decide +kernel
theorem dX9_works_10 : decode cX9_works 10 = .ok (.iconst 0, 1) := by decide +kernel
theorem dX9_works_11 : decode cX9_works 11 = .ok (.istore 6, 2) := by decide +kernel
theorem dX9_works_13 : decode cX9_works 13 = .ok (.iconst 0, 1) := by decide +kernel
theorem dX9_works_14 : decode cX9_works 14 = .ok (.istore 7, 2) := by decide +kernel
theorem dX9_works_16 : decode cX9_works 16 = .ok (.iload 7, 2) := by decide +kernel
theorem dX9_works_18 : decode cX9_works 18 = .ok (.iconst 4, 1) := by decide +kernel
theorem dX9_works_19 : decode cX9_works 19 = .ok (.if_icmp .ge 99, 3) := by decide +kernel
theorem dX9_works_22 : decode cX9_works 22 = .ok (.aload_n 0, 1) := by decide +kernel
theorem dX9_works_23 : decode cX9_works 23 = .ok (.getfield 37, 3) := by decide +kernel
theorem dX9_works_26 : decode cX9_works 26 = .ok (.iload 4, 2) := by decide +kernel
theorem dX9_works_28 : decode cX9_works 28 = .ok (.iaload, 1) := by decide +kernel
theorem dX9_works_29 : decode cX9_works 29 = .ok (.ifCond .le 89, 3) := by decide +kernel
theorem dX9_works_32 : decode cX9_works 32 = .ok (.aload_n 0, 1) := by decide +kernel
theorem dX9_works_33 : decode cX9_works 33 = .ok (.getfield 43, 3) := by decide +kernel
theorem dX9_works_36 : decode cX9_works 36 = .ok (.iload 4, 2) := by decide +kernel
theorem dX9_works_38 : decode cX9_works 38 = .ok (.baload, 1) := by decide +kernel
theorem dX9_works_39 : decode cX9_works 39 = .ok (.ifCond .eq 19, 3) := by decide +kernel
theorem dX9_works_42 : decode cX9_works 42 = .ok (.iload_n 3, 1) := by decide +kernel
theorem dX9_works_43 : decode cX9_works 43 = .ok (.iload 7, 2) := by decide +kernel
theorem dX9_works_45 : decode cX9_works 45 = .ok (.ishr, 1) := by decide +kernel
theorem dX9_works_46 : decode cX9_works 46 = .ok (.iconst 1, 1) := by decide +kernel
theorem dX9_works_47 : decode cX9_works 47 = .ok (.iand, 1) := by decide +kernel
theorem dX9_works_48 : decode cX9_works 48 = .ok (.iconst 1, 1) := by decide +kernel
theorem dX9_works_49 : decode cX9_works 49 = .ok (.if_icmp .ne 9, 3) := by decide +kernel
theorem dX9_works_52 : decode cX9_works 52 = .ok (.iinc 6 1, 3) := by decide +kernel
theorem dX9_works_55 : decode cX9_works 55 = .ok (.goto 57, 3) := by decide +kernel
theorem dX9_works_58 : decode cX9_works 58 = .ok (.aload_n 0, 1) := by decide +kernel
theorem dX9_works_59 : decode cX9_works 59 = .ok (.getfield 47, 3) := by decide +kernel
theorem dX9_works_62 : decode cX9_works 62 = .ok (.bipush 7, 2) := by decide +kernel
theorem dX9_works_64 : decode cX9_works 64 = .ok (.aload_n 0, 1) := by decide +kernel
theorem dX9_works_65 : decode cX9_works 65 = .ok (.getfield 40, 3) := by decide +kernel
theorem dX9_works_68 : decode cX9_works 68 = .ok (.iload 4, 2) := by decide +kernel
theorem dX9_works_70 : decode cX9_works 70 = .ok (.iaload, 1) := by decide +kernel
theorem dX9_works_71 : decode cX9_works 71 = .ok (.iadd, 1) := by decide +kernel
theorem dX9_works_72 : decode cX9_works 72 = .ok (.iaload, 1) := by decide +kernel
theorem dX9_works_73 : decode cX9_works 73 = .ok (.aload_n 0, 1) := by decide +kernel
theorem dX9_works_74 : decode cX9_works 74 = .ok (.getfield 37, 3) := by decide +kernel
theorem dX9_works_77 : decode cX9_works 77 = .ok (.iload 4, 2) := by decide +kernel
theorem dX9_works_79 : decode cX9_works 79 = .ok (.iaload, 1) := by decide +kernel
theorem dX9_works_80 : decode cX9_works 80 = .ok (.invokestatic 227, 3) := by decide +kernel
theorem dX9_works_83 : decode cX9_works 83 = .ok (.istore 8, 2) := by decide +kernel
theorem dX9_works_85 : decode cX9_works 85 = .ok (.aload_n 0, 1) := by decide +kernel
theorem dX9_works_86 : decode cX9_works 86 = .ok (.getfield 37, 3) := by decide +kernel
theorem dX9_works_89 : decode cX9_works 89 = .ok (.iload 4, 2) := by decide +kernel
theorem dX9_works_91 : decode cX9_works 91 = .ok (.dup2, 1) := by decide +kernel
theorem dX9_works_92 : decode cX9_works 92 = .ok (.iaload, 1) := by decide +kernel
theorem dX9_works_93 : decode cX9_works 93 = .ok (.iload 8, 2) := by decide +kernel
theorem dX9_works_95 : decode cX9_works 95 = .ok (.isub, 1) := by decide +kernel
theorem dX9_works_96 : decode cX9_works 96 = .ok (.iastore, 1) := by decide +kernel
theorem dX9_works_97 : decode cX9_works 97 = .ok (.aload_n 0, 1) := by decide +kernel
theorem dX9_works_98 : decode cX9_works 98 = .ok (.dup, 1) := by decide +kernel
theorem dX9_works_99 : decode cX9_works 99 = .ok (.getfield 232, 3) := by decide +kernel
theorem dX9_works_102 : decode cX9_works 102 = .ok (.iload 8, 2) := by decide +kernel
theorem dX9_works_104 : decode cX9_works 104 = .ok (.i2l, 1) := by decide +kernel
theorem dX9_works_105 : decode cX9_works 105 = .ok (.ladd, 1) := by decide +kernel
theorem dX9_works_106 : decode cX9_works 106 = .ok (.putfield 232, 3) := by decide +kernel
theorem dX9_works_109 : decode cX9_works 109 = .ok (.iinc 5 1, 3) := by decide +kernel
theorem dX9_works_112 : decode cX9_works 112 = .ok (.iinc 7 1, 3) := by decide +kernel
theorem dX9_works_115 : decode cX9_works 115 = .ok (.goto (-99), 3) := by decide +kernel
theorem dX9_works_118 : decode cX9_works 118 = .ok (.aload_n 0, 1) := by decide +kernel
theorem dX9_works_119 : decode cX9_works 119 = .ok (.getfield 47, 3) := by decide +kernel
theorem dX9_works_122 : decode cX9_works 122 = .ok (.iconst 3, 1) := by decide +kernel
theorem dX9_works_123 : decode cX9_works 123 = .ok (.iaload, 1) := by decide +kernel
theorem dX9_works_124 : decode cX9_works 124 = .ok (.iload 5, 2) := by decide +kernel
theorem dX9_works_126 : decode cX9_works 126 = .ok (.imul, 1) := by decide +kernel
theorem dX9_works_127 : decode cX9_works 127 = .ok (.aload_n 0, 1) := by decide +kernel
theorem dX9_works_128 : decode cX9_works 128 = .ok (.getfield 47, 3) := by decide +kernel
theorem dX9_works_131 : decode cX9_works 131 = .ok (.iconst 3, 1) := by decide +kernel
theorem dX9_works_132 : decode cX9_works 132 = .ok (.iaload, 1) := by decide +kernel
theorem dX9_works_133 : decode cX9_works 133 = .ok (.iload 6, 2) := by decide +kernel
theorem dX9_works_135 : decode cX9_works 135 = .ok (.imul, 1) := by decide +kernel
theorem dX9_works_136 : decode cX9_works 136 = .ok (.aload_n 0, 1) := by decide +kernel
theorem dX9_works_137 : decode cX9_works 137 = .ok (.getfield 47, 3) := by decide +kernel
theorem dX9_works_140 : decode cX9_works 140 = .ok (.iconst 4, 1) := by decide +kernel
theorem dX9_works_141 : decode cX9_works 141 = .ok (.iaload, 1) := by decide +kernel
theorem dX9_works_142 : decode cX9_works 142 = .ok (.imul, 1) := by decide +kernel
theorem dX9_works_143 : decode cX9_works 143 = .ok (.bipush 100, 2) := by decide +kernel
theorem dX9_works_145 : decode cX9_works 145 = .ok (.idiv, 1) := by decide +kernel
theorem dX9_works_146 : decode cX9_works 146 = .ok (.iadd, 1) := by decide +kernel
theorem dX9_works_147 : decode cX9_works 147 = .ok (.aload_n 0, 1) := by decide +kernel
theorem dX9_works_148 : decode cX9_works 148 = .ok (.getfield 47, 3) := by decide +kernel
theorem dX9_works_151 : decode cX9_works 151 = .ok (.iconst 3, 1) := by decide +kernel
theorem dX9_works_152 : decode cX9_works 152 = .ok (.iaload, 1) := by decide +kernel
theorem dX9_works_153 : decode cX9_works 153 = .ok (.iconst 0, 1) := by decide +kernel
theorem dX9_works_154 : decode cX9_works 154 = .ok (.aload_n 0, 1) := by decide +kernel
theorem dX9_works_155 : decode cX9_works 155 = .ok (.getfield 47, 3) := by decide +kernel
theorem dX9_works_158 : decode cX9_works 158 = .ok (.iconst 5, 1) := by decide +kernel
theorem dX9_works_159 : decode cX9_works 159 = .ok (.iaload, 1) := by decide +kernel
theorem dX9_works_160 : decode cX9_works 160 = .ok (.iload 5, 2) := by decide +kernel
theorem dX9_works_162 : decode cX9_works 162 = .ok (.isub, 1) := by decide +kernel
theorem dX9_works_163 : decode cX9_works 163 = .ok (.iload 6, 2) := by decide +kernel
theorem dX9_works_165 : decode cX9_works 165 = .ok (.isub, 1) := by decide +kernel
theorem dX9_works_166 : decode cX9_works 166 = .ok (.invokestatic 235, 3) := by decide +kernel
theorem dX9_works_169 : decode cX9_works 169 = .ok (.imul, 1) := by decide +kernel
theorem dX9_works_170 : decode cX9_works 170 = .ok (.iadd, 1) := by decide +kernel
theorem dX9_works_171 : decode cX9_works 171 = .ok (.istore 7, 2) := by decide +kernel
theorem dX9_works_173 : decode cX9_works 173 = .ok (.iconst 0, 1) := by decide +kernel
theorem dX9_works_174 : decode cX9_works 174 = .ok (.istore 8, 2) := by decide +kernel
theorem dX9_works_176 : decode cX9_works 176 = .ok (.iload 8, 2) := by decide +kernel
theorem dX9_works_178 : decode cX9_works 178 = .ok (.aload_n 0, 1) := by decide +kernel
theorem dX9_works_179 : decode cX9_works 179 = .ok (.getfield 47, 3) := by decide +kernel
theorem dX9_works_182 : decode cX9_works 182 = .ok (.iconst 0, 1) := by decide +kernel
theorem dX9_works_183 : decode cX9_works 183 = .ok (.iaload, 1) := by decide +kernel
theorem dX9_works_184 : decode cX9_works 184 = .ok (.if_icmp .ge 61, 3) := by decide +kernel
theorem dX9_works_187 : decode cX9_works 187 = .ok (.aload_n 0, 1) := by decide +kernel
theorem dX9_works_188 : decode cX9_works 188 = .ok (.getfield 94, 3) := by decide +kernel
theorem dX9_works_191 : decode cX9_works 191 = .ok (.iload 8, 2) := by decide +kernel
theorem dX9_works_193 : decode cX9_works 193 = .ok (.iaload, 1) := by decide +kernel
theorem dX9_works_194 : decode cX9_works 194 = .ok (.istore 9, 2) := by decide +kernel
theorem dX9_works_196 : decode cX9_works 196 = .ok (.aload_n 0, 1) := by decide +kernel
theorem dX9_works_197 : decode cX9_works 197 = .ok (.getfield 88, 3) := by decide +kernel
theorem dX9_works_200 : decode cX9_works 200 = .ok (.iload 9, 2) := by decide +kernel
theorem dX9_works_202 : decode cX9_works 202 = .ok (.iconst 1, 1) := by decide +kernel
theorem dX9_works_203 : decode cX9_works 203 = .ok (.bastore, 1) := by decide +kernel
theorem dX9_works_204 : decode cX9_works 204 = .ok (.aload_n 0, 1) := by decide +kernel
theorem dX9_works_205 : decode cX9_works 205 = .ok (.getfield 22, 3) := by decide +kernel
theorem dX9_works_208 : decode cX9_works 208 = .ok (.iload 9, 2) := by decide +kernel
theorem dX9_works_210 : decode cX9_works 210 = .ok (.iload_n 1, 1) := by decide +kernel
theorem dX9_works_211 : decode cX9_works 211 = .ok (.iastore, 1) := by decide +kernel
theorem dX9_works_212 : decode cX9_works 212 = .ok (.aload_n 0, 1) := by decide +kernel
theorem dX9_works_213 : decode cX9_works 213 = .ok (.getfield 25, 3) := by decide +kernel
theorem dX9_works_216 : decode cX9_works 216 = .ok (.iload 9, 2) := by decide +kernel
theorem dX9_works_218 : decode cX9_works 218 = .ok (.iload_n 2, 1) := by decide +kernel
theorem dX9_works_219 : decode cX9_works 219 = .ok (.iastore, 1) := by decide +kernel
theorem dX9_works_220 : decode cX9_works 220 = .ok (.aload_n 0, 1) := by decide +kernel
theorem dX9_works_221 : decode cX9_works 221 = .ok (.getfield 13, 3) := by decide +kernel
theorem dX9_works_224 : decode cX9_works 224 = .ok (.iload 9, 2) := by decide +kernel
theorem dX9_works_226 : decode cX9_works 226 = .ok (.dup2, 1) := by decide +kernel
theorem dX9_works_227 : decode cX9_works 227 = .ok (.iaload, 1) := by decide +kernel
theorem dX9_works_228 : decode cX9_works 228 = .ok (.iconst 1, 1) := by decide +kernel
theorem dX9_works_229 : decode cX9_works 229 = .ok (.iadd, 1) := by decide +kernel
theorem dX9_works_230 : decode cX9_works 230 = .ok (.iastore, 1) := by decide +kernel
theorem dX9_works_231 : decode cX9_works 231 = .ok (.aload_n 0, 1) := by decide +kernel
theorem dX9_works_232 : decode cX9_works 232 = .ok (.iload 9, 2) := by decide +kernel
theorem dX9_works_234 : decode cX9_works 234 = .ok (.iload 7, 2) := by decide +kernel
theorem dX9_works_236 : decode cX9_works 236 = .ok (.invokevirtual 238, 3) := by decide +kernel
theorem dX9_works_239 : decode cX9_works 239 = .ok (.iinc 8 1, 3) := by decide +kernel
theorem dX9_works_242 : decode cX9_works 242 = .ok (.goto (-66), 3) := by decide +kernel
theorem dX9_works_245 : decode cX9_works 245 = .ok (.return_, 1) := by decide +kernel
theorem dX9_call_0 : decode cX9_call 0 = .ok (.aload_n 0, 1) := by decide +kernel
theorem dX9_call_1 : decode cX9_call 1 = .ok (.iconst 0, 1) := by decide +kernel
theorem dX9_call_2 : decode cX9_call 2 = .ok (.putfield 109, 3) := by decide +kernel
theorem dX9_call_5 : decode cX9_call 5 = .ok (.aload_n 0, 1) := by decide +kernel
theorem dX9_call_6 : decode cX9_call 6 = .ok (.iload_n 1, 1) := by decide +kernel
theorem dX9_call_7 : decode cX9_call 7 = .ok (.i2l, 1) := by decide +kernel
theorem dX9_call_8 : decode cX9_call 8 = .ok (.lconst 0, 1) := by decide +kernel
theorem dX9_call_9 : decode cX9_call 9 = .ok (.ldc2_w 122, 3) := by decide +kernel
theorem dX9_call_12 : decode cX9_call 12 = .ok (.invokestatic 115, 3) := by decide +kernel
theorem dX9_call_15 : decode cX9_call 15 = .ok (.ifCond .ne 7, 3) := by decide +kernel
theorem dX9_call_18 : decode cX9_call 18 = .ok (.iconst 1, 1) := by decide +kernel
theorem dX9_call_19 : decode cX9_call 19 = .ok (.goto 4, 3) := by decide +kernel
theorem dX9_call_22 : decode cX9_call 22 = .ok (.iconst 0, 1) := by decide +kernel
theorem dX9_call_23 : decode cX9_call 23 = .ok (.iconst 1, 1) := by decide +kernel
theorem dX9_call_24 : decode cX9_call 24 = .ok (.invokevirtual 124, 3) := by decide +kernel
theorem dX9_call_27 : decode cX9_call 27 = .ok (.ifCond .eq 5, 3) := by decide +kernel
theorem dX9_call_30 : decode cX9_call 30 = .ok (.iconst 0, 1) := by decide +kernel
theorem dX9_call_31 : decode cX9_call 31 = .ok (.ireturn, 1) := by decide +kernel
theorem dX9_call_32 : decode cX9_call 32 = .ok (.iconst 0, 1) := by decide +kernel
theorem dX9_call_33 : decode cX9_call 33 = .ok (.istore_n 3, 1) := by decide +kernel
theorem dX9_call_34 : decode cX9_call 34 = .ok (.iload_n 3, 1) := by decide +kernel
theorem dX9_call_35 : decode cX9_call 35 = .ok (.aload_n 0, 1) := by decide +kernel
theorem dX9_call_36 : decode cX9_call 36 = .ok (.getfield 112, 3) := by decide +kernel
theorem dX9_call_39 : decode cX9_call 39 = .ok (.if_icmp .ge 42, 3) := by decide +kernel
theorem dX9_call_42 : decode cX9_call 42 = .ok (.aload_n 0, 1) := by decide +kernel
theorem dX9_call_43 : decode cX9_call 43 = .ok (.getfield 88, 3) := by decide +kernel
theorem dX9_call_46 : decode cX9_call 46 = .ok (.iload_n 3, 1) := by decide +kernel
theorem dX9_call_47 : decode cX9_call 47 = .ok (.iconst 0, 1) := by decide +kernel
theorem dX9_call_48 : decode cX9_call 48 = .ok (.bastore, 1) := by decide +kernel
theorem dX9_call_49 : decode cX9_call 49 = .ok (.aload_n 0, 1) := by decide +kernel
theorem dX9_call_50 : decode cX9_call 50 = .ok (.getfield 22, 3) := by decide +kernel
theorem dX9_call_53 : decode cX9_call 53 = .ok (.iload_n 3, 1) := by decide +kernel
theorem dX9_call_54 : decode cX9_call 54 = .ok (.iconst (-1), 1) := by decide +kernel
theorem dX9_call_55 : decode cX9_call 55 = .ok (.iastore, 1) := by decide +kernel
theorem dX9_call_56 : decode cX9_call 56 = .ok (.aload_n 0, 1) := by decide +kernel
theorem dX9_call_57 : decode cX9_call 57 = .ok (.getfield 25, 3) := by decide +kernel
theorem dX9_call_60 : decode cX9_call 60 = .ok (.iload_n 3, 1) := by decide +kernel
theorem dX9_call_61 : decode cX9_call 61 = .ok (.iconst (-1), 1) := by decide +kernel
theorem dX9_call_62 : decode cX9_call 62 = .ok (.iastore, 1) := by decide +kernel
theorem dX9_call_63 : decode cX9_call 63 = .ok (.aload_n 0, 1) := by decide +kernel
theorem dX9_call_64 : decode cX9_call 64 = .ok (.getfield 97, 3) := by decide +kernel
theorem dX9_call_67 : decode cX9_call 67 = .ok (.iload_n 3, 1) := by decide +kernel
theorem dX9_call_68 : decode cX9_call 68 = .ok (.aload_n 0, 1) := by decide +kernel
theorem dX9_call_69 : decode cX9_call 69 = .ok (.getfield 13, 3) := by decide +kernel
theorem dX9_call_72 : decode cX9_call 72 = .ok (.iload_n 3, 1) := by decide +kernel
theorem dX9_call_73 : decode cX9_call 73 = .ok (.iaload, 1) := by decide +kernel
theorem dX9_call_74 : decode cX9_call 74 = .ok (.iastore, 1) := by decide +kernel
theorem dX9_call_75 : decode cX9_call 75 = .ok (.iinc 3 1, 3) := by decide +kernel
theorem dX9_call_78 : decode cX9_call 78 = .ok (.goto (-44), 3) := by decide +kernel
theorem dX9_call_81 : decode cX9_call 81 = .ok (.iconst 0, 1) := by decide +kernel
theorem dX9_call_82 : decode cX9_call 82 = .ok (.istore_n 3, 1) := by decide +kernel
theorem dX9_call_83 : decode cX9_call 83 = .ok (.iload_n 3, 1) := by decide +kernel
theorem dX9_call_84 : decode cX9_call 84 = .ok (.aload_n 0, 1) := by decide +kernel
theorem dX9_call_85 : decode cX9_call 85 = .ok (.getfield 119, 3) := by decide +kernel
theorem dX9_call_88 : decode cX9_call 88 = .ok (.if_icmp .ge 27, 3) := by decide +kernel
theorem dX9_call_91 : decode cX9_call 91 = .ok (.aload_n 0, 1) := by decide +kernel
theorem dX9_call_92 : decode cX9_call 92 = .ok (.getfield 82, 3) := by decide +kernel
theorem dX9_call_95 : decode cX9_call 95 = .ok (.iload_n 3, 1) := by decide +kernel
theorem dX9_call_96 : decode cX9_call 96 = .ok (.iconst 0, 1) := by decide +kernel
theorem dX9_call_97 : decode cX9_call 97 = .ok (.bastore, 1) := by decide +kernel
theorem dX9_call_98 : decode cX9_call 98 = .ok (.aload_n 0, 1) := by decide +kernel
theorem dX9_call_99 : decode cX9_call 99 = .ok (.getfield 85, 3) := by decide +kernel
theorem dX9_call_102 : decode cX9_call 102 = .ok (.iload_n 3, 1) := by decide +kernel
theorem dX9_call_103 : decode cX9_call 103 = .ok (.aload_n 0, 1) := by decide +kernel
theorem dX9_call_104 : decode cX9_call 104 = .ok (.iload_n 3, 1) := by decide +kernel
theorem dX9_call_105 : decode cX9_call 105 = .ok (.invokevirtual 242, 3) := by decide +kernel
theorem dX9_call_108 : decode cX9_call 108 = .ok (.iastore, 1) := by decide +kernel
theorem dX9_call_109 : decode cX9_call 109 = .ok (.iinc 3 1, 3) := by decide +kernel
theorem dX9_call_112 : decode cX9_call 112 = .ok (.goto (-29), 3) := by decide +kernel
theorem dX9_call_115 : decode cX9_call 115 = .ok (.aload_n 0, 1) := by decide +kernel
theorem dX9_call_116 : decode cX9_call 116 = .ok (.iconst 0, 1) := by decide +kernel
theorem dX9_call_117 : decode cX9_call 117 = .ok (.putfield 245, 3) := by decide +kernel
theorem dX9_call_120 : decode cX9_call 120 = .ok (.iconst 0, 1) := by decide +kernel
theorem dX9_call_121 : decode cX9_call 121 = .ok (.istore_n 3, 1) := by decide +kernel
theorem dX9_call_122 : decode cX9_call 122 = .ok (.aload_n 0, 1) := by decide +kernel
theorem dX9_call_123 : decode cX9_call 123 = .ok (.invokevirtual 248, 3) := by decide +kernel
theorem dX9_call_126 : decode cX9_call 126 = .ok (.istore 4, 2) := by decide +kernel
theorem dX9_call_128 : decode cX9_call 128 = .ok (.iload 4, 2) := by decide +kernel
theorem dX9_call_130 : decode cX9_call 130 = .ok (.ifCond .lt 114, 3) := by decide +kernel
theorem dX9_call_133 : decode cX9_call 133 = .ok (.aload_n 0, 1) := by decide +kernel
theorem dX9_call_134 : decode cX9_call 134 = .ok (.getfield 82, 3) := by decide +kernel
theorem dX9_call_137 : decode cX9_call 137 = .ok (.iload 4, 2) := by decide +kernel
theorem dX9_call_139 : decode cX9_call 139 = .ok (.iconst 1, 1) := by decide +kernel
theorem dX9_call_140 : decode cX9_call 140 = .ok (.bastore, 1) := by decide +kernel
theorem dX9_call_141 : decode cX9_call 141 = .ok (.iconst 0, 1) := by decide +kernel
theorem dX9_call_142 : decode cX9_call 142 = .ok (.istore 5, 2) := by decide +kernel
theorem dX9_call_144 : decode cX9_call 144 = .ok (.iload 5, 2) := by decide +kernel
theorem dX9_call_146 : decode cX9_call 146 = .ok (.aload_n 0, 1) := by decide +kernel
theorem dX9_call_147 : decode cX9_call 147 = .ok (.getfield 31, 3) := by decide +kernel
theorem dX9_call_150 : decode cX9_call 150 = .ok (.iload 4, 2) := by decide +kernel
theorem dX9_call_152 : decode cX9_call 152 = .ok (.iaload, 1) := by decide +kernel
theorem dX9_call_153 : decode cX9_call 153 = .ok (.if_icmp .ge 82, 3) := by decide +kernel
theorem dX9_call_156 : decode cX9_call 156 = .ok (.iload_n 3, 1) := by decide +kernel
theorem dX9_call_157 : decode cX9_call 157 = .ok (.aload_n 0, 1) := by decide +kernel
theorem dX9_call_158 : decode cX9_call 158 = .ok (.getfield 47, 3) := by decide +kernel
theorem dX9_call_161 : decode cX9_call 161 = .ok (.iconst 1, 1) := by decide +kernel
theorem dX9_call_162 : decode cX9_call 162 = .ok (.iaload, 1) := by decide +kernel
theorem dX9_call_163 : decode cX9_call 163 = .ok (.if_icmp .ge 72, 3) := by decide +kernel
theorem dX9_call_166 : decode cX9_call 166 = .ok (.aload_n 0, 1) := by decide +kernel
theorem dX9_call_167 : decode cX9_call 167 = .ok (.getfield 37, 3) := by decide +kernel
theorem dX9_call_170 : decode cX9_call 170 = .ok (.iconst 4, 1) := by decide +kernel
theorem dX9_call_171 : decode cX9_call 171 = .ok (.iload 4, 2) := by decide +kernel
theorem dX9_call_173 : decode cX9_call 173 = .ok (.imul, 1) := by decide +kernel
theorem dX9_call_174 : decode cX9_call 174 = .ok (.iload 5, 2) := by decide +kernel
theorem dX9_call_176 : decode cX9_call 176 = .ok (.iadd, 1) := by decide +kernel
theorem dX9_call_177 : decode cX9_call 177 = .ok (.iaload, 1) := by decide +kernel
theorem dX9_call_178 : decode cX9_call 178 = .ok (.ifCond .ne 6, 3) := by decide +kernel
theorem dX9_call_181 : decode cX9_call 181 = .ok (.goto 48, 3) := by decide +kernel
theorem dX9_call_184 : decode cX9_call 184 = .ok (.aload_n 0, 1) := by decide +kernel
theorem dX9_call_185 : decode cX9_call 185 = .ok (.aload_n 0, 1) := by decide +kernel
theorem dX9_call_186 : decode cX9_call 186 = .ok (.getfield 40, 3) := by decide +kernel
theorem dX9_call_189 : decode cX9_call 189 = .ok (.iconst 4, 1) := by decide +kernel
theorem dX9_call_190 : decode cX9_call 190 = .ok (.iload 4, 2) := by decide +kernel
theorem dX9_call_192 : decode cX9_call 192 = .ok (.imul, 1) := by decide +kernel
theorem dX9_call_193 : decode cX9_call 193 = .ok (.iload 5, 2) := by decide +kernel
theorem dX9_call_195 : decode cX9_call 195 = .ok (.iadd, 1) := by decide +kernel
theorem dX9_call_196 : decode cX9_call 196 = .ok (.iaload, 1) := by decide +kernel
theorem dX9_call_197 : decode cX9_call 197 = .ok (.iload_n 2, 1) := by decide +kernel
theorem dX9_call_198 : decode cX9_call 198 = .ok (.invokevirtual 251, 3) := by decide +kernel
theorem dX9_call_201 : decode cX9_call 201 = .ok (.ifCond .ne 16, 3) := by decide +kernel
theorem dX9_call_204 : decode cX9_call 204 = .ok (.aload_n 0, 1) := by decide +kernel
theorem dX9_call_205 : decode cX9_call 205 = .ok (.dup, 1) := by decide +kernel
theorem dX9_call_206 : decode cX9_call 206 = .ok (.getfield 245, 3) := by decide +kernel
theorem dX9_call_209 : decode cX9_call 209 = .ok (.iconst 1, 1) := by decide +kernel
theorem dX9_call_210 : decode cX9_call 210 = .ok (.iadd, 1) := by decide +kernel
theorem dX9_call_211 : decode cX9_call 211 = .ok (.putfield 245, 3) := by decide +kernel
theorem dX9_call_214 : decode cX9_call 214 = .ok (.goto 15, 3) := by decide +kernel
theorem dX9_call_217 : decode cX9_call 217 = .ok (.aload_n 0, 1) := by decide +kernel
theorem dX9_call_218 : decode cX9_call 218 = .ok (.iload 4, 2) := by decide +kernel
theorem dX9_call_220 : decode cX9_call 220 = .ok (.iload 5, 2) := by decide +kernel
theorem dX9_call_222 : decode cX9_call 222 = .ok (.iload_n 1, 1) := by decide +kernel
theorem dX9_call_223 : decode cX9_call 223 = .ok (.invokevirtual 254, 3) := by decide +kernel
theorem dX9_call_226 : decode cX9_call 226 = .ok (.iinc 3 1, 3) := by decide +kernel
theorem dX9_call_229 : decode cX9_call 229 = .ok (.iinc 5 1, 3) := by decide +kernel
theorem dX9_call_232 : decode cX9_call 232 = .ok (.goto (-88), 3) := by decide +kernel
theorem dX9_call_235 : decode cX9_call 235 = .ok (.aload_n 0, 1) := by decide +kernel
theorem dX9_call_236 : decode cX9_call 236 = .ok (.invokevirtual 248, 3) := by decide +kernel
theorem dX9_call_239 : decode cX9_call 239 = .ok (.istore 4, 2) := by decide +kernel
theorem dX9_call_241 : decode cX9_call 241 = .ok (.goto (-113), 3) := by decide +kernel
theorem dX9_call_244 : decode cX9_call 244 = .ok (.aload_n 0, 1) := by decide +kernel
theorem dX9_call_245 : decode cX9_call 245 = .ok (.dup, 1) := by decide +kernel
theorem dX9_call_246 : decode cX9_call 246 = .ok (.getfield 258, 3) := by decide +kernel
theorem dX9_call_249 : decode cX9_call 249 = .ok (.iload_n 3, 1) := by decide +kernel
theorem dX9_call_250 : decode cX9_call 250 = .ok (.iadd, 1) := by decide +kernel
theorem dX9_call_251 : decode cX9_call 251 = .ok (.putfield 258, 3) := by decide +kernel
theorem dX9_call_254 : decode cX9_call 254 = .ok (.iconst 0, 1) := by decide +kernel
theorem dX9_call_255 : decode cX9_call 255 = .ok (.istore 4, 2) := by decide +kernel
theorem dX9_call_257 : decode cX9_call 257 = .ok (.iload 4, 2) := by decide +kernel
theorem dX9_call_259 : decode cX9_call 259 = .ok (.aload_n 0, 1) := by decide +kernel
theorem dX9_call_260 : decode cX9_call 260 = .ok (.getfield 119, 3) := by decide +kernel
theorem dX9_call_263 : decode cX9_call 263 = .ok (.if_icmp .ge 33, 3) := by decide +kernel
theorem dX9_call_266 : decode cX9_call 266 = .ok (.aload_n 0, 1) := by decide +kernel
theorem dX9_call_267 : decode cX9_call 267 = .ok (.getfield 34, 3) := by decide +kernel
theorem dX9_call_270 : decode cX9_call 270 = .ok (.iload 4, 2) := by decide +kernel
theorem dX9_call_272 : decode cX9_call 272 = .ok (.dup2, 1) := by decide +kernel
theorem dX9_call_273 : decode cX9_call 273 = .ok (.iaload, 1) := by decide +kernel
theorem dX9_call_274 : decode cX9_call 274 = .ok (.aload_n 0, 1) := by decide +kernel
theorem dX9_call_275 : decode cX9_call 275 = .ok (.iload 4, 2) := by decide +kernel
theorem dX9_call_277 : decode cX9_call 277 = .ok (.invokevirtual 242, 3) := by decide +kernel
theorem dX9_call_280 : decode cX9_call 280 = .ok (.ifCond .le 7, 3) := by decide +kernel
theorem dX9_call_283 : decode cX9_call 283 = .ok (.iconst 1, 1) := by decide +kernel
theorem dX9_call_284 : decode cX9_call 284 = .ok (.goto 4, 3) := by decide +kernel
theorem dX9_call_287 : decode cX9_call 287 = .ok (.iconst 0, 1) := by decide +kernel
theorem dX9_call_288 : decode cX9_call 288 = .ok (.iadd, 1) := by decide +kernel
theorem dX9_call_289 : decode cX9_call 289 = .ok (.iastore, 1) := by decide +kernel
theorem dX9_call_290 : decode cX9_call 290 = .ok (.iinc 4 1, 3) := by decide +kernel
theorem dX9_call_293 : decode cX9_call 293 = .ok (.goto (-36), 3) := by decide +kernel
theorem dX9_call_296 : decode cX9_call 296 = .ok (.aload_n 0, 1) := by decide +kernel
theorem dX9_call_297 : decode cX9_call 297 = .ok (.dup, 1) := by decide +kernel
theorem dX9_call_298 : decode cX9_call 298 = .ok (.getfield 128, 3) := by decide +kernel
theorem dX9_call_301 : decode cX9_call 301 = .ok (.iconst 1, 1) := by decide +kernel
theorem dX9_call_302 : decode cX9_call 302 = .ok (.iadd, 1) := by decide +kernel
theorem dX9_call_303 : decode cX9_call 303 = .ok (.putfield 128, 3) := by decide +kernel
theorem dX9_call_306 : decode cX9_call 306 = .ok (.iload_n 3, 1) := by decide +kernel
theorem dX9_call_307 : decode cX9_call 307 = .ok (.ireturn, 1) := by decide +kernel
theorem dX9_look_0 : decode cX9_look 0 = .ok (.aload_n 0, 1) := by decide +kernel
theorem dX9_look_1 : decode cX9_look 1 = .ok (.iconst 0, 1) := by decide +kernel
theorem dX9_look_2 : decode cX9_look 2 = .ok (.putfield 109, 3) := by decide +kernel
theorem dX9_look_5 : decode cX9_look 5 = .ok (.aload_n 0, 1) := by decide +kernel
theorem dX9_look_6 : decode cX9_look 6 = .ok (.aload_n 0, 1) := by decide +kernel
theorem dX9_look_7 : decode cX9_look 7 = .ok (.iload_n 1, 1) := by decide +kernel
theorem dX9_look_8 : decode cX9_look 8 = .ok (.invokevirtual 261, 3) := by decide +kernel
theorem dX9_look_11 : decode cX9_look 11 = .ok (.iconst 1, 1) := by decide +kernel
theorem dX9_look_12 : decode cX9_look 12 = .ok (.invokevirtual 124, 3) := by decide +kernel
theorem dX9_look_15 : decode cX9_look 15 = .ok (.ifCond .eq 5, 3) := by decide +kernel
theorem dX9_look_18 : decode cX9_look 18 = .ok (.iconst 0, 1) := by decide +kernel
theorem dX9_look_19 : decode cX9_look 19 = .ok (.ireturn, 1) := by decide +kernel
theorem dX9_look_20 : decode cX9_look 20 = .ok (.iload_n 2, 1) := by decide +kernel
theorem dX9_look_21 : decode cX9_look 21 = .ok (.tableswitch 93 0 5 #[39, 46, 53, 72, 79, 86], 39) := by decide +kernel
theorem dX9_look_60 : decode cX9_look 60 = .ok (.aload_n 0, 1) := by decide +kernel
theorem dX9_look_61 : decode cX9_look 61 = .ok (.getfield 9, 3) := by decide +kernel
theorem dX9_look_64 : decode cX9_look 64 = .ok (.iload_n 1, 1) := by decide +kernel
theorem dX9_look_65 : decode cX9_look 65 = .ok (.iaload, 1) := by decide +kernel
theorem dX9_look_66 : decode cX9_look 66 = .ok (.ireturn, 1) := by decide +kernel
theorem dX9_look_67 : decode cX9_look 67 = .ok (.aload_n 0, 1) := by decide +kernel
theorem dX9_look_68 : decode cX9_look 68 = .ok (.getfield 13, 3) := by decide +kernel
theorem dX9_look_71 : decode cX9_look 71 = .ok (.iload_n 1, 1) := by decide +kernel
theorem dX9_look_72 : decode cX9_look 72 = .ok (.iaload, 1) := by decide +kernel
theorem dX9_look_73 : decode cX9_look 73 = .ok (.ireturn, 1) := by decide +kernel
theorem dX9_look_74 : decode cX9_look 74 = .ok (.aload_n 0, 1) := by decide +kernel
theorem dX9_look_75 : decode cX9_look 75 = .ok (.getfield 16, 3) := by decide +kernel
theorem dX9_look_78 : decode cX9_look 78 = .ok (.iload_n 1, 1) := by decide +kernel
theorem dX9_look_79 : decode cX9_look 79 = .ok (.iaload, 1) := by decide +kernel
theorem dX9_look_80 : decode cX9_look 80 = .ok (.aload_n 0, 1) := by decide +kernel
theorem dX9_look_81 : decode cX9_look 81 = .ok (.getfield 128, 3) := by decide +kernel
theorem dX9_look_84 : decode cX9_look 84 = .ok (.if_icmp .lt 7, 3) := by decide +kernel
theorem dX9_look_87 : decode cX9_look 87 = .ok (.iconst 1, 1) := by decide +kernel
theorem dX9_look_88 : decode cX9_look 88 = .ok (.goto 4, 3) := by decide +kernel
theorem dX9_look_91 : decode cX9_look 91 = .ok (.iconst 0, 1) := by decide +kernel
theorem dX9_look_92 : decode cX9_look 92 = .ok (.ireturn, 1) := by decide +kernel
theorem dX9_look_93 : decode cX9_look 93 = .ok (.aload_n 0, 1) := by decide +kernel
theorem dX9_look_94 : decode cX9_look 94 = .ok (.getfield 19, 3) := by decide +kernel
theorem dX9_look_97 : decode cX9_look 97 = .ok (.iload_n 1, 1) := by decide +kernel
theorem dX9_look_98 : decode cX9_look 98 = .ok (.iaload, 1) := by decide +kernel
theorem dX9_look_99 : decode cX9_look 99 = .ok (.ireturn, 1) := by decide +kernel
theorem dX9_look_100 : decode cX9_look 100 = .ok (.aload_n 0, 1) := by decide +kernel
theorem dX9_look_101 : decode cX9_look 101 = .ok (.getfield 22, 3) := by decide +kernel
theorem dX9_look_104 : decode cX9_look 104 = .ok (.iload_n 1, 1) := by decide +kernel
theorem dX9_look_105 : decode cX9_look 105 = .ok (.iaload, 1) := by decide +kernel
theorem dX9_look_106 : decode cX9_look 106 = .ok (.ireturn, 1) := by decide +kernel
theorem dX9_look_107 : decode cX9_look 107 = .ok (.aload_n 0, 1) := by decide +kernel
theorem dX9_look_108 : decode cX9_look 108 = .ok (.getfield 25, 3) := by decide +kernel
theorem dX9_look_111 : decode cX9_look 111 = .ok (.iload_n 1, 1) := by decide +kernel
theorem dX9_look_112 : decode cX9_look 112 = .ok (.iaload, 1) := by decide +kernel
theorem dX9_look_113 : decode cX9_look 113 = .ok (.ireturn, 1) := by decide +kernel
theorem dX9_look_114 : decode cX9_look 114 = .ok (.aload_n 0, 1) := by decide +kernel
theorem dX9_look_115 : decode cX9_look 115 = .ok (.iconst 2, 1) := by decide +kernel
theorem dX9_look_116 : decode cX9_look 116 = .ok (.putfield 109, 3) := by decide +kernel
theorem dX9_look_119 : decode cX9_look 119 = .ok (.iconst 0, 1) := by decide +kernel
theorem dX9_look_120 : decode cX9_look 120 = .ok (.ireturn, 1) := by decide +kernel
theorem dX9_tons_0 : decode cX9_tons 0 = .ok (.aload_n 0, 1) := by decide +kernel
theorem dX9_tons_1 : decode cX9_tons 1 = .ok (.iconst 0, 1) := by decide +kernel
theorem dX9_tons_2 : decode cX9_tons 2 = .ok (.putfield 109, 3) := by decide +kernel
theorem dX9_tons_5 : decode cX9_tons 5 = .ok (.aload_n 0, 1) := by decide +kernel
theorem dX9_tons_6 : decode cX9_tons 6 = .ok (.aload_n 0, 1) := by decide +kernel
theorem dX9_tons_7 : decode cX9_tons 7 = .ok (.iload_n 1, 1) := by decide +kernel
theorem dX9_tons_8 : decode cX9_tons 8 = .ok (.invokevirtual 131, 3) := by decide +kernel
theorem dX9_tons_11 : decode cX9_tons 11 = .ok (.ifCond .ne 21, 3) := by decide +kernel
theorem dX9_tons_14 : decode cX9_tons 14 = .ok (.iload_n 2, 1) := by decide +kernel
theorem dX9_tons_15 : decode cX9_tons 15 = .ok (.i2l, 1) := by decide +kernel
theorem dX9_tons_16 : decode cX9_tons 16 = .ok (.lconst 0, 1) := by decide +kernel
theorem dX9_tons_17 : decode cX9_tons 17 = .ok (.aload_n 0, 1) := by decide +kernel
theorem dX9_tons_18 : decode cX9_tons 18 = .ok (.getfield 31, 3) := by decide +kernel
theorem dX9_tons_21 : decode cX9_tons 21 = .ok (.iload_n 1, 1) := by decide +kernel
theorem dX9_tons_22 : decode cX9_tons 22 = .ok (.iaload, 1) := by decide +kernel
theorem dX9_tons_23 : decode cX9_tons 23 = .ok (.iconst 1, 1) := by decide +kernel
theorem dX9_tons_24 : decode cX9_tons 24 = .ok (.isub, 1) := by decide +kernel
theorem dX9_tons_25 : decode cX9_tons 25 = .ok (.i2l, 1) := by decide +kernel
theorem dX9_tons_26 : decode cX9_tons 26 = .ok (.invokestatic 115, 3) := by decide +kernel
theorem dX9_tons_29 : decode cX9_tons 29 = .ok (.ifCond .ne 7, 3) := by decide +kernel
theorem dX9_tons_32 : decode cX9_tons 32 = .ok (.iconst 1, 1) := by decide +kernel
theorem dX9_tons_33 : decode cX9_tons 33 = .ok (.goto 4, 3) := by decide +kernel
theorem dX9_tons_36 : decode cX9_tons 36 = .ok (.iconst 0, 1) := by decide +kernel
theorem dX9_tons_37 : decode cX9_tons 37 = .ok (.iconst 1, 1) := by decide +kernel
theorem dX9_tons_38 : decode cX9_tons 38 = .ok (.invokevirtual 124, 3) := by decide +kernel
theorem dX9_tons_41 : decode cX9_tons 41 = .ok (.ifCond .eq 5, 3) := by decide +kernel
theorem dX9_tons_44 : decode cX9_tons 44 = .ok (.iconst 0, 1) := by decide +kernel
theorem dX9_tons_45 : decode cX9_tons 45 = .ok (.ireturn, 1) := by decide +kernel
theorem dX9_tons_46 : decode cX9_tons 46 = .ok (.aload_n 0, 1) := by decide +kernel
theorem dX9_tons_47 : decode cX9_tons 47 = .ok (.getfield 37, 3) := by decide +kernel
theorem dX9_tons_50 : decode cX9_tons 50 = .ok (.iconst 4, 1) := by decide +kernel
theorem dX9_tons_51 : decode cX9_tons 51 = .ok (.iload_n 1, 1) := by decide +kernel
theorem dX9_tons_52 : decode cX9_tons 52 = .ok (.imul, 1) := by decide +kernel
theorem dX9_tons_53 : decode cX9_tons 53 = .ok (.iload_n 2, 1) := by decide +kernel
theorem dX9_tons_54 : decode cX9_tons 54 = .ok (.iadd, 1) := by decide +kernel
theorem dX9_tons_55 : decode cX9_tons 55 = .ok (.iaload, 1) := by decide +kernel
theorem dX9_tons_56 : decode cX9_tons 56 = .ok (.ireturn, 1) := by decide +kernel
theorem dX9_state_0 : decode cX9_state 0 = .ok (.aload_n 0, 1) := by decide +kernel
theorem dX9_state_1 : decode cX9_state 1 = .ok (.iconst 0, 1) := by decide +kernel
theorem dX9_state_2 : decode cX9_state 2 = .ok (.putfield 109, 3) := by decide +kernel
theorem dX9_state_5 : decode cX9_state 5 = .ok (.aload_n 0, 1) := by decide +kernel
theorem dX9_state_6 : decode cX9_state 6 = .ok (.aload_n 0, 1) := by decide +kernel
theorem dX9_state_7 : decode cX9_state 7 = .ok (.iload_n 1, 1) := by decide +kernel
theorem dX9_state_8 : decode cX9_state 8 = .ok (.invokevirtual 131, 3) := by decide +kernel
theorem dX9_state_11 : decode cX9_state 11 = .ok (.iconst 1, 1) := by decide +kernel
theorem dX9_state_12 : decode cX9_state 12 = .ok (.invokevirtual 124, 3) := by decide +kernel
theorem dX9_state_15 : decode cX9_state 15 = .ok (.ifCond .eq 5, 3) := by decide +kernel
theorem dX9_state_18 : decode cX9_state 18 = .ok (.iconst 0, 1) := by decide +kernel
theorem dX9_state_19 : decode cX9_state 19 = .ok (.ireturn, 1) := by decide +kernel
theorem dX9_state_20 : decode cX9_state 20 = .ok (.iload_n 2, 1) := by decide +kernel
theorem dX9_state_21 : decode cX9_state 21 = .ok (.tableswitch 66 0 3 #[31, 38, 45, 59], 31) := by decide +kernel
theorem dX9_state_52 : decode cX9_state 52 = .ok (.aload_n 0, 1) := by decide +kernel
theorem dX9_state_53 : decode cX9_state 53 = .ok (.getfield 28, 3) := by decide +kernel
theorem dX9_state_56 : decode cX9_state 56 = .ok (.iload_n 1, 1) := by decide +kernel
theorem dX9_state_57 : decode cX9_state 57 = .ok (.iaload, 1) := by decide +kernel
theorem dX9_state_58 : decode cX9_state 58 = .ok (.ireturn, 1) := by decide +kernel
theorem dX9_state_59 : decode cX9_state 59 = .ok (.aload_n 0, 1) := by decide +kernel
theorem dX9_state_60 : decode cX9_state 60 = .ok (.getfield 31, 3) := by decide +kernel
theorem dX9_state_63 : decode cX9_state 63 = .ok (.iload_n 1, 1) := by decide +kernel
theorem dX9_state_64 : decode cX9_state 64 = .ok (.iaload, 1) := by decide +kernel
theorem dX9_state_65 : decode cX9_state 65 = .ok (.ireturn, 1) := by decide +kernel
theorem dX9_state_66 : decode cX9_state 66 = .ok (.aload_n 0, 1) := by decide +kernel
theorem dX9_state_67 : decode cX9_state 67 = .ok (.iload_n 1, 1) := by decide +kernel
theorem dX9_state_68 : decode cX9_state 68 = .ok (.invokevirtual 242, 3) := by decide +kernel
theorem dX9_state_71 : decode cX9_state 71 = .ok (.ifCond .ne 7, 3) := by decide +kernel
theorem dX9_state_74 : decode cX9_state 74 = .ok (.iconst 1, 1) := by decide +kernel
theorem dX9_state_75 : decode cX9_state 75 = .ok (.goto 4, 3) := by decide +kernel
theorem dX9_state_78 : decode cX9_state 78 = .ok (.iconst 0, 1) := by decide +kernel
theorem dX9_state_79 : decode cX9_state 79 = .ok (.ireturn, 1) := by decide +kernel
theorem dX9_state_80 : decode cX9_state 80 = .ok (.aload_n 0, 1) := by decide +kernel
theorem dX9_state_81 : decode cX9_state 81 = .ok (.getfield 34, 3) := by decide +kernel
theorem dX9_state_84 : decode cX9_state 84 = .ok (.iload_n 1, 1) := by decide +kernel
theorem dX9_state_85 : decode cX9_state 85 = .ok (.iaload, 1) := by decide +kernel
theorem dX9_state_86 : decode cX9_state 86 = .ok (.ireturn, 1) := by decide +kernel
theorem dX9_state_87 : decode cX9_state 87 = .ok (.aload_n 0, 1) := by decide +kernel
theorem dX9_state_88 : decode cX9_state 88 = .ok (.iconst 2, 1) := by decide +kernel
theorem dX9_state_89 : decode cX9_state 89 = .ok (.putfield 109, 3) := by decide +kernel
theorem dX9_state_92 : decode cX9_state 92 = .ok (.iconst 0, 1) := by decide +kernel
theorem dX9_state_93 : decode cX9_state 93 = .ok (.ireturn, 1) := by decide +kernel
theorem dX9_moneyOf_0 : decode cX9_moneyOf 0 = .ok (.aload_n 0, 1) := by decide +kernel
theorem dX9_moneyOf_1 : decode cX9_moneyOf 1 = .ok (.getfield 59, 3) := by decide +kernel
theorem dX9_moneyOf_4 : decode cX9_moneyOf 4 = .ok (.iload_n 1, 1) := by decide +kernel
theorem dX9_moneyOf_5 : decode cX9_moneyOf 5 = .ok (.iaload, 1) := by decide +kernel
theorem dX9_moneyOf_6 : decode cX9_moneyOf 6 = .ok (.istore_n 3, 1) := by decide +kernel
theorem dX9_moneyOf_7 : decode cX9_moneyOf 7 = .ok (.iconst 0, 1) := by decide +kernel
theorem dX9_moneyOf_8 : decode cX9_moneyOf 8 = .ok (.istore 4, 2) := by decide +kernel
theorem dX9_moneyOf_10 : decode cX9_moneyOf 10 = .ok (.iload 4, 2) := by decide +kernel
theorem dX9_moneyOf_12 : decode cX9_moneyOf 12 = .ok (.aload_n 0, 1) := by decide +kernel
theorem dX9_moneyOf_13 : decode cX9_moneyOf 13 = .ok (.getfield 264, 3) := by decide +kernel
theorem dX9_moneyOf_16 : decode cX9_moneyOf 16 = .ok (.if_icmp .ge 39, 3) := by decide +kernel
theorem dX9_moneyOf_19 : decode cX9_moneyOf 19 = .ok (.aload_n 0, 1) := by decide +kernel
theorem dX9_moneyOf_20 : decode cX9_moneyOf 20 = .ok (.getfield 62, 3) := by decide +kernel
theorem dX9_moneyOf_23 : decode cX9_moneyOf 23 = .ok (.iload 4, 2) := by decide +kernel
theorem dX9_moneyOf_25 : decode cX9_moneyOf 25 = .ok (.iaload, 1) := by decide +kernel
theorem dX9_moneyOf_26 : decode cX9_moneyOf 26 = .ok (.iload_n 1, 1) := by decide +kernel
theorem dX9_moneyOf_27 : decode cX9_moneyOf 27 = .ok (.if_icmp .ne 22, 3) := by decide +kernel
theorem dX9_moneyOf_30 : decode cX9_moneyOf 30 = .ok (.aload_n 0, 1) := by decide +kernel
theorem dX9_moneyOf_31 : decode cX9_moneyOf 31 = .ok (.getfield 65, 3) := by decide +kernel
theorem dX9_moneyOf_34 : decode cX9_moneyOf 34 = .ok (.iload 4, 2) := by decide +kernel
theorem dX9_moneyOf_36 : decode cX9_moneyOf 36 = .ok (.iaload, 1) := by decide +kernel
theorem dX9_moneyOf_37 : decode cX9_moneyOf 37 = .ok (.iload_n 2, 1) := by decide +kernel
theorem dX9_moneyOf_38 : decode cX9_moneyOf 38 = .ok (.if_icmp .gt 11, 3) := by decide +kernel
theorem dX9_moneyOf_41 : decode cX9_moneyOf 41 = .ok (.aload_n 0, 1) := by decide +kernel
theorem dX9_moneyOf_42 : decode cX9_moneyOf 42 = .ok (.getfield 68, 3) := by decide +kernel
theorem dX9_moneyOf_45 : decode cX9_moneyOf 45 = .ok (.iload 4, 2) := by decide +kernel
theorem dX9_moneyOf_47 : decode cX9_moneyOf 47 = .ok (.iaload, 1) := by decide +kernel
theorem dX9_moneyOf_48 : decode cX9_moneyOf 48 = .ok (.istore_n 3, 1) := by decide +kernel
theorem dX9_moneyOf_49 : decode cX9_moneyOf 49 = .ok (.iinc 4 1, 3) := by decide +kernel
theorem dX9_moneyOf_52 : decode cX9_moneyOf 52 = .ok (.goto (-42), 3) := by decide +kernel
theorem dX9_moneyOf_55 : decode cX9_moneyOf 55 = .ok (.iload_n 3, 1) := by decide +kernel
theorem dX9_moneyOf_56 : decode cX9_moneyOf 56 = .ok (.ireturn, 1) := by decide +kernel
theorem dX9_entry_0 : decode cX9_entry 0 = .ok (.aload_n 0, 1) := by decide +kernel
theorem dX9_entry_1 : decode cX9_entry 1 = .ok (.iconst 0, 1) := by decide +kernel
theorem dX9_entry_2 : decode cX9_entry 2 = .ok (.putfield 109, 3) := by decide +kernel
theorem dX9_entry_5 : decode cX9_entry 5 = .ok (.aload_n 0, 1) := by decide +kernel
theorem dX9_entry_6 : decode cX9_entry 6 = .ok (.iload_n 1, 1) := by decide +kernel
theorem dX9_entry_7 : decode cX9_entry 7 = .ok (.i2l, 1) := by decide +kernel
theorem dX9_entry_8 : decode cX9_entry 8 = .ok (.lconst 0, 1) := by decide +kernel
theorem dX9_entry_9 : decode cX9_entry 9 = .ok (.aload_n 0, 1) := by decide +kernel
theorem dX9_entry_10 : decode cX9_entry 10 = .ok (.getfield 224, 3) := by decide +kernel
theorem dX9_entry_13 : decode cX9_entry 13 = .ok (.iconst 1, 1) := by decide +kernel
theorem dX9_entry_14 : decode cX9_entry 14 = .ok (.isub, 1) := by decide +kernel
theorem dX9_entry_15 : decode cX9_entry 15 = .ok (.i2l, 1) := by decide +kernel
theorem dX9_entry_16 : decode cX9_entry 16 = .ok (.invokestatic 115, 3) := by decide +kernel
theorem dX9_entry_19 : decode cX9_entry 19 = .ok (.ifCond .ne 7, 3) := by decide +kernel
theorem dX9_entry_22 : decode cX9_entry 22 = .ok (.iconst 1, 1) := by decide +kernel
theorem dX9_entry_23 : decode cX9_entry 23 = .ok (.goto 4, 3) := by decide +kernel
theorem dX9_entry_26 : decode cX9_entry 26 = .ok (.iconst 0, 1) := by decide +kernel
theorem dX9_entry_27 : decode cX9_entry 27 = .ok (.iconst 1, 1) := by decide +kernel
theorem dX9_entry_28 : decode cX9_entry 28 = .ok (.invokevirtual 124, 3) := by decide +kernel
theorem dX9_entry_31 : decode cX9_entry 31 = .ok (.ifCond .eq 5, 3) := by decide +kernel
theorem dX9_entry_34 : decode cX9_entry 34 = .ok (.iconst 0, 1) := by decide +kernel
theorem dX9_entry_35 : decode cX9_entry 35 = .ok (.ireturn, 1) := by decide +kernel
theorem dX9_entry_36 : decode cX9_entry 36 = .ok (.iload_n 2, 1) := by decide +kernel
theorem dX9_entry_37 : decode cX9_entry 37 = .ok (.tableswitch 62 0 3 #[31, 38, 45, 52], 31) := by decide +kernel
theorem dX9_entry_68 : decode cX9_entry 68 = .ok (.aload_n 0, 1) := by decide +kernel
theorem dX9_entry_69 : decode cX9_entry 69 = .ok (.getfield 53, 3) := by decide +kernel
theorem dX9_entry_72 : decode cX9_entry 72 = .ok (.iload_n 1, 1) := by decide +kernel
theorem dX9_entry_73 : decode cX9_entry 73 = .ok (.iaload, 1) := by decide +kernel
theorem dX9_entry_74 : decode cX9_entry 74 = .ok (.ireturn, 1) := by decide +kernel
theorem dX9_entry_75 : decode cX9_entry 75 = .ok (.aload_n 0, 1) := by decide +kernel
theorem dX9_entry_76 : decode cX9_entry 76 = .ok (.getfield 56, 3) := by decide +kernel
theorem dX9_entry_79 : decode cX9_entry 79 = .ok (.iload_n 1, 1) := by decide +kernel
theorem dX9_entry_80 : decode cX9_entry 80 = .ok (.iaload, 1) := by decide +kernel
theorem dX9_entry_81 : decode cX9_entry 81 = .ok (.ireturn, 1) := by decide +kernel
theorem dX9_entry_82 : decode cX9_entry 82 = .ok (.aload_n 0, 1) := by decide +kernel
theorem dX9_entry_83 : decode cX9_entry 83 = .ok (.getfield 59, 3) := by decide +kernel
theorem dX9_entry_86 : decode cX9_entry 86 = .ok (.iload_n 1, 1) := by decide +kernel
theorem dX9_entry_87 : decode cX9_entry 87 = .ok (.iaload, 1) := by decide +kernel
theorem dX9_entry_88 : decode cX9_entry 88 = .ok (.ireturn, 1) := by decide +kernel
theorem dX9_entry_89 : decode cX9_entry 89 = .ok (.aload_n 0, 1) := by decide +kernel
theorem dX9_entry_90 : decode cX9_entry 90 = .ok (.iload_n 1, 1) := by decide +kernel
theorem dX9_entry_91 : decode cX9_entry 91 = .ok (.aload_n 0, 1) := by decide +kernel
theorem dX9_entry_92 : decode cX9_entry 92 = .ok (.getfield 128, 3) := by decide +kernel
theorem dX9_entry_95 : decode cX9_entry 95 = .ok (.invokevirtual 267, 3) := by decide +kernel
theorem dX9_entry_98 : decode cX9_entry 98 = .ok (.ireturn, 1) := by decide +kernel
theorem dX9_entry_99 : decode cX9_entry 99 = .ok (.aload_n 0, 1) := by decide +kernel
theorem dX9_entry_100 : decode cX9_entry 100 = .ok (.iconst 2, 1) := by decide +kernel
theorem dX9_entry_101 : decode cX9_entry 101 = .ok (.putfield 109, 3) := by decide +kernel
theorem dX9_entry_104 : decode cX9_entry 104 = .ok (.iconst 0, 1) := by decide +kernel
theorem dX9_entry_105 : decode cX9_entry 105 = .ok (.ireturn, 1) := by decide +kernel
theorem dX9_rule_0 : decode cX9_rule 0 = .ok (.aload_n 0, 1) := by decide +kernel
theorem dX9_rule_1 : decode cX9_rule 1 = .ok (.iconst 0, 1) := by decide +kernel
theorem dX9_rule_2 : decode cX9_rule 2 = .ok (.putfield 109, 3) := by decide +kernel
theorem dX9_rule_5 : decode cX9_rule 5 = .ok (.aload_n 0, 1) := by decide +kernel
theorem dX9_rule_6 : decode cX9_rule 6 = .ok (.iload_n 1, 1) := by decide +kernel
theorem dX9_rule_7 : decode cX9_rule 7 = .ok (.i2l, 1) := by decide +kernel
theorem dX9_rule_8 : decode cX9_rule 8 = .ok (.lconst 0, 1) := by decide +kernel
theorem dX9_rule_9 : decode cX9_rule 9 = .ok (.aload_n 0, 1) := by decide +kernel
theorem dX9_rule_10 : decode cX9_rule 10 = .ok (.getfield 224, 3) := by decide +kernel
theorem dX9_rule_13 : decode cX9_rule 13 = .ok (.iconst 1, 1) := by decide +kernel
theorem dX9_rule_14 : decode cX9_rule 14 = .ok (.isub, 1) := by decide +kernel
theorem dX9_rule_15 : decode cX9_rule 15 = .ok (.i2l, 1) := by decide +kernel
theorem dX9_rule_16 : decode cX9_rule 16 = .ok (.invokestatic 115, 3) := by decide +kernel
theorem dX9_rule_19 : decode cX9_rule 19 = .ok (.ifCond .ne 7, 3) := by decide +kernel
theorem dX9_rule_22 : decode cX9_rule 22 = .ok (.iconst 1, 1) := by decide +kernel
theorem dX9_rule_23 : decode cX9_rule 23 = .ok (.goto 4, 3) := by decide +kernel
theorem dX9_rule_26 : decode cX9_rule 26 = .ok (.iconst 0, 1) := by decide +kernel
theorem dX9_rule_27 : decode cX9_rule 27 = .ok (.iconst 1, 1) := by decide +kernel
theorem dX9_rule_28 : decode cX9_rule 28 = .ok (.invokevirtual 124, 3) := by decide +kernel
theorem dX9_rule_31 : decode cX9_rule 31 = .ok (.ifCond .ne 37, 3) := by decide +kernel
theorem dX9_rule_34 : decode cX9_rule 34 = .ok (.aload_n 0, 1) := by decide +kernel
theorem dX9_rule_35 : decode cX9_rule 35 = .ok (.iload_n 2, 1) := by decide +kernel
theorem dX9_rule_36 : decode cX9_rule 36 = .ok (.i2l, 1) := by decide +kernel
theorem dX9_rule_37 : decode cX9_rule 37 = .ok (.lconst 0, 1) := by decide +kernel
theorem dX9_rule_38 : decode cX9_rule 38 = .ok (.ldc2_w 270, 3) := by decide +kernel
theorem dX9_rule_41 : decode cX9_rule 41 = .ok (.invokestatic 115, 3) := by decide +kernel
theorem dX9_rule_44 : decode cX9_rule 44 = .ok (.ifCond .ne 7, 3) := by decide +kernel
theorem dX9_rule_47 : decode cX9_rule 47 = .ok (.iconst 1, 1) := by decide +kernel
theorem dX9_rule_48 : decode cX9_rule 48 = .ok (.goto 4, 3) := by decide +kernel
theorem dX9_rule_51 : decode cX9_rule 51 = .ok (.iconst 0, 1) := by decide +kernel
theorem dX9_rule_52 : decode cX9_rule 52 = .ok (.iconst 2, 1) := by decide +kernel
theorem dX9_rule_53 : decode cX9_rule 53 = .ok (.invokevirtual 124, 3) := by decide +kernel
theorem dX9_rule_56 : decode cX9_rule 56 = .ok (.ifCond .ne 12, 3) := by decide +kernel
theorem dX9_rule_59 : decode cX9_rule 59 = .ok (.aload_n 0, 1) := by decide +kernel
theorem dX9_rule_60 : decode cX9_rule 60 = .ok (.getfield 264, 3) := by decide +kernel
theorem dX9_rule_63 : decode cX9_rule 63 = .ok (.bipush 100, 2) := by decide +kernel
theorem dX9_rule_65 : decode cX9_rule 65 = .ok (.if_icmp .ne 5, 3) := by decide +kernel
theorem dX9_rule_68 : decode cX9_rule 68 = .ok (.iconst 0, 1) := by decide +kernel
theorem dX9_rule_69 : decode cX9_rule 69 = .ok (.ireturn, 1) := by decide +kernel
theorem dX9_rule_70 : decode cX9_rule 70 = .ok (.aload_n 0, 1) := by decide +kernel
theorem dX9_rule_71 : decode cX9_rule 71 = .ok (.getfield 62, 3) := by decide +kernel
theorem dX9_rule_74 : decode cX9_rule 74 = .ok (.aload_n 0, 1) := by decide +kernel
theorem dX9_rule_75 : decode cX9_rule 75 = .ok (.getfield 264, 3) := by decide +kernel
theorem dX9_rule_78 : decode cX9_rule 78 = .ok (.iload_n 1, 1) := by decide +kernel
theorem dX9_rule_79 : decode cX9_rule 79 = .ok (.iastore, 1) := by decide +kernel
theorem dX9_rule_80 : decode cX9_rule 80 = .ok (.aload_n 0, 1) := by decide +kernel
theorem dX9_rule_81 : decode cX9_rule 81 = .ok (.getfield 65, 3) := by decide +kernel
theorem dX9_rule_84 : decode cX9_rule 84 = .ok (.aload_n 0, 1) := by decide +kernel
theorem dX9_rule_85 : decode cX9_rule 85 = .ok (.getfield 264, 3) := by decide +kernel
theorem dX9_rule_88 : decode cX9_rule 88 = .ok (.aload_n 0, 1) := by decide +kernel
theorem dX9_rule_89 : decode cX9_rule 89 = .ok (.getfield 128, 3) := by decide +kernel
theorem dX9_rule_92 : decode cX9_rule 92 = .ok (.iastore, 1) := by decide +kernel
theorem dX9_rule_93 : decode cX9_rule 93 = .ok (.aload_n 0, 1) := by decide +kernel
theorem dX9_rule_94 : decode cX9_rule 94 = .ok (.getfield 68, 3) := by decide +kernel
theorem dX9_rule_97 : decode cX9_rule 97 = .ok (.aload_n 0, 1) := by decide +kernel
theorem dX9_rule_98 : decode cX9_rule 98 = .ok (.getfield 264, 3) := by decide +kernel
theorem dX9_rule_101 : decode cX9_rule 101 = .ok (.iload_n 2, 1) := by decide +kernel
theorem dX9_rule_102 : decode cX9_rule 102 = .ok (.iastore, 1) := by decide +kernel
theorem dX9_rule_103 : decode cX9_rule 103 = .ok (.aload_n 0, 1) := by decide +kernel
theorem dX9_rule_104 : decode cX9_rule 104 = .ok (.dup, 1) := by decide +kernel
theorem dX9_rule_105 : decode cX9_rule 105 = .ok (.getfield 264, 3) := by decide +kernel
theorem dX9_rule_108 : decode cX9_rule 108 = .ok (.iconst 1, 1) := by decide +kernel
theorem dX9_rule_109 : decode cX9_rule 109 = .ok (.iadd, 1) := by decide +kernel
theorem dX9_rule_110 : decode cX9_rule 110 = .ok (.putfield 264, 3) := by decide +kernel
theorem dX9_rule_113 : decode cX9_rule 113 = .ok (.iconst 1, 1) := by decide +kernel
theorem dX9_rule_114 : decode cX9_rule 114 = .ok (.ireturn, 1) := by decide +kernel
theorem dX9_earned_0 : decode cX9_earned 0 = .ok (.aload_n 0, 1) := by decide +kernel
theorem dX9_earned_1 : decode cX9_earned 1 = .ok (.iconst 0, 1) := by decide +kernel
theorem dX9_earned_2 : decode cX9_earned 2 = .ok (.putfield 109, 3) := by decide +kernel
theorem dX9_earned_5 : decode cX9_earned 5 = .ok (.aload_n 0, 1) := by decide +kernel
theorem dX9_earned_6 : decode cX9_earned 6 = .ok (.aload_n 0, 1) := by decide +kernel
theorem dX9_earned_7 : decode cX9_earned 7 = .ok (.iload_n 1, 1) := by decide +kernel
theorem dX9_earned_8 : decode cX9_earned 8 = .ok (.invokevirtual 261, 3) := by decide +kernel
theorem dX9_earned_11 : decode cX9_earned 11 = .ok (.iconst 1, 1) := by decide +kernel
theorem dX9_earned_12 : decode cX9_earned 12 = .ok (.invokevirtual 124, 3) := by decide +kernel
theorem dX9_earned_15 : decode cX9_earned 15 = .ok (.ifCond .eq 5, 3) := by decide +kernel
theorem dX9_earned_18 : decode cX9_earned 18 = .ok (.iconst 0, 1) := by decide +kernel
theorem dX9_earned_19 : decode cX9_earned 19 = .ok (.ireturn, 1) := by decide +kernel
theorem dX9_earned_20 : decode cX9_earned 20 = .ok (.iconst 0, 1) := by decide +kernel
theorem dX9_earned_21 : decode cX9_earned 21 = .ok (.istore 4, 2) := by decide +kernel
theorem dX9_earned_23 : decode cX9_earned 23 = .ok (.iconst 0, 1) := by decide +kernel
theorem dX9_earned_24 : decode cX9_earned 24 = .ok (.istore 5, 2) := by decide +kernel
theorem dX9_earned_26 : decode cX9_earned 26 = .ok (.iload 5, 2) := by decide +kernel
theorem dX9_earned_28 : decode cX9_earned 28 = .ok (.aload_n 0, 1) := by decide +kernel
theorem dX9_earned_29 : decode cX9_earned 29 = .ok (.getfield 224, 3) := by decide +kernel
theorem dX9_earned_32 : decode cX9_earned 32 = .ok (.if_icmp .ge 54, 3) := by decide +kernel
theorem dX9_earned_35 : decode cX9_earned 35 = .ok (.aload_n 0, 1) := by decide +kernel
theorem dX9_earned_36 : decode cX9_earned 36 = .ok (.getfield 56, 3) := by decide +kernel
theorem dX9_earned_39 : decode cX9_earned 39 = .ok (.iload 5, 2) := by decide +kernel
theorem dX9_earned_41 : decode cX9_earned 41 = .ok (.iaload, 1) := by decide +kernel
theorem dX9_earned_42 : decode cX9_earned 42 = .ok (.iload_n 1, 1) := by decide +kernel
theorem dX9_earned_43 : decode cX9_earned 43 = .ok (.if_icmp .ne 37, 3) := by decide +kernel
theorem dX9_earned_46 : decode cX9_earned 46 = .ok (.aload_n 0, 1) := by decide +kernel
theorem dX9_earned_47 : decode cX9_earned 47 = .ok (.getfield 53, 3) := by decide +kernel
theorem dX9_earned_50 : decode cX9_earned 50 = .ok (.iload 5, 2) := by decide +kernel
theorem dX9_earned_52 : decode cX9_earned 52 = .ok (.iaload, 1) := by decide +kernel
theorem dX9_earned_53 : decode cX9_earned 53 = .ok (.iload_n 2, 1) := by decide +kernel
theorem dX9_earned_54 : decode cX9_earned 54 = .ok (.if_icmp .gt 26, 3) := by decide +kernel
theorem dX9_earned_57 : decode cX9_earned 57 = .ok (.aload_n 0, 1) := by decide +kernel
theorem dX9_earned_58 : decode cX9_earned 58 = .ok (.getfield 53, 3) := by decide +kernel
theorem dX9_earned_61 : decode cX9_earned 61 = .ok (.iload 5, 2) := by decide +kernel
theorem dX9_earned_63 : decode cX9_earned 63 = .ok (.iaload, 1) := by decide +kernel
theorem dX9_earned_64 : decode cX9_earned 64 = .ok (.iload_n 3, 1) := by decide +kernel
theorem dX9_earned_65 : decode cX9_earned 65 = .ok (.if_icmp .ge 15, 3) := by decide +kernel
theorem dX9_earned_68 : decode cX9_earned 68 = .ok (.iload 4, 2) := by decide +kernel
theorem dX9_earned_70 : decode cX9_earned 70 = .ok (.aload_n 0, 1) := by decide +kernel
theorem dX9_earned_71 : decode cX9_earned 71 = .ok (.iload 5, 2) := by decide +kernel
theorem dX9_earned_73 : decode cX9_earned 73 = .ok (.iload_n 3, 1) := by decide +kernel
theorem dX9_earned_74 : decode cX9_earned 74 = .ok (.invokevirtual 267, 3) := by decide +kernel
theorem dX9_earned_77 : decode cX9_earned 77 = .ok (.iadd, 1) := by decide +kernel
theorem dX9_earned_78 : decode cX9_earned 78 = .ok (.istore 4, 2) := by decide +kernel
theorem dX9_earned_80 : decode cX9_earned 80 = .ok (.iinc 5 1, 3) := by decide +kernel
theorem dX9_earned_83 : decode cX9_earned 83 = .ok (.goto (-57), 3) := by decide +kernel
theorem dX9_earned_86 : decode cX9_earned 86 = .ok (.iload 4, 2) := by decide +kernel
theorem dX9_earned_88 : decode cX9_earned 88 = .ok (.ireturn, 1) := by decide +kernel
theorem dX9_want_0 : decode cX9_want 0 = .ok (.aload_n 0, 1) := by decide +kernel
theorem dX9_want_1 : decode cX9_want 1 = .ok (.iconst 0, 1) := by decide +kernel
theorem dX9_want_2 : decode cX9_want 2 = .ok (.putfield 109, 3) := by decide +kernel
theorem dX9_want_5 : decode cX9_want 5 = .ok (.aload_n 0, 1) := by decide +kernel
theorem dX9_want_6 : decode cX9_want 6 = .ok (.iload_n 1, 1) := by decide +kernel
theorem dX9_want_7 : decode cX9_want 7 = .ok (.i2l, 1) := by decide +kernel
theorem dX9_want_8 : decode cX9_want 8 = .ok (.lconst 0, 1) := by decide +kernel
theorem dX9_want_9 : decode cX9_want 9 = .ok (.ldc2_w 272, 3) := by decide +kernel
theorem dX9_want_12 : decode cX9_want 12 = .ok (.invokestatic 115, 3) := by decide +kernel
theorem dX9_want_15 : decode cX9_want 15 = .ok (.ifCond .eq 15, 3) := by decide +kernel
theorem dX9_want_18 : decode cX9_want 18 = .ok (.iload_n 2, 1) := by decide +kernel
theorem dX9_want_19 : decode cX9_want 19 = .ok (.i2l, 1) := by decide +kernel
theorem dX9_want_20 : decode cX9_want 20 = .ok (.lconst 1, 1) := by decide +kernel
theorem dX9_want_21 : decode cX9_want 21 = .ok (.ldc2_w 274, 3) := by decide +kernel
theorem dX9_want_24 : decode cX9_want 24 = .ok (.invokestatic 115, 3) := by decide +kernel
theorem dX9_want_27 : decode cX9_want 27 = .ok (.ifCond .ne 7, 3) := by decide +kernel
theorem dX9_want_30 : decode cX9_want 30 = .ok (.iconst 1, 1) := by decide +kernel
theorem dX9_want_31 : decode cX9_want 31 = .ok (.goto 4, 3) := by decide +kernel
theorem dX9_want_34 : decode cX9_want 34 = .ok (.iconst 0, 1) := by decide +kernel
theorem dX9_want_35 : decode cX9_want 35 = .ok (.iconst 1, 1) := by decide +kernel
theorem dX9_want_36 : decode cX9_want 36 = .ok (.invokevirtual 124, 3) := by decide +kernel
theorem dX9_want_39 : decode cX9_want 39 = .ok (.ifCond .eq 5, 3) := by decide +kernel
theorem dX9_want_42 : decode cX9_want 42 = .ok (.iconst 0, 1) := by decide +kernel
theorem dX9_want_43 : decode cX9_want 43 = .ok (.ireturn, 1) := by decide +kernel
theorem dX9_want_44 : decode cX9_want 44 = .ok (.aload_n 0, 1) := by decide +kernel
theorem dX9_want_45 : decode cX9_want 45 = .ok (.getfield 276, 3) := by decide +kernel
theorem dX9_want_48 : decode cX9_want 48 = .ok (.iconst 4, 1) := by decide +kernel
theorem dX9_want_49 : decode cX9_want 49 = .ok (.if_icmp .ne 5, 3) := by decide +kernel
theorem dX9_want_52 : decode cX9_want 52 = .ok (.iconst (-1), 1) := by decide +kernel
theorem dX9_want_53 : decode cX9_want 53 = .ok (.ireturn, 1) := by decide +kernel
theorem dX9_want_54 : decode cX9_want 54 = .ok (.aload_n 0, 1) := by decide +kernel
theorem dX9_want_55 : decode cX9_want 55 = .ok (.getfield 100, 3) := by decide +kernel
theorem dX9_want_58 : decode cX9_want 58 = .ok (.aload_n 0, 1) := by decide +kernel
theorem dX9_want_59 : decode cX9_want 59 = .ok (.getfield 276, 3) := by decide +kernel
theorem dX9_want_62 : decode cX9_want 62 = .ok (.iload_n 1, 1) := by decide +kernel
theorem dX9_want_63 : decode cX9_want 63 = .ok (.iastore, 1) := by decide +kernel
theorem dX9_want_64 : decode cX9_want 64 = .ok (.aload_n 0, 1) := by decide +kernel
theorem dX9_want_65 : decode cX9_want 65 = .ok (.getfield 103, 3) := by decide +kernel
theorem dX9_want_68 : decode cX9_want 68 = .ok (.aload_n 0, 1) := by decide +kernel
theorem dX9_want_69 : decode cX9_want 69 = .ok (.getfield 276, 3) := by decide +kernel
theorem dX9_want_72 : decode cX9_want 72 = .ok (.iload_n 2, 1) := by decide +kernel
theorem dX9_want_73 : decode cX9_want 73 = .ok (.iastore, 1) := by decide +kernel
theorem dX9_want_74 : decode cX9_want 74 = .ok (.aload_n 0, 1) := by decide +kernel
theorem dX9_want_75 : decode cX9_want 75 = .ok (.dup, 1) := by decide +kernel
theorem dX9_want_76 : decode cX9_want 76 = .ok (.getfield 276, 3) := by decide +kernel
theorem dX9_want_79 : decode cX9_want 79 = .ok (.iconst 1, 1) := by decide +kernel
theorem dX9_want_80 : decode cX9_want 80 = .ok (.iadd, 1) := by decide +kernel
theorem dX9_want_81 : decode cX9_want 81 = .ok (.putfield 276, 3) := by decide +kernel
theorem dX9_want_84 : decode cX9_want 84 = .ok (.aload_n 0, 1) := by decide +kernel
theorem dX9_want_85 : decode cX9_want 85 = .ok (.getfield 276, 3) := by decide +kernel
theorem dX9_want_88 : decode cX9_want 88 = .ok (.ireturn, 1) := by decide +kernel
theorem dX9_unwant_0 : decode cX9_unwant 0 = .ok (.aload_n 0, 1) := by decide +kernel
theorem dX9_unwant_1 : decode cX9_unwant 1 = .ok (.iconst 0, 1) := by decide +kernel
theorem dX9_unwant_2 : decode cX9_unwant 2 = .ok (.putfield 109, 3) := by decide +kernel
theorem dX9_unwant_5 : decode cX9_unwant 5 = .ok (.aload_n 0, 1) := by decide +kernel
theorem dX9_unwant_6 : decode cX9_unwant 6 = .ok (.getfield 276, 3) := by decide +kernel
theorem dX9_unwant_9 : decode cX9_unwant 9 = .ok (.istore_n 1, 1) := by decide +kernel
theorem dX9_unwant_10 : decode cX9_unwant 10 = .ok (.aload_n 0, 1) := by decide +kernel
theorem dX9_unwant_11 : decode cX9_unwant 11 = .ok (.iconst 0, 1) := by decide +kernel
theorem dX9_unwant_12 : decode cX9_unwant 12 = .ok (.putfield 276, 3) := by decide +kernel
theorem dX9_unwant_15 : decode cX9_unwant 15 = .ok (.iload_n 1, 1) := by decide +kernel
theorem dX9_unwant_16 : decode cX9_unwant 16 = .ok (.ireturn, 1) := by decide +kernel
theorem dX9_power_0 : decode cX9_power 0 = .ok (.iload_n 0, 1) := by decide +kernel
theorem dX9_power_1 : decode cX9_power 1 = .ok (.ifCond .ne 7, 3) := by decide +kernel
theorem dX9_power_4 : decode cX9_power 4 = .ok (.iconst 1, 1) := by decide +kernel
theorem dX9_power_5 : decode cX9_power 5 = .ok (.goto 26, 3) := by decide +kernel
theorem dX9_power_8 : decode cX9_power 8 = .ok (.iload_n 0, 1) := by decide +kernel
theorem dX9_power_9 : decode cX9_power 9 = .ok (.iconst 1, 1) := by decide +kernel
theorem dX9_power_10 : decode cX9_power 10 = .ok (.if_icmp .ne 8, 3) := by decide +kernel
theorem dX9_power_13 : decode cX9_power 13 = .ok (.bipush 9, 2) := by decide +kernel
theorem dX9_power_15 : decode cX9_power 15 = .ok (.goto 16, 3) := by decide +kernel
theorem dX9_power_18 : decode cX9_power 18 = .ok (.iload_n 0, 1) := by decide +kernel
theorem dX9_power_19 : decode cX9_power 19 = .ok (.iconst 2, 1) := by decide +kernel
theorem dX9_power_20 : decode cX9_power 20 = .ok (.if_icmp .ne 8, 3) := by decide +kernel
theorem dX9_power_23 : decode cX9_power 23 = .ok (.bipush 81, 2) := by decide +kernel
theorem dX9_power_25 : decode cX9_power 25 = .ok (.goto 6, 3) := by decide +kernel
theorem dX9_power_28 : decode cX9_power 28 = .ok (.sipush 729, 3) := by decide +kernel
theorem dX9_power_31 : decode cX9_power 31 = .ok (.ireturn, 1) := by decide +kernel
theorem dX9_best_0 : decode cX9_best 0 = .ok (.iload_n 2, 1) := by decide +kernel
theorem dX9_best_1 : decode cX9_best 1 = .ok (.iconst 4, 1) := by decide +kernel
theorem dX9_best_2 : decode cX9_best 2 = .ok (.if_icmp .ne 23, 3) := by decide +kernel
theorem dX9_best_5 : decode cX9_best 5 = .ok (.iload 4, 2) := by decide +kernel
theorem dX9_best_7 : decode cX9_best 7 = .ok (.iload_n 1, 1) := by decide +kernel
theorem dX9_best_8 : decode cX9_best 8 = .ok (.if_icmp .ne 9, 3) := by decide +kernel
theorem dX9_best_11 : decode cX9_best 11 = .ok (.ldc_w 281, 3) := by decide +kernel
theorem dX9_best_14 : decode cX9_best 14 = .ok (.goto 10, 3) := by decide +kernel
theorem dX9_best_17 : decode cX9_best 17 = .ok (.aload_n 0, 1) := by decide +kernel
theorem dX9_best_18 : decode cX9_best 18 = .ok (.getfield 106, 3) := by decide +kernel
theorem dX9_best_21 : decode cX9_best 21 = .ok (.iload 4, 2) := by decide +kernel
theorem dX9_best_23 : decode cX9_best 23 = .ok (.iaload, 1) := by decide +kernel
theorem dX9_best_24 : decode cX9_best 24 = .ok (.ireturn, 1) := by decide +kernel
theorem dX9_best_25 : decode cX9_best 25 = .ok (.iload_n 2, 1) := by decide +kernel
theorem dX9_best_26 : decode cX9_best 26 = .ok (.aload_n 0, 1) := by decide +kernel
theorem dX9_best_27 : decode cX9_best 27 = .ok (.getfield 276, 3) := by decide +kernel
theorem dX9_best_30 : decode cX9_best 30 = .ok (.if_icmp .ge 15, 3) := by decide +kernel
theorem dX9_best_33 : decode cX9_best 33 = .ok (.iload_n 1, 1) := by decide +kernel
theorem dX9_best_34 : decode cX9_best 34 = .ok (.iload_n 2, 1) := by decide +kernel
theorem dX9_best_35 : decode cX9_best 35 = .ok (.invokestatic 282, 3) := by decide +kernel
theorem dX9_best_38 : decode cX9_best 38 = .ok (.idiv, 1) := by decide +kernel
theorem dX9_best_39 : decode cX9_best 39 = .ok (.bipush 9, 2) := by decide +kernel
theorem dX9_best_41 : decode cX9_best 41 = .ok (.irem, 1) := by decide +kernel
theorem dX9_best_42 : decode cX9_best 42 = .ok (.goto 4, 3) := by decide +kernel
theorem dX9_best_45 : decode cX9_best 45 = .ok (.iconst 0, 1) := by decide +kernel
theorem dX9_best_46 : decode cX9_best 46 = .ok (.istore 5, 2) := by decide +kernel
theorem dX9_best_48 : decode cX9_best 48 = .ok (.ldc_w 281, 3) := by decide +kernel
theorem dX9_best_51 : decode cX9_best 51 = .ok (.istore 6, 2) := by decide +kernel
theorem dX9_best_53 : decode cX9_best 53 = .ok (.iconst 0, 1) := by decide +kernel
theorem dX9_best_54 : decode cX9_best 54 = .ok (.istore 7, 2) := by decide +kernel
theorem dX9_best_56 : decode cX9_best 56 = .ok (.iload 7, 2) := by decide +kernel
theorem dX9_best_58 : decode cX9_best 58 = .ok (.iload 5, 2) := by decide +kernel
theorem dX9_best_60 : decode cX9_best 60 = .ok (.if_icmp .gt 67, 3) := by decide +kernel
theorem dX9_best_63 : decode cX9_best 63 = .ok (.iload 7, 2) := by decide +kernel
theorem dX9_best_65 : decode cX9_best 65 = .ok (.iload_n 3, 1) := by decide +kernel
theorem dX9_best_66 : decode cX9_best 66 = .ok (.if_icmp .gt 61, 3) := by decide +kernel
theorem dX9_best_69 : decode cX9_best 69 = .ok (.iload 7, 2) := by decide +kernel
theorem dX9_best_71 : decode cX9_best 71 = .ok (.iload_n 2, 1) := by decide +kernel
theorem dX9_best_72 : decode cX9_best 72 = .ok (.aload_n 0, 1) := by decide +kernel
theorem dX9_best_73 : decode cX9_best 73 = .ok (.getfield 276, 3) := by decide +kernel
theorem dX9_best_76 : decode cX9_best 76 = .ok (.if_icmp .ge 12, 3) := by decide +kernel
theorem dX9_best_79 : decode cX9_best 79 = .ok (.aload_n 0, 1) := by decide +kernel
theorem dX9_best_80 : decode cX9_best 80 = .ok (.getfield 103, 3) := by decide +kernel
theorem dX9_best_83 : decode cX9_best 83 = .ok (.iload_n 2, 1) := by decide +kernel
theorem dX9_best_84 : decode cX9_best 84 = .ok (.iaload, 1) := by decide +kernel
theorem dX9_best_85 : decode cX9_best 85 = .ok (.goto 4, 3) := by decide +kernel
theorem dX9_best_88 : decode cX9_best 88 = .ok (.iconst 0, 1) := by decide +kernel
theorem dX9_best_89 : decode cX9_best 89 = .ok (.if_icmp .gt 38, 3) := by decide +kernel
theorem dX9_best_92 : decode cX9_best 92 = .ok (.iload 6, 2) := by decide +kernel
theorem dX9_best_94 : decode cX9_best 94 = .ok (.aload_n 0, 1) := by decide +kernel
theorem dX9_best_95 : decode cX9_best 95 = .ok (.iload_n 1, 1) := by decide +kernel
theorem dX9_best_96 : decode cX9_best 96 = .ok (.iload_n 2, 1) := by decide +kernel
theorem dX9_best_97 : decode cX9_best 97 = .ok (.iconst 1, 1) := by decide +kernel
theorem dX9_best_98 : decode cX9_best 98 = .ok (.iadd, 1) := by decide +kernel
theorem dX9_best_99 : decode cX9_best 99 = .ok (.iload_n 3, 1) := by decide +kernel
theorem dX9_best_100 : decode cX9_best 100 = .ok (.iload 7, 2) := by decide +kernel
theorem dX9_best_102 : decode cX9_best 102 = .ok (.isub, 1) := by decide +kernel
theorem dX9_best_103 : decode cX9_best 103 = .ok (.iload 4, 2) := by decide +kernel
theorem dX9_best_105 : decode cX9_best 105 = .ok (.iload 7, 2) := by decide +kernel
theorem dX9_best_107 : decode cX9_best 107 = .ok (.iload_n 2, 1) := by decide +kernel
theorem dX9_best_108 : decode cX9_best 108 = .ok (.invokestatic 282, 3) := by decide +kernel
theorem dX9_best_111 : decode cX9_best 111 = .ok (.imul, 1) := by decide +kernel
theorem dX9_best_112 : decode cX9_best 112 = .ok (.isub, 1) := by decide +kernel
theorem dX9_best_113 : decode cX9_best 113 = .ok (.invokevirtual 285, 3) := by decide +kernel
theorem dX9_best_116 : decode cX9_best 116 = .ok (.invokestatic 227, 3) := by decide +kernel
theorem dX9_best_119 : decode cX9_best 119 = .ok (.istore 6, 2) := by decide +kernel
theorem dX9_best_121 : decode cX9_best 121 = .ok (.iinc 7 1, 3) := by decide +kernel
theorem dX9_best_124 : decode cX9_best 124 = .ok (.goto (-68), 3) := by decide +kernel
theorem dX9_best_127 : decode cX9_best 127 = .ok (.iload 6, 2) := by decide +kernel
theorem dX9_best_129 : decode cX9_best 129 = .ok (.ireturn, 1) := by decide +kernel
theorem dX9_plan_0 : decode cX9_plan 0 = .ok (.aload_n 0, 1) := by decide +kernel
theorem dX9_plan_1 : decode cX9_plan 1 = .ok (.iconst 0, 1) := by decide +kernel
theorem dX9_plan_2 : decode cX9_plan 2 = .ok (.putfield 109, 3) := by decide +kernel
theorem dX9_plan_5 : decode cX9_plan 5 = .ok (.aload_n 0, 1) := by decide +kernel
theorem dX9_plan_6 : decode cX9_plan 6 = .ok (.iload_n 1, 1) := by decide +kernel
theorem dX9_plan_7 : decode cX9_plan 7 = .ok (.i2l, 1) := by decide +kernel
theorem dX9_plan_8 : decode cX9_plan 8 = .ok (.lconst 1, 1) := by decide +kernel
theorem dX9_plan_9 : decode cX9_plan 9 = .ok (.ldc2_w 272, 3) := by decide +kernel
theorem dX9_plan_12 : decode cX9_plan 12 = .ok (.invokestatic 115, 3) := by decide +kernel
theorem dX9_plan_15 : decode cX9_plan 15 = .ok (.ifCond .ne 7, 3) := by decide +kernel
theorem dX9_plan_18 : decode cX9_plan 18 = .ok (.iconst 1, 1) := by decide +kernel
theorem dX9_plan_19 : decode cX9_plan 19 = .ok (.goto 4, 3) := by decide +kernel
theorem dX9_plan_22 : decode cX9_plan 22 = .ok (.iconst 0, 1) := by decide +kernel
theorem dX9_plan_23 : decode cX9_plan 23 = .ok (.iconst 1, 1) := by decide +kernel
theorem dX9_plan_24 : decode cX9_plan 24 = .ok (.invokevirtual 124, 3) := by decide +kernel
theorem dX9_plan_27 : decode cX9_plan 27 = .ok (.ifCond .eq 5, 3) := by decide +kernel
theorem dX9_plan_30 : decode cX9_plan 30 = .ok (.iconst 0, 1) := by decide +kernel
theorem dX9_plan_31 : decode cX9_plan 31 = .ok (.ireturn, 1) := by decide +kernel
theorem dX9_plan_32 : decode cX9_plan 32 = .ok (.iconst 0, 1) := by decide +kernel
theorem dX9_plan_33 : decode cX9_plan 33 = .ok (.istore_n 2, 1) := by decide +kernel
theorem dX9_plan_34 : decode cX9_plan 34 = .ok (.iconst 0, 1) := by decide +kernel
theorem dX9_plan_35 : decode cX9_plan 35 = .ok (.istore_n 3, 1) := by decide +kernel
theorem dX9_plan_36 : decode cX9_plan 36 = .ok (.iload_n 3, 1) := by decide +kernel
theorem dX9_plan_37 : decode cX9_plan 37 = .ok (.aload_n 0, 1) := by decide +kernel
theorem dX9_plan_38 : decode cX9_plan 38 = .ok (.getfield 276, 3) := by decide +kernel
theorem dX9_plan_41 : decode cX9_plan 41 = .ok (.if_icmp .ge 23, 3) := by decide +kernel
theorem dX9_plan_44 : decode cX9_plan 44 = .ok (.iload_n 2, 1) := by decide +kernel
theorem dX9_plan_45 : decode cX9_plan 45 = .ok (.aload_n 0, 1) := by decide +kernel
theorem dX9_plan_46 : decode cX9_plan 46 = .ok (.getfield 100, 3) := by decide +kernel
theorem dX9_plan_49 : decode cX9_plan 49 = .ok (.iload_n 3, 1) := by decide +kernel
theorem dX9_plan_50 : decode cX9_plan 50 = .ok (.iaload, 1) := by decide +kernel
theorem dX9_plan_51 : decode cX9_plan 51 = .ok (.iload_n 3, 1) := by decide +kernel
theorem dX9_plan_52 : decode cX9_plan 52 = .ok (.invokestatic 282, 3) := by decide +kernel
theorem dX9_plan_55 : decode cX9_plan 55 = .ok (.imul, 1) := by decide +kernel
theorem dX9_plan_56 : decode cX9_plan 56 = .ok (.iadd, 1) := by decide +kernel
theorem dX9_plan_57 : decode cX9_plan 57 = .ok (.istore_n 2, 1) := by decide +kernel
theorem dX9_plan_58 : decode cX9_plan 58 = .ok (.iinc 3 1, 3) := by decide +kernel
theorem dX9_plan_61 : decode cX9_plan 61 = .ok (.goto (-25), 3) := by decide +kernel
theorem dX9_plan_64 : decode cX9_plan 64 = .ok (.aload_n 0, 1) := by decide +kernel
theorem dX9_plan_65 : decode cX9_plan 65 = .ok (.getfield 106, 3) := by decide +kernel
theorem dX9_plan_68 : decode cX9_plan 68 = .ok (.iconst 0, 1) := by decide +kernel
theorem dX9_plan_69 : decode cX9_plan 69 = .ok (.iconst 0, 1) := by decide +kernel
theorem dX9_plan_70 : decode cX9_plan 70 = .ok (.iastore, 1) := by decide +kernel
theorem dX9_plan_71 : decode cX9_plan 71 = .ok (.iconst 1, 1) := by decide +kernel
theorem dX9_plan_72 : decode cX9_plan 72 = .ok (.istore_n 3, 1) := by decide +kernel
theorem dX9_plan_73 : decode cX9_plan 73 = .ok (.iload_n 3, 1) := by decide +kernel
theorem dX9_plan_74 : decode cX9_plan 74 = .ok (.iload_n 2, 1) := by decide +kernel
theorem dX9_plan_75 : decode cX9_plan 75 = .ok (.if_icmp .gt 120, 3) := by decide +kernel
theorem dX9_plan_78 : decode cX9_plan 78 = .ok (.iconst 0, 1) := by decide +kernel
theorem dX9_plan_79 : decode cX9_plan 79 = .ok (.istore 4, 2) := by decide +kernel
theorem dX9_plan_81 : decode cX9_plan 81 = .ok (.iconst 1, 1) := by decide +kernel
theorem dX9_plan_82 : decode cX9_plan 82 = .ok (.istore 5, 2) := by decide +kernel
theorem dX9_plan_84 : decode cX9_plan 84 = .ok (.iconst 0, 1) := by decide +kernel
theorem dX9_plan_85 : decode cX9_plan 85 = .ok (.istore 6, 2) := by decide +kernel
theorem dX9_plan_87 : decode cX9_plan 87 = .ok (.iload 6, 2) := by decide +kernel
theorem dX9_plan_89 : decode cX9_plan 89 = .ok (.iconst 4, 1) := by decide +kernel
theorem dX9_plan_90 : decode cX9_plan 90 = .ok (.if_icmp .ge 73, 3) := by decide +kernel
theorem dX9_plan_93 : decode cX9_plan 93 = .ok (.iload_n 3, 1) := by decide +kernel
theorem dX9_plan_94 : decode cX9_plan 94 = .ok (.iload 6, 2) := by decide +kernel
theorem dX9_plan_96 : decode cX9_plan 96 = .ok (.invokestatic 282, 3) := by decide +kernel
theorem dX9_plan_99 : decode cX9_plan 99 = .ok (.idiv, 1) := by decide +kernel
theorem dX9_plan_100 : decode cX9_plan 100 = .ok (.bipush 9, 2) := by decide +kernel
theorem dX9_plan_102 : decode cX9_plan 102 = .ok (.irem, 1) := by decide +kernel
theorem dX9_plan_103 : decode cX9_plan 103 = .ok (.istore 7, 2) := by decide +kernel
theorem dX9_plan_105 : decode cX9_plan 105 = .ok (.iload 4, 2) := by decide +kernel
theorem dX9_plan_107 : decode cX9_plan 107 = .ok (.iload 7, 2) := by decide +kernel
theorem dX9_plan_109 : decode cX9_plan 109 = .ok (.ifCond .le 7, 3) := by decide +kernel
theorem dX9_plan_112 : decode cX9_plan 112 = .ok (.iconst 1, 1) := by decide +kernel
theorem dX9_plan_113 : decode cX9_plan 113 = .ok (.goto 4, 3) := by decide +kernel
theorem dX9_plan_116 : decode cX9_plan 116 = .ok (.iconst 0, 1) := by decide +kernel
theorem dX9_plan_117 : decode cX9_plan 117 = .ok (.iadd, 1) := by decide +kernel
theorem dX9_plan_118 : decode cX9_plan 118 = .ok (.istore 4, 2) := by decide +kernel
theorem dX9_plan_120 : decode cX9_plan 120 = .ok (.iload 5, 2) := by decide +kernel
theorem dX9_plan_122 : decode cX9_plan 122 = .ok (.ifCond .eq 32, 3) := by decide +kernel
theorem dX9_plan_125 : decode cX9_plan 125 = .ok (.iload 7, 2) := by decide +kernel
theorem dX9_plan_127 : decode cX9_plan 127 = .ok (.iload 6, 2) := by decide +kernel
theorem dX9_plan_129 : decode cX9_plan 129 = .ok (.aload_n 0, 1) := by decide +kernel
theorem dX9_plan_130 : decode cX9_plan 130 = .ok (.getfield 276, 3) := by decide +kernel
theorem dX9_plan_133 : decode cX9_plan 133 = .ok (.if_icmp .ge 13, 3) := by decide +kernel
theorem dX9_plan_136 : decode cX9_plan 136 = .ok (.aload_n 0, 1) := by decide +kernel
theorem dX9_plan_137 : decode cX9_plan 137 = .ok (.getfield 100, 3) := by decide +kernel
theorem dX9_plan_140 : decode cX9_plan 140 = .ok (.iload 6, 2) := by decide +kernel
theorem dX9_plan_142 : decode cX9_plan 142 = .ok (.iaload, 1) := by decide +kernel
theorem dX9_plan_143 : decode cX9_plan 143 = .ok (.goto 4, 3) := by decide +kernel
theorem dX9_plan_146 : decode cX9_plan 146 = .ok (.iconst 0, 1) := by decide +kernel
theorem dX9_plan_147 : decode cX9_plan 147 = .ok (.if_icmp .gt 7, 3) := by decide +kernel
theorem dX9_plan_150 : decode cX9_plan 150 = .ok (.iconst 1, 1) := by decide +kernel
theorem dX9_plan_151 : decode cX9_plan 151 = .ok (.goto 4, 3) := by decide +kernel
theorem dX9_plan_154 : decode cX9_plan 154 = .ok (.iconst 0, 1) := by decide +kernel
theorem dX9_plan_155 : decode cX9_plan 155 = .ok (.istore 5, 2) := by decide +kernel
theorem dX9_plan_157 : decode cX9_plan 157 = .ok (.iinc 6 1, 3) := by decide +kernel
theorem dX9_plan_160 : decode cX9_plan 160 = .ok (.goto (-73), 3) := by decide +kernel
theorem dX9_plan_163 : decode cX9_plan 163 = .ok (.aload_n 0, 1) := by decide +kernel
theorem dX9_plan_164 : decode cX9_plan 164 = .ok (.getfield 106, 3) := by decide +kernel
theorem dX9_plan_167 : decode cX9_plan 167 = .ok (.iload_n 3, 1) := by decide +kernel
theorem dX9_plan_168 : decode cX9_plan 168 = .ok (.iload 5, 2) := by decide +kernel
theorem dX9_plan_170 : decode cX9_plan 170 = .ok (.ifCond .eq 17, 3) := by decide +kernel
theorem dX9_plan_173 : decode cX9_plan 173 = .ok (.iload 4, 2) := by decide +kernel
theorem dX9_plan_175 : decode cX9_plan 175 = .ok (.aload_n 0, 1) := by decide +kernel
theorem dX9_plan_176 : decode cX9_plan 176 = .ok (.iload_n 3, 1) := by decide +kernel
theorem dX9_plan_177 : decode cX9_plan 177 = .ok (.iconst 0, 1) := by decide +kernel
theorem dX9_plan_178 : decode cX9_plan 178 = .ok (.iload_n 1, 1) := by decide +kernel
theorem dX9_plan_179 : decode cX9_plan 179 = .ok (.iload_n 3, 1) := by decide +kernel
theorem dX9_plan_180 : decode cX9_plan 180 = .ok (.invokevirtual 285, 3) := by decide +kernel
theorem dX9_plan_183 : decode cX9_plan 183 = .ok (.iadd, 1) := by decide +kernel
theorem dX9_plan_184 : decode cX9_plan 184 = .ok (.goto 4, 3) := by decide +kernel
theorem dX9_plan_187 : decode cX9_plan 187 = .ok (.iconst 0, 1) := by decide +kernel
theorem dX9_plan_188 : decode cX9_plan 188 = .ok (.iastore, 1) := by decide +kernel
theorem dX9_plan_189 : decode cX9_plan 189 = .ok (.iinc 3 1, 3) := by decide +kernel
theorem dX9_plan_192 : decode cX9_plan 192 = .ok (.goto (-119), 3) := by decide +kernel
theorem dX9_plan_195 : decode cX9_plan 195 = .ok (.aload_n 0, 1) := by decide +kernel
theorem dX9_plan_196 : decode cX9_plan 196 = .ok (.getfield 106, 3) := by decide +kernel
theorem dX9_plan_199 : decode cX9_plan 199 = .ok (.iload_n 2, 1) := by decide +kernel
theorem dX9_plan_200 : decode cX9_plan 200 = .ok (.iaload, 1) := by decide +kernel
theorem dX9_plan_201 : decode cX9_plan 201 = .ok (.ireturn, 1) := by decide +kernel
theorem dX9_count_0 : decode cX9_count 0 = .ok (.aload_n 0, 1) := by decide +kernel
theorem dX9_count_1 : decode cX9_count 1 = .ok (.iconst 0, 1) := by decide +kernel
theorem dX9_count_2 : decode cX9_count 2 = .ok (.putfield 109, 3) := by decide +kernel
theorem dX9_count_5 : decode cX9_count 5 = .ok (.iload_n 1, 1) := by decide +kernel
theorem dX9_count_6 : decode cX9_count 6 = .ok (.tableswitch 129 0 9 #[54, 59, 64, 69, 74, 102, 108, 113, 118, 123], 54) := by decide +kernel
theorem dX9_count_60 : decode cX9_count 60 = .ok (.aload_n 0, 1) := by decide +kernel
theorem dX9_count_61 : decode cX9_count 61 = .ok (.getfield 112, 3) := by decide +kernel
theorem dX9_count_64 : decode cX9_count 64 = .ok (.ireturn, 1) := by decide +kernel
theorem dX9_count_65 : decode cX9_count 65 = .ok (.aload_n 0, 1) := by decide +kernel
theorem dX9_count_66 : decode cX9_count 66 = .ok (.getfield 119, 3) := by decide +kernel
theorem dX9_count_69 : decode cX9_count 69 = .ok (.ireturn, 1) := by decide +kernel
theorem dX9_count_70 : decode cX9_count 70 = .ok (.aload_n 0, 1) := by decide +kernel
theorem dX9_count_71 : decode cX9_count 71 = .ok (.getfield 128, 3) := by decide +kernel
theorem dX9_count_74 : decode cX9_count 74 = .ok (.ireturn, 1) := by decide +kernel
theorem dX9_count_75 : decode cX9_count 75 = .ok (.aload_n 0, 1) := by decide +kernel
theorem dX9_count_76 : decode cX9_count 76 = .ok (.getfield 224, 3) := by decide +kernel
theorem dX9_count_79 : decode cX9_count 79 = .ok (.ireturn, 1) := by decide +kernel
theorem dX9_count_80 : decode cX9_count 80 = .ok (.iconst 0, 1) := by decide +kernel
theorem dX9_count_81 : decode cX9_count 81 = .ok (.istore_n 2, 1) := by decide +kernel
theorem dX9_count_82 : decode cX9_count 82 = .ok (.iconst 0, 1) := by decide +kernel
theorem dX9_count_83 : decode cX9_count 83 = .ok (.istore_n 3, 1) := by decide +kernel
theorem dX9_count_84 : decode cX9_count 84 = .ok (.iload_n 3, 1) := by decide +kernel
theorem dX9_count_85 : decode cX9_count 85 = .ok (.aload_n 0, 1) := by decide +kernel
theorem dX9_count_86 : decode cX9_count 86 = .ok (.getfield 119, 3) := by decide +kernel
theorem dX9_count_89 : decode cX9_count 89 = .ok (.if_icmp .ge 17, 3) := by decide +kernel
theorem dX9_count_92 : decode cX9_count 92 = .ok (.iload_n 2, 1) := by decide +kernel
theorem dX9_count_93 : decode cX9_count 93 = .ok (.aload_n 0, 1) := by decide +kernel
theorem dX9_count_94 : decode cX9_count 94 = .ok (.iload_n 3, 1) := by decide +kernel
theorem dX9_count_95 : decode cX9_count 95 = .ok (.invokevirtual 242, 3) := by decide +kernel
theorem dX9_count_98 : decode cX9_count 98 = .ok (.iadd, 1) := by decide +kernel
theorem dX9_count_99 : decode cX9_count 99 = .ok (.istore_n 2, 1) := by decide +kernel
theorem dX9_count_100 : decode cX9_count 100 = .ok (.iinc 3 1, 3) := by decide +kernel
theorem dX9_count_103 : decode cX9_count 103 = .ok (.goto (-19), 3) := by decide +kernel
theorem dX9_count_106 : decode cX9_count 106 = .ok (.iload_n 2, 1) := by decide +kernel
theorem dX9_count_107 : decode cX9_count 107 = .ok (.ireturn, 1) := by decide +kernel
theorem dX9_count_108 : decode cX9_count 108 = .ok (.aload_n 0, 1) := by decide +kernel
theorem dX9_count_109 : decode cX9_count 109 = .ok (.getfield 232, 3) := by decide +kernel
theorem dX9_count_112 : decode cX9_count 112 = .ok (.l2i, 1) := by decide +kernel
theorem dX9_count_113 : decode cX9_count 113 = .ok (.ireturn, 1) := by decide +kernel
theorem dX9_count_114 : decode cX9_count 114 = .ok (.aload_n 0, 1) := by decide +kernel
theorem dX9_count_115 : decode cX9_count 115 = .ok (.getfield 258, 3) := by decide +kernel
theorem dX9_count_118 : decode cX9_count 118 = .ok (.ireturn, 1) := by decide +kernel
theorem dX9_count_119 : decode cX9_count 119 = .ok (.aload_n 0, 1) := by decide +kernel
theorem dX9_count_120 : decode cX9_count 120 = .ok (.getfield 245, 3) := by decide +kernel
theorem dX9_count_123 : decode cX9_count 123 = .ok (.ireturn, 1) := by decide +kernel
theorem dX9_count_124 : decode cX9_count 124 = .ok (.aload_n 0, 1) := by decide +kernel
theorem dX9_count_125 : decode cX9_count 125 = .ok (.getfield 264, 3) := by decide +kernel
theorem dX9_count_128 : decode cX9_count 128 = .ok (.ireturn, 1) := by decide +kernel
theorem dX9_count_129 : decode cX9_count 129 = .ok (.aload_n 0, 1) := by decide +kernel
theorem dX9_count_130 : decode cX9_count 130 = .ok (.getfield 220, 3) := by decide +kernel
theorem dX9_count_133 : decode cX9_count 133 = .ok (.l2i, 1) := by decide +kernel
theorem dX9_count_134 : decode cX9_count 134 = .ok (.ireturn, 1) := by decide +kernel
theorem dX9_count_135 : decode cX9_count 135 = .ok (.iconst (-1), 1) := by decide +kernel
theorem dX9_count_136 : decode cX9_count 136 = .ok (.ireturn, 1) := by decide +kernel
theorem dL_man_0 : decode cL_man 0 = .ok (.aload_n 2, 1) := by decide +kernel
theorem dL_man_1 : decode cL_man 1 = .ok (.iconst 0, 1) := by decide +kernel
theorem dL_man_2 : decode cL_man 2 = .ok (.aload_n 0, 1) := by decide +kernel
theorem dL_man_3 : decode cL_man 3 = .ok (.iload_n 1, 1) := by decide +kernel
theorem dL_man_4 : decode cL_man 4 = .ok (.invokevirtual 7, 3) := by decide +kernel
theorem dL_man_7 : decode cL_man 7 = .ok (.i2l, 1) := by decide +kernel
theorem dL_man_8 : decode cL_man 8 = .ok (.lastore, 1) := by decide +kernel
theorem dL_man_9 : decode cL_man 9 = .ok (.goto 9, 3) := by decide +kernel
theorem dL_man_12 : decode cL_man 12 = .ok (.astore_n 3, 1) := by decide +kernel
theorem dL_man_13 : decode cL_man 13 = .ok (.iconst 1, 1) := by decide +kernel
theorem dL_man_14 : decode cL_man 14 = .ok (.ireturn, 1) := by decide +kernel
theorem dL_man_15 : decode cL_man 15 = .ok (.astore_n 3, 1) := by decide +kernel
theorem dL_man_16 : decode cL_man 16 = .ok (.iconst 2, 1) := by decide +kernel
theorem dL_man_17 : decode cL_man 17 = .ok (.ireturn, 1) := by decide +kernel
theorem dL_man_18 : decode cL_man 18 = .ok (.iconst 0, 1) := by decide +kernel
theorem dL_man_19 : decode cL_man 19 = .ok (.ireturn, 1) := by decide +kernel
theorem dL_ship_0 : decode cL_ship 0 = .ok (.aload_n 1, 1) := by decide +kernel
theorem dL_ship_1 : decode cL_ship 1 = .ok (.iconst 0, 1) := by decide +kernel
theorem dL_ship_2 : decode cL_ship 2 = .ok (.aload_n 0, 1) := by decide +kernel
theorem dL_ship_3 : decode cL_ship 3 = .ok (.invokevirtual 17, 3) := by decide +kernel
theorem dL_ship_6 : decode cL_ship 6 = .ok (.i2l, 1) := by decide +kernel
theorem dL_ship_7 : decode cL_ship 7 = .ok (.lastore, 1) := by decide +kernel
theorem dL_ship_8 : decode cL_ship 8 = .ok (.goto 6, 3) := by decide +kernel
theorem dL_ship_11 : decode cL_ship 11 = .ok (.astore_n 2, 1) := by decide +kernel
theorem dL_ship_12 : decode cL_ship 12 = .ok (.iconst 1, 1) := by decide +kernel
theorem dL_ship_13 : decode cL_ship 13 = .ok (.ireturn, 1) := by decide +kernel
theorem dL_ship_14 : decode cL_ship 14 = .ok (.iconst 0, 1) := by decide +kernel
theorem dL_ship_15 : decode cL_ship 15 = .ok (.ireturn, 1) := by decide +kernel
theorem dL_hatch_0 : decode cL_hatch 0 = .ok (.aload 5, 2) := by decide +kernel
theorem dL_hatch_2 : decode cL_hatch 2 = .ok (.iconst 0, 1) := by decide +kernel
theorem dL_hatch_3 : decode cL_hatch 3 = .ok (.aload_n 0, 1) := by decide +kernel
theorem dL_hatch_4 : decode cL_hatch 4 = .ok (.iload_n 1, 1) := by decide +kernel
theorem dL_hatch_5 : decode cL_hatch 5 = .ok (.iload_n 2, 1) := by decide +kernel
theorem dL_hatch_6 : decode cL_hatch 6 = .ok (.iload_n 3, 1) := by decide +kernel
theorem dL_hatch_7 : decode cL_hatch 7 = .ok (.iload 4, 2) := by decide +kernel
theorem dL_hatch_9 : decode cL_hatch 9 = .ok (.invokevirtual 21, 3) := by decide +kernel
theorem dL_hatch_12 : decode cL_hatch 12 = .ok (.i2l, 1) := by decide +kernel
theorem dL_hatch_13 : decode cL_hatch 13 = .ok (.lastore, 1) := by decide +kernel
theorem dL_hatch_14 : decode cL_hatch 14 = .ok (.goto 15, 3) := by decide +kernel
theorem dL_hatch_17 : decode cL_hatch 17 = .ok (.astore 6, 2) := by decide +kernel
theorem dL_hatch_19 : decode cL_hatch 19 = .ok (.iconst 1, 1) := by decide +kernel
theorem dL_hatch_20 : decode cL_hatch 20 = .ok (.ireturn, 1) := by decide +kernel
theorem dL_hatch_21 : decode cL_hatch 21 = .ok (.astore 6, 2) := by decide +kernel
theorem dL_hatch_23 : decode cL_hatch 23 = .ok (.iconst 2, 1) := by decide +kernel
theorem dL_hatch_24 : decode cL_hatch 24 = .ok (.ireturn, 1) := by decide +kernel
theorem dL_hatch_25 : decode cL_hatch 25 = .ok (.astore 6, 2) := by decide +kernel
theorem dL_hatch_27 : decode cL_hatch 27 = .ok (.iconst 3, 1) := by decide +kernel
theorem dL_hatch_28 : decode cL_hatch 28 = .ok (.ireturn, 1) := by decide +kernel
theorem dL_hatch_29 : decode cL_hatch 29 = .ok (.iconst 0, 1) := by decide +kernel
theorem dL_hatch_30 : decode cL_hatch 30 = .ok (.ireturn, 1) := by decide +kernel
theorem dL_agree_0 : decode cL_agree 0 = .ok (.aload_n 1, 1) := by decide +kernel
theorem dL_agree_1 : decode cL_agree 1 = .ok (.iconst 0, 1) := by decide +kernel
theorem dL_agree_2 : decode cL_agree 2 = .ok (.aload_n 0, 1) := by decide +kernel
theorem dL_agree_3 : decode cL_agree 3 = .ok (.invokevirtual 27, 3) := by decide +kernel
theorem dL_agree_6 : decode cL_agree 6 = .ok (.i2l, 1) := by decide +kernel
theorem dL_agree_7 : decode cL_agree 7 = .ok (.lastore, 1) := by decide +kernel
theorem dL_agree_8 : decode cL_agree 8 = .ok (.goto 6, 3) := by decide +kernel
theorem dL_agree_11 : decode cL_agree 11 = .ok (.astore_n 2, 1) := by decide +kernel
theorem dL_agree_12 : decode cL_agree 12 = .ok (.iconst 1, 1) := by decide +kernel
theorem dL_agree_13 : decode cL_agree 13 = .ok (.ireturn, 1) := by decide +kernel
theorem dL_agree_14 : decode cL_agree 14 = .ok (.iconst 0, 1) := by decide +kernel
theorem dL_agree_15 : decode cL_agree 15 = .ok (.ireturn, 1) := by decide +kernel
theorem dL_says_0 : decode cL_says 0 = .ok (.aload_n 2, 1) := by decide +kernel
theorem dL_says_1 : decode cL_says 1 = .ok (.iconst 0, 1) := by decide +kernel
theorem dL_says_2 : decode cL_says 2 = .ok (.aload_n 0, 1) := by decide +kernel
theorem dL_says_3 : decode cL_says 3 = .ok (.iload_n 1, 1) := by decide +kernel
theorem dL_says_4 : decode cL_says 4 = .ok (.invokevirtual 30, 3) := by decide +kernel
theorem dL_says_7 : decode cL_says 7 = .ok (.i2l, 1) := by decide +kernel
theorem dL_says_8 : decode cL_says 8 = .ok (.lastore, 1) := by decide +kernel
theorem dL_says_9 : decode cL_says 9 = .ok (.goto 6, 3) := by decide +kernel
theorem dL_says_12 : decode cL_says 12 = .ok (.astore_n 3, 1) := by decide +kernel
theorem dL_says_13 : decode cL_says 13 = .ok (.iconst 1, 1) := by decide +kernel
theorem dL_says_14 : decode cL_says 14 = .ok (.ireturn, 1) := by decide +kernel
theorem dL_says_15 : decode cL_says 15 = .ok (.iconst 0, 1) := by decide +kernel
theorem dL_says_16 : decode cL_says 16 = .ok (.ireturn, 1) := by decide +kernel
theorem dL_call_0 : decode cL_call 0 = .ok (.aload_n 3, 1) := by decide +kernel
theorem dL_call_1 : decode cL_call 1 = .ok (.iconst 0, 1) := by decide +kernel
theorem dL_call_2 : decode cL_call 2 = .ok (.aload_n 0, 1) := by decide +kernel
theorem dL_call_3 : decode cL_call 3 = .ok (.iload_n 1, 1) := by decide +kernel
theorem dL_call_4 : decode cL_call 4 = .ok (.iload_n 2, 1) := by decide +kernel
theorem dL_call_5 : decode cL_call 5 = .ok (.invokevirtual 35, 3) := by decide +kernel
theorem dL_call_8 : decode cL_call 8 = .ok (.i2l, 1) := by decide +kernel
theorem dL_call_9 : decode cL_call 9 = .ok (.lastore, 1) := by decide +kernel
theorem dL_call_10 : decode cL_call 10 = .ok (.goto 7, 3) := by decide +kernel
theorem dL_call_13 : decode cL_call 13 = .ok (.astore 4, 2) := by decide +kernel
theorem dL_call_15 : decode cL_call 15 = .ok (.iconst 1, 1) := by decide +kernel
theorem dL_call_16 : decode cL_call 16 = .ok (.ireturn, 1) := by decide +kernel
theorem dL_call_17 : decode cL_call 17 = .ok (.iconst 0, 1) := by decide +kernel
theorem dL_call_18 : decode cL_call 18 = .ok (.ireturn, 1) := by decide +kernel
theorem dL_look_0 : decode cL_look 0 = .ok (.aload_n 3, 1) := by decide +kernel
theorem dL_look_1 : decode cL_look 1 = .ok (.iconst 0, 1) := by decide +kernel
theorem dL_look_2 : decode cL_look 2 = .ok (.aload_n 0, 1) := by decide +kernel
theorem dL_look_3 : decode cL_look 3 = .ok (.iload_n 1, 1) := by decide +kernel
theorem dL_look_4 : decode cL_look 4 = .ok (.iload_n 2, 1) := by decide +kernel
theorem dL_look_5 : decode cL_look 5 = .ok (.invokevirtual 39, 3) := by decide +kernel
theorem dL_look_8 : decode cL_look 8 = .ok (.i2l, 1) := by decide +kernel
theorem dL_look_9 : decode cL_look 9 = .ok (.lastore, 1) := by decide +kernel
theorem dL_look_10 : decode cL_look 10 = .ok (.goto 11, 3) := by decide +kernel
theorem dL_look_13 : decode cL_look 13 = .ok (.astore 4, 2) := by decide +kernel
theorem dL_look_15 : decode cL_look 15 = .ok (.iconst 1, 1) := by decide +kernel
theorem dL_look_16 : decode cL_look 16 = .ok (.ireturn, 1) := by decide +kernel
theorem dL_look_17 : decode cL_look 17 = .ok (.astore 4, 2) := by decide +kernel
theorem dL_look_19 : decode cL_look 19 = .ok (.iconst 2, 1) := by decide +kernel
theorem dL_look_20 : decode cL_look 20 = .ok (.ireturn, 1) := by decide +kernel
theorem dL_look_21 : decode cL_look 21 = .ok (.iconst 0, 1) := by decide +kernel
theorem dL_look_22 : decode cL_look 22 = .ok (.ireturn, 1) := by decide +kernel
theorem dL_tons_0 : decode cL_tons 0 = .ok (.aload_n 3, 1) := by decide +kernel
theorem dL_tons_1 : decode cL_tons 1 = .ok (.iconst 0, 1) := by decide +kernel
theorem dL_tons_2 : decode cL_tons 2 = .ok (.aload_n 0, 1) := by decide +kernel
theorem dL_tons_3 : decode cL_tons 3 = .ok (.iload_n 1, 1) := by decide +kernel
theorem dL_tons_4 : decode cL_tons 4 = .ok (.iload_n 2, 1) := by decide +kernel
theorem dL_tons_5 : decode cL_tons 5 = .ok (.invokevirtual 42, 3) := by decide +kernel
theorem dL_tons_8 : decode cL_tons 8 = .ok (.i2l, 1) := by decide +kernel
theorem dL_tons_9 : decode cL_tons 9 = .ok (.lastore, 1) := by decide +kernel
theorem dL_tons_10 : decode cL_tons 10 = .ok (.goto 7, 3) := by decide +kernel
theorem dL_tons_13 : decode cL_tons 13 = .ok (.astore 4, 2) := by decide +kernel
theorem dL_tons_15 : decode cL_tons 15 = .ok (.iconst 1, 1) := by decide +kernel
theorem dL_tons_16 : decode cL_tons 16 = .ok (.ireturn, 1) := by decide +kernel
theorem dL_tons_17 : decode cL_tons 17 = .ok (.iconst 0, 1) := by decide +kernel
theorem dL_tons_18 : decode cL_tons 18 = .ok (.ireturn, 1) := by decide +kernel
theorem dL_state_0 : decode cL_state 0 = .ok (.aload_n 3, 1) := by decide +kernel
theorem dL_state_1 : decode cL_state 1 = .ok (.iconst 0, 1) := by decide +kernel
theorem dL_state_2 : decode cL_state 2 = .ok (.aload_n 0, 1) := by decide +kernel
theorem dL_state_3 : decode cL_state 3 = .ok (.iload_n 1, 1) := by decide +kernel
theorem dL_state_4 : decode cL_state 4 = .ok (.iload_n 2, 1) := by decide +kernel
theorem dL_state_5 : decode cL_state 5 = .ok (.invokevirtual 45, 3) := by decide +kernel
theorem dL_state_8 : decode cL_state 8 = .ok (.i2l, 1) := by decide +kernel
theorem dL_state_9 : decode cL_state 9 = .ok (.lastore, 1) := by decide +kernel
theorem dL_state_10 : decode cL_state 10 = .ok (.goto 11, 3) := by decide +kernel
theorem dL_state_13 : decode cL_state 13 = .ok (.astore 4, 2) := by decide +kernel
theorem dL_state_15 : decode cL_state 15 = .ok (.iconst 1, 1) := by decide +kernel
theorem dL_state_16 : decode cL_state 16 = .ok (.ireturn, 1) := by decide +kernel
theorem dL_state_17 : decode cL_state 17 = .ok (.astore 4, 2) := by decide +kernel
theorem dL_state_19 : decode cL_state 19 = .ok (.iconst 2, 1) := by decide +kernel
theorem dL_state_20 : decode cL_state 20 = .ok (.ireturn, 1) := by decide +kernel
theorem dL_state_21 : decode cL_state 21 = .ok (.iconst 0, 1) := by decide +kernel
theorem dL_state_22 : decode cL_state 22 = .ok (.ireturn, 1) := by decide +kernel
theorem dL_entry_0 : decode cL_entry 0 = .ok (.aload_n 3, 1) := by decide +kernel
theorem dL_entry_1 : decode cL_entry 1 = .ok (.iconst 0, 1) := by decide +kernel
theorem dL_entry_2 : decode cL_entry 2 = .ok (.aload_n 0, 1) := by decide +kernel
theorem dL_entry_3 : decode cL_entry 3 = .ok (.iload_n 1, 1) := by decide +kernel
theorem dL_entry_4 : decode cL_entry 4 = .ok (.iload_n 2, 1) := by decide +kernel
theorem dL_entry_5 : decode cL_entry 5 = .ok (.invokevirtual 48, 3) := by decide +kernel
theorem dL_entry_8 : decode cL_entry 8 = .ok (.i2l, 1) := by decide +kernel
theorem dL_entry_9 : decode cL_entry 9 = .ok (.lastore, 1) := by decide +kernel
theorem dL_entry_10 : decode cL_entry 10 = .ok (.goto 11, 3) := by decide +kernel
theorem dL_entry_13 : decode cL_entry 13 = .ok (.astore 4, 2) := by decide +kernel
theorem dL_entry_15 : decode cL_entry 15 = .ok (.iconst 1, 1) := by decide +kernel
theorem dL_entry_16 : decode cL_entry 16 = .ok (.ireturn, 1) := by decide +kernel
theorem dL_entry_17 : decode cL_entry 17 = .ok (.astore 4, 2) := by decide +kernel
theorem dL_entry_19 : decode cL_entry 19 = .ok (.iconst 2, 1) := by decide +kernel
theorem dL_entry_20 : decode cL_entry 20 = .ok (.ireturn, 1) := by decide +kernel
theorem dL_entry_21 : decode cL_entry 21 = .ok (.iconst 0, 1) := by decide +kernel
theorem dL_entry_22 : decode cL_entry 22 = .ok (.ireturn, 1) := by decide +kernel
theorem dL_rule_0 : decode cL_rule 0 = .ok (.aload_n 3, 1) := by decide +kernel
theorem dL_rule_1 : decode cL_rule 1 = .ok (.iconst 0, 1) := by decide +kernel
theorem dL_rule_2 : decode cL_rule 2 = .ok (.aload_n 0, 1) := by decide +kernel
theorem dL_rule_3 : decode cL_rule 3 = .ok (.iload_n 1, 1) := by decide +kernel
theorem dL_rule_4 : decode cL_rule 4 = .ok (.iload_n 2, 1) := by decide +kernel
theorem dL_rule_5 : decode cL_rule 5 = .ok (.invokevirtual 51, 3) := by decide +kernel
theorem dL_rule_8 : decode cL_rule 8 = .ok (.ifCond .eq 7, 3) := by decide +kernel
theorem dL_rule_11 : decode cL_rule 11 = .ok (.lconst 1, 1) := by decide +kernel
theorem dL_rule_12 : decode cL_rule 12 = .ok (.goto 4, 3) := by decide +kernel
theorem dL_rule_15 : decode cL_rule 15 = .ok (.lconst 0, 1) := by decide +kernel
theorem dL_rule_16 : decode cL_rule 16 = .ok (.lastore, 1) := by decide +kernel
theorem dL_rule_17 : decode cL_rule 17 = .ok (.goto 11, 3) := by decide +kernel
theorem dL_rule_20 : decode cL_rule 20 = .ok (.astore 4, 2) := by decide +kernel
theorem dL_rule_22 : decode cL_rule 22 = .ok (.iconst 1, 1) := by decide +kernel
theorem dL_rule_23 : decode cL_rule 23 = .ok (.ireturn, 1) := by decide +kernel
theorem dL_rule_24 : decode cL_rule 24 = .ok (.astore 4, 2) := by decide +kernel
theorem dL_rule_26 : decode cL_rule 26 = .ok (.iconst 2, 1) := by decide +kernel
theorem dL_rule_27 : decode cL_rule 27 = .ok (.ireturn, 1) := by decide +kernel
theorem dL_rule_28 : decode cL_rule 28 = .ok (.iconst 0, 1) := by decide +kernel
theorem dL_rule_29 : decode cL_rule 29 = .ok (.ireturn, 1) := by decide +kernel
theorem dL_earned_0 : decode cL_earned 0 = .ok (.aload 4, 2) := by decide +kernel
theorem dL_earned_2 : decode cL_earned 2 = .ok (.iconst 0, 1) := by decide +kernel
theorem dL_earned_3 : decode cL_earned 3 = .ok (.aload_n 0, 1) := by decide +kernel
theorem dL_earned_4 : decode cL_earned 4 = .ok (.iload_n 1, 1) := by decide +kernel
theorem dL_earned_5 : decode cL_earned 5 = .ok (.iload_n 2, 1) := by decide +kernel
theorem dL_earned_6 : decode cL_earned 6 = .ok (.iload_n 3, 1) := by decide +kernel
theorem dL_earned_7 : decode cL_earned 7 = .ok (.invokevirtual 55, 3) := by decide +kernel
theorem dL_earned_10 : decode cL_earned 10 = .ok (.i2l, 1) := by decide +kernel
theorem dL_earned_11 : decode cL_earned 11 = .ok (.lastore, 1) := by decide +kernel
theorem dL_earned_12 : decode cL_earned 12 = .ok (.goto 7, 3) := by decide +kernel
theorem dL_earned_15 : decode cL_earned 15 = .ok (.astore 5, 2) := by decide +kernel
theorem dL_earned_17 : decode cL_earned 17 = .ok (.iconst 1, 1) := by decide +kernel
theorem dL_earned_18 : decode cL_earned 18 = .ok (.ireturn, 1) := by decide +kernel
theorem dL_earned_19 : decode cL_earned 19 = .ok (.iconst 0, 1) := by decide +kernel
theorem dL_earned_20 : decode cL_earned 20 = .ok (.ireturn, 1) := by decide +kernel
theorem dL_want_0 : decode cL_want 0 = .ok (.aload_n 3, 1) := by decide +kernel
theorem dL_want_1 : decode cL_want 1 = .ok (.iconst 0, 1) := by decide +kernel
theorem dL_want_2 : decode cL_want 2 = .ok (.aload_n 0, 1) := by decide +kernel
theorem dL_want_3 : decode cL_want 3 = .ok (.iload_n 1, 1) := by decide +kernel
theorem dL_want_4 : decode cL_want 4 = .ok (.iload_n 2, 1) := by decide +kernel
theorem dL_want_5 : decode cL_want 5 = .ok (.invokevirtual 59, 3) := by decide +kernel
theorem dL_want_8 : decode cL_want 8 = .ok (.i2l, 1) := by decide +kernel
theorem dL_want_9 : decode cL_want 9 = .ok (.lastore, 1) := by decide +kernel
theorem dL_want_10 : decode cL_want 10 = .ok (.goto 7, 3) := by decide +kernel
theorem dL_want_13 : decode cL_want 13 = .ok (.astore 4, 2) := by decide +kernel
theorem dL_want_15 : decode cL_want 15 = .ok (.iconst 1, 1) := by decide +kernel
theorem dL_want_16 : decode cL_want 16 = .ok (.ireturn, 1) := by decide +kernel
theorem dL_want_17 : decode cL_want 17 = .ok (.iconst 0, 1) := by decide +kernel
theorem dL_want_18 : decode cL_want 18 = .ok (.ireturn, 1) := by decide +kernel
theorem dL_plan_0 : decode cL_plan 0 = .ok (.aload_n 2, 1) := by decide +kernel
theorem dL_plan_1 : decode cL_plan 1 = .ok (.iconst 0, 1) := by decide +kernel
theorem dL_plan_2 : decode cL_plan 2 = .ok (.aload_n 0, 1) := by decide +kernel
theorem dL_plan_3 : decode cL_plan 3 = .ok (.iload_n 1, 1) := by decide +kernel
theorem dL_plan_4 : decode cL_plan 4 = .ok (.invokevirtual 62, 3) := by decide +kernel
theorem dL_plan_7 : decode cL_plan 7 = .ok (.i2l, 1) := by decide +kernel
theorem dL_plan_8 : decode cL_plan 8 = .ok (.lastore, 1) := by decide +kernel
theorem dL_plan_9 : decode cL_plan 9 = .ok (.goto 6, 3) := by decide +kernel
theorem dL_plan_12 : decode cL_plan 12 = .ok (.astore_n 3, 1) := by decide +kernel
theorem dL_plan_13 : decode cL_plan 13 = .ok (.iconst 1, 1) := by decide +kernel
theorem dL_plan_14 : decode cL_plan 14 = .ok (.ireturn, 1) := by decide +kernel
theorem dL_plan_15 : decode cL_plan 15 = .ok (.iconst 0, 1) := by decide +kernel
theorem dL_plan_16 : decode cL_plan 16 = .ok (.ireturn, 1) := by decide +kernel
theorem dL_law_0 : decode cL_law 0 = .ok (.new 8, 3) := by decide +kernel
theorem dL_law_3 : decode cL_law 3 = .ok (.dup, 1) := by decide +kernel
theorem dL_law_4 : decode cL_law 4 = .ok (.invokespecial 65, 3) := by decide +kernel
theorem dL_law_7 : decode cL_law 7 = .ok (.astore_n 1, 1) := by decide +kernel
theorem dL_law_8 : decode cL_law 8 = .ok (.new 66, 3) := by decide +kernel
theorem dL_law_11 : decode cL_law 11 = .ok (.dup, 1) := by decide +kernel
theorem dL_law_12 : decode cL_law 12 = .ok (.invokespecial 68, 3) := by decide +kernel
theorem dL_law_15 : decode cL_law 15 = .ok (.astore_n 2, 1) := by decide +kernel
theorem dL_law_16 : decode cL_law 16 = .ok (.iconst 1, 1) := by decide +kernel
theorem dL_law_17 : decode cL_law 17 = .ok (.newarray .long, 2) := by decide +kernel
theorem dL_law_19 : decode cL_law 19 = .ok (.astore_n 3, 1) := by decide +kernel
theorem dL_law_20 : decode cL_law 20 = .ok (.iconst 0, 1) := by decide +kernel
theorem dL_law_21 : decode cL_law 21 = .ok (.istore 4, 2) := by decide +kernel
theorem dL_law_23 : decode cL_law 23 = .ok (.iload 4, 2) := by decide +kernel
theorem dL_law_25 : decode cL_law 25 = .ok (.aload_n 0, 1) := by decide +kernel
theorem dL_law_26 : decode cL_law 26 = .ok (.arraylength, 1) := by decide +kernel
theorem dL_law_27 : decode cL_law 27 = .ok (.bipush 6, 2) := by decide +kernel
theorem dL_law_29 : decode cL_law 29 = .ok (.isub, 1) := by decide +kernel
theorem dL_law_30 : decode cL_law 30 = .ok (.if_icmp .gt 1184, 3) := by decide +kernel
theorem dL_law_33 : decode cL_law 33 = .ok (.aload_n 0, 1) := by decide +kernel
theorem dL_law_34 : decode cL_law 34 = .ok (.iload 4, 2) := by decide +kernel
theorem dL_law_36 : decode cL_law 36 = .ok (.iaload, 1) := by decide +kernel
theorem dL_law_37 : decode cL_law 37 = .ok (.bipush 31, 2) := by decide +kernel
theorem dL_law_39 : decode cL_law 39 = .ok (.iand, 1) := by decide +kernel
theorem dL_law_40 : decode cL_law 40 = .ok (.tableswitch 1168 0 18 #[92, 165, 190, 246, 290, 398, 442, 455, 511, 579, 647, 715, 783, 851, 926, 1006, 1074, 1087, 1143], 92) := by decide +kernel
theorem dL_law_132 : decode cL_law 132 = .ok (.aload_n 1, 1) := by decide +kernel
theorem dL_law_133 : decode cL_law 133 = .ok (.aload_n 0, 1) := by decide +kernel
theorem dL_law_134 : decode cL_law 134 = .ok (.iload 4, 2) := by decide +kernel
theorem dL_law_136 : decode cL_law 136 = .ok (.iconst 1, 1) := by decide +kernel
theorem dL_law_137 : decode cL_law 137 = .ok (.iadd, 1) := by decide +kernel
theorem dL_law_138 : decode cL_law 138 = .ok (.iaload, 1) := by decide +kernel
theorem dL_law_139 : decode cL_law 139 = .ok (.aload_n 0, 1) := by decide +kernel
theorem dL_law_140 : decode cL_law 140 = .ok (.iload 4, 2) := by decide +kernel
theorem dL_law_142 : decode cL_law 142 = .ok (.iconst 2, 1) := by decide +kernel
theorem dL_law_143 : decode cL_law 143 = .ok (.iadd, 1) := by decide +kernel
theorem dL_law_144 : decode cL_law 144 = .ok (.iaload, 1) := by decide +kernel
theorem dL_law_145 : decode cL_law 145 = .ok (.aload_n 0, 1) := by decide +kernel
theorem dL_law_146 : decode cL_law 146 = .ok (.iload 4, 2) := by decide +kernel
theorem dL_law_148 : decode cL_law 148 = .ok (.iconst 3, 1) := by decide +kernel
theorem dL_law_149 : decode cL_law 149 = .ok (.iadd, 1) := by decide +kernel
theorem dL_law_150 : decode cL_law 150 = .ok (.iaload, 1) := by decide +kernel
theorem dL_law_151 : decode cL_law 151 = .ok (.aload_n 0, 1) := by decide +kernel
theorem dL_law_152 : decode cL_law 152 = .ok (.iload 4, 2) := by decide +kernel
theorem dL_law_154 : decode cL_law 154 = .ok (.iconst 4, 1) := by decide +kernel
theorem dL_law_155 : decode cL_law 155 = .ok (.iadd, 1) := by decide +kernel
theorem dL_law_156 : decode cL_law 156 = .ok (.iaload, 1) := by decide +kernel
theorem dL_law_157 : decode cL_law 157 = .ok (.aload_n 0, 1) := by decide +kernel
theorem dL_law_158 : decode cL_law 158 = .ok (.iload 4, 2) := by decide +kernel
theorem dL_law_160 : decode cL_law 160 = .ok (.iconst 5, 1) := by decide +kernel
theorem dL_law_161 : decode cL_law 161 = .ok (.iadd, 1) := by decide +kernel
theorem dL_law_162 : decode cL_law 162 = .ok (.iaload, 1) := by decide +kernel
theorem dL_law_163 : decode cL_law 163 = .ok (.invokevirtual 69, 3) := by decide +kernel
theorem dL_law_166 : decode cL_law 166 = .ok (.aload_n 2, 1) := by decide +kernel
theorem dL_law_167 : decode cL_law 167 = .ok (.aload_n 0, 1) := by decide +kernel
theorem dL_law_168 : decode cL_law 168 = .ok (.iload 4, 2) := by decide +kernel
theorem dL_law_170 : decode cL_law 170 = .ok (.iconst 1, 1) := by decide +kernel
theorem dL_law_171 : decode cL_law 171 = .ok (.iadd, 1) := by decide +kernel
theorem dL_law_172 : decode cL_law 172 = .ok (.iaload, 1) := by decide +kernel
theorem dL_law_173 : decode cL_law 173 = .ok (.aload_n 0, 1) := by decide +kernel
theorem dL_law_174 : decode cL_law 174 = .ok (.iload 4, 2) := by decide +kernel
theorem dL_law_176 : decode cL_law 176 = .ok (.iconst 2, 1) := by decide +kernel
theorem dL_law_177 : decode cL_law 177 = .ok (.iadd, 1) := by decide +kernel
theorem dL_law_178 : decode cL_law 178 = .ok (.iaload, 1) := by decide +kernel
theorem dL_law_179 : decode cL_law 179 = .ok (.aload_n 0, 1) := by decide +kernel
theorem dL_law_180 : decode cL_law 180 = .ok (.iload 4, 2) := by decide +kernel
theorem dL_law_182 : decode cL_law 182 = .ok (.iconst 3, 1) := by decide +kernel
theorem dL_law_183 : decode cL_law 183 = .ok (.iadd, 1) := by decide +kernel
theorem dL_law_184 : decode cL_law 184 = .ok (.iaload, 1) := by decide +kernel
theorem dL_law_185 : decode cL_law 185 = .ok (.aload_n 0, 1) := by decide +kernel
theorem dL_law_186 : decode cL_law 186 = .ok (.iload 4, 2) := by decide +kernel
theorem dL_law_188 : decode cL_law 188 = .ok (.iconst 4, 1) := by decide +kernel
theorem dL_law_189 : decode cL_law 189 = .ok (.iadd, 1) := by decide +kernel
theorem dL_law_190 : decode cL_law 190 = .ok (.iaload, 1) := by decide +kernel
theorem dL_law_191 : decode cL_law 191 = .ok (.aload_n 0, 1) := by decide +kernel
theorem dL_law_192 : decode cL_law 192 = .ok (.iload 4, 2) := by decide +kernel
theorem dL_law_194 : decode cL_law 194 = .ok (.iconst 5, 1) := by decide +kernel
theorem dL_law_195 : decode cL_law 195 = .ok (.iadd, 1) := by decide +kernel
theorem dL_law_196 : decode cL_law 196 = .ok (.iaload, 1) := by decide +kernel
theorem dL_law_197 : decode cL_law 197 = .ok (.invokevirtual 73, 3) := by decide +kernel
theorem dL_law_200 : decode cL_law 200 = .ok (.if_icmp .eq 1008, 3) := by decide +kernel
theorem dL_law_203 : decode cL_law 203 = .ok (.iconst 0, 1) := by decide +kernel
theorem dL_law_204 : decode cL_law 204 = .ok (.ireturn, 1) := by decide +kernel
theorem dL_law_205 : decode cL_law 205 = .ok (.aload_n 1, 1) := by decide +kernel
theorem dL_law_206 : decode cL_law 206 = .ok (.aload_n 0, 1) := by decide +kernel
theorem dL_law_207 : decode cL_law 207 = .ok (.iload 4, 2) := by decide +kernel
theorem dL_law_209 : decode cL_law 209 = .ok (.iconst 1, 1) := by decide +kernel
theorem dL_law_210 : decode cL_law 210 = .ok (.iadd, 1) := by decide +kernel
theorem dL_law_211 : decode cL_law 211 = .ok (.iaload, 1) := by decide +kernel
theorem dL_law_212 : decode cL_law 212 = .ok (.invokevirtual 74, 3) := by decide +kernel
theorem dL_law_215 : decode cL_law 215 = .ok (.aload_n 2, 1) := by decide +kernel
theorem dL_law_216 : decode cL_law 216 = .ok (.aload_n 0, 1) := by decide +kernel
theorem dL_law_217 : decode cL_law 217 = .ok (.iload 4, 2) := by decide +kernel
theorem dL_law_219 : decode cL_law 219 = .ok (.iconst 1, 1) := by decide +kernel
theorem dL_law_220 : decode cL_law 220 = .ok (.iadd, 1) := by decide +kernel
theorem dL_law_221 : decode cL_law 221 = .ok (.iaload, 1) := by decide +kernel
theorem dL_law_222 : decode cL_law 222 = .ok (.invokevirtual 78, 3) := by decide +kernel
theorem dL_law_225 : decode cL_law 225 = .ok (.if_icmp .eq 983, 3) := by decide +kernel
theorem dL_law_228 : decode cL_law 228 = .ok (.iconst 0, 1) := by decide +kernel
theorem dL_law_229 : decode cL_law 229 = .ok (.ireturn, 1) := by decide +kernel
theorem dL_law_230 : decode cL_law 230 = .ok (.aload_n 1, 1) := by decide +kernel
theorem dL_law_231 : decode cL_law 231 = .ok (.aload_n 0, 1) := by decide +kernel
theorem dL_law_232 : decode cL_law 232 = .ok (.iload 4, 2) := by decide +kernel
theorem dL_law_234 : decode cL_law 234 = .ok (.iconst 1, 1) := by decide +kernel
theorem dL_law_235 : decode cL_law 235 = .ok (.iadd, 1) := by decide +kernel
theorem dL_law_236 : decode cL_law 236 = .ok (.iaload, 1) := by decide +kernel
theorem dL_law_237 : decode cL_law 237 = .ok (.aload_n 3, 1) := by decide +kernel
theorem dL_law_238 : decode cL_law 238 = .ok (.invokestatic 79, 3) := by decide +kernel
theorem dL_law_241 : decode cL_law 241 = .ok (.istore 5, 2) := by decide +kernel
theorem dL_law_243 : decode cL_law 243 = .ok (.aload_n 2, 1) := by decide +kernel
theorem dL_law_244 : decode cL_law 244 = .ok (.aload_n 0, 1) := by decide +kernel
theorem dL_law_245 : decode cL_law 245 = .ok (.iload 4, 2) := by decide +kernel
theorem dL_law_247 : decode cL_law 247 = .ok (.iconst 1, 1) := by decide +kernel
theorem dL_law_248 : decode cL_law 248 = .ok (.iadd, 1) := by decide +kernel
theorem dL_law_249 : decode cL_law 249 = .ok (.iaload, 1) := by decide +kernel
theorem dL_law_250 : decode cL_law 250 = .ok (.invokevirtual 84, 3) := by decide +kernel
theorem dL_law_253 : decode cL_law 253 = .ok (.istore 6, 2) := by decide +kernel
theorem dL_law_255 : decode cL_law 255 = .ok (.aload_n 2, 1) := by decide +kernel
theorem dL_law_256 : decode cL_law 256 = .ok (.invokevirtual 85, 3) := by decide +kernel
theorem dL_law_259 : decode cL_law 259 = .ok (.iload 5, 2) := by decide +kernel
theorem dL_law_261 : decode cL_law 261 = .ok (.if_icmp .eq 5, 3) := by decide +kernel
theorem dL_law_264 : decode cL_law 264 = .ok (.iconst 0, 1) := by decide +kernel
theorem dL_law_265 : decode cL_law 265 = .ok (.ireturn, 1) := by decide +kernel
theorem dL_law_266 : decode cL_law 266 = .ok (.iload 5, 2) := by decide +kernel
theorem dL_law_268 : decode cL_law 268 = .ok (.ifCond .ne 15, 3) := by decide +kernel
theorem dL_law_271 : decode cL_law 271 = .ok (.aload_n 3, 1) := by decide +kernel
theorem dL_law_272 : decode cL_law 272 = .ok (.iconst 0, 1) := by decide +kernel
theorem dL_law_273 : decode cL_law 273 = .ok (.laload, 1) := by decide +kernel
theorem dL_law_274 : decode cL_law 274 = .ok (.iload 6, 2) := by decide +kernel
theorem dL_law_276 : decode cL_law 276 = .ok (.i2l, 1) := by decide +kernel
theorem dL_law_277 : decode cL_law 277 = .ok (.lcmp, 1) := by decide +kernel
theorem dL_law_278 : decode cL_law 278 = .ok (.ifCond .eq 5, 3) := by decide +kernel
theorem dL_law_281 : decode cL_law 281 = .ok (.iconst 0, 1) := by decide +kernel
theorem dL_law_282 : decode cL_law 282 = .ok (.ireturn, 1) := by decide +kernel
theorem dL_law_283 : decode cL_law 283 = .ok (.goto 925, 3) := by decide +kernel
theorem dL_law_286 : decode cL_law 286 = .ok (.aload_n 1, 1) := by decide +kernel
theorem dL_law_287 : decode cL_law 287 = .ok (.aload_n 3, 1) := by decide +kernel
theorem dL_law_288 : decode cL_law 288 = .ok (.invokestatic 88, 3) := by decide +kernel
theorem dL_law_291 : decode cL_law 291 = .ok (.istore 5, 2) := by decide +kernel
theorem dL_law_293 : decode cL_law 293 = .ok (.aload_n 2, 1) := by decide +kernel
theorem dL_law_294 : decode cL_law 294 = .ok (.invokevirtual 91, 3) := by decide +kernel
theorem dL_law_297 : decode cL_law 297 = .ok (.istore 6, 2) := by decide +kernel
theorem dL_law_299 : decode cL_law 299 = .ok (.aload_n 2, 1) := by decide +kernel
theorem dL_law_300 : decode cL_law 300 = .ok (.invokevirtual 85, 3) := by decide +kernel
theorem dL_law_303 : decode cL_law 303 = .ok (.iload 5, 2) := by decide +kernel
theorem dL_law_305 : decode cL_law 305 = .ok (.if_icmp .eq 5, 3) := by decide +kernel
theorem dL_law_308 : decode cL_law 308 = .ok (.iconst 0, 1) := by decide +kernel
theorem dL_law_309 : decode cL_law 309 = .ok (.ireturn, 1) := by decide +kernel
theorem dL_law_310 : decode cL_law 310 = .ok (.iload 5, 2) := by decide +kernel
theorem dL_law_312 : decode cL_law 312 = .ok (.ifCond .ne 15, 3) := by decide +kernel
theorem dL_law_315 : decode cL_law 315 = .ok (.aload_n 3, 1) := by decide +kernel
theorem dL_law_316 : decode cL_law 316 = .ok (.iconst 0, 1) := by decide +kernel
theorem dL_law_317 : decode cL_law 317 = .ok (.laload, 1) := by decide +kernel
theorem dL_law_318 : decode cL_law 318 = .ok (.iload 6, 2) := by decide +kernel
theorem dL_law_320 : decode cL_law 320 = .ok (.i2l, 1) := by decide +kernel
theorem dL_law_321 : decode cL_law 321 = .ok (.lcmp, 1) := by decide +kernel
theorem dL_law_322 : decode cL_law 322 = .ok (.ifCond .eq 5, 3) := by decide +kernel
theorem dL_law_325 : decode cL_law 325 = .ok (.iconst 0, 1) := by decide +kernel
theorem dL_law_326 : decode cL_law 326 = .ok (.ireturn, 1) := by decide +kernel
theorem dL_law_327 : decode cL_law 327 = .ok (.goto 881, 3) := by decide +kernel
theorem dL_law_330 : decode cL_law 330 = .ok (.aload_n 1, 1) := by decide +kernel
theorem dL_law_331 : decode cL_law 331 = .ok (.aload_n 0, 1) := by decide +kernel
theorem dL_law_332 : decode cL_law 332 = .ok (.iload 4, 2) := by decide +kernel
theorem dL_law_334 : decode cL_law 334 = .ok (.iconst 1, 1) := by decide +kernel
theorem dL_law_335 : decode cL_law 335 = .ok (.iadd, 1) := by decide +kernel
theorem dL_law_336 : decode cL_law 336 = .ok (.iaload, 1) := by decide +kernel
theorem dL_law_337 : decode cL_law 337 = .ok (.aload_n 0, 1) := by decide +kernel
theorem dL_law_338 : decode cL_law 338 = .ok (.iload 4, 2) := by decide +kernel
theorem dL_law_340 : decode cL_law 340 = .ok (.iconst 2, 1) := by decide +kernel
theorem dL_law_341 : decode cL_law 341 = .ok (.iadd, 1) := by decide +kernel
theorem dL_law_342 : decode cL_law 342 = .ok (.iaload, 1) := by decide +kernel
theorem dL_law_343 : decode cL_law 343 = .ok (.aload_n 0, 1) := by decide +kernel
theorem dL_law_344 : decode cL_law 344 = .ok (.iload 4, 2) := by decide +kernel
theorem dL_law_346 : decode cL_law 346 = .ok (.iconst 3, 1) := by decide +kernel
theorem dL_law_347 : decode cL_law 347 = .ok (.iadd, 1) := by decide +kernel
theorem dL_law_348 : decode cL_law 348 = .ok (.iaload, 1) := by decide +kernel
theorem dL_law_349 : decode cL_law 349 = .ok (.aload_n 0, 1) := by decide +kernel
theorem dL_law_350 : decode cL_law 350 = .ok (.iload 4, 2) := by decide +kernel
theorem dL_law_352 : decode cL_law 352 = .ok (.iconst 4, 1) := by decide +kernel
theorem dL_law_353 : decode cL_law 353 = .ok (.iadd, 1) := by decide +kernel
theorem dL_law_354 : decode cL_law 354 = .ok (.iaload, 1) := by decide +kernel
theorem dL_law_355 : decode cL_law 355 = .ok (.ifCond .eq 7, 3) := by decide +kernel
theorem dL_law_358 : decode cL_law 358 = .ok (.iconst 1, 1) := by decide +kernel
theorem dL_law_359 : decode cL_law 359 = .ok (.goto 4, 3) := by decide +kernel
theorem dL_law_362 : decode cL_law 362 = .ok (.iconst 0, 1) := by decide +kernel
theorem dL_law_363 : decode cL_law 363 = .ok (.aload_n 3, 1) := by decide +kernel
theorem dL_law_364 : decode cL_law 364 = .ok (.invokestatic 92, 3) := by decide +kernel
theorem dL_law_367 : decode cL_law 367 = .ok (.istore 5, 2) := by decide +kernel
theorem dL_law_369 : decode cL_law 369 = .ok (.aload_n 2, 1) := by decide +kernel
theorem dL_law_370 : decode cL_law 370 = .ok (.aload_n 0, 1) := by decide +kernel
theorem dL_law_371 : decode cL_law 371 = .ok (.iload 4, 2) := by decide +kernel
theorem dL_law_373 : decode cL_law 373 = .ok (.iconst 1, 1) := by decide +kernel
theorem dL_law_374 : decode cL_law 374 = .ok (.iadd, 1) := by decide +kernel
theorem dL_law_375 : decode cL_law 375 = .ok (.iaload, 1) := by decide +kernel
theorem dL_law_376 : decode cL_law 376 = .ok (.aload_n 0, 1) := by decide +kernel
theorem dL_law_377 : decode cL_law 377 = .ok (.iload 4, 2) := by decide +kernel
theorem dL_law_379 : decode cL_law 379 = .ok (.iconst 2, 1) := by decide +kernel
theorem dL_law_380 : decode cL_law 380 = .ok (.iadd, 1) := by decide +kernel
theorem dL_law_381 : decode cL_law 381 = .ok (.iaload, 1) := by decide +kernel
theorem dL_law_382 : decode cL_law 382 = .ok (.aload_n 0, 1) := by decide +kernel
theorem dL_law_383 : decode cL_law 383 = .ok (.iload 4, 2) := by decide +kernel
theorem dL_law_385 : decode cL_law 385 = .ok (.iconst 3, 1) := by decide +kernel
theorem dL_law_386 : decode cL_law 386 = .ok (.iadd, 1) := by decide +kernel
theorem dL_law_387 : decode cL_law 387 = .ok (.iaload, 1) := by decide +kernel
theorem dL_law_388 : decode cL_law 388 = .ok (.aload_n 0, 1) := by decide +kernel
theorem dL_law_389 : decode cL_law 389 = .ok (.iload 4, 2) := by decide +kernel
theorem dL_law_391 : decode cL_law 391 = .ok (.iconst 4, 1) := by decide +kernel
theorem dL_law_392 : decode cL_law 392 = .ok (.iadd, 1) := by decide +kernel
theorem dL_law_393 : decode cL_law 393 = .ok (.iaload, 1) := by decide +kernel
theorem dL_law_394 : decode cL_law 394 = .ok (.ifCond .eq 7, 3) := by decide +kernel
theorem dL_law_397 : decode cL_law 397 = .ok (.iconst 1, 1) := by decide +kernel
theorem dL_law_398 : decode cL_law 398 = .ok (.goto 4, 3) := by decide +kernel
theorem dL_law_401 : decode cL_law 401 = .ok (.iconst 0, 1) := by decide +kernel
theorem dL_law_402 : decode cL_law 402 = .ok (.invokevirtual 95, 3) := by decide +kernel
theorem dL_law_405 : decode cL_law 405 = .ok (.istore 6, 2) := by decide +kernel
theorem dL_law_407 : decode cL_law 407 = .ok (.aload_n 2, 1) := by decide +kernel
theorem dL_law_408 : decode cL_law 408 = .ok (.invokevirtual 85, 3) := by decide +kernel
theorem dL_law_411 : decode cL_law 411 = .ok (.iload 5, 2) := by decide +kernel
theorem dL_law_413 : decode cL_law 413 = .ok (.if_icmp .eq 5, 3) := by decide +kernel
theorem dL_law_416 : decode cL_law 416 = .ok (.iconst 0, 1) := by decide +kernel
theorem dL_law_417 : decode cL_law 417 = .ok (.ireturn, 1) := by decide +kernel
theorem dL_law_418 : decode cL_law 418 = .ok (.iload 5, 2) := by decide +kernel
theorem dL_law_420 : decode cL_law 420 = .ok (.ifCond .ne 15, 3) := by decide +kernel
theorem dL_law_423 : decode cL_law 423 = .ok (.aload_n 3, 1) := by decide +kernel
theorem dL_law_424 : decode cL_law 424 = .ok (.iconst 0, 1) := by decide +kernel
theorem dL_law_425 : decode cL_law 425 = .ok (.laload, 1) := by decide +kernel
theorem dL_law_426 : decode cL_law 426 = .ok (.iload 6, 2) := by decide +kernel
theorem dL_law_428 : decode cL_law 428 = .ok (.i2l, 1) := by decide +kernel
theorem dL_law_429 : decode cL_law 429 = .ok (.lcmp, 1) := by decide +kernel
theorem dL_law_430 : decode cL_law 430 = .ok (.ifCond .eq 5, 3) := by decide +kernel
theorem dL_law_433 : decode cL_law 433 = .ok (.iconst 0, 1) := by decide +kernel
theorem dL_law_434 : decode cL_law 434 = .ok (.ireturn, 1) := by decide +kernel
theorem dL_law_435 : decode cL_law 435 = .ok (.goto 773, 3) := by decide +kernel
theorem dL_law_438 : decode cL_law 438 = .ok (.aload_n 1, 1) := by decide +kernel
theorem dL_law_439 : decode cL_law 439 = .ok (.aload_n 3, 1) := by decide +kernel
theorem dL_law_440 : decode cL_law 440 = .ok (.invokestatic 96, 3) := by decide +kernel
theorem dL_law_443 : decode cL_law 443 = .ok (.istore 5, 2) := by decide +kernel
theorem dL_law_445 : decode cL_law 445 = .ok (.aload_n 2, 1) := by decide +kernel
theorem dL_law_446 : decode cL_law 446 = .ok (.invokevirtual 98, 3) := by decide +kernel
theorem dL_law_449 : decode cL_law 449 = .ok (.istore 6, 2) := by decide +kernel
theorem dL_law_451 : decode cL_law 451 = .ok (.aload_n 2, 1) := by decide +kernel
theorem dL_law_452 : decode cL_law 452 = .ok (.invokevirtual 85, 3) := by decide +kernel
theorem dL_law_455 : decode cL_law 455 = .ok (.iload 5, 2) := by decide +kernel
theorem dL_law_457 : decode cL_law 457 = .ok (.if_icmp .eq 5, 3) := by decide +kernel
theorem dL_law_460 : decode cL_law 460 = .ok (.iconst 0, 1) := by decide +kernel
theorem dL_law_461 : decode cL_law 461 = .ok (.ireturn, 1) := by decide +kernel
theorem dL_law_462 : decode cL_law 462 = .ok (.iload 5, 2) := by decide +kernel
theorem dL_law_464 : decode cL_law 464 = .ok (.ifCond .ne 15, 3) := by decide +kernel
theorem dL_law_467 : decode cL_law 467 = .ok (.aload_n 3, 1) := by decide +kernel
theorem dL_law_468 : decode cL_law 468 = .ok (.iconst 0, 1) := by decide +kernel
theorem dL_law_469 : decode cL_law 469 = .ok (.laload, 1) := by decide +kernel
theorem dL_law_470 : decode cL_law 470 = .ok (.iload 6, 2) := by decide +kernel
theorem dL_law_472 : decode cL_law 472 = .ok (.i2l, 1) := by decide +kernel
theorem dL_law_473 : decode cL_law 473 = .ok (.lcmp, 1) := by decide +kernel
theorem dL_law_474 : decode cL_law 474 = .ok (.ifCond .eq 5, 3) := by decide +kernel
theorem dL_law_477 : decode cL_law 477 = .ok (.iconst 0, 1) := by decide +kernel
theorem dL_law_478 : decode cL_law 478 = .ok (.ireturn, 1) := by decide +kernel
theorem dL_law_479 : decode cL_law 479 = .ok (.goto 729, 3) := by decide +kernel
theorem dL_law_482 : decode cL_law 482 = .ok (.aload_n 1, 1) := by decide +kernel
theorem dL_law_483 : decode cL_law 483 = .ok (.invokevirtual 99, 3) := by decide +kernel
theorem dL_law_486 : decode cL_law 486 = .ok (.aload_n 2, 1) := by decide +kernel
theorem dL_law_487 : decode cL_law 487 = .ok (.invokevirtual 102, 3) := by decide +kernel
theorem dL_law_490 : decode cL_law 490 = .ok (.if_icmp .eq 718, 3) := by decide +kernel
theorem dL_law_493 : decode cL_law 493 = .ok (.iconst 0, 1) := by decide +kernel
theorem dL_law_494 : decode cL_law 494 = .ok (.ireturn, 1) := by decide +kernel
theorem dL_law_495 : decode cL_law 495 = .ok (.aload_n 1, 1) := by decide +kernel
theorem dL_law_496 : decode cL_law 496 = .ok (.aload_n 0, 1) := by decide +kernel
theorem dL_law_497 : decode cL_law 497 = .ok (.iload 4, 2) := by decide +kernel
theorem dL_law_499 : decode cL_law 499 = .ok (.iconst 1, 1) := by decide +kernel
theorem dL_law_500 : decode cL_law 500 = .ok (.iadd, 1) := by decide +kernel
theorem dL_law_501 : decode cL_law 501 = .ok (.iaload, 1) := by decide +kernel
theorem dL_law_502 : decode cL_law 502 = .ok (.aload_n 3, 1) := by decide +kernel
theorem dL_law_503 : decode cL_law 503 = .ok (.invokestatic 103, 3) := by decide +kernel
theorem dL_law_506 : decode cL_law 506 = .ok (.istore 5, 2) := by decide +kernel
theorem dL_law_508 : decode cL_law 508 = .ok (.aload_n 2, 1) := by decide +kernel
theorem dL_law_509 : decode cL_law 509 = .ok (.aload_n 0, 1) := by decide +kernel
theorem dL_law_510 : decode cL_law 510 = .ok (.iload 4, 2) := by decide +kernel
theorem dL_law_512 : decode cL_law 512 = .ok (.iconst 1, 1) := by decide +kernel
theorem dL_law_513 : decode cL_law 513 = .ok (.iadd, 1) := by decide +kernel
theorem dL_law_514 : decode cL_law 514 = .ok (.iaload, 1) := by decide +kernel
theorem dL_law_515 : decode cL_law 515 = .ok (.invokevirtual 105, 3) := by decide +kernel
theorem dL_law_518 : decode cL_law 518 = .ok (.istore 6, 2) := by decide +kernel
theorem dL_law_520 : decode cL_law 520 = .ok (.aload_n 2, 1) := by decide +kernel
theorem dL_law_521 : decode cL_law 521 = .ok (.invokevirtual 85, 3) := by decide +kernel
theorem dL_law_524 : decode cL_law 524 = .ok (.iload 5, 2) := by decide +kernel
theorem dL_law_526 : decode cL_law 526 = .ok (.if_icmp .eq 5, 3) := by decide +kernel
theorem dL_law_529 : decode cL_law 529 = .ok (.iconst 0, 1) := by decide +kernel
theorem dL_law_530 : decode cL_law 530 = .ok (.ireturn, 1) := by decide +kernel
theorem dL_law_531 : decode cL_law 531 = .ok (.iload 5, 2) := by decide +kernel
theorem dL_law_533 : decode cL_law 533 = .ok (.ifCond .ne 15, 3) := by decide +kernel
theorem dL_law_536 : decode cL_law 536 = .ok (.aload_n 3, 1) := by decide +kernel
theorem dL_law_537 : decode cL_law 537 = .ok (.iconst 0, 1) := by decide +kernel
theorem dL_law_538 : decode cL_law 538 = .ok (.laload, 1) := by decide +kernel
theorem dL_law_539 : decode cL_law 539 = .ok (.iload 6, 2) := by decide +kernel
theorem dL_law_541 : decode cL_law 541 = .ok (.i2l, 1) := by decide +kernel
theorem dL_law_542 : decode cL_law 542 = .ok (.lcmp, 1) := by decide +kernel
theorem dL_law_543 : decode cL_law 543 = .ok (.ifCond .eq 5, 3) := by decide +kernel
theorem dL_law_546 : decode cL_law 546 = .ok (.iconst 0, 1) := by decide +kernel
theorem dL_law_547 : decode cL_law 547 = .ok (.ireturn, 1) := by decide +kernel
theorem dL_law_548 : decode cL_law 548 = .ok (.goto 660, 3) := by decide +kernel
theorem dL_law_551 : decode cL_law 551 = .ok (.aload_n 1, 1) := by decide +kernel
theorem dL_law_552 : decode cL_law 552 = .ok (.aload_n 0, 1) := by decide +kernel
theorem dL_law_553 : decode cL_law 553 = .ok (.iload 4, 2) := by decide +kernel
theorem dL_law_555 : decode cL_law 555 = .ok (.iconst 1, 1) := by decide +kernel
theorem dL_law_556 : decode cL_law 556 = .ok (.iadd, 1) := by decide +kernel
theorem dL_law_557 : decode cL_law 557 = .ok (.iaload, 1) := by decide +kernel
theorem dL_law_558 : decode cL_law 558 = .ok (.aload_n 0, 1) := by decide +kernel
theorem dL_law_559 : decode cL_law 559 = .ok (.iload 4, 2) := by decide +kernel
theorem dL_law_561 : decode cL_law 561 = .ok (.iconst 2, 1) := by decide +kernel
theorem dL_law_562 : decode cL_law 562 = .ok (.iadd, 1) := by decide +kernel
theorem dL_law_563 : decode cL_law 563 = .ok (.iaload, 1) := by decide +kernel
theorem dL_law_564 : decode cL_law 564 = .ok (.aload_n 3, 1) := by decide +kernel
theorem dL_law_565 : decode cL_law 565 = .ok (.invokestatic 106, 3) := by decide +kernel
theorem dL_law_568 : decode cL_law 568 = .ok (.istore 5, 2) := by decide +kernel
theorem dL_law_570 : decode cL_law 570 = .ok (.aload_n 2, 1) := by decide +kernel
theorem dL_law_571 : decode cL_law 571 = .ok (.aload_n 0, 1) := by decide +kernel
theorem dL_law_572 : decode cL_law 572 = .ok (.iload 4, 2) := by decide +kernel
theorem dL_law_574 : decode cL_law 574 = .ok (.iconst 1, 1) := by decide +kernel
theorem dL_law_575 : decode cL_law 575 = .ok (.iadd, 1) := by decide +kernel
theorem dL_law_576 : decode cL_law 576 = .ok (.iaload, 1) := by decide +kernel
theorem dL_law_577 : decode cL_law 577 = .ok (.aload_n 0, 1) := by decide +kernel
theorem dL_law_578 : decode cL_law 578 = .ok (.iload 4, 2) := by decide +kernel
theorem dL_law_580 : decode cL_law 580 = .ok (.iconst 2, 1) := by decide +kernel
theorem dL_law_581 : decode cL_law 581 = .ok (.iadd, 1) := by decide +kernel
theorem dL_law_582 : decode cL_law 582 = .ok (.iaload, 1) := by decide +kernel
theorem dL_law_583 : decode cL_law 583 = .ok (.invokevirtual 109, 3) := by decide +kernel
theorem dL_law_586 : decode cL_law 586 = .ok (.istore 6, 2) := by decide +kernel
theorem dL_law_588 : decode cL_law 588 = .ok (.aload_n 2, 1) := by decide +kernel
theorem dL_law_589 : decode cL_law 589 = .ok (.invokevirtual 85, 3) := by decide +kernel
theorem dL_law_592 : decode cL_law 592 = .ok (.iload 5, 2) := by decide +kernel
theorem dL_law_594 : decode cL_law 594 = .ok (.if_icmp .eq 5, 3) := by decide +kernel
theorem dL_law_597 : decode cL_law 597 = .ok (.iconst 0, 1) := by decide +kernel
theorem dL_law_598 : decode cL_law 598 = .ok (.ireturn, 1) := by decide +kernel
theorem dL_law_599 : decode cL_law 599 = .ok (.iload 5, 2) := by decide +kernel
theorem dL_law_601 : decode cL_law 601 = .ok (.ifCond .ne 15, 3) := by decide +kernel
theorem dL_law_604 : decode cL_law 604 = .ok (.aload_n 3, 1) := by decide +kernel
theorem dL_law_605 : decode cL_law 605 = .ok (.iconst 0, 1) := by decide +kernel
theorem dL_law_606 : decode cL_law 606 = .ok (.laload, 1) := by decide +kernel
theorem dL_law_607 : decode cL_law 607 = .ok (.iload 6, 2) := by decide +kernel
theorem dL_law_609 : decode cL_law 609 = .ok (.i2l, 1) := by decide +kernel
theorem dL_law_610 : decode cL_law 610 = .ok (.lcmp, 1) := by decide +kernel
theorem dL_law_611 : decode cL_law 611 = .ok (.ifCond .eq 5, 3) := by decide +kernel
theorem dL_law_614 : decode cL_law 614 = .ok (.iconst 0, 1) := by decide +kernel
theorem dL_law_615 : decode cL_law 615 = .ok (.ireturn, 1) := by decide +kernel
theorem dL_law_616 : decode cL_law 616 = .ok (.goto 592, 3) := by decide +kernel
theorem dL_law_619 : decode cL_law 619 = .ok (.aload_n 1, 1) := by decide +kernel
theorem dL_law_620 : decode cL_law 620 = .ok (.aload_n 0, 1) := by decide +kernel
theorem dL_law_621 : decode cL_law 621 = .ok (.iload 4, 2) := by decide +kernel
theorem dL_law_623 : decode cL_law 623 = .ok (.iconst 1, 1) := by decide +kernel
theorem dL_law_624 : decode cL_law 624 = .ok (.iadd, 1) := by decide +kernel
theorem dL_law_625 : decode cL_law 625 = .ok (.iaload, 1) := by decide +kernel
theorem dL_law_626 : decode cL_law 626 = .ok (.aload_n 0, 1) := by decide +kernel
theorem dL_law_627 : decode cL_law 627 = .ok (.iload 4, 2) := by decide +kernel
theorem dL_law_629 : decode cL_law 629 = .ok (.iconst 2, 1) := by decide +kernel
theorem dL_law_630 : decode cL_law 630 = .ok (.iadd, 1) := by decide +kernel
theorem dL_law_631 : decode cL_law 631 = .ok (.iaload, 1) := by decide +kernel
theorem dL_law_632 : decode cL_law 632 = .ok (.aload_n 3, 1) := by decide +kernel
theorem dL_law_633 : decode cL_law 633 = .ok (.invokestatic 110, 3) := by decide +kernel
theorem dL_law_636 : decode cL_law 636 = .ok (.istore 5, 2) := by decide +kernel
theorem dL_law_638 : decode cL_law 638 = .ok (.aload_n 2, 1) := by decide +kernel
theorem dL_law_639 : decode cL_law 639 = .ok (.aload_n 0, 1) := by decide +kernel
theorem dL_law_640 : decode cL_law 640 = .ok (.iload 4, 2) := by decide +kernel
theorem dL_law_642 : decode cL_law 642 = .ok (.iconst 1, 1) := by decide +kernel
theorem dL_law_643 : decode cL_law 643 = .ok (.iadd, 1) := by decide +kernel
theorem dL_law_644 : decode cL_law 644 = .ok (.iaload, 1) := by decide +kernel
theorem dL_law_645 : decode cL_law 645 = .ok (.aload_n 0, 1) := by decide +kernel
theorem dL_law_646 : decode cL_law 646 = .ok (.iload 4, 2) := by decide +kernel
theorem dL_law_648 : decode cL_law 648 = .ok (.iconst 2, 1) := by decide +kernel
theorem dL_law_649 : decode cL_law 649 = .ok (.iadd, 1) := by decide +kernel
theorem dL_law_650 : decode cL_law 650 = .ok (.iaload, 1) := by decide +kernel
theorem dL_law_651 : decode cL_law 651 = .ok (.invokevirtual 112, 3) := by decide +kernel
theorem dL_law_654 : decode cL_law 654 = .ok (.istore 6, 2) := by decide +kernel
theorem dL_law_656 : decode cL_law 656 = .ok (.aload_n 2, 1) := by decide +kernel
theorem dL_law_657 : decode cL_law 657 = .ok (.invokevirtual 85, 3) := by decide +kernel
theorem dL_law_660 : decode cL_law 660 = .ok (.iload 5, 2) := by decide +kernel
theorem dL_law_662 : decode cL_law 662 = .ok (.if_icmp .eq 5, 3) := by decide +kernel
theorem dL_law_665 : decode cL_law 665 = .ok (.iconst 0, 1) := by decide +kernel
theorem dL_law_666 : decode cL_law 666 = .ok (.ireturn, 1) := by decide +kernel
theorem dL_law_667 : decode cL_law 667 = .ok (.iload 5, 2) := by decide +kernel
theorem dL_law_669 : decode cL_law 669 = .ok (.ifCond .ne 15, 3) := by decide +kernel
theorem dL_law_672 : decode cL_law 672 = .ok (.aload_n 3, 1) := by decide +kernel
theorem dL_law_673 : decode cL_law 673 = .ok (.iconst 0, 1) := by decide +kernel
theorem dL_law_674 : decode cL_law 674 = .ok (.laload, 1) := by decide +kernel
theorem dL_law_675 : decode cL_law 675 = .ok (.iload 6, 2) := by decide +kernel
theorem dL_law_677 : decode cL_law 677 = .ok (.i2l, 1) := by decide +kernel
theorem dL_law_678 : decode cL_law 678 = .ok (.lcmp, 1) := by decide +kernel
theorem dL_law_679 : decode cL_law 679 = .ok (.ifCond .eq 5, 3) := by decide +kernel
theorem dL_law_682 : decode cL_law 682 = .ok (.iconst 0, 1) := by decide +kernel
theorem dL_law_683 : decode cL_law 683 = .ok (.ireturn, 1) := by decide +kernel
theorem dL_law_684 : decode cL_law 684 = .ok (.goto 524, 3) := by decide +kernel
theorem dL_law_687 : decode cL_law 687 = .ok (.aload_n 1, 1) := by decide +kernel
theorem dL_law_688 : decode cL_law 688 = .ok (.aload_n 0, 1) := by decide +kernel
theorem dL_law_689 : decode cL_law 689 = .ok (.iload 4, 2) := by decide +kernel
theorem dL_law_691 : decode cL_law 691 = .ok (.iconst 1, 1) := by decide +kernel
theorem dL_law_692 : decode cL_law 692 = .ok (.iadd, 1) := by decide +kernel
theorem dL_law_693 : decode cL_law 693 = .ok (.iaload, 1) := by decide +kernel
theorem dL_law_694 : decode cL_law 694 = .ok (.aload_n 0, 1) := by decide +kernel
theorem dL_law_695 : decode cL_law 695 = .ok (.iload 4, 2) := by decide +kernel
theorem dL_law_697 : decode cL_law 697 = .ok (.iconst 2, 1) := by decide +kernel
theorem dL_law_698 : decode cL_law 698 = .ok (.iadd, 1) := by decide +kernel
theorem dL_law_699 : decode cL_law 699 = .ok (.iaload, 1) := by decide +kernel
theorem dL_law_700 : decode cL_law 700 = .ok (.aload_n 3, 1) := by decide +kernel
theorem dL_law_701 : decode cL_law 701 = .ok (.invokestatic 113, 3) := by decide +kernel
theorem dL_law_704 : decode cL_law 704 = .ok (.istore 5, 2) := by decide +kernel
theorem dL_law_706 : decode cL_law 706 = .ok (.aload_n 2, 1) := by decide +kernel
theorem dL_law_707 : decode cL_law 707 = .ok (.aload_n 0, 1) := by decide +kernel
theorem dL_law_708 : decode cL_law 708 = .ok (.iload 4, 2) := by decide +kernel
theorem dL_law_710 : decode cL_law 710 = .ok (.iconst 1, 1) := by decide +kernel
theorem dL_law_711 : decode cL_law 711 = .ok (.iadd, 1) := by decide +kernel
theorem dL_law_712 : decode cL_law 712 = .ok (.iaload, 1) := by decide +kernel
theorem dL_law_713 : decode cL_law 713 = .ok (.aload_n 0, 1) := by decide +kernel
theorem dL_law_714 : decode cL_law 714 = .ok (.iload 4, 2) := by decide +kernel
theorem dL_law_716 : decode cL_law 716 = .ok (.iconst 2, 1) := by decide +kernel
theorem dL_law_717 : decode cL_law 717 = .ok (.iadd, 1) := by decide +kernel
theorem dL_law_718 : decode cL_law 718 = .ok (.iaload, 1) := by decide +kernel
theorem dL_law_719 : decode cL_law 719 = .ok (.invokevirtual 115, 3) := by decide +kernel
theorem dL_law_722 : decode cL_law 722 = .ok (.istore 6, 2) := by decide +kernel
theorem dL_law_724 : decode cL_law 724 = .ok (.aload_n 2, 1) := by decide +kernel
theorem dL_law_725 : decode cL_law 725 = .ok (.invokevirtual 85, 3) := by decide +kernel
theorem dL_law_728 : decode cL_law 728 = .ok (.iload 5, 2) := by decide +kernel
theorem dL_law_730 : decode cL_law 730 = .ok (.if_icmp .eq 5, 3) := by decide +kernel
theorem dL_law_733 : decode cL_law 733 = .ok (.iconst 0, 1) := by decide +kernel
theorem dL_law_734 : decode cL_law 734 = .ok (.ireturn, 1) := by decide +kernel
theorem dL_law_735 : decode cL_law 735 = .ok (.iload 5, 2) := by decide +kernel
theorem dL_law_737 : decode cL_law 737 = .ok (.ifCond .ne 15, 3) := by decide +kernel
theorem dL_law_740 : decode cL_law 740 = .ok (.aload_n 3, 1) := by decide +kernel
theorem dL_law_741 : decode cL_law 741 = .ok (.iconst 0, 1) := by decide +kernel
theorem dL_law_742 : decode cL_law 742 = .ok (.laload, 1) := by decide +kernel
theorem dL_law_743 : decode cL_law 743 = .ok (.iload 6, 2) := by decide +kernel
theorem dL_law_745 : decode cL_law 745 = .ok (.i2l, 1) := by decide +kernel
theorem dL_law_746 : decode cL_law 746 = .ok (.lcmp, 1) := by decide +kernel
theorem dL_law_747 : decode cL_law 747 = .ok (.ifCond .eq 5, 3) := by decide +kernel
theorem dL_law_750 : decode cL_law 750 = .ok (.iconst 0, 1) := by decide +kernel
theorem dL_law_751 : decode cL_law 751 = .ok (.ireturn, 1) := by decide +kernel
theorem dL_law_752 : decode cL_law 752 = .ok (.goto 456, 3) := by decide +kernel
theorem dL_law_755 : decode cL_law 755 = .ok (.aload_n 1, 1) := by decide +kernel
theorem dL_law_756 : decode cL_law 756 = .ok (.aload_n 0, 1) := by decide +kernel
theorem dL_law_757 : decode cL_law 757 = .ok (.iload 4, 2) := by decide +kernel
theorem dL_law_759 : decode cL_law 759 = .ok (.iconst 1, 1) := by decide +kernel
theorem dL_law_760 : decode cL_law 760 = .ok (.iadd, 1) := by decide +kernel
theorem dL_law_761 : decode cL_law 761 = .ok (.iaload, 1) := by decide +kernel
theorem dL_law_762 : decode cL_law 762 = .ok (.aload_n 0, 1) := by decide +kernel
theorem dL_law_763 : decode cL_law 763 = .ok (.iload 4, 2) := by decide +kernel
theorem dL_law_765 : decode cL_law 765 = .ok (.iconst 2, 1) := by decide +kernel
theorem dL_law_766 : decode cL_law 766 = .ok (.iadd, 1) := by decide +kernel
theorem dL_law_767 : decode cL_law 767 = .ok (.iaload, 1) := by decide +kernel
theorem dL_law_768 : decode cL_law 768 = .ok (.aload_n 3, 1) := by decide +kernel
theorem dL_law_769 : decode cL_law 769 = .ok (.invokestatic 116, 3) := by decide +kernel
theorem dL_law_772 : decode cL_law 772 = .ok (.istore 5, 2) := by decide +kernel
theorem dL_law_774 : decode cL_law 774 = .ok (.aload_n 2, 1) := by decide +kernel
theorem dL_law_775 : decode cL_law 775 = .ok (.aload_n 0, 1) := by decide +kernel
theorem dL_law_776 : decode cL_law 776 = .ok (.iload 4, 2) := by decide +kernel
theorem dL_law_778 : decode cL_law 778 = .ok (.iconst 1, 1) := by decide +kernel
theorem dL_law_779 : decode cL_law 779 = .ok (.iadd, 1) := by decide +kernel
theorem dL_law_780 : decode cL_law 780 = .ok (.iaload, 1) := by decide +kernel
theorem dL_law_781 : decode cL_law 781 = .ok (.aload_n 0, 1) := by decide +kernel
theorem dL_law_782 : decode cL_law 782 = .ok (.iload 4, 2) := by decide +kernel
theorem dL_law_784 : decode cL_law 784 = .ok (.iconst 2, 1) := by decide +kernel
theorem dL_law_785 : decode cL_law 785 = .ok (.iadd, 1) := by decide +kernel
theorem dL_law_786 : decode cL_law 786 = .ok (.iaload, 1) := by decide +kernel
theorem dL_law_787 : decode cL_law 787 = .ok (.invokevirtual 118, 3) := by decide +kernel
theorem dL_law_790 : decode cL_law 790 = .ok (.istore 6, 2) := by decide +kernel
theorem dL_law_792 : decode cL_law 792 = .ok (.aload_n 2, 1) := by decide +kernel
theorem dL_law_793 : decode cL_law 793 = .ok (.invokevirtual 85, 3) := by decide +kernel
theorem dL_law_796 : decode cL_law 796 = .ok (.iload 5, 2) := by decide +kernel
theorem dL_law_798 : decode cL_law 798 = .ok (.if_icmp .eq 5, 3) := by decide +kernel
theorem dL_law_801 : decode cL_law 801 = .ok (.iconst 0, 1) := by decide +kernel
theorem dL_law_802 : decode cL_law 802 = .ok (.ireturn, 1) := by decide +kernel
theorem dL_law_803 : decode cL_law 803 = .ok (.iload 5, 2) := by decide +kernel
theorem dL_law_805 : decode cL_law 805 = .ok (.ifCond .ne 15, 3) := by decide +kernel
theorem dL_law_808 : decode cL_law 808 = .ok (.aload_n 3, 1) := by decide +kernel
theorem dL_law_809 : decode cL_law 809 = .ok (.iconst 0, 1) := by decide +kernel
theorem dL_law_810 : decode cL_law 810 = .ok (.laload, 1) := by decide +kernel
theorem dL_law_811 : decode cL_law 811 = .ok (.iload 6, 2) := by decide +kernel
theorem dL_law_813 : decode cL_law 813 = .ok (.i2l, 1) := by decide +kernel
theorem dL_law_814 : decode cL_law 814 = .ok (.lcmp, 1) := by decide +kernel
theorem dL_law_815 : decode cL_law 815 = .ok (.ifCond .eq 5, 3) := by decide +kernel
theorem dL_law_818 : decode cL_law 818 = .ok (.iconst 0, 1) := by decide +kernel
theorem dL_law_819 : decode cL_law 819 = .ok (.ireturn, 1) := by decide +kernel
theorem dL_law_820 : decode cL_law 820 = .ok (.goto 388, 3) := by decide +kernel
theorem dL_law_823 : decode cL_law 823 = .ok (.aload_n 1, 1) := by decide +kernel
theorem dL_law_824 : decode cL_law 824 = .ok (.aload_n 0, 1) := by decide +kernel
theorem dL_law_825 : decode cL_law 825 = .ok (.iload 4, 2) := by decide +kernel
theorem dL_law_827 : decode cL_law 827 = .ok (.iconst 1, 1) := by decide +kernel
theorem dL_law_828 : decode cL_law 828 = .ok (.iadd, 1) := by decide +kernel
theorem dL_law_829 : decode cL_law 829 = .ok (.iaload, 1) := by decide +kernel
theorem dL_law_830 : decode cL_law 830 = .ok (.aload_n 0, 1) := by decide +kernel
theorem dL_law_831 : decode cL_law 831 = .ok (.iload 4, 2) := by decide +kernel
theorem dL_law_833 : decode cL_law 833 = .ok (.iconst 2, 1) := by decide +kernel
theorem dL_law_834 : decode cL_law 834 = .ok (.iadd, 1) := by decide +kernel
theorem dL_law_835 : decode cL_law 835 = .ok (.iaload, 1) := by decide +kernel
theorem dL_law_836 : decode cL_law 836 = .ok (.aload_n 3, 1) := by decide +kernel
theorem dL_law_837 : decode cL_law 837 = .ok (.invokestatic 119, 3) := by decide +kernel
theorem dL_law_840 : decode cL_law 840 = .ok (.istore 5, 2) := by decide +kernel
theorem dL_law_842 : decode cL_law 842 = .ok (.aload_n 2, 1) := by decide +kernel
theorem dL_law_843 : decode cL_law 843 = .ok (.aload_n 0, 1) := by decide +kernel
theorem dL_law_844 : decode cL_law 844 = .ok (.iload 4, 2) := by decide +kernel
theorem dL_law_846 : decode cL_law 846 = .ok (.iconst 1, 1) := by decide +kernel
theorem dL_law_847 : decode cL_law 847 = .ok (.iadd, 1) := by decide +kernel
theorem dL_law_848 : decode cL_law 848 = .ok (.iaload, 1) := by decide +kernel
theorem dL_law_849 : decode cL_law 849 = .ok (.aload_n 0, 1) := by decide +kernel
theorem dL_law_850 : decode cL_law 850 = .ok (.iload 4, 2) := by decide +kernel
theorem dL_law_852 : decode cL_law 852 = .ok (.iconst 2, 1) := by decide +kernel
theorem dL_law_853 : decode cL_law 853 = .ok (.iadd, 1) := by decide +kernel
theorem dL_law_854 : decode cL_law 854 = .ok (.iaload, 1) := by decide +kernel
theorem dL_law_855 : decode cL_law 855 = .ok (.invokevirtual 121, 3) := by decide +kernel
theorem dL_law_858 : decode cL_law 858 = .ok (.istore 6, 2) := by decide +kernel
theorem dL_law_860 : decode cL_law 860 = .ok (.aload_n 2, 1) := by decide +kernel
theorem dL_law_861 : decode cL_law 861 = .ok (.invokevirtual 85, 3) := by decide +kernel
theorem dL_law_864 : decode cL_law 864 = .ok (.iload 5, 2) := by decide +kernel
theorem dL_law_866 : decode cL_law 866 = .ok (.if_icmp .eq 5, 3) := by decide +kernel
theorem dL_law_869 : decode cL_law 869 = .ok (.iconst 0, 1) := by decide +kernel
theorem dL_law_870 : decode cL_law 870 = .ok (.ireturn, 1) := by decide +kernel
theorem dL_law_871 : decode cL_law 871 = .ok (.iload 5, 2) := by decide +kernel
theorem dL_law_873 : decode cL_law 873 = .ok (.ifCond .ne 15, 3) := by decide +kernel
theorem dL_law_876 : decode cL_law 876 = .ok (.aload_n 3, 1) := by decide +kernel
theorem dL_law_877 : decode cL_law 877 = .ok (.iconst 0, 1) := by decide +kernel
theorem dL_law_878 : decode cL_law 878 = .ok (.laload, 1) := by decide +kernel
theorem dL_law_879 : decode cL_law 879 = .ok (.iload 6, 2) := by decide +kernel
theorem dL_law_881 : decode cL_law 881 = .ok (.i2l, 1) := by decide +kernel
theorem dL_law_882 : decode cL_law 882 = .ok (.lcmp, 1) := by decide +kernel
theorem dL_law_883 : decode cL_law 883 = .ok (.ifCond .eq 5, 3) := by decide +kernel
theorem dL_law_886 : decode cL_law 886 = .ok (.iconst 0, 1) := by decide +kernel
theorem dL_law_887 : decode cL_law 887 = .ok (.ireturn, 1) := by decide +kernel
theorem dL_law_888 : decode cL_law 888 = .ok (.goto 320, 3) := by decide +kernel
theorem dL_law_891 : decode cL_law 891 = .ok (.aload_n 1, 1) := by decide +kernel
theorem dL_law_892 : decode cL_law 892 = .ok (.aload_n 0, 1) := by decide +kernel
theorem dL_law_893 : decode cL_law 893 = .ok (.iload 4, 2) := by decide +kernel
theorem dL_law_895 : decode cL_law 895 = .ok (.iconst 1, 1) := by decide +kernel
theorem dL_law_896 : decode cL_law 896 = .ok (.iadd, 1) := by decide +kernel
theorem dL_law_897 : decode cL_law 897 = .ok (.iaload, 1) := by decide +kernel
theorem dL_law_898 : decode cL_law 898 = .ok (.aload_n 0, 1) := by decide +kernel
theorem dL_law_899 : decode cL_law 899 = .ok (.iload 4, 2) := by decide +kernel
theorem dL_law_901 : decode cL_law 901 = .ok (.iconst 2, 1) := by decide +kernel
theorem dL_law_902 : decode cL_law 902 = .ok (.iadd, 1) := by decide +kernel
theorem dL_law_903 : decode cL_law 903 = .ok (.iaload, 1) := by decide +kernel
theorem dL_law_904 : decode cL_law 904 = .ok (.aload_n 3, 1) := by decide +kernel
theorem dL_law_905 : decode cL_law 905 = .ok (.invokestatic 122, 3) := by decide +kernel
theorem dL_law_908 : decode cL_law 908 = .ok (.istore 5, 2) := by decide +kernel
theorem dL_law_910 : decode cL_law 910 = .ok (.aload_n 2, 1) := by decide +kernel
theorem dL_law_911 : decode cL_law 911 = .ok (.aload_n 0, 1) := by decide +kernel
theorem dL_law_912 : decode cL_law 912 = .ok (.iload 4, 2) := by decide +kernel
theorem dL_law_914 : decode cL_law 914 = .ok (.iconst 1, 1) := by decide +kernel
theorem dL_law_915 : decode cL_law 915 = .ok (.iadd, 1) := by decide +kernel
theorem dL_law_916 : decode cL_law 916 = .ok (.iaload, 1) := by decide +kernel
theorem dL_law_917 : decode cL_law 917 = .ok (.aload_n 0, 1) := by decide +kernel
theorem dL_law_918 : decode cL_law 918 = .ok (.iload 4, 2) := by decide +kernel
theorem dL_law_920 : decode cL_law 920 = .ok (.iconst 2, 1) := by decide +kernel
theorem dL_law_921 : decode cL_law 921 = .ok (.iadd, 1) := by decide +kernel
theorem dL_law_922 : decode cL_law 922 = .ok (.iaload, 1) := by decide +kernel
theorem dL_law_923 : decode cL_law 923 = .ok (.invokevirtual 124, 3) := by decide +kernel
theorem dL_law_926 : decode cL_law 926 = .ok (.istore 6, 2) := by decide +kernel
theorem dL_law_928 : decode cL_law 928 = .ok (.aload_n 2, 1) := by decide +kernel
theorem dL_law_929 : decode cL_law 929 = .ok (.invokevirtual 85, 3) := by decide +kernel
theorem dL_law_932 : decode cL_law 932 = .ok (.iload 5, 2) := by decide +kernel
theorem dL_law_934 : decode cL_law 934 = .ok (.if_icmp .eq 5, 3) := by decide +kernel
theorem dL_law_937 : decode cL_law 937 = .ok (.iconst 0, 1) := by decide +kernel
theorem dL_law_938 : decode cL_law 938 = .ok (.ireturn, 1) := by decide +kernel
theorem dL_law_939 : decode cL_law 939 = .ok (.iload 5, 2) := by decide +kernel
theorem dL_law_941 : decode cL_law 941 = .ok (.ifCond .ne 22, 3) := by decide +kernel
theorem dL_law_944 : decode cL_law 944 = .ok (.aload_n 3, 1) := by decide +kernel
theorem dL_law_945 : decode cL_law 945 = .ok (.iconst 0, 1) := by decide +kernel
theorem dL_law_946 : decode cL_law 946 = .ok (.laload, 1) := by decide +kernel
theorem dL_law_947 : decode cL_law 947 = .ok (.iload 6, 2) := by decide +kernel
theorem dL_law_949 : decode cL_law 949 = .ok (.ifCond .eq 7, 3) := by decide +kernel
theorem dL_law_952 : decode cL_law 952 = .ok (.lconst 1, 1) := by decide +kernel
theorem dL_law_953 : decode cL_law 953 = .ok (.goto 4, 3) := by decide +kernel
theorem dL_law_956 : decode cL_law 956 = .ok (.lconst 0, 1) := by decide +kernel
theorem dL_law_957 : decode cL_law 957 = .ok (.lcmp, 1) := by decide +kernel
theorem dL_law_958 : decode cL_law 958 = .ok (.ifCond .eq 5, 3) := by decide +kernel
theorem dL_law_961 : decode cL_law 961 = .ok (.iconst 0, 1) := by decide +kernel
theorem dL_law_962 : decode cL_law 962 = .ok (.ireturn, 1) := by decide +kernel
theorem dL_law_963 : decode cL_law 963 = .ok (.goto 245, 3) := by decide +kernel
theorem dL_law_966 : decode cL_law 966 = .ok (.aload_n 1, 1) := by decide +kernel
theorem dL_law_967 : decode cL_law 967 = .ok (.aload_n 0, 1) := by decide +kernel
theorem dL_law_968 : decode cL_law 968 = .ok (.iload 4, 2) := by decide +kernel
theorem dL_law_970 : decode cL_law 970 = .ok (.iconst 1, 1) := by decide +kernel
theorem dL_law_971 : decode cL_law 971 = .ok (.iadd, 1) := by decide +kernel
theorem dL_law_972 : decode cL_law 972 = .ok (.iaload, 1) := by decide +kernel
theorem dL_law_973 : decode cL_law 973 = .ok (.aload_n 0, 1) := by decide +kernel
theorem dL_law_974 : decode cL_law 974 = .ok (.iload 4, 2) := by decide +kernel
theorem dL_law_976 : decode cL_law 976 = .ok (.iconst 2, 1) := by decide +kernel
theorem dL_law_977 : decode cL_law 977 = .ok (.iadd, 1) := by decide +kernel
theorem dL_law_978 : decode cL_law 978 = .ok (.iaload, 1) := by decide +kernel
theorem dL_law_979 : decode cL_law 979 = .ok (.aload_n 0, 1) := by decide +kernel
theorem dL_law_980 : decode cL_law 980 = .ok (.iload 4, 2) := by decide +kernel
theorem dL_law_982 : decode cL_law 982 = .ok (.iconst 3, 1) := by decide +kernel
theorem dL_law_983 : decode cL_law 983 = .ok (.iadd, 1) := by decide +kernel
theorem dL_law_984 : decode cL_law 984 = .ok (.iaload, 1) := by decide +kernel
theorem dL_law_985 : decode cL_law 985 = .ok (.aload_n 3, 1) := by decide +kernel
theorem dL_law_986 : decode cL_law 986 = .ok (.invokestatic 125, 3) := by decide +kernel
theorem dL_law_989 : decode cL_law 989 = .ok (.istore 5, 2) := by decide +kernel
theorem dL_law_991 : decode cL_law 991 = .ok (.aload_n 2, 1) := by decide +kernel
theorem dL_law_992 : decode cL_law 992 = .ok (.aload_n 0, 1) := by decide +kernel
theorem dL_law_993 : decode cL_law 993 = .ok (.iload 4, 2) := by decide +kernel
theorem dL_law_995 : decode cL_law 995 = .ok (.iconst 1, 1) := by decide +kernel
theorem dL_law_996 : decode cL_law 996 = .ok (.iadd, 1) := by decide +kernel
theorem dL_law_997 : decode cL_law 997 = .ok (.iaload, 1) := by decide +kernel
theorem dL_law_998 : decode cL_law 998 = .ok (.aload_n 0, 1) := by decide +kernel
theorem dL_law_999 : decode cL_law 999 = .ok (.iload 4, 2) := by decide +kernel
theorem dL_law_1001 : decode cL_law 1001 = .ok (.iconst 2, 1) := by decide +kernel
theorem dL_law_1002 : decode cL_law 1002 = .ok (.iadd, 1) := by decide +kernel
theorem dL_law_1003 : decode cL_law 1003 = .ok (.iaload, 1) := by decide +kernel
theorem dL_law_1004 : decode cL_law 1004 = .ok (.aload_n 0, 1) := by decide +kernel
theorem dL_law_1005 : decode cL_law 1005 = .ok (.iload 4, 2) := by decide +kernel
theorem dL_law_1007 : decode cL_law 1007 = .ok (.iconst 3, 1) := by decide +kernel
theorem dL_law_1008 : decode cL_law 1008 = .ok (.iadd, 1) := by decide +kernel
theorem dL_law_1009 : decode cL_law 1009 = .ok (.iaload, 1) := by decide +kernel
theorem dL_law_1010 : decode cL_law 1010 = .ok (.invokevirtual 128, 3) := by decide +kernel
theorem dL_law_1013 : decode cL_law 1013 = .ok (.istore 6, 2) := by decide +kernel
theorem dL_law_1015 : decode cL_law 1015 = .ok (.aload_n 2, 1) := by decide +kernel
theorem dL_law_1016 : decode cL_law 1016 = .ok (.invokevirtual 85, 3) := by decide +kernel
theorem dL_law_1019 : decode cL_law 1019 = .ok (.iload 5, 2) := by decide +kernel
theorem dL_law_1021 : decode cL_law 1021 = .ok (.if_icmp .eq 5, 3) := by decide +kernel
theorem dL_law_1024 : decode cL_law 1024 = .ok (.iconst 0, 1) := by decide +kernel
theorem dL_law_1025 : decode cL_law 1025 = .ok (.ireturn, 1) := by decide +kernel
theorem dL_law_1026 : decode cL_law 1026 = .ok (.iload 5, 2) := by decide +kernel
theorem dL_law_1028 : decode cL_law 1028 = .ok (.ifCond .ne 15, 3) := by decide +kernel
theorem dL_law_1031 : decode cL_law 1031 = .ok (.aload_n 3, 1) := by decide +kernel
theorem dL_law_1032 : decode cL_law 1032 = .ok (.iconst 0, 1) := by decide +kernel
theorem dL_law_1033 : decode cL_law 1033 = .ok (.laload, 1) := by decide +kernel
theorem dL_law_1034 : decode cL_law 1034 = .ok (.iload 6, 2) := by decide +kernel
theorem dL_law_1036 : decode cL_law 1036 = .ok (.i2l, 1) := by decide +kernel
theorem dL_law_1037 : decode cL_law 1037 = .ok (.lcmp, 1) := by decide +kernel
theorem dL_law_1038 : decode cL_law 1038 = .ok (.ifCond .eq 5, 3) := by decide +kernel
theorem dL_law_1041 : decode cL_law 1041 = .ok (.iconst 0, 1) := by decide +kernel
theorem dL_law_1042 : decode cL_law 1042 = .ok (.ireturn, 1) := by decide +kernel
theorem dL_law_1043 : decode cL_law 1043 = .ok (.goto 165, 3) := by decide +kernel
theorem dL_law_1046 : decode cL_law 1046 = .ok (.aload_n 1, 1) := by decide +kernel
theorem dL_law_1047 : decode cL_law 1047 = .ok (.aload_n 0, 1) := by decide +kernel
theorem dL_law_1048 : decode cL_law 1048 = .ok (.iload 4, 2) := by decide +kernel
theorem dL_law_1050 : decode cL_law 1050 = .ok (.iconst 1, 1) := by decide +kernel
theorem dL_law_1051 : decode cL_law 1051 = .ok (.iadd, 1) := by decide +kernel
theorem dL_law_1052 : decode cL_law 1052 = .ok (.iaload, 1) := by decide +kernel
theorem dL_law_1053 : decode cL_law 1053 = .ok (.aload_n 0, 1) := by decide +kernel
theorem dL_law_1054 : decode cL_law 1054 = .ok (.iload 4, 2) := by decide +kernel
theorem dL_law_1056 : decode cL_law 1056 = .ok (.iconst 2, 1) := by decide +kernel
theorem dL_law_1057 : decode cL_law 1057 = .ok (.iadd, 1) := by decide +kernel
theorem dL_law_1058 : decode cL_law 1058 = .ok (.iaload, 1) := by decide +kernel
theorem dL_law_1059 : decode cL_law 1059 = .ok (.aload_n 3, 1) := by decide +kernel
theorem dL_law_1060 : decode cL_law 1060 = .ok (.invokestatic 129, 3) := by decide +kernel
theorem dL_law_1063 : decode cL_law 1063 = .ok (.istore 5, 2) := by decide +kernel
theorem dL_law_1065 : decode cL_law 1065 = .ok (.aload_n 2, 1) := by decide +kernel
theorem dL_law_1066 : decode cL_law 1066 = .ok (.aload_n 0, 1) := by decide +kernel
theorem dL_law_1067 : decode cL_law 1067 = .ok (.iload 4, 2) := by decide +kernel
theorem dL_law_1069 : decode cL_law 1069 = .ok (.iconst 1, 1) := by decide +kernel
theorem dL_law_1070 : decode cL_law 1070 = .ok (.iadd, 1) := by decide +kernel
theorem dL_law_1071 : decode cL_law 1071 = .ok (.iaload, 1) := by decide +kernel
theorem dL_law_1072 : decode cL_law 1072 = .ok (.aload_n 0, 1) := by decide +kernel
theorem dL_law_1073 : decode cL_law 1073 = .ok (.iload 4, 2) := by decide +kernel
theorem dL_law_1075 : decode cL_law 1075 = .ok (.iconst 2, 1) := by decide +kernel
theorem dL_law_1076 : decode cL_law 1076 = .ok (.iadd, 1) := by decide +kernel
theorem dL_law_1077 : decode cL_law 1077 = .ok (.iaload, 1) := by decide +kernel
theorem dL_law_1078 : decode cL_law 1078 = .ok (.invokevirtual 131, 3) := by decide +kernel
theorem dL_law_1081 : decode cL_law 1081 = .ok (.istore 6, 2) := by decide +kernel
theorem dL_law_1083 : decode cL_law 1083 = .ok (.aload_n 2, 1) := by decide +kernel
theorem dL_law_1084 : decode cL_law 1084 = .ok (.invokevirtual 85, 3) := by decide +kernel
theorem dL_law_1087 : decode cL_law 1087 = .ok (.iload 5, 2) := by decide +kernel
theorem dL_law_1089 : decode cL_law 1089 = .ok (.if_icmp .eq 5, 3) := by decide +kernel
theorem dL_law_1092 : decode cL_law 1092 = .ok (.iconst 0, 1) := by decide +kernel
theorem dL_law_1093 : decode cL_law 1093 = .ok (.ireturn, 1) := by decide +kernel
theorem dL_law_1094 : decode cL_law 1094 = .ok (.iload 5, 2) := by decide +kernel
theorem dL_law_1096 : decode cL_law 1096 = .ok (.ifCond .ne 15, 3) := by decide +kernel
theorem dL_law_1099 : decode cL_law 1099 = .ok (.aload_n 3, 1) := by decide +kernel
theorem dL_law_1100 : decode cL_law 1100 = .ok (.iconst 0, 1) := by decide +kernel
theorem dL_law_1101 : decode cL_law 1101 = .ok (.laload, 1) := by decide +kernel
theorem dL_law_1102 : decode cL_law 1102 = .ok (.iload 6, 2) := by decide +kernel
theorem dL_law_1104 : decode cL_law 1104 = .ok (.i2l, 1) := by decide +kernel
theorem dL_law_1105 : decode cL_law 1105 = .ok (.lcmp, 1) := by decide +kernel
theorem dL_law_1106 : decode cL_law 1106 = .ok (.ifCond .eq 5, 3) := by decide +kernel
theorem dL_law_1109 : decode cL_law 1109 = .ok (.iconst 0, 1) := by decide +kernel
theorem dL_law_1110 : decode cL_law 1110 = .ok (.ireturn, 1) := by decide +kernel
theorem dL_law_1111 : decode cL_law 1111 = .ok (.goto 97, 3) := by decide +kernel
theorem dL_law_1114 : decode cL_law 1114 = .ok (.aload_n 1, 1) := by decide +kernel
theorem dL_law_1115 : decode cL_law 1115 = .ok (.invokevirtual 132, 3) := by decide +kernel
theorem dL_law_1118 : decode cL_law 1118 = .ok (.aload_n 2, 1) := by decide +kernel
theorem dL_law_1119 : decode cL_law 1119 = .ok (.invokevirtual 135, 3) := by decide +kernel
theorem dL_law_1122 : decode cL_law 1122 = .ok (.if_icmp .eq 86, 3) := by decide +kernel
theorem dL_law_1125 : decode cL_law 1125 = .ok (.iconst 0, 1) := by decide +kernel
theorem dL_law_1126 : decode cL_law 1126 = .ok (.ireturn, 1) := by decide +kernel
theorem dL_law_1127 : decode cL_law 1127 = .ok (.aload_n 1, 1) := by decide +kernel
theorem dL_law_1128 : decode cL_law 1128 = .ok (.aload_n 0, 1) := by decide +kernel
theorem dL_law_1129 : decode cL_law 1129 = .ok (.iload 4, 2) := by decide +kernel
theorem dL_law_1131 : decode cL_law 1131 = .ok (.iconst 1, 1) := by decide +kernel
theorem dL_law_1132 : decode cL_law 1132 = .ok (.iadd, 1) := by decide +kernel
theorem dL_law_1133 : decode cL_law 1133 = .ok (.iaload, 1) := by decide +kernel
theorem dL_law_1134 : decode cL_law 1134 = .ok (.aload_n 3, 1) := by decide +kernel
theorem dL_law_1135 : decode cL_law 1135 = .ok (.invokestatic 136, 3) := by decide +kernel
theorem dL_law_1138 : decode cL_law 1138 = .ok (.istore 5, 2) := by decide +kernel
theorem dL_law_1140 : decode cL_law 1140 = .ok (.aload_n 2, 1) := by decide +kernel
theorem dL_law_1141 : decode cL_law 1141 = .ok (.aload_n 0, 1) := by decide +kernel
theorem dL_law_1142 : decode cL_law 1142 = .ok (.iload 4, 2) := by decide +kernel
theorem dL_law_1144 : decode cL_law 1144 = .ok (.iconst 1, 1) := by decide +kernel
theorem dL_law_1145 : decode cL_law 1145 = .ok (.iadd, 1) := by decide +kernel
theorem dL_law_1146 : decode cL_law 1146 = .ok (.iaload, 1) := by decide +kernel
theorem dL_law_1147 : decode cL_law 1147 = .ok (.invokevirtual 138, 3) := by decide +kernel
theorem dL_law_1150 : decode cL_law 1150 = .ok (.istore 6, 2) := by decide +kernel
theorem dL_law_1152 : decode cL_law 1152 = .ok (.aload_n 2, 1) := by decide +kernel
theorem dL_law_1153 : decode cL_law 1153 = .ok (.invokevirtual 85, 3) := by decide +kernel
theorem dL_law_1156 : decode cL_law 1156 = .ok (.iload 5, 2) := by decide +kernel
theorem dL_law_1158 : decode cL_law 1158 = .ok (.if_icmp .eq 5, 3) := by decide +kernel
theorem dL_law_1161 : decode cL_law 1161 = .ok (.iconst 0, 1) := by decide +kernel
theorem dL_law_1162 : decode cL_law 1162 = .ok (.ireturn, 1) := by decide +kernel
theorem dL_law_1163 : decode cL_law 1163 = .ok (.iload 5, 2) := by decide +kernel
theorem dL_law_1165 : decode cL_law 1165 = .ok (.ifCond .ne 15, 3) := by decide +kernel
theorem dL_law_1168 : decode cL_law 1168 = .ok (.aload_n 3, 1) := by decide +kernel
theorem dL_law_1169 : decode cL_law 1169 = .ok (.iconst 0, 1) := by decide +kernel
theorem dL_law_1170 : decode cL_law 1170 = .ok (.laload, 1) := by decide +kernel
theorem dL_law_1171 : decode cL_law 1171 = .ok (.iload 6, 2) := by decide +kernel
theorem dL_law_1173 : decode cL_law 1173 = .ok (.i2l, 1) := by decide +kernel
theorem dL_law_1174 : decode cL_law 1174 = .ok (.lcmp, 1) := by decide +kernel
theorem dL_law_1175 : decode cL_law 1175 = .ok (.ifCond .eq 5, 3) := by decide +kernel
theorem dL_law_1178 : decode cL_law 1178 = .ok (.iconst 0, 1) := by decide +kernel
theorem dL_law_1179 : decode cL_law 1179 = .ok (.ireturn, 1) := by decide +kernel
theorem dL_law_1180 : decode cL_law 1180 = .ok (.goto 28, 3) := by decide +kernel
theorem dL_law_1183 : decode cL_law 1183 = .ok (.aload_n 1, 1) := by decide +kernel
theorem dL_law_1184 : decode cL_law 1184 = .ok (.aload_n 0, 1) := by decide +kernel
theorem dL_law_1185 : decode cL_law 1185 = .ok (.iload 4, 2) := by decide +kernel
theorem dL_law_1187 : decode cL_law 1187 = .ok (.iconst 1, 1) := by decide +kernel
theorem dL_law_1188 : decode cL_law 1188 = .ok (.iadd, 1) := by decide +kernel
theorem dL_law_1189 : decode cL_law 1189 = .ok (.iaload, 1) := by decide +kernel
theorem dL_law_1190 : decode cL_law 1190 = .ok (.invokevirtual 139, 3) := by decide +kernel
theorem dL_law_1193 : decode cL_law 1193 = .ok (.aload_n 2, 1) := by decide +kernel
theorem dL_law_1194 : decode cL_law 1194 = .ok (.aload_n 0, 1) := by decide +kernel
theorem dL_law_1195 : decode cL_law 1195 = .ok (.iload 4, 2) := by decide +kernel
theorem dL_law_1197 : decode cL_law 1197 = .ok (.iconst 1, 1) := by decide +kernel
theorem dL_law_1198 : decode cL_law 1198 = .ok (.iadd, 1) := by decide +kernel
theorem dL_law_1199 : decode cL_law 1199 = .ok (.iaload, 1) := by decide +kernel
theorem dL_law_1200 : decode cL_law 1200 = .ok (.invokevirtual 142, 3) := by decide +kernel
theorem dL_law_1203 : decode cL_law 1203 = .ok (.if_icmp .eq 5, 3) := by decide +kernel
theorem dL_law_1206 : decode cL_law 1206 = .ok (.iconst 0, 1) := by decide +kernel
theorem dL_law_1207 : decode cL_law 1207 = .ok (.ireturn, 1) := by decide +kernel
theorem dL_law_1208 : decode cL_law 1208 = .ok (.iinc 4 6, 3) := by decide +kernel
theorem dL_law_1211 : decode cL_law 1211 = .ok (.goto (-1188), 3) := by decide +kernel
theorem dL_law_1214 : decode cL_law 1214 = .ok (.iconst 1, 1) := by decide +kernel
theorem dL_law_1215 : decode cL_law 1215 = .ok (.ireturn, 1) := by decide +kernel
