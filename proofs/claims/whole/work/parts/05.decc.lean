theorem dX9_init_0 : decode cX9_init 0 = .ok (.aload_n 0, 1) := by decide +kernel
theorem dX9_init_1 : decode cX9_init 1 = .ok (.invokespecial 1, 3) := by decide +kernel
theorem dX9_init_4 : decode cX9_init 4 = .ok (.aload_n 0, 1) := by decide +kernel
theorem dX9_init_5 : decode cX9_init 5 = .ok (.sipush 660, 3) := by decide +kernel
theorem dX9_init_8 : decode cX9_init 8 = .ok (.newarray .int, 2) := by decide +kernel
theorem dX9_init_10 : decode cX9_init 10 = .ok (.putfield 7, 3) := by decide +kernel
theorem dX9_init_13 : decode cX9_init 13 = .ok (.aload_n 0, 1) := by decide +kernel
theorem dX9_init_14 : decode cX9_init 14 = .ok (.sipush 300, 3) := by decide +kernel
theorem dX9_init_17 : decode cX9_init 17 = .ok (.newarray .int, 2) := by decide +kernel
theorem dX9_init_19 : decode cX9_init 19 = .ok (.putfield 13, 3) := by decide +kernel
theorem dX9_init_22 : decode cX9_init 22 = .ok (.aload_n 0, 1) := by decide +kernel
theorem dX9_init_23 : decode cX9_init 23 = .ok (.bipush 12, 2) := by decide +kernel
theorem dX9_init_25 : decode cX9_init 25 = .ok (.newarray .int, 2) := by decide +kernel
theorem dX9_init_27 : decode cX9_init 27 = .ok (.putfield 16, 3) := by decide +kernel
theorem dX9_init_30 : decode cX9_init 30 = .ok (.aload_n 0, 1) := by decide +kernel
theorem dX9_init_31 : decode cX9_init 31 = .ok (.iconst 3, 1) := by decide +kernel
theorem dX9_init_32 : decode cX9_init 32 = .ok (.newarray .int, 2) := by decide +kernel
theorem dX9_init_34 : decode cX9_init 34 = .ok (.putfield 19, 3) := by decide +kernel
theorem dX9_init_37 : decode cX9_init 37 = .ok (.aload_n 0, 1) := by decide +kernel
theorem dX9_init_38 : decode cX9_init 38 = .ok (.sipush 1024, 3) := by decide +kernel
theorem dX9_init_41 : decode cX9_init 41 = .ok (.newarray .long, 2) := by decide +kernel
theorem dX9_init_43 : decode cX9_init 43 = .ok (.putfield 22, 3) := by decide +kernel
theorem dX9_init_46 : decode cX9_init 46 = .ok (.aload_n 0, 1) := by decide +kernel
theorem dX9_init_47 : decode cX9_init 47 = .ok (.sipush 1024, 3) := by decide +kernel
theorem dX9_init_50 : decode cX9_init 50 = .ok (.newarray .int, 2) := by decide +kernel
theorem dX9_init_52 : decode cX9_init 52 = .ok (.putfield 26, 3) := by decide +kernel
theorem dX9_init_55 : decode cX9_init 55 = .ok (.aload_n 0, 1) := by decide +kernel
theorem dX9_init_56 : decode cX9_init 56 = .ok (.bipush 10, 2) := by decide +kernel
theorem dX9_init_58 : decode cX9_init 58 = .ok (.newarray .int, 2) := by decide +kernel
theorem dX9_init_60 : decode cX9_init 60 = .ok (.putfield 29, 3) := by decide +kernel
theorem dX9_init_63 : decode cX9_init 63 = .ok (.aload_n 0, 1) := by decide +kernel
theorem dX9_init_64 : decode cX9_init 64 = .ok (.iconst 0, 1) := by decide +kernel
theorem dX9_init_65 : decode cX9_init 65 = .ok (.invokevirtual 32, 3) := by decide +kernel
theorem dX9_init_68 : decode cX9_init 68 = .ok (.aload_n 0, 1) := by decide +kernel
theorem dX9_init_69 : decode cX9_init 69 = .ok (.getfield 7, 3) := by decide +kernel
theorem dX9_init_72 : decode cX9_init 72 = .ok (.iconst 0, 1) := by decide +kernel
theorem dX9_init_73 : decode cX9_init 73 = .ok (.iconst 4, 1) := by decide +kernel
theorem dX9_init_74 : decode cX9_init 74 = .ok (.iastore, 1) := by decide +kernel
theorem dX9_init_75 : decode cX9_init 75 = .ok (.aload_n 0, 1) := by decide +kernel
theorem dX9_init_76 : decode cX9_init 76 = .ok (.getfield 7, 3) := by decide +kernel
theorem dX9_init_79 : decode cX9_init 79 = .ok (.iconst 1, 1) := by decide +kernel
theorem dX9_init_80 : decode cX9_init 80 = .ok (.iconst 3, 1) := by decide +kernel
theorem dX9_init_81 : decode cX9_init 81 = .ok (.iastore, 1) := by decide +kernel
theorem dX9_init_82 : decode cX9_init 82 = .ok (.aload_n 0, 1) := by decide +kernel
theorem dX9_init_83 : decode cX9_init 83 = .ok (.iconst 0, 1) := by decide +kernel
theorem dX9_init_84 : decode cX9_init 84 = .ok (.iconst 0, 1) := by decide +kernel
theorem dX9_init_85 : decode cX9_init 85 = .ok (.iconst 1, 1) := by decide +kernel
theorem dX9_init_86 : decode cX9_init 86 = .ok (.iconst 2, 1) := by decide +kernel
theorem dX9_init_87 : decode cX9_init 87 = .ok (.invokevirtual 36, 3) := by decide +kernel
theorem dX9_init_90 : decode cX9_init 90 = .ok (.aload_n 0, 1) := by decide +kernel
theorem dX9_init_91 : decode cX9_init 91 = .ok (.iconst 0, 1) := by decide +kernel
theorem dX9_init_92 : decode cX9_init 92 = .ok (.iconst 2, 1) := by decide +kernel
theorem dX9_init_93 : decode cX9_init 93 = .ok (.iconst 2, 1) := by decide +kernel
theorem dX9_init_94 : decode cX9_init 94 = .ok (.iconst 3, 1) := by decide +kernel
theorem dX9_init_95 : decode cX9_init 95 = .ok (.invokevirtual 36, 3) := by decide +kernel
theorem dX9_init_98 : decode cX9_init 98 = .ok (.aload_n 0, 1) := by decide +kernel
theorem dX9_init_99 : decode cX9_init 99 = .ok (.iconst 0, 1) := by decide +kernel
theorem dX9_init_100 : decode cX9_init 100 = .ok (.invokevirtual 40, 3) := by decide +kernel
theorem dX9_init_103 : decode cX9_init 103 = .ok (.return_, 1) := by decide +kernel
theorem dX9_in_0 : decode cX9_in 0 = .ok (.lload_n 0, 1) := by decide +kernel
theorem dX9_in_1 : decode cX9_in 1 = .ok (.lload_n 2, 1) := by decide +kernel
theorem dX9_in_2 : decode cX9_in 2 = .ok (.lcmp, 1) := by decide +kernel
theorem dX9_in_3 : decode cX9_in 3 = .ok (.ifCond .lt 14, 3) := by decide +kernel
theorem dX9_in_6 : decode cX9_in 6 = .ok (.lload_n 0, 1) := by decide +kernel
theorem dX9_in_7 : decode cX9_in 7 = .ok (.lload 4, 2) := by decide +kernel
theorem dX9_in_9 : decode cX9_in 9 = .ok (.lcmp, 1) := by decide +kernel
theorem dX9_in_10 : decode cX9_in 10 = .ok (.ifCond .gt 7, 3) := by decide +kernel
theorem dX9_in_13 : decode cX9_in 13 = .ok (.iconst 1, 1) := by decide +kernel
theorem dX9_in_14 : decode cX9_in 14 = .ok (.goto 4, 3) := by decide +kernel
theorem dX9_in_17 : decode cX9_in 17 = .ok (.iconst 0, 1) := by decide +kernel
theorem dX9_in_18 : decode cX9_in 18 = .ok (.ireturn, 1) := by decide +kernel
theorem dX9_has_0 : decode cX9_has 0 = .ok (.iload_n 0, 1) := by decide +kernel
theorem dX9_has_1 : decode cX9_has 1 = .ok (.iload_n 1, 1) := by decide +kernel
theorem dX9_has_2 : decode cX9_has 2 = .ok (.ishr, 1) := by decide +kernel
theorem dX9_has_3 : decode cX9_has 3 = .ok (.iconst 1, 1) := by decide +kernel
theorem dX9_has_4 : decode cX9_has 4 = .ok (.iand, 1) := by decide +kernel
theorem dX9_has_5 : decode cX9_has 5 = .ok (.iconst 1, 1) := by decide +kernel
theorem dX9_has_6 : decode cX9_has 6 = .ok (.if_icmp .ne 7, 3) := by decide +kernel
theorem dX9_has_9 : decode cX9_has 9 = .ok (.iconst 1, 1) := by decide +kernel
theorem dX9_has_10 : decode cX9_has 10 = .ok (.goto 4, 3) := by decide +kernel
theorem dX9_has_13 : decode cX9_has 13 = .ok (.iconst 0, 1) := by decide +kernel
theorem dX9_has_14 : decode cX9_has 14 = .ok (.ireturn, 1) := by decide +kernel
theorem dX9_ones_0 : decode cX9_ones 0 = .ok (.iconst 0, 1) := by decide +kernel
theorem dX9_ones_1 : decode cX9_ones 1 = .ok (.istore_n 1, 1) := by decide +kernel
theorem dX9_ones_2 : decode cX9_ones 2 = .ok (.iconst 0, 1) := by decide +kernel
theorem dX9_ones_3 : decode cX9_ones 3 = .ok (.istore_n 2, 1) := by decide +kernel
theorem dX9_ones_4 : decode cX9_ones 4 = .ok (.iload_n 2, 1) := by decide +kernel
theorem dX9_ones_5 : decode cX9_ones 5 = .ok (.bipush 10, 2) := by decide +kernel
theorem dX9_ones_7 : decode cX9_ones 7 = .ok (.if_icmp .ge 17, 3) := by decide +kernel
theorem dX9_ones_10 : decode cX9_ones 10 = .ok (.iload_n 1, 1) := by decide +kernel
theorem dX9_ones_11 : decode cX9_ones 11 = .ok (.iload_n 0, 1) := by decide +kernel
theorem dX9_ones_12 : decode cX9_ones 12 = .ok (.iload_n 2, 1) := by decide +kernel
theorem dX9_ones_13 : decode cX9_ones 13 = .ok (.ishr, 1) := by decide +kernel
theorem dX9_ones_14 : decode cX9_ones 14 = .ok (.iconst 1, 1) := by decide +kernel
theorem dX9_ones_15 : decode cX9_ones 15 = .ok (.iand, 1) := by decide +kernel
theorem dX9_ones_16 : decode cX9_ones 16 = .ok (.iadd, 1) := by decide +kernel
theorem dX9_ones_17 : decode cX9_ones 17 = .ok (.istore_n 1, 1) := by decide +kernel
theorem dX9_ones_18 : decode cX9_ones 18 = .ok (.iinc 2 1, 3) := by decide +kernel
theorem dX9_ones_21 : decode cX9_ones 21 = .ok (.goto (-17), 3) := by decide +kernel
theorem dX9_ones_24 : decode cX9_ones 24 = .ok (.iload_n 1, 1) := by decide +kernel
theorem dX9_ones_25 : decode cX9_ones 25 = .ok (.ireturn, 1) := by decide +kernel
theorem dX9_copy_0 : decode cX9_copy 0 = .ok (.iconst 0, 1) := by decide +kernel
theorem dX9_copy_1 : decode cX9_copy 1 = .ok (.istore_n 3, 1) := by decide +kernel
theorem dX9_copy_2 : decode cX9_copy 2 = .ok (.iload_n 3, 1) := by decide +kernel
theorem dX9_copy_3 : decode cX9_copy 3 = .ok (.bipush 55, 2) := by decide +kernel
theorem dX9_copy_5 : decode cX9_copy 5 = .ok (.if_icmp .ge 25, 3) := by decide +kernel
theorem dX9_copy_8 : decode cX9_copy 8 = .ok (.aload_n 0, 1) := by decide +kernel
theorem dX9_copy_9 : decode cX9_copy 9 = .ok (.getfield 7, 3) := by decide +kernel
theorem dX9_copy_12 : decode cX9_copy 12 = .ok (.iload_n 2, 1) := by decide +kernel
theorem dX9_copy_13 : decode cX9_copy 13 = .ok (.iload_n 3, 1) := by decide +kernel
theorem dX9_copy_14 : decode cX9_copy 14 = .ok (.iadd, 1) := by decide +kernel
theorem dX9_copy_15 : decode cX9_copy 15 = .ok (.aload_n 0, 1) := by decide +kernel
theorem dX9_copy_16 : decode cX9_copy 16 = .ok (.getfield 7, 3) := by decide +kernel
theorem dX9_copy_19 : decode cX9_copy 19 = .ok (.iload_n 1, 1) := by decide +kernel
theorem dX9_copy_20 : decode cX9_copy 20 = .ok (.iload_n 3, 1) := by decide +kernel
theorem dX9_copy_21 : decode cX9_copy 21 = .ok (.iadd, 1) := by decide +kernel
theorem dX9_copy_22 : decode cX9_copy 22 = .ok (.iaload, 1) := by decide +kernel
theorem dX9_copy_23 : decode cX9_copy 23 = .ok (.iastore, 1) := by decide +kernel
theorem dX9_copy_24 : decode cX9_copy 24 = .ok (.iinc 3 1, 3) := by decide +kernel
theorem dX9_copy_27 : decode cX9_copy 27 = .ok (.goto (-25), 3) := by decide +kernel
theorem dX9_copy_30 : decode cX9_copy 30 = .ok (.return_, 1) := by decide +kernel
theorem dX9_makeAnew_0 : decode cX9_makeAnew 0 = .ok (.iconst 0, 1) := by decide +kernel
theorem dX9_makeAnew_1 : decode cX9_makeAnew 1 = .ok (.istore_n 2, 1) := by decide +kernel
theorem dX9_makeAnew_2 : decode cX9_makeAnew 2 = .ok (.iload_n 2, 1) := by decide +kernel
theorem dX9_makeAnew_3 : decode cX9_makeAnew 3 = .ok (.bipush 55, 2) := by decide +kernel
theorem dX9_makeAnew_5 : decode cX9_makeAnew 5 = .ok (.if_icmp .ge 18, 3) := by decide +kernel
theorem dX9_makeAnew_8 : decode cX9_makeAnew 8 = .ok (.aload_n 0, 1) := by decide +kernel
theorem dX9_makeAnew_9 : decode cX9_makeAnew 9 = .ok (.getfield 7, 3) := by decide +kernel
theorem dX9_makeAnew_12 : decode cX9_makeAnew 12 = .ok (.iload_n 1, 1) := by decide +kernel
theorem dX9_makeAnew_13 : decode cX9_makeAnew 13 = .ok (.iload_n 2, 1) := by decide +kernel
theorem dX9_makeAnew_14 : decode cX9_makeAnew 14 = .ok (.iadd, 1) := by decide +kernel
theorem dX9_makeAnew_15 : decode cX9_makeAnew 15 = .ok (.iconst 0, 1) := by decide +kernel
theorem dX9_makeAnew_16 : decode cX9_makeAnew 16 = .ok (.iastore, 1) := by decide +kernel
theorem dX9_makeAnew_17 : decode cX9_makeAnew 17 = .ok (.iinc 2 1, 3) := by decide +kernel
theorem dX9_makeAnew_20 : decode cX9_makeAnew 20 = .ok (.goto (-18), 3) := by decide +kernel
theorem dX9_makeAnew_23 : decode cX9_makeAnew 23 = .ok (.aload_n 0, 1) := by decide +kernel
theorem dX9_makeAnew_24 : decode cX9_makeAnew 24 = .ok (.getfield 7, 3) := by decide +kernel
theorem dX9_makeAnew_27 : decode cX9_makeAnew 27 = .ok (.iload_n 1, 1) := by decide +kernel
theorem dX9_makeAnew_28 : decode cX9_makeAnew 28 = .ok (.iconst 0, 1) := by decide +kernel
theorem dX9_makeAnew_29 : decode cX9_makeAnew 29 = .ok (.iadd, 1) := by decide +kernel
theorem dX9_makeAnew_30 : decode cX9_makeAnew 30 = .ok (.iconst 4, 1) := by decide +kernel
theorem dX9_makeAnew_31 : decode cX9_makeAnew 31 = .ok (.iastore, 1) := by decide +kernel
theorem dX9_makeAnew_32 : decode cX9_makeAnew 32 = .ok (.return_, 1) := by decide +kernel
theorem dX9_layStep_0 : decode cX9_layStep 0 = .ok (.aload_n 0, 1) := by decide +kernel
theorem dX9_layStep_1 : decode cX9_layStep 1 = .ok (.getfield 7, 3) := by decide +kernel
theorem dX9_layStep_4 : decode cX9_layStep 4 = .ok (.iload_n 1, 1) := by decide +kernel
theorem dX9_layStep_5 : decode cX9_layStep 5 = .ok (.iconst 4, 1) := by decide +kernel
theorem dX9_layStep_6 : decode cX9_layStep 6 = .ok (.iadd, 1) := by decide +kernel
theorem dX9_layStep_7 : decode cX9_layStep 7 = .ok (.iaload, 1) := by decide +kernel
theorem dX9_layStep_8 : decode cX9_layStep 8 = .ok (.istore 5, 2) := by decide +kernel
theorem dX9_layStep_10 : decode cX9_layStep 10 = .ok (.aload_n 0, 1) := by decide +kernel
theorem dX9_layStep_11 : decode cX9_layStep 11 = .ok (.getfield 7, 3) := by decide +kernel
theorem dX9_layStep_14 : decode cX9_layStep 14 = .ok (.iload_n 1, 1) := by decide +kernel
theorem dX9_layStep_15 : decode cX9_layStep 15 = .ok (.iconst 5, 1) := by decide +kernel
theorem dX9_layStep_16 : decode cX9_layStep 16 = .ok (.iadd, 1) := by decide +kernel
theorem dX9_layStep_17 : decode cX9_layStep 17 = .ok (.iload 5, 2) := by decide +kernel
theorem dX9_layStep_19 : decode cX9_layStep 19 = .ok (.iadd, 1) := by decide +kernel
theorem dX9_layStep_20 : decode cX9_layStep 20 = .ok (.iload_n 2, 1) := by decide +kernel
theorem dX9_layStep_21 : decode cX9_layStep 21 = .ok (.iastore, 1) := by decide +kernel
theorem dX9_layStep_22 : decode cX9_layStep 22 = .ok (.aload_n 0, 1) := by decide +kernel
theorem dX9_layStep_23 : decode cX9_layStep 23 = .ok (.getfield 7, 3) := by decide +kernel
theorem dX9_layStep_26 : decode cX9_layStep 26 = .ok (.iload_n 1, 1) := by decide +kernel
theorem dX9_layStep_27 : decode cX9_layStep 27 = .ok (.bipush 15, 2) := by decide +kernel
theorem dX9_layStep_29 : decode cX9_layStep 29 = .ok (.iadd, 1) := by decide +kernel
theorem dX9_layStep_30 : decode cX9_layStep 30 = .ok (.iload 5, 2) := by decide +kernel
theorem dX9_layStep_32 : decode cX9_layStep 32 = .ok (.iadd, 1) := by decide +kernel
theorem dX9_layStep_33 : decode cX9_layStep 33 = .ok (.iload_n 3, 1) := by decide +kernel
theorem dX9_layStep_34 : decode cX9_layStep 34 = .ok (.iastore, 1) := by decide +kernel
theorem dX9_layStep_35 : decode cX9_layStep 35 = .ok (.aload_n 0, 1) := by decide +kernel
theorem dX9_layStep_36 : decode cX9_layStep 36 = .ok (.getfield 7, 3) := by decide +kernel
theorem dX9_layStep_39 : decode cX9_layStep 39 = .ok (.iload_n 1, 1) := by decide +kernel
theorem dX9_layStep_40 : decode cX9_layStep 40 = .ok (.bipush 25, 2) := by decide +kernel
theorem dX9_layStep_42 : decode cX9_layStep 42 = .ok (.iadd, 1) := by decide +kernel
theorem dX9_layStep_43 : decode cX9_layStep 43 = .ok (.iload 5, 2) := by decide +kernel
theorem dX9_layStep_45 : decode cX9_layStep 45 = .ok (.iadd, 1) := by decide +kernel
theorem dX9_layStep_46 : decode cX9_layStep 46 = .ok (.iload 4, 2) := by decide +kernel
theorem dX9_layStep_48 : decode cX9_layStep 48 = .ok (.iastore, 1) := by decide +kernel
theorem dX9_layStep_49 : decode cX9_layStep 49 = .ok (.aload_n 0, 1) := by decide +kernel
theorem dX9_layStep_50 : decode cX9_layStep 50 = .ok (.getfield 7, 3) := by decide +kernel
theorem dX9_layStep_53 : decode cX9_layStep 53 = .ok (.iload_n 1, 1) := by decide +kernel
theorem dX9_layStep_54 : decode cX9_layStep 54 = .ok (.iconst 4, 1) := by decide +kernel
theorem dX9_layStep_55 : decode cX9_layStep 55 = .ok (.iadd, 1) := by decide +kernel
theorem dX9_layStep_56 : decode cX9_layStep 56 = .ok (.dup2, 1) := by decide +kernel
theorem dX9_layStep_57 : decode cX9_layStep 57 = .ok (.iaload, 1) := by decide +kernel
theorem dX9_layStep_58 : decode cX9_layStep 58 = .ok (.iconst 1, 1) := by decide +kernel
theorem dX9_layStep_59 : decode cX9_layStep 59 = .ok (.iadd, 1) := by decide +kernel
theorem dX9_layStep_60 : decode cX9_layStep 60 = .ok (.iastore, 1) := by decide +kernel
theorem dX9_layStep_61 : decode cX9_layStep 61 = .ok (.return_, 1) := by decide +kernel
theorem dX9_settle_0 : decode cX9_settle 0 = .ok (.aload_n 0, 1) := by decide +kernel
theorem dX9_settle_1 : decode cX9_settle 1 = .ok (.getfield 7, 3) := by decide +kernel
theorem dX9_settle_4 : decode cX9_settle 4 = .ok (.iload_n 1, 1) := by decide +kernel
theorem dX9_settle_5 : decode cX9_settle 5 = .ok (.iconst 2, 1) := by decide +kernel
theorem dX9_settle_6 : decode cX9_settle 6 = .ok (.iadd, 1) := by decide +kernel
theorem dX9_settle_7 : decode cX9_settle 7 = .ok (.iconst 1, 1) := by decide +kernel
theorem dX9_settle_8 : decode cX9_settle 8 = .ok (.aload_n 0, 1) := by decide +kernel
theorem dX9_settle_9 : decode cX9_settle 9 = .ok (.getfield 7, 3) := by decide +kernel
theorem dX9_settle_12 : decode cX9_settle 12 = .ok (.iload_n 1, 1) := by decide +kernel
theorem dX9_settle_13 : decode cX9_settle 13 = .ok (.iconst 0, 1) := by decide +kernel
theorem dX9_settle_14 : decode cX9_settle 14 = .ok (.iadd, 1) := by decide +kernel
theorem dX9_settle_15 : decode cX9_settle 15 = .ok (.iaload, 1) := by decide +kernel
theorem dX9_settle_16 : decode cX9_settle 16 = .ok (.ishl, 1) := by decide +kernel
theorem dX9_settle_17 : decode cX9_settle 17 = .ok (.iconst 1, 1) := by decide +kernel
theorem dX9_settle_18 : decode cX9_settle 18 = .ok (.isub, 1) := by decide +kernel
theorem dX9_settle_19 : decode cX9_settle 19 = .ok (.iastore, 1) := by decide +kernel
theorem dX9_settle_20 : decode cX9_settle 20 = .ok (.aload_n 0, 1) := by decide +kernel
theorem dX9_settle_21 : decode cX9_settle 21 = .ok (.getfield 7, 3) := by decide +kernel
theorem dX9_settle_24 : decode cX9_settle 24 = .ok (.iload_n 1, 1) := by decide +kernel
theorem dX9_settle_25 : decode cX9_settle 25 = .ok (.iconst 3, 1) := by decide +kernel
theorem dX9_settle_26 : decode cX9_settle 26 = .ok (.iadd, 1) := by decide +kernel
theorem dX9_settle_27 : decode cX9_settle 27 = .ok (.aload_n 0, 1) := by decide +kernel
theorem dX9_settle_28 : decode cX9_settle 28 = .ok (.getfield 7, 3) := by decide +kernel
theorem dX9_settle_31 : decode cX9_settle 31 = .ok (.iload_n 1, 1) := by decide +kernel
theorem dX9_settle_32 : decode cX9_settle 32 = .ok (.iconst 1, 1) := by decide +kernel
theorem dX9_settle_33 : decode cX9_settle 33 = .ok (.iadd, 1) := by decide +kernel
theorem dX9_settle_34 : decode cX9_settle 34 = .ok (.iaload, 1) := by decide +kernel
theorem dX9_settle_35 : decode cX9_settle 35 = .ok (.iastore, 1) := by decide +kernel
theorem dX9_settle_36 : decode cX9_settle 36 = .ok (.return_, 1) := by decide +kernel
theorem dX9_isStone_0 : decode cX9_isStone 0 = .ok (.iload_n 1, 1) := by decide +kernel
theorem dX9_isStone_1 : decode cX9_isStone 1 = .ok (.i2l, 1) := by decide +kernel
theorem dX9_isStone_2 : decode cX9_isStone 2 = .ok (.lconst 0, 1) := by decide +kernel
theorem dX9_isStone_3 : decode cX9_isStone 3 = .ok (.aload_n 0, 1) := by decide +kernel
theorem dX9_isStone_4 : decode cX9_isStone 4 = .ok (.getfield 7, 3) := by decide +kernel
theorem dX9_isStone_7 : decode cX9_isStone 7 = .ok (.iconst 0, 1) := by decide +kernel
theorem dX9_isStone_8 : decode cX9_isStone 8 = .ok (.iaload, 1) := by decide +kernel
theorem dX9_isStone_9 : decode cX9_isStone 9 = .ok (.iconst 1, 1) := by decide +kernel
theorem dX9_isStone_10 : decode cX9_isStone 10 = .ok (.isub, 1) := by decide +kernel
theorem dX9_isStone_11 : decode cX9_isStone 11 = .ok (.i2l, 1) := by decide +kernel
theorem dX9_isStone_12 : decode cX9_isStone 12 = .ok (.invokestatic 43, 3) := by decide +kernel
theorem dX9_isStone_15 : decode cX9_isStone 15 = .ok (.ireturn, 1) := by decide +kernel
theorem dX9_isSet_0 : decode cX9_isSet 0 = .ok (.iload_n 1, 1) := by decide +kernel
theorem dX9_isSet_1 : decode cX9_isSet 1 = .ok (.i2l, 1) := by decide +kernel
theorem dX9_isSet_2 : decode cX9_isSet 2 = .ok (.lconst 0, 1) := by decide +kernel
theorem dX9_isSet_3 : decode cX9_isSet 3 = .ok (.iconst 1, 1) := by decide +kernel
theorem dX9_isSet_4 : decode cX9_isSet 4 = .ok (.aload_n 0, 1) := by decide +kernel
theorem dX9_isSet_5 : decode cX9_isSet 5 = .ok (.getfield 7, 3) := by decide +kernel
theorem dX9_isSet_8 : decode cX9_isSet 8 = .ok (.iconst 0, 1) := by decide +kernel
theorem dX9_isSet_9 : decode cX9_isSet 9 = .ok (.iaload, 1) := by decide +kernel
theorem dX9_isSet_10 : decode cX9_isSet 10 = .ok (.ishl, 1) := by decide +kernel
theorem dX9_isSet_11 : decode cX9_isSet 11 = .ok (.iconst 1, 1) := by decide +kernel
theorem dX9_isSet_12 : decode cX9_isSet 12 = .ok (.isub, 1) := by decide +kernel
theorem dX9_isSet_13 : decode cX9_isSet 13 = .ok (.i2l, 1) := by decide +kernel
theorem dX9_isSet_14 : decode cX9_isSet 14 = .ok (.invokestatic 43, 3) := by decide +kernel
theorem dX9_isSet_17 : decode cX9_isSet 17 = .ok (.ireturn, 1) := by decide +kernel
theorem dX9_isStep_0 : decode cX9_isStep 0 = .ok (.iload_n 1, 1) := by decide +kernel
theorem dX9_isStep_1 : decode cX9_isStep 1 = .ok (.i2l, 1) := by decide +kernel
theorem dX9_isStep_2 : decode cX9_isStep 2 = .ok (.lconst 0, 1) := by decide +kernel
theorem dX9_isStep_3 : decode cX9_isStep 3 = .ok (.aload_n 0, 1) := by decide +kernel
theorem dX9_isStep_4 : decode cX9_isStep 4 = .ok (.getfield 7, 3) := by decide +kernel
theorem dX9_isStep_7 : decode cX9_isStep 7 = .ok (.iconst 4, 1) := by decide +kernel
theorem dX9_isStep_8 : decode cX9_isStep 8 = .ok (.iaload, 1) := by decide +kernel
theorem dX9_isStep_9 : decode cX9_isStep 9 = .ok (.iconst 1, 1) := by decide +kernel
theorem dX9_isStep_10 : decode cX9_isStep 10 = .ok (.isub, 1) := by decide +kernel
theorem dX9_isStep_11 : decode cX9_isStep 11 = .ok (.i2l, 1) := by decide +kernel
theorem dX9_isStep_12 : decode cX9_isStep 12 = .ok (.invokestatic 43, 3) := by decide +kernel
theorem dX9_isStep_15 : decode cX9_isStep 15 = .ok (.ireturn, 1) := by decide +kernel
theorem dX9_write_0 : decode cX9_write 0 = .ok (.iload_n 1, 1) := by decide +kernel
theorem dX9_write_1 : decode cX9_write 1 = .ok (.i2l, 1) := by decide +kernel
theorem dX9_write_2 : decode cX9_write 2 = .ok (.lconst 1, 1) := by decide +kernel
theorem dX9_write_3 : decode cX9_write 3 = .ok (.ldc2_w 47, 3) := by decide +kernel
theorem dX9_write_6 : decode cX9_write 6 = .ok (.invokestatic 43, 3) := by decide +kernel
theorem dX9_write_9 : decode cX9_write 9 = .ok (.ifCond .ne 5, 3) := by decide +kernel
theorem dX9_write_12 : decode cX9_write 12 = .ok (.iconst (-1), 1) := by decide +kernel
theorem dX9_write_13 : decode cX9_write 13 = .ok (.ireturn, 1) := by decide +kernel
theorem dX9_write_14 : decode cX9_write 14 = .ok (.aload_n 0, 1) := by decide +kernel
theorem dX9_write_15 : decode cX9_write 15 = .ok (.getfield 49, 3) := by decide +kernel
theorem dX9_write_18 : decode cX9_write 18 = .ok (.iload_n 1, 1) := by decide +kernel
theorem dX9_write_19 : decode cX9_write 19 = .ok (.iadd, 1) := by decide +kernel
theorem dX9_write_20 : decode cX9_write 20 = .ok (.sipush 300, 3) := by decide +kernel
theorem dX9_write_23 : decode cX9_write 23 = .ok (.if_icmp .le 6, 3) := by decide +kernel
theorem dX9_write_26 : decode cX9_write 26 = .ok (.bipush (-3), 2) := by decide +kernel
theorem dX9_write_28 : decode cX9_write 28 = .ok (.ireturn, 1) := by decide +kernel
theorem dX9_write_29 : decode cX9_write 29 = .ok (.iload_n 1, 1) := by decide +kernel
theorem dX9_write_30 : decode cX9_write 30 = .ok (.iconst 1, 1) := by decide +kernel
theorem dX9_write_31 : decode cX9_write 31 = .ok (.isub, 1) := by decide +kernel
theorem dX9_write_32 : decode cX9_write 32 = .ok (.istore 4, 2) := by decide +kernel
theorem dX9_write_34 : decode cX9_write 34 = .ok (.iload 4, 2) := by decide +kernel
theorem dX9_write_36 : decode cX9_write 36 = .ok (.ifCond .lt 40, 3) := by decide +kernel
theorem dX9_write_39 : decode cX9_write 39 = .ok (.aload_n 0, 1) := by decide +kernel
theorem dX9_write_40 : decode cX9_write 40 = .ok (.getfield 13, 3) := by decide +kernel
theorem dX9_write_43 : decode cX9_write 43 = .ok (.aload_n 0, 1) := by decide +kernel
theorem dX9_write_44 : decode cX9_write 44 = .ok (.getfield 49, 3) := by decide +kernel
theorem dX9_write_47 : decode cX9_write 47 = .ok (.lload_n 2, 1) := by decide +kernel
theorem dX9_write_48 : decode cX9_write 48 = .ok (.bipush 8, 2) := by decide +kernel
theorem dX9_write_50 : decode cX9_write 50 = .ok (.iload 4, 2) := by decide +kernel
theorem dX9_write_52 : decode cX9_write 52 = .ok (.imul, 1) := by decide +kernel
theorem dX9_write_53 : decode cX9_write 53 = .ok (.lshr, 1) := by decide +kernel
theorem dX9_write_54 : decode cX9_write 54 = .ok (.ldc2_w 53, 3) := by decide +kernel
theorem dX9_write_57 : decode cX9_write 57 = .ok (.land, 1) := by decide +kernel
theorem dX9_write_58 : decode cX9_write 58 = .ok (.l2i, 1) := by decide +kernel
theorem dX9_write_59 : decode cX9_write 59 = .ok (.iastore, 1) := by decide +kernel
theorem dX9_write_60 : decode cX9_write 60 = .ok (.aload_n 0, 1) := by decide +kernel
theorem dX9_write_61 : decode cX9_write 61 = .ok (.dup, 1) := by decide +kernel
theorem dX9_write_62 : decode cX9_write 62 = .ok (.getfield 49, 3) := by decide +kernel
theorem dX9_write_65 : decode cX9_write 65 = .ok (.iconst 1, 1) := by decide +kernel
theorem dX9_write_66 : decode cX9_write 66 = .ok (.iadd, 1) := by decide +kernel
theorem dX9_write_67 : decode cX9_write 67 = .ok (.putfield 49, 3) := by decide +kernel
theorem dX9_write_70 : decode cX9_write 70 = .ok (.iinc 4 (-1), 3) := by decide +kernel
theorem dX9_write_73 : decode cX9_write 73 = .ok (.goto (-39), 3) := by decide +kernel
theorem dX9_write_76 : decode cX9_write 76 = .ok (.aload_n 0, 1) := by decide +kernel
theorem dX9_write_77 : decode cX9_write 77 = .ok (.getfield 49, 3) := by decide +kernel
theorem dX9_write_80 : decode cX9_write 80 = .ok (.ireturn, 1) := by decide +kernel
theorem dX9_wipe_0 : decode cX9_wipe 0 = .ok (.aload_n 0, 1) := by decide +kernel
theorem dX9_wipe_1 : decode cX9_wipe 1 = .ok (.getfield 49, 3) := by decide +kernel
theorem dX9_wipe_4 : decode cX9_wipe 4 = .ok (.istore_n 1, 1) := by decide +kernel
theorem dX9_wipe_5 : decode cX9_wipe 5 = .ok (.aload_n 0, 1) := by decide +kernel
theorem dX9_wipe_6 : decode cX9_wipe 6 = .ok (.iconst 0, 1) := by decide +kernel
theorem dX9_wipe_7 : decode cX9_wipe 7 = .ok (.putfield 49, 3) := by decide +kernel
theorem dX9_wipe_10 : decode cX9_wipe 10 = .ok (.iload_n 1, 1) := by decide +kernel
theorem dX9_wipe_11 : decode cX9_wipe 11 = .ok (.ireturn, 1) := by decide +kernel
theorem dX9_takes_0 : decode cX9_takes 0 = .ok (.iconst 0, 1) := by decide +kernel
theorem dX9_takes_1 : decode cX9_takes 1 = .ok (.istore_n 2, 1) := by decide +kernel
theorem dX9_takes_2 : decode cX9_takes 2 = .ok (.iload_n 2, 1) := by decide +kernel
theorem dX9_takes_3 : decode cX9_takes 3 = .ok (.iload_n 1, 1) := by decide +kernel
theorem dX9_takes_4 : decode cX9_takes 4 = .ok (.if_icmp .ge 168, 3) := by decide +kernel
theorem dX9_takes_7 : decode cX9_takes 7 = .ok (.aload_n 0, 1) := by decide +kernel
theorem dX9_takes_8 : decode cX9_takes 8 = .ok (.getfield 55, 3) := by decide +kernel
theorem dX9_takes_11 : decode cX9_takes 11 = .ok (.istore_n 3, 1) := by decide +kernel
theorem dX9_takes_12 : decode cX9_takes 12 = .ok (.iconst 0, 1) := by decide +kernel
theorem dX9_takes_13 : decode cX9_takes 13 = .ok (.istore 4, 2) := by decide +kernel
theorem dX9_takes_15 : decode cX9_takes 15 = .ok (.aload_n 0, 1) := by decide +kernel
theorem dX9_takes_16 : decode cX9_takes 16 = .ok (.getfield 55, 3) := by decide +kernel
theorem dX9_takes_19 : decode cX9_takes 19 = .ok (.aload_n 0, 1) := by decide +kernel
theorem dX9_takes_20 : decode cX9_takes 20 = .ok (.getfield 49, 3) := by decide +kernel
theorem dX9_takes_23 : decode cX9_takes 23 = .ok (.if_icmp .ge 68, 3) := by decide +kernel
theorem dX9_takes_26 : decode cX9_takes 26 = .ok (.aload_n 0, 1) := by decide +kernel
theorem dX9_takes_27 : decode cX9_takes 27 = .ok (.getfield 55, 3) := by decide +kernel
theorem dX9_takes_30 : decode cX9_takes 30 = .ok (.iload_n 3, 1) := by decide +kernel
theorem dX9_takes_31 : decode cX9_takes 31 = .ok (.isub, 1) := by decide +kernel
theorem dX9_takes_32 : decode cX9_takes 32 = .ok (.iconst 3, 1) := by decide +kernel
theorem dX9_takes_33 : decode cX9_takes 33 = .ok (.if_icmp .ge 58, 3) := by decide +kernel
theorem dX9_takes_36 : decode cX9_takes 36 = .ok (.aload_n 0, 1) := by decide +kernel
theorem dX9_takes_37 : decode cX9_takes 37 = .ok (.getfield 13, 3) := by decide +kernel
theorem dX9_takes_40 : decode cX9_takes 40 = .ok (.aload_n 0, 1) := by decide +kernel
theorem dX9_takes_41 : decode cX9_takes 41 = .ok (.getfield 55, 3) := by decide +kernel
theorem dX9_takes_44 : decode cX9_takes 44 = .ok (.iaload, 1) := by decide +kernel
theorem dX9_takes_45 : decode cX9_takes 45 = .ok (.i2l, 1) := by decide +kernel
theorem dX9_takes_46 : decode cX9_takes 46 = .ok (.ldc2_w 58, 3) := by decide +kernel
theorem dX9_takes_49 : decode cX9_takes 49 = .ok (.ldc2_w 60, 3) := by decide +kernel
theorem dX9_takes_52 : decode cX9_takes 52 = .ok (.invokestatic 43, 3) := by decide +kernel
theorem dX9_takes_55 : decode cX9_takes 55 = .ok (.ifCond .eq 36, 3) := by decide +kernel
theorem dX9_takes_58 : decode cX9_takes 58 = .ok (.bipush 10, 2) := by decide +kernel
theorem dX9_takes_60 : decode cX9_takes 60 = .ok (.iload 4, 2) := by decide +kernel
theorem dX9_takes_62 : decode cX9_takes 62 = .ok (.imul, 1) := by decide +kernel
theorem dX9_takes_63 : decode cX9_takes 63 = .ok (.aload_n 0, 1) := by decide +kernel
theorem dX9_takes_64 : decode cX9_takes 64 = .ok (.getfield 13, 3) := by decide +kernel
theorem dX9_takes_67 : decode cX9_takes 67 = .ok (.aload_n 0, 1) := by decide +kernel
theorem dX9_takes_68 : decode cX9_takes 68 = .ok (.getfield 55, 3) := by decide +kernel
theorem dX9_takes_71 : decode cX9_takes 71 = .ok (.iaload, 1) := by decide +kernel
theorem dX9_takes_72 : decode cX9_takes 72 = .ok (.iadd, 1) := by decide +kernel
theorem dX9_takes_73 : decode cX9_takes 73 = .ok (.bipush 48, 2) := by decide +kernel
theorem dX9_takes_75 : decode cX9_takes 75 = .ok (.isub, 1) := by decide +kernel
theorem dX9_takes_76 : decode cX9_takes 76 = .ok (.istore 4, 2) := by decide +kernel
theorem dX9_takes_78 : decode cX9_takes 78 = .ok (.aload_n 0, 1) := by decide +kernel
theorem dX9_takes_79 : decode cX9_takes 79 = .ok (.dup, 1) := by decide +kernel
theorem dX9_takes_80 : decode cX9_takes 80 = .ok (.getfield 55, 3) := by decide +kernel
theorem dX9_takes_83 : decode cX9_takes 83 = .ok (.iconst 1, 1) := by decide +kernel
theorem dX9_takes_84 : decode cX9_takes 84 = .ok (.iadd, 1) := by decide +kernel
theorem dX9_takes_85 : decode cX9_takes 85 = .ok (.putfield 55, 3) := by decide +kernel
theorem dX9_takes_88 : decode cX9_takes 88 = .ok (.goto (-73), 3) := by decide +kernel
theorem dX9_takes_91 : decode cX9_takes 91 = .ok (.aload_n 0, 1) := by decide +kernel
theorem dX9_takes_92 : decode cX9_takes 92 = .ok (.getfield 55, 3) := by decide +kernel
theorem dX9_takes_95 : decode cX9_takes 95 = .ok (.iload_n 3, 1) := by decide +kernel
theorem dX9_takes_96 : decode cX9_takes 96 = .ok (.if_icmp .eq 50, 3) := by decide +kernel
theorem dX9_takes_99 : decode cX9_takes 99 = .ok (.aload_n 0, 1) := by decide +kernel
theorem dX9_takes_100 : decode cX9_takes 100 = .ok (.getfield 55, 3) := by decide +kernel
theorem dX9_takes_103 : decode cX9_takes 103 = .ok (.iload_n 3, 1) := by decide +kernel
theorem dX9_takes_104 : decode cX9_takes 104 = .ok (.isub, 1) := by decide +kernel
theorem dX9_takes_105 : decode cX9_takes 105 = .ok (.iconst 2, 1) := by decide +kernel
theorem dX9_takes_106 : decode cX9_takes 106 = .ok (.if_icmp .gt 40, 3) := by decide +kernel
theorem dX9_takes_109 : decode cX9_takes 109 = .ok (.aload_n 0, 1) := by decide +kernel
theorem dX9_takes_110 : decode cX9_takes 110 = .ok (.getfield 55, 3) := by decide +kernel
theorem dX9_takes_113 : decode cX9_takes 113 = .ok (.aload_n 0, 1) := by decide +kernel
theorem dX9_takes_114 : decode cX9_takes 114 = .ok (.getfield 49, 3) := by decide +kernel
theorem dX9_takes_117 : decode cX9_takes 117 = .ok (.if_icmp .eq 29, 3) := by decide +kernel
theorem dX9_takes_120 : decode cX9_takes 120 = .ok (.aload_n 0, 1) := by decide +kernel
theorem dX9_takes_121 : decode cX9_takes 121 = .ok (.getfield 13, 3) := by decide +kernel
theorem dX9_takes_124 : decode cX9_takes 124 = .ok (.aload_n 0, 1) := by decide +kernel
theorem dX9_takes_125 : decode cX9_takes 125 = .ok (.getfield 55, 3) := by decide +kernel
theorem dX9_takes_128 : decode cX9_takes 128 = .ok (.iaload, 1) := by decide +kernel
theorem dX9_takes_129 : decode cX9_takes 129 = .ok (.iload_n 2, 1) := by decide +kernel
theorem dX9_takes_130 : decode cX9_takes 130 = .ok (.iload_n 1, 1) := by decide +kernel
theorem dX9_takes_131 : decode cX9_takes 131 = .ok (.iconst 1, 1) := by decide +kernel
theorem dX9_takes_132 : decode cX9_takes 132 = .ok (.isub, 1) := by decide +kernel
theorem dX9_takes_133 : decode cX9_takes 133 = .ok (.if_icmp .ne 8, 3) := by decide +kernel
theorem dX9_takes_136 : decode cX9_takes 136 = .ok (.bipush 59, 2) := by decide +kernel
theorem dX9_takes_138 : decode cX9_takes 138 = .ok (.goto 5, 3) := by decide +kernel
theorem dX9_takes_141 : decode cX9_takes 141 = .ok (.bipush 44, 2) := by decide +kernel
theorem dX9_takes_143 : decode cX9_takes 143 = .ok (.if_icmp .eq 5, 3) := by decide +kernel
theorem dX9_takes_146 : decode cX9_takes 146 = .ok (.iconst 0, 1) := by decide +kernel
theorem dX9_takes_147 : decode cX9_takes 147 = .ok (.ireturn, 1) := by decide +kernel
theorem dX9_takes_148 : decode cX9_takes 148 = .ok (.aload_n 0, 1) := by decide +kernel
theorem dX9_takes_149 : decode cX9_takes 149 = .ok (.getfield 19, 3) := by decide +kernel
theorem dX9_takes_152 : decode cX9_takes 152 = .ok (.iload_n 2, 1) := by decide +kernel
theorem dX9_takes_153 : decode cX9_takes 153 = .ok (.iload 4, 2) := by decide +kernel
theorem dX9_takes_155 : decode cX9_takes 155 = .ok (.iastore, 1) := by decide +kernel
theorem dX9_takes_156 : decode cX9_takes 156 = .ok (.aload_n 0, 1) := by decide +kernel
theorem dX9_takes_157 : decode cX9_takes 157 = .ok (.dup, 1) := by decide +kernel
theorem dX9_takes_158 : decode cX9_takes 158 = .ok (.getfield 55, 3) := by decide +kernel
theorem dX9_takes_161 : decode cX9_takes 161 = .ok (.iconst 1, 1) := by decide +kernel
theorem dX9_takes_162 : decode cX9_takes 162 = .ok (.iadd, 1) := by decide +kernel
theorem dX9_takes_163 : decode cX9_takes 163 = .ok (.putfield 55, 3) := by decide +kernel
theorem dX9_takes_166 : decode cX9_takes 166 = .ok (.iinc 2 1, 3) := by decide +kernel
theorem dX9_takes_169 : decode cX9_takes 169 = .ok (.goto (-167), 3) := by decide +kernel
theorem dX9_takes_172 : decode cX9_takes 172 = .ok (.iconst 1, 1) := by decide +kernel
theorem dX9_takes_173 : decode cX9_takes 173 = .ok (.ireturn, 1) := by decide +kernel
theorem dX9_isRead_0 : decode cX9_isRead 0 = .ok (.iload_n 1, 1) := by decide +kernel
theorem dX9_isRead_1 : decode cX9_isRead 1 = .ok (.aload_n 0, 1) := by decide +kernel
theorem dX9_isRead_2 : decode cX9_isRead 2 = .ok (.getfield 7, 3) := by decide +kernel
theorem dX9_isRead_5 : decode cX9_isRead 5 = .ok (.sipush 605, 3) := by decide +kernel
theorem dX9_isRead_8 : decode cX9_isRead 8 = .ok (.iaload, 1) := by decide +kernel
theorem dX9_isRead_9 : decode cX9_isRead 9 = .ok (.if_icmp .ge 7, 3) := by decide +kernel
theorem dX9_isRead_12 : decode cX9_isRead 12 = .ok (.iconst 1, 1) := by decide +kernel
theorem dX9_isRead_13 : decode cX9_isRead 13 = .ok (.goto 4, 3) := by decide +kernel
theorem dX9_isRead_16 : decode cX9_isRead 16 = .ok (.iconst 0, 1) := by decide +kernel
theorem dX9_isRead_17 : decode cX9_isRead 17 = .ok (.ireturn, 1) := by decide +kernel
theorem dX9_readStep_0 : decode cX9_readStep 0 = .ok (.aload_n 0, 1) := by decide +kernel
theorem dX9_readStep_1 : decode cX9_readStep 1 = .ok (.iconst 3, 1) := by decide +kernel
theorem dX9_readStep_2 : decode cX9_readStep 2 = .ok (.invokevirtual 62, 3) := by decide +kernel
theorem dX9_readStep_5 : decode cX9_readStep 5 = .ok (.ifCond .eq 89, 3) := by decide +kernel
theorem dX9_readStep_8 : decode cX9_readStep 8 = .ok (.aload_n 0, 1) := by decide +kernel
theorem dX9_readStep_9 : decode cX9_readStep 9 = .ok (.aload_n 0, 1) := by decide +kernel
theorem dX9_readStep_10 : decode cX9_readStep 10 = .ok (.getfield 19, 3) := by decide +kernel
theorem dX9_readStep_13 : decode cX9_readStep 13 = .ok (.iconst 0, 1) := by decide +kernel
theorem dX9_readStep_14 : decode cX9_readStep 14 = .ok (.iaload, 1) := by decide +kernel
theorem dX9_readStep_15 : decode cX9_readStep 15 = .ok (.invokevirtual 66, 3) := by decide +kernel
theorem dX9_readStep_18 : decode cX9_readStep 18 = .ok (.ifCond .eq 76, 3) := by decide +kernel
theorem dX9_readStep_21 : decode cX9_readStep 21 = .ok (.aload_n 0, 1) := by decide +kernel
theorem dX9_readStep_22 : decode cX9_readStep 22 = .ok (.aload_n 0, 1) := by decide +kernel
theorem dX9_readStep_23 : decode cX9_readStep 23 = .ok (.getfield 19, 3) := by decide +kernel
theorem dX9_readStep_26 : decode cX9_readStep 26 = .ok (.iconst 1, 1) := by decide +kernel
theorem dX9_readStep_27 : decode cX9_readStep 27 = .ok (.iaload, 1) := by decide +kernel
theorem dX9_readStep_28 : decode cX9_readStep 28 = .ok (.invokevirtual 66, 3) := by decide +kernel
theorem dX9_readStep_31 : decode cX9_readStep 31 = .ok (.ifCond .eq 63, 3) := by decide +kernel
theorem dX9_readStep_34 : decode cX9_readStep 34 = .ok (.aload_n 0, 1) := by decide +kernel
theorem dX9_readStep_35 : decode cX9_readStep 35 = .ok (.aload_n 0, 1) := by decide +kernel
theorem dX9_readStep_36 : decode cX9_readStep 36 = .ok (.getfield 19, 3) := by decide +kernel
theorem dX9_readStep_39 : decode cX9_readStep 39 = .ok (.iconst 2, 1) := by decide +kernel
theorem dX9_readStep_40 : decode cX9_readStep 40 = .ok (.iaload, 1) := by decide +kernel
theorem dX9_readStep_41 : decode cX9_readStep 41 = .ok (.invokevirtual 66, 3) := by decide +kernel
theorem dX9_readStep_44 : decode cX9_readStep 44 = .ok (.ifCond .eq 50, 3) := by decide +kernel
theorem dX9_readStep_47 : decode cX9_readStep 47 = .ok (.aload_n 0, 1) := by decide +kernel
theorem dX9_readStep_48 : decode cX9_readStep 48 = .ok (.getfield 19, 3) := by decide +kernel
theorem dX9_readStep_51 : decode cX9_readStep 51 = .ok (.iconst 2, 1) := by decide +kernel
theorem dX9_readStep_52 : decode cX9_readStep 52 = .ok (.iaload, 1) := by decide +kernel
theorem dX9_readStep_53 : decode cX9_readStep 53 = .ok (.aload_n 0, 1) := by decide +kernel
theorem dX9_readStep_54 : decode cX9_readStep 54 = .ok (.getfield 19, 3) := by decide +kernel
theorem dX9_readStep_57 : decode cX9_readStep 57 = .ok (.iconst 0, 1) := by decide +kernel
theorem dX9_readStep_58 : decode cX9_readStep 58 = .ok (.iaload, 1) := by decide +kernel
theorem dX9_readStep_59 : decode cX9_readStep 59 = .ok (.if_icmp .eq 35, 3) := by decide +kernel
theorem dX9_readStep_62 : decode cX9_readStep 62 = .ok (.aload_n 0, 1) := by decide +kernel
theorem dX9_readStep_63 : decode cX9_readStep 63 = .ok (.getfield 19, 3) := by decide +kernel
theorem dX9_readStep_66 : decode cX9_readStep 66 = .ok (.iconst 2, 1) := by decide +kernel
theorem dX9_readStep_67 : decode cX9_readStep 67 = .ok (.iaload, 1) := by decide +kernel
theorem dX9_readStep_68 : decode cX9_readStep 68 = .ok (.aload_n 0, 1) := by decide +kernel
theorem dX9_readStep_69 : decode cX9_readStep 69 = .ok (.getfield 19, 3) := by decide +kernel
theorem dX9_readStep_72 : decode cX9_readStep 72 = .ok (.iconst 1, 1) := by decide +kernel
theorem dX9_readStep_73 : decode cX9_readStep 73 = .ok (.iaload, 1) := by decide +kernel
theorem dX9_readStep_74 : decode cX9_readStep 74 = .ok (.if_icmp .eq 20, 3) := by decide +kernel
theorem dX9_readStep_77 : decode cX9_readStep 77 = .ok (.aload_n 0, 1) := by decide +kernel
theorem dX9_readStep_78 : decode cX9_readStep 78 = .ok (.getfield 7, 3) := by decide +kernel
theorem dX9_readStep_81 : decode cX9_readStep 81 = .ok (.sipush 609, 3) := by decide +kernel
theorem dX9_readStep_84 : decode cX9_readStep 84 = .ok (.iaload, 1) := by decide +kernel
theorem dX9_readStep_85 : decode cX9_readStep 85 = .ok (.bipush 10, 2) := by decide +kernel
theorem dX9_readStep_87 : decode cX9_readStep 87 = .ok (.if_icmp .ge 7, 3) := by decide +kernel
theorem dX9_readStep_90 : decode cX9_readStep 90 = .ok (.iconst 1, 1) := by decide +kernel
theorem dX9_readStep_91 : decode cX9_readStep 91 = .ok (.goto 4, 3) := by decide +kernel
theorem dX9_readStep_94 : decode cX9_readStep 94 = .ok (.iconst 0, 1) := by decide +kernel
theorem dX9_readStep_95 : decode cX9_readStep 95 = .ok (.istore_n 1, 1) := by decide +kernel
theorem dX9_readStep_96 : decode cX9_readStep 96 = .ok (.iload_n 1, 1) := by decide +kernel
theorem dX9_readStep_97 : decode cX9_readStep 97 = .ok (.ifCond .eq 28, 3) := by decide +kernel
theorem dX9_readStep_100 : decode cX9_readStep 100 = .ok (.aload_n 0, 1) := by decide +kernel
theorem dX9_readStep_101 : decode cX9_readStep 101 = .ok (.sipush 605, 3) := by decide +kernel
theorem dX9_readStep_104 : decode cX9_readStep 104 = .ok (.aload_n 0, 1) := by decide +kernel
theorem dX9_readStep_105 : decode cX9_readStep 105 = .ok (.getfield 19, 3) := by decide +kernel
theorem dX9_readStep_108 : decode cX9_readStep 108 = .ok (.iconst 0, 1) := by decide +kernel
theorem dX9_readStep_109 : decode cX9_readStep 109 = .ok (.iaload, 1) := by decide +kernel
theorem dX9_readStep_110 : decode cX9_readStep 110 = .ok (.aload_n 0, 1) := by decide +kernel
theorem dX9_readStep_111 : decode cX9_readStep 111 = .ok (.getfield 19, 3) := by decide +kernel
theorem dX9_readStep_114 : decode cX9_readStep 114 = .ok (.iconst 1, 1) := by decide +kernel
theorem dX9_readStep_115 : decode cX9_readStep 115 = .ok (.iaload, 1) := by decide +kernel
theorem dX9_readStep_116 : decode cX9_readStep 116 = .ok (.aload_n 0, 1) := by decide +kernel
theorem dX9_readStep_117 : decode cX9_readStep 117 = .ok (.getfield 19, 3) := by decide +kernel
theorem dX9_readStep_120 : decode cX9_readStep 120 = .ok (.iconst 2, 1) := by decide +kernel
theorem dX9_readStep_121 : decode cX9_readStep 121 = .ok (.iaload, 1) := by decide +kernel
theorem dX9_readStep_122 : decode cX9_readStep 122 = .ok (.invokevirtual 36, 3) := by decide +kernel
theorem dX9_readStep_125 : decode cX9_readStep 125 = .ok (.iload_n 1, 1) := by decide +kernel
theorem dX9_readStep_126 : decode cX9_readStep 126 = .ok (.ireturn, 1) := by decide +kernel
theorem dX9_readPair_0 : decode cX9_readPair 0 = .ok (.aload_n 0, 1) := by decide +kernel
theorem dX9_readPair_1 : decode cX9_readPair 1 = .ok (.iconst 2, 1) := by decide +kernel
theorem dX9_readPair_2 : decode cX9_readPair 2 = .ok (.invokevirtual 62, 3) := by decide +kernel
theorem dX9_readPair_5 : decode cX9_readPair 5 = .ok (.ifCond .eq 48, 3) := by decide +kernel
theorem dX9_readPair_8 : decode cX9_readPair 8 = .ok (.aload_n 0, 1) := by decide +kernel
theorem dX9_readPair_9 : decode cX9_readPair 9 = .ok (.aload_n 0, 1) := by decide +kernel
theorem dX9_readPair_10 : decode cX9_readPair 10 = .ok (.getfield 19, 3) := by decide +kernel
theorem dX9_readPair_13 : decode cX9_readPair 13 = .ok (.iconst 0, 1) := by decide +kernel
theorem dX9_readPair_14 : decode cX9_readPair 14 = .ok (.iaload, 1) := by decide +kernel
theorem dX9_readPair_15 : decode cX9_readPair 15 = .ok (.invokevirtual 66, 3) := by decide +kernel
theorem dX9_readPair_18 : decode cX9_readPair 18 = .ok (.ifCond .eq 35, 3) := by decide +kernel
theorem dX9_readPair_21 : decode cX9_readPair 21 = .ok (.aload_n 0, 1) := by decide +kernel
theorem dX9_readPair_22 : decode cX9_readPair 22 = .ok (.aload_n 0, 1) := by decide +kernel
theorem dX9_readPair_23 : decode cX9_readPair 23 = .ok (.getfield 19, 3) := by decide +kernel
theorem dX9_readPair_26 : decode cX9_readPair 26 = .ok (.iconst 1, 1) := by decide +kernel
theorem dX9_readPair_27 : decode cX9_readPair 27 = .ok (.iaload, 1) := by decide +kernel
theorem dX9_readPair_28 : decode cX9_readPair 28 = .ok (.invokevirtual 66, 3) := by decide +kernel
theorem dX9_readPair_31 : decode cX9_readPair 31 = .ok (.ifCond .eq 22, 3) := by decide +kernel
theorem dX9_readPair_34 : decode cX9_readPair 34 = .ok (.aload_n 0, 1) := by decide +kernel
theorem dX9_readPair_35 : decode cX9_readPair 35 = .ok (.getfield 19, 3) := by decide +kernel
theorem dX9_readPair_38 : decode cX9_readPair 38 = .ok (.iconst 0, 1) := by decide +kernel
theorem dX9_readPair_39 : decode cX9_readPair 39 = .ok (.iaload, 1) := by decide +kernel
theorem dX9_readPair_40 : decode cX9_readPair 40 = .ok (.aload_n 0, 1) := by decide +kernel
theorem dX9_readPair_41 : decode cX9_readPair 41 = .ok (.getfield 19, 3) := by decide +kernel
theorem dX9_readPair_44 : decode cX9_readPair 44 = .ok (.iconst 1, 1) := by decide +kernel
theorem dX9_readPair_45 : decode cX9_readPair 45 = .ok (.iaload, 1) := by decide +kernel
theorem dX9_readPair_46 : decode cX9_readPair 46 = .ok (.if_icmp .eq 7, 3) := by decide +kernel
theorem dX9_readPair_49 : decode cX9_readPair 49 = .ok (.iconst 1, 1) := by decide +kernel
theorem dX9_readPair_50 : decode cX9_readPair 50 = .ok (.goto 4, 3) := by decide +kernel
theorem dX9_readPair_53 : decode cX9_readPair 53 = .ok (.iconst 0, 1) := by decide +kernel
theorem dX9_readPair_54 : decode cX9_readPair 54 = .ok (.istore_n 1, 1) := by decide +kernel
theorem dX9_readPair_55 : decode cX9_readPair 55 = .ok (.iload_n 1, 1) := by decide +kernel
theorem dX9_readPair_56 : decode cX9_readPair 56 = .ok (.ifCond .eq 55, 3) := by decide +kernel
theorem dX9_readPair_59 : decode cX9_readPair 59 = .ok (.aload_n 0, 1) := by decide +kernel
theorem dX9_readPair_60 : decode cX9_readPair 60 = .ok (.getfield 7, 3) := by decide +kernel
theorem dX9_readPair_63 : decode cX9_readPair 63 = .ok (.sipush 650, 3) := by decide +kernel
theorem dX9_readPair_66 : decode cX9_readPair 66 = .ok (.aload_n 0, 1) := by decide +kernel
theorem dX9_readPair_67 : decode cX9_readPair 67 = .ok (.getfield 19, 3) := by decide +kernel
theorem dX9_readPair_70 : decode cX9_readPair 70 = .ok (.iconst 0, 1) := by decide +kernel
theorem dX9_readPair_71 : decode cX9_readPair 71 = .ok (.iaload, 1) := by decide +kernel
theorem dX9_readPair_72 : decode cX9_readPair 72 = .ok (.iadd, 1) := by decide +kernel
theorem dX9_readPair_73 : decode cX9_readPair 73 = .ok (.dup2, 1) := by decide +kernel
theorem dX9_readPair_74 : decode cX9_readPair 74 = .ok (.iaload, 1) := by decide +kernel
theorem dX9_readPair_75 : decode cX9_readPair 75 = .ok (.iconst 1, 1) := by decide +kernel
theorem dX9_readPair_76 : decode cX9_readPair 76 = .ok (.aload_n 0, 1) := by decide +kernel
theorem dX9_readPair_77 : decode cX9_readPair 77 = .ok (.getfield 19, 3) := by decide +kernel
theorem dX9_readPair_80 : decode cX9_readPair 80 = .ok (.iconst 1, 1) := by decide +kernel
theorem dX9_readPair_81 : decode cX9_readPair 81 = .ok (.iaload, 1) := by decide +kernel
theorem dX9_readPair_82 : decode cX9_readPair 82 = .ok (.ishl, 1) := by decide +kernel
theorem dX9_readPair_83 : decode cX9_readPair 83 = .ok (.ior, 1) := by decide +kernel
theorem dX9_readPair_84 : decode cX9_readPair 84 = .ok (.iastore, 1) := by decide +kernel
theorem dX9_readPair_85 : decode cX9_readPair 85 = .ok (.aload_n 0, 1) := by decide +kernel
theorem dX9_readPair_86 : decode cX9_readPair 86 = .ok (.getfield 7, 3) := by decide +kernel
theorem dX9_readPair_89 : decode cX9_readPair 89 = .ok (.sipush 650, 3) := by decide +kernel
theorem dX9_readPair_92 : decode cX9_readPair 92 = .ok (.aload_n 0, 1) := by decide +kernel
theorem dX9_readPair_93 : decode cX9_readPair 93 = .ok (.getfield 19, 3) := by decide +kernel
theorem dX9_readPair_96 : decode cX9_readPair 96 = .ok (.iconst 1, 1) := by decide +kernel
theorem dX9_readPair_97 : decode cX9_readPair 97 = .ok (.iaload, 1) := by decide +kernel
theorem dX9_readPair_98 : decode cX9_readPair 98 = .ok (.iadd, 1) := by decide +kernel
theorem dX9_readPair_99 : decode cX9_readPair 99 = .ok (.dup2, 1) := by decide +kernel
theorem dX9_readPair_100 : decode cX9_readPair 100 = .ok (.iaload, 1) := by decide +kernel
theorem dX9_readPair_101 : decode cX9_readPair 101 = .ok (.iconst 1, 1) := by decide +kernel
theorem dX9_readPair_102 : decode cX9_readPair 102 = .ok (.aload_n 0, 1) := by decide +kernel
theorem dX9_readPair_103 : decode cX9_readPair 103 = .ok (.getfield 19, 3) := by decide +kernel
theorem dX9_readPair_106 : decode cX9_readPair 106 = .ok (.iconst 0, 1) := by decide +kernel
theorem dX9_readPair_107 : decode cX9_readPair 107 = .ok (.iaload, 1) := by decide +kernel
theorem dX9_readPair_108 : decode cX9_readPair 108 = .ok (.ishl, 1) := by decide +kernel
theorem dX9_readPair_109 : decode cX9_readPair 109 = .ok (.ior, 1) := by decide +kernel
theorem dX9_readPair_110 : decode cX9_readPair 110 = .ok (.iastore, 1) := by decide +kernel
theorem dX9_readPair_111 : decode cX9_readPair 111 = .ok (.iload_n 1, 1) := by decide +kernel
theorem dX9_readPair_112 : decode cX9_readPair 112 = .ok (.ireturn, 1) := by decide +kernel
theorem dX9_readItem_0 : decode cX9_readItem 0 = .ok (.aload_n 0, 1) := by decide +kernel
theorem dX9_readItem_1 : decode cX9_readItem 1 = .ok (.getfield 13, 3) := by decide +kernel
theorem dX9_readItem_4 : decode cX9_readItem 4 = .ok (.aload_n 0, 1) := by decide +kernel
theorem dX9_readItem_5 : decode cX9_readItem 5 = .ok (.getfield 55, 3) := by decide +kernel
theorem dX9_readItem_8 : decode cX9_readItem 8 = .ok (.iaload, 1) := by decide +kernel
theorem dX9_readItem_9 : decode cX9_readItem 9 = .ok (.istore_n 1, 1) := by decide +kernel
theorem dX9_readItem_10 : decode cX9_readItem 10 = .ok (.aload_n 0, 1) := by decide +kernel
theorem dX9_readItem_11 : decode cX9_readItem 11 = .ok (.dup, 1) := by decide +kernel
theorem dX9_readItem_12 : decode cX9_readItem 12 = .ok (.getfield 55, 3) := by decide +kernel
theorem dX9_readItem_15 : decode cX9_readItem 15 = .ok (.iconst 1, 1) := by decide +kernel
theorem dX9_readItem_16 : decode cX9_readItem 16 = .ok (.iadd, 1) := by decide +kernel
theorem dX9_readItem_17 : decode cX9_readItem 17 = .ok (.putfield 55, 3) := by decide +kernel
theorem dX9_readItem_20 : decode cX9_readItem 20 = .ok (.iconst 0, 1) := by decide +kernel
theorem dX9_readItem_21 : decode cX9_readItem 21 = .ok (.istore_n 2, 1) := by decide +kernel
theorem dX9_readItem_22 : decode cX9_readItem 22 = .ok (.iload_n 1, 1) := by decide +kernel
theorem dX9_readItem_23 : decode cX9_readItem 23 = .ok (.lookupswitch 266 #[(97, 119), (110, 49), (116, 176), (119, 192), (120, 184)], 49) := by decide +kernel
theorem dX9_readItem_72 : decode cX9_readItem 72 = .ok (.aload_n 0, 1) := by decide +kernel
theorem dX9_readItem_73 : decode cX9_readItem 73 = .ok (.getfield 69, 3) := by decide +kernel
theorem dX9_readItem_76 : decode cX9_readItem 76 = .ok (.ifCond .ne 32, 3) := by decide +kernel
theorem dX9_readItem_79 : decode cX9_readItem 79 = .ok (.aload_n 0, 1) := by decide +kernel
theorem dX9_readItem_80 : decode cX9_readItem 80 = .ok (.iconst 1, 1) := by decide +kernel
theorem dX9_readItem_81 : decode cX9_readItem 81 = .ok (.invokevirtual 62, 3) := by decide +kernel
theorem dX9_readItem_84 : decode cX9_readItem 84 = .ok (.ifCond .eq 24, 3) := by decide +kernel
theorem dX9_readItem_87 : decode cX9_readItem 87 = .ok (.aload_n 0, 1) := by decide +kernel
theorem dX9_readItem_88 : decode cX9_readItem 88 = .ok (.getfield 19, 3) := by decide +kernel
theorem dX9_readItem_91 : decode cX9_readItem 91 = .ok (.iconst 0, 1) := by decide +kernel
theorem dX9_readItem_92 : decode cX9_readItem 92 = .ok (.iaload, 1) := by decide +kernel
theorem dX9_readItem_93 : decode cX9_readItem 93 = .ok (.i2l, 1) := by decide +kernel
theorem dX9_readItem_94 : decode cX9_readItem 94 = .ok (.lconst 1, 1) := by decide +kernel
theorem dX9_readItem_95 : decode cX9_readItem 95 = .ok (.ldc2_w 73, 3) := by decide +kernel
theorem dX9_readItem_98 : decode cX9_readItem 98 = .ok (.invokestatic 43, 3) := by decide +kernel
theorem dX9_readItem_101 : decode cX9_readItem 101 = .ok (.ifCond .eq 7, 3) := by decide +kernel
theorem dX9_readItem_104 : decode cX9_readItem 104 = .ok (.iconst 1, 1) := by decide +kernel
theorem dX9_readItem_105 : decode cX9_readItem 105 = .ok (.goto 4, 3) := by decide +kernel
theorem dX9_readItem_108 : decode cX9_readItem 108 = .ok (.iconst 0, 1) := by decide +kernel
theorem dX9_readItem_109 : decode cX9_readItem 109 = .ok (.istore_n 2, 1) := by decide +kernel
theorem dX9_readItem_110 : decode cX9_readItem 110 = .ok (.aload_n 0, 1) := by decide +kernel
theorem dX9_readItem_111 : decode cX9_readItem 111 = .ok (.getfield 7, 3) := by decide +kernel
theorem dX9_readItem_114 : decode cX9_readItem 114 = .ok (.sipush 605, 3) := by decide +kernel
theorem dX9_readItem_117 : decode cX9_readItem 117 = .ok (.iload_n 2, 1) := by decide +kernel
theorem dX9_readItem_118 : decode cX9_readItem 118 = .ok (.ifCond .eq 12, 3) := by decide +kernel
theorem dX9_readItem_121 : decode cX9_readItem 121 = .ok (.aload_n 0, 1) := by decide +kernel
theorem dX9_readItem_122 : decode cX9_readItem 122 = .ok (.getfield 19, 3) := by decide +kernel
theorem dX9_readItem_125 : decode cX9_readItem 125 = .ok (.iconst 0, 1) := by decide +kernel
theorem dX9_readItem_126 : decode cX9_readItem 126 = .ok (.iaload, 1) := by decide +kernel
theorem dX9_readItem_127 : decode cX9_readItem 127 = .ok (.goto 11, 3) := by decide +kernel
theorem dX9_readItem_130 : decode cX9_readItem 130 = .ok (.aload_n 0, 1) := by decide +kernel
theorem dX9_readItem_131 : decode cX9_readItem 131 = .ok (.getfield 7, 3) := by decide +kernel
theorem dX9_readItem_134 : decode cX9_readItem 134 = .ok (.sipush 605, 3) := by decide +kernel
theorem dX9_readItem_137 : decode cX9_readItem 137 = .ok (.iaload, 1) := by decide +kernel
theorem dX9_readItem_138 : decode cX9_readItem 138 = .ok (.iastore, 1) := by decide +kernel
theorem dX9_readItem_139 : decode cX9_readItem 139 = .ok (.goto 150, 3) := by decide +kernel
theorem dX9_readItem_142 : decode cX9_readItem 142 = .ok (.aload_n 0, 1) := by decide +kernel
theorem dX9_readItem_143 : decode cX9_readItem 143 = .ok (.iconst 1, 1) := by decide +kernel
theorem dX9_readItem_144 : decode cX9_readItem 144 = .ok (.invokevirtual 62, 3) := by decide +kernel
theorem dX9_readItem_147 : decode cX9_readItem 147 = .ok (.ifCond .eq 20, 3) := by decide +kernel
theorem dX9_readItem_150 : decode cX9_readItem 150 = .ok (.aload_n 0, 1) := by decide +kernel
theorem dX9_readItem_151 : decode cX9_readItem 151 = .ok (.aload_n 0, 1) := by decide +kernel
theorem dX9_readItem_152 : decode cX9_readItem 152 = .ok (.getfield 19, 3) := by decide +kernel
theorem dX9_readItem_155 : decode cX9_readItem 155 = .ok (.iconst 0, 1) := by decide +kernel
theorem dX9_readItem_156 : decode cX9_readItem 156 = .ok (.iaload, 1) := by decide +kernel
theorem dX9_readItem_157 : decode cX9_readItem 157 = .ok (.invokevirtual 66, 3) := by decide +kernel
theorem dX9_readItem_160 : decode cX9_readItem 160 = .ok (.ifCond .eq 7, 3) := by decide +kernel
theorem dX9_readItem_163 : decode cX9_readItem 163 = .ok (.iconst 1, 1) := by decide +kernel
theorem dX9_readItem_164 : decode cX9_readItem 164 = .ok (.goto 4, 3) := by decide +kernel
theorem dX9_readItem_167 : decode cX9_readItem 167 = .ok (.iconst 0, 1) := by decide +kernel
theorem dX9_readItem_168 : decode cX9_readItem 168 = .ok (.istore_n 2, 1) := by decide +kernel
theorem dX9_readItem_169 : decode cX9_readItem 169 = .ok (.aload_n 0, 1) := by decide +kernel
theorem dX9_readItem_170 : decode cX9_readItem 170 = .ok (.getfield 7, 3) := by decide +kernel
theorem dX9_readItem_173 : decode cX9_readItem 173 = .ok (.sipush 606, 3) := by decide +kernel
theorem dX9_readItem_176 : decode cX9_readItem 176 = .ok (.dup2, 1) := by decide +kernel
theorem dX9_readItem_177 : decode cX9_readItem 177 = .ok (.iaload, 1) := by decide +kernel
theorem dX9_readItem_178 : decode cX9_readItem 178 = .ok (.iload_n 2, 1) := by decide +kernel
theorem dX9_readItem_179 : decode cX9_readItem 179 = .ok (.ifCond .eq 14, 3) := by decide +kernel
theorem dX9_readItem_182 : decode cX9_readItem 182 = .ok (.iconst 1, 1) := by decide +kernel
theorem dX9_readItem_183 : decode cX9_readItem 183 = .ok (.aload_n 0, 1) := by decide +kernel
theorem dX9_readItem_184 : decode cX9_readItem 184 = .ok (.getfield 19, 3) := by decide +kernel
theorem dX9_readItem_187 : decode cX9_readItem 187 = .ok (.iconst 0, 1) := by decide +kernel
theorem dX9_readItem_188 : decode cX9_readItem 188 = .ok (.iaload, 1) := by decide +kernel
theorem dX9_readItem_189 : decode cX9_readItem 189 = .ok (.ishl, 1) := by decide +kernel
theorem dX9_readItem_190 : decode cX9_readItem 190 = .ok (.goto 4, 3) := by decide +kernel
theorem dX9_readItem_193 : decode cX9_readItem 193 = .ok (.iconst 0, 1) := by decide +kernel
theorem dX9_readItem_194 : decode cX9_readItem 194 = .ok (.ior, 1) := by decide +kernel
theorem dX9_readItem_195 : decode cX9_readItem 195 = .ok (.iastore, 1) := by decide +kernel
theorem dX9_readItem_196 : decode cX9_readItem 196 = .ok (.goto 93, 3) := by decide +kernel
theorem dX9_readItem_199 : decode cX9_readItem 199 = .ok (.aload_n 0, 1) := by decide +kernel
theorem dX9_readItem_200 : decode cX9_readItem 200 = .ok (.invokevirtual 75, 3) := by decide +kernel
theorem dX9_readItem_203 : decode cX9_readItem 203 = .ok (.istore_n 2, 1) := by decide +kernel
theorem dX9_readItem_204 : decode cX9_readItem 204 = .ok (.goto 85, 3) := by decide +kernel
theorem dX9_readItem_207 : decode cX9_readItem 207 = .ok (.aload_n 0, 1) := by decide +kernel
theorem dX9_readItem_208 : decode cX9_readItem 208 = .ok (.invokevirtual 79, 3) := by decide +kernel
theorem dX9_readItem_211 : decode cX9_readItem 211 = .ok (.istore_n 2, 1) := by decide +kernel
theorem dX9_readItem_212 : decode cX9_readItem 212 = .ok (.goto 77, 3) := by decide +kernel
theorem dX9_readItem_215 : decode cX9_readItem 215 = .ok (.aload_n 0, 1) := by decide +kernel
theorem dX9_readItem_216 : decode cX9_readItem 216 = .ok (.iconst 2, 1) := by decide +kernel
theorem dX9_readItem_217 : decode cX9_readItem 217 = .ok (.invokevirtual 62, 3) := by decide +kernel
theorem dX9_readItem_220 : decode cX9_readItem 220 = .ok (.ifCond .eq 20, 3) := by decide +kernel
theorem dX9_readItem_223 : decode cX9_readItem 223 = .ok (.aload_n 0, 1) := by decide +kernel
theorem dX9_readItem_224 : decode cX9_readItem 224 = .ok (.aload_n 0, 1) := by decide +kernel
theorem dX9_readItem_225 : decode cX9_readItem 225 = .ok (.getfield 19, 3) := by decide +kernel
theorem dX9_readItem_228 : decode cX9_readItem 228 = .ok (.iconst 0, 1) := by decide +kernel
theorem dX9_readItem_229 : decode cX9_readItem 229 = .ok (.iaload, 1) := by decide +kernel
theorem dX9_readItem_230 : decode cX9_readItem 230 = .ok (.invokevirtual 66, 3) := by decide +kernel
theorem dX9_readItem_233 : decode cX9_readItem 233 = .ok (.ifCond .eq 7, 3) := by decide +kernel
theorem dX9_readItem_236 : decode cX9_readItem 236 = .ok (.iconst 1, 1) := by decide +kernel
theorem dX9_readItem_237 : decode cX9_readItem 237 = .ok (.goto 4, 3) := by decide +kernel
theorem dX9_readItem_240 : decode cX9_readItem 240 = .ok (.iconst 0, 1) := by decide +kernel
theorem dX9_readItem_241 : decode cX9_readItem 241 = .ok (.istore_n 2, 1) := by decide +kernel
theorem dX9_readItem_242 : decode cX9_readItem 242 = .ok (.aload_n 0, 1) := by decide +kernel
theorem dX9_readItem_243 : decode cX9_readItem 243 = .ok (.getfield 7, 3) := by decide +kernel
theorem dX9_readItem_246 : decode cX9_readItem 246 = .ok (.sipush 640, 3) := by decide +kernel
theorem dX9_readItem_249 : decode cX9_readItem 249 = .ok (.iload_n 2, 1) := by decide +kernel
theorem dX9_readItem_250 : decode cX9_readItem 250 = .ok (.ifCond .eq 12, 3) := by decide +kernel
theorem dX9_readItem_253 : decode cX9_readItem 253 = .ok (.aload_n 0, 1) := by decide +kernel
theorem dX9_readItem_254 : decode cX9_readItem 254 = .ok (.getfield 19, 3) := by decide +kernel
theorem dX9_readItem_257 : decode cX9_readItem 257 = .ok (.iconst 0, 1) := by decide +kernel
theorem dX9_readItem_258 : decode cX9_readItem 258 = .ok (.iaload, 1) := by decide +kernel
theorem dX9_readItem_259 : decode cX9_readItem 259 = .ok (.goto 4, 3) := by decide +kernel
theorem dX9_readItem_262 : decode cX9_readItem 262 = .ok (.iconst 0, 1) := by decide +kernel
theorem dX9_readItem_263 : decode cX9_readItem 263 = .ok (.iadd, 1) := by decide +kernel
theorem dX9_readItem_264 : decode cX9_readItem 264 = .ok (.iload_n 2, 1) := by decide +kernel
theorem dX9_readItem_265 : decode cX9_readItem 265 = .ok (.ifCond .eq 12, 3) := by decide +kernel
theorem dX9_readItem_268 : decode cX9_readItem 268 = .ok (.aload_n 0, 1) := by decide +kernel
theorem dX9_readItem_269 : decode cX9_readItem 269 = .ok (.getfield 19, 3) := by decide +kernel
theorem dX9_readItem_272 : decode cX9_readItem 272 = .ok (.iconst 1, 1) := by decide +kernel
theorem dX9_readItem_273 : decode cX9_readItem 273 = .ok (.iaload, 1) := by decide +kernel
theorem dX9_readItem_274 : decode cX9_readItem 274 = .ok (.goto 11, 3) := by decide +kernel
theorem dX9_readItem_277 : decode cX9_readItem 277 = .ok (.aload_n 0, 1) := by decide +kernel
theorem dX9_readItem_278 : decode cX9_readItem 278 = .ok (.getfield 7, 3) := by decide +kernel
theorem dX9_readItem_281 : decode cX9_readItem 281 = .ok (.sipush 640, 3) := by decide +kernel
theorem dX9_readItem_284 : decode cX9_readItem 284 = .ok (.iaload, 1) := by decide +kernel
theorem dX9_readItem_285 : decode cX9_readItem 285 = .ok (.iastore, 1) := by decide +kernel
theorem dX9_readItem_286 : decode cX9_readItem 286 = .ok (.goto 3, 3) := by decide +kernel
theorem dX9_readItem_289 : decode cX9_readItem 289 = .ok (.aload_n 0, 1) := by decide +kernel
theorem dX9_readItem_290 : decode cX9_readItem 290 = .ok (.aload_n 0, 1) := by decide +kernel
theorem dX9_readItem_291 : decode cX9_readItem 291 = .ok (.getfield 69, 3) := by decide +kernel
theorem dX9_readItem_294 : decode cX9_readItem 294 = .ok (.ifCond .ne 9, 3) := by decide +kernel
theorem dX9_readItem_297 : decode cX9_readItem 297 = .ok (.iload_n 1, 1) := by decide +kernel
theorem dX9_readItem_298 : decode cX9_readItem 298 = .ok (.bipush 110, 2) := by decide +kernel
theorem dX9_readItem_300 : decode cX9_readItem 300 = .ok (.if_icmp .eq 7, 3) := by decide +kernel
theorem dX9_readItem_303 : decode cX9_readItem 303 = .ok (.iconst 1, 1) := by decide +kernel
theorem dX9_readItem_304 : decode cX9_readItem 304 = .ok (.goto 4, 3) := by decide +kernel
theorem dX9_readItem_307 : decode cX9_readItem 307 = .ok (.iconst 0, 1) := by decide +kernel
theorem dX9_readItem_308 : decode cX9_readItem 308 = .ok (.putfield 69, 3) := by decide +kernel
theorem dX9_readItem_311 : decode cX9_readItem 311 = .ok (.iload_n 2, 1) := by decide +kernel
theorem dX9_readItem_312 : decode cX9_readItem 312 = .ok (.ireturn, 1) := by decide +kernel
theorem dX9_fault_0 : decode cX9_fault 0 = .ok (.aload_n 0, 1) := by decide +kernel
theorem dX9_fault_1 : decode cX9_fault 1 = .ok (.sipush 605, 3) := by decide +kernel
theorem dX9_fault_4 : decode cX9_fault 4 = .ok (.invokevirtual 32, 3) := by decide +kernel
theorem dX9_fault_7 : decode cX9_fault 7 = .ok (.aload_n 0, 1) := by decide +kernel
theorem dX9_fault_8 : decode cX9_fault 8 = .ok (.iconst 0, 1) := by decide +kernel
theorem dX9_fault_9 : decode cX9_fault 9 = .ok (.putfield 69, 3) := by decide +kernel
theorem dX9_fault_12 : decode cX9_fault 12 = .ok (.aload_n 0, 1) := by decide +kernel
theorem dX9_fault_13 : decode cX9_fault 13 = .ok (.iconst 0, 1) := by decide +kernel
theorem dX9_fault_14 : decode cX9_fault 14 = .ok (.putfield 55, 3) := by decide +kernel
theorem dX9_fault_17 : decode cX9_fault 17 = .ok (.aload_n 0, 1) := by decide +kernel
theorem dX9_fault_18 : decode cX9_fault 18 = .ok (.getfield 55, 3) := by decide +kernel
theorem dX9_fault_21 : decode cX9_fault 21 = .ok (.aload_n 0, 1) := by decide +kernel
theorem dX9_fault_22 : decode cX9_fault 22 = .ok (.getfield 49, 3) := by decide +kernel
theorem dX9_fault_25 : decode cX9_fault 25 = .ok (.if_icmp .ge 20, 3) := by decide +kernel
theorem dX9_fault_28 : decode cX9_fault 28 = .ok (.aload_n 0, 1) := by decide +kernel
theorem dX9_fault_29 : decode cX9_fault 29 = .ok (.getfield 55, 3) := by decide +kernel
theorem dX9_fault_32 : decode cX9_fault 32 = .ok (.istore_n 1, 1) := by decide +kernel
theorem dX9_fault_33 : decode cX9_fault 33 = .ok (.aload_n 0, 1) := by decide +kernel
theorem dX9_fault_34 : decode cX9_fault 34 = .ok (.invokevirtual 82, 3) := by decide +kernel
theorem dX9_fault_37 : decode cX9_fault 37 = .ok (.ifCond .ne 5, 3) := by decide +kernel
theorem dX9_fault_40 : decode cX9_fault 40 = .ok (.iload_n 1, 1) := by decide +kernel
theorem dX9_fault_41 : decode cX9_fault 41 = .ok (.ireturn, 1) := by decide +kernel
theorem dX9_fault_42 : decode cX9_fault 42 = .ok (.goto (-25), 3) := by decide +kernel
theorem dX9_fault_45 : decode cX9_fault 45 = .ok (.bipush (-4), 2) := by decide +kernel
theorem dX9_fault_47 : decode cX9_fault 47 = .ok (.ireturn, 1) := by decide +kernel
theorem dX9_layFloor_0 : decode cX9_layFloor 0 = .ok (.aload_n 0, 1) := by decide +kernel
theorem dX9_layFloor_1 : decode cX9_layFloor 1 = .ok (.invokevirtual 85, 3) := by decide +kernel
theorem dX9_layFloor_4 : decode cX9_layFloor 4 = .ok (.bipush (-4), 2) := by decide +kernel
theorem dX9_layFloor_6 : decode cX9_layFloor 6 = .ok (.if_icmp .ne 14, 3) := by decide +kernel
theorem dX9_layFloor_9 : decode cX9_layFloor 9 = .ok (.aload_n 0, 1) := by decide +kernel
theorem dX9_layFloor_10 : decode cX9_layFloor 10 = .ok (.getfield 7, 3) := by decide +kernel
theorem dX9_layFloor_13 : decode cX9_layFloor 13 = .ok (.sipush 609, 3) := by decide +kernel
theorem dX9_layFloor_16 : decode cX9_layFloor 16 = .ok (.iaload, 1) := by decide +kernel
theorem dX9_layFloor_17 : decode cX9_layFloor 17 = .ok (.ifCond .ne 6, 3) := by decide +kernel
theorem dX9_layFloor_20 : decode cX9_layFloor 20 = .ok (.bipush (-2), 2) := by decide +kernel
theorem dX9_layFloor_22 : decode cX9_layFloor 22 = .ok (.ireturn, 1) := by decide +kernel
theorem dX9_layFloor_23 : decode cX9_layFloor 23 = .ok (.aload_n 0, 1) := by decide +kernel
theorem dX9_layFloor_24 : decode cX9_layFloor 24 = .ok (.sipush 605, 3) := by decide +kernel
theorem dX9_layFloor_27 : decode cX9_layFloor 27 = .ok (.iconst 0, 1) := by decide +kernel
theorem dX9_layFloor_28 : decode cX9_layFloor 28 = .ok (.invokevirtual 89, 3) := by decide +kernel
theorem dX9_layFloor_31 : decode cX9_layFloor 31 = .ok (.aload_n 0, 1) := by decide +kernel
theorem dX9_layFloor_32 : decode cX9_layFloor 32 = .ok (.iconst 0, 1) := by decide +kernel
theorem dX9_layFloor_33 : decode cX9_layFloor 33 = .ok (.invokevirtual 40, 3) := by decide +kernel
theorem dX9_layFloor_36 : decode cX9_layFloor 36 = .ok (.aload_n 0, 1) := by decide +kernel
theorem dX9_layFloor_37 : decode cX9_layFloor 37 = .ok (.iconst 0, 1) := by decide +kernel
theorem dX9_layFloor_38 : decode cX9_layFloor 38 = .ok (.putfield 93, 3) := by decide +kernel
theorem dX9_layFloor_41 : decode cX9_layFloor 41 = .ok (.aload_n 0, 1) := by decide +kernel
theorem dX9_layFloor_42 : decode cX9_layFloor 42 = .ok (.iconst 0, 1) := by decide +kernel
theorem dX9_layFloor_43 : decode cX9_layFloor 43 = .ok (.putfield 96, 3) := by decide +kernel
theorem dX9_layFloor_46 : decode cX9_layFloor 46 = .ok (.aload_n 0, 1) := by decide +kernel
theorem dX9_layFloor_47 : decode cX9_layFloor 47 = .ok (.iconst 0, 1) := by decide +kernel
theorem dX9_layFloor_48 : decode cX9_layFloor 48 = .ok (.putfield 99, 3) := by decide +kernel
theorem dX9_layFloor_51 : decode cX9_layFloor 51 = .ok (.aload_n 0, 1) := by decide +kernel
theorem dX9_layFloor_52 : decode cX9_layFloor 52 = .ok (.getfield 7, 3) := by decide +kernel
theorem dX9_layFloor_55 : decode cX9_layFloor 55 = .ok (.iconst 0, 1) := by decide +kernel
theorem dX9_layFloor_56 : decode cX9_layFloor 56 = .ok (.iaload, 1) := by decide +kernel
theorem dX9_layFloor_57 : decode cX9_layFloor 57 = .ok (.ireturn, 1) := by decide +kernel
theorem dX9_may_0 : decode cX9_may 0 = .ok (.iconst 1, 1) := by decide +kernel
theorem dX9_may_1 : decode cX9_may 1 = .ok (.aload_n 0, 1) := by decide +kernel
theorem dX9_may_2 : decode cX9_may 2 = .ok (.getfield 7, 3) := by decide +kernel
theorem dX9_may_5 : decode cX9_may 5 = .ok (.iconst 5, 1) := by decide +kernel
theorem dX9_may_6 : decode cX9_may 6 = .ok (.iload_n 1, 1) := by decide +kernel
theorem dX9_may_7 : decode cX9_may 7 = .ok (.iadd, 1) := by decide +kernel
theorem dX9_may_8 : decode cX9_may 8 = .ok (.iaload, 1) := by decide +kernel
theorem dX9_may_9 : decode cX9_may 9 = .ok (.ishl, 1) := by decide +kernel
theorem dX9_may_10 : decode cX9_may 10 = .ok (.iconst 1, 1) := by decide +kernel
theorem dX9_may_11 : decode cX9_may 11 = .ok (.aload_n 0, 1) := by decide +kernel
theorem dX9_may_12 : decode cX9_may 12 = .ok (.getfield 7, 3) := by decide +kernel
theorem dX9_may_15 : decode cX9_may 15 = .ok (.bipush 15, 2) := by decide +kernel
theorem dX9_may_17 : decode cX9_may 17 = .ok (.iload_n 1, 1) := by decide +kernel
theorem dX9_may_18 : decode cX9_may 18 = .ok (.iadd, 1) := by decide +kernel
theorem dX9_may_19 : decode cX9_may 19 = .ok (.iaload, 1) := by decide +kernel
theorem dX9_may_20 : decode cX9_may 20 = .ok (.ishl, 1) := by decide +kernel
theorem dX9_may_21 : decode cX9_may 21 = .ok (.ior, 1) := by decide +kernel
theorem dX9_may_22 : decode cX9_may 22 = .ok (.iconst 1, 1) := by decide +kernel
theorem dX9_may_23 : decode cX9_may 23 = .ok (.aload_n 0, 1) := by decide +kernel
theorem dX9_may_24 : decode cX9_may 24 = .ok (.getfield 7, 3) := by decide +kernel
theorem dX9_may_27 : decode cX9_may 27 = .ok (.bipush 25, 2) := by decide +kernel
theorem dX9_may_29 : decode cX9_may 29 = .ok (.iload_n 1, 1) := by decide +kernel
theorem dX9_may_30 : decode cX9_may 30 = .ok (.iadd, 1) := by decide +kernel
theorem dX9_may_31 : decode cX9_may 31 = .ok (.iaload, 1) := by decide +kernel
theorem dX9_may_32 : decode cX9_may 32 = .ok (.ishl, 1) := by decide +kernel
theorem dX9_may_33 : decode cX9_may 33 = .ok (.ior, 1) := by decide +kernel
theorem dX9_may_34 : decode cX9_may 34 = .ok (.istore_n 2, 1) := by decide +kernel
theorem dX9_may_35 : decode cX9_may 35 = .ok (.iload_n 2, 1) := by decide +kernel
theorem dX9_may_36 : decode cX9_may 36 = .ok (.aload_n 0, 1) := by decide +kernel
theorem dX9_may_37 : decode cX9_may 37 = .ok (.getfield 7, 3) := by decide +kernel
theorem dX9_may_40 : decode cX9_may 40 = .ok (.iconst 2, 1) := by decide +kernel
theorem dX9_may_41 : decode cX9_may 41 = .ok (.iaload, 1) := by decide +kernel
theorem dX9_may_42 : decode cX9_may 42 = .ok (.iconst (-1), 1) := by decide +kernel
theorem dX9_may_43 : decode cX9_may 43 = .ok (.ixor, 1) := by decide +kernel
theorem dX9_may_44 : decode cX9_may 44 = .ok (.iand, 1) := by decide +kernel
theorem dX9_may_45 : decode cX9_may 45 = .ok (.ifCond .ne 69, 3) := by decide +kernel
theorem dX9_may_48 : decode cX9_may 48 = .ok (.aload_n 0, 1) := by decide +kernel
theorem dX9_may_49 : decode cX9_may 49 = .ok (.getfield 7, 3) := by decide +kernel
theorem dX9_may_52 : decode cX9_may 52 = .ok (.iconst 3, 1) := by decide +kernel
theorem dX9_may_53 : decode cX9_may 53 = .ok (.iaload, 1) := by decide +kernel
theorem dX9_may_54 : decode cX9_may 54 = .ok (.aload_n 0, 1) := by decide +kernel
theorem dX9_may_55 : decode cX9_may 55 = .ok (.getfield 7, 3) := by decide +kernel
theorem dX9_may_58 : decode cX9_may 58 = .ok (.iconst 5, 1) := by decide +kernel
theorem dX9_may_59 : decode cX9_may 59 = .ok (.iload_n 1, 1) := by decide +kernel
theorem dX9_may_60 : decode cX9_may 60 = .ok (.iadd, 1) := by decide +kernel
theorem dX9_may_61 : decode cX9_may 61 = .ok (.iaload, 1) := by decide +kernel
theorem dX9_may_62 : decode cX9_may 62 = .ok (.invokestatic 102, 3) := by decide +kernel
theorem dX9_may_65 : decode cX9_may 65 = .ok (.ifCond .eq 49, 3) := by decide +kernel
theorem dX9_may_68 : decode cX9_may 68 = .ok (.aload_n 0, 1) := by decide +kernel
theorem dX9_may_69 : decode cX9_may 69 = .ok (.getfield 7, 3) := by decide +kernel
theorem dX9_may_72 : decode cX9_may 72 = .ok (.iconst 3, 1) := by decide +kernel
theorem dX9_may_73 : decode cX9_may 73 = .ok (.iaload, 1) := by decide +kernel
theorem dX9_may_74 : decode cX9_may 74 = .ok (.aload_n 0, 1) := by decide +kernel
theorem dX9_may_75 : decode cX9_may 75 = .ok (.getfield 7, 3) := by decide +kernel
theorem dX9_may_78 : decode cX9_may 78 = .ok (.bipush 15, 2) := by decide +kernel
theorem dX9_may_80 : decode cX9_may 80 = .ok (.iload_n 1, 1) := by decide +kernel
theorem dX9_may_81 : decode cX9_may 81 = .ok (.iadd, 1) := by decide +kernel
theorem dX9_may_82 : decode cX9_may 82 = .ok (.iaload, 1) := by decide +kernel
theorem dX9_may_83 : decode cX9_may 83 = .ok (.invokestatic 102, 3) := by decide +kernel
theorem dX9_may_86 : decode cX9_may 86 = .ok (.ifCond .eq 28, 3) := by decide +kernel
theorem dX9_may_89 : decode cX9_may 89 = .ok (.aload_n 0, 1) := by decide +kernel
theorem dX9_may_90 : decode cX9_may 90 = .ok (.getfield 7, 3) := by decide +kernel
theorem dX9_may_93 : decode cX9_may 93 = .ok (.iconst 3, 1) := by decide +kernel
theorem dX9_may_94 : decode cX9_may 94 = .ok (.iaload, 1) := by decide +kernel
theorem dX9_may_95 : decode cX9_may 95 = .ok (.aload_n 0, 1) := by decide +kernel
theorem dX9_may_96 : decode cX9_may 96 = .ok (.getfield 7, 3) := by decide +kernel
theorem dX9_may_99 : decode cX9_may 99 = .ok (.bipush 25, 2) := by decide +kernel
theorem dX9_may_101 : decode cX9_may 101 = .ok (.iload_n 1, 1) := by decide +kernel
theorem dX9_may_102 : decode cX9_may 102 = .ok (.iadd, 1) := by decide +kernel
theorem dX9_may_103 : decode cX9_may 103 = .ok (.iaload, 1) := by decide +kernel
theorem dX9_may_104 : decode cX9_may 104 = .ok (.invokestatic 102, 3) := by decide +kernel
theorem dX9_may_107 : decode cX9_may 107 = .ok (.ifCond .ne 7, 3) := by decide +kernel
theorem dX9_may_110 : decode cX9_may 110 = .ok (.iconst 1, 1) := by decide +kernel
theorem dX9_may_111 : decode cX9_may 111 = .ok (.goto 4, 3) := by decide +kernel
theorem dX9_may_114 : decode cX9_may 114 = .ok (.iconst 0, 1) := by decide +kernel
theorem dX9_may_115 : decode cX9_may 115 = .ok (.ireturn, 1) := by decide +kernel
theorem dX9_stone_0 : decode cX9_stone 0 = .ok (.aload_n 0, 1) := by decide +kernel
theorem dX9_stone_1 : decode cX9_stone 1 = .ok (.iload_n 1, 1) := by decide +kernel
theorem dX9_stone_2 : decode cX9_stone 2 = .ok (.invokevirtual 106, 3) := by decide +kernel
theorem dX9_stone_5 : decode cX9_stone 5 = .ok (.ifCond .eq 15, 3) := by decide +kernel
theorem dX9_stone_8 : decode cX9_stone 8 = .ok (.iload_n 2, 1) := by decide +kernel
theorem dX9_stone_9 : decode cX9_stone 9 = .ok (.i2l, 1) := by decide +kernel
theorem dX9_stone_10 : decode cX9_stone 10 = .ok (.lconst 0, 1) := by decide +kernel
theorem dX9_stone_11 : decode cX9_stone 11 = .ok (.ldc2_w 109, 3) := by decide +kernel
theorem dX9_stone_14 : decode cX9_stone 14 = .ok (.invokestatic 43, 3) := by decide +kernel
theorem dX9_stone_17 : decode cX9_stone 17 = .ok (.ifCond .ne 5, 3) := by decide +kernel
theorem dX9_stone_20 : decode cX9_stone 20 = .ok (.iconst (-1), 1) := by decide +kernel
theorem dX9_stone_21 : decode cX9_stone 21 = .ok (.ireturn, 1) := by decide +kernel
theorem dX9_stone_22 : decode cX9_stone 22 = .ok (.iload_n 2, 1) := by decide +kernel
theorem dX9_stone_23 : decode cX9_stone 23 = .ok (.ifCond .ne 16, 3) := by decide +kernel
theorem dX9_stone_26 : decode cX9_stone 26 = .ok (.aload_n 0, 1) := by decide +kernel
theorem dX9_stone_27 : decode cX9_stone 27 = .ok (.getfield 7, 3) := by decide +kernel
theorem dX9_stone_30 : decode cX9_stone 30 = .ok (.iconst 2, 1) := by decide +kernel
theorem dX9_stone_31 : decode cX9_stone 31 = .ok (.iaload, 1) := by decide +kernel
theorem dX9_stone_32 : decode cX9_stone 32 = .ok (.iload_n 1, 1) := by decide +kernel
theorem dX9_stone_33 : decode cX9_stone 33 = .ok (.ishr, 1) := by decide +kernel
theorem dX9_stone_34 : decode cX9_stone 34 = .ok (.iconst 1, 1) := by decide +kernel
theorem dX9_stone_35 : decode cX9_stone 35 = .ok (.iand, 1) := by decide +kernel
theorem dX9_stone_36 : decode cX9_stone 36 = .ok (.goto 65, 3) := by decide +kernel
theorem dX9_stone_39 : decode cX9_stone 39 = .ok (.iload_n 2, 1) := by decide +kernel
theorem dX9_stone_40 : decode cX9_stone 40 = .ok (.iconst 1, 1) := by decide +kernel
theorem dX9_stone_41 : decode cX9_stone 41 = .ok (.if_icmp .ne 16, 3) := by decide +kernel
theorem dX9_stone_44 : decode cX9_stone 44 = .ok (.aload_n 0, 1) := by decide +kernel
theorem dX9_stone_45 : decode cX9_stone 45 = .ok (.getfield 7, 3) := by decide +kernel
theorem dX9_stone_48 : decode cX9_stone 48 = .ok (.iconst 3, 1) := by decide +kernel
theorem dX9_stone_49 : decode cX9_stone 49 = .ok (.iaload, 1) := by decide +kernel
theorem dX9_stone_50 : decode cX9_stone 50 = .ok (.iload_n 1, 1) := by decide +kernel
theorem dX9_stone_51 : decode cX9_stone 51 = .ok (.ishr, 1) := by decide +kernel
theorem dX9_stone_52 : decode cX9_stone 52 = .ok (.iconst 1, 1) := by decide +kernel
theorem dX9_stone_53 : decode cX9_stone 53 = .ok (.iand, 1) := by decide +kernel
theorem dX9_stone_54 : decode cX9_stone 54 = .ok (.goto 47, 3) := by decide +kernel
theorem dX9_stone_57 : decode cX9_stone 57 = .ok (.iload_n 2, 1) := by decide +kernel
theorem dX9_stone_58 : decode cX9_stone 58 = .ok (.iconst 2, 1) := by decide +kernel
theorem dX9_stone_59 : decode cX9_stone 59 = .ok (.if_icmp .ne 16, 3) := by decide +kernel
theorem dX9_stone_62 : decode cX9_stone 62 = .ok (.aload_n 0, 1) := by decide +kernel
theorem dX9_stone_63 : decode cX9_stone 63 = .ok (.getfield 7, 3) := by decide +kernel
theorem dX9_stone_66 : decode cX9_stone 66 = .ok (.iconst 1, 1) := by decide +kernel
theorem dX9_stone_67 : decode cX9_stone 67 = .ok (.iaload, 1) := by decide +kernel
theorem dX9_stone_68 : decode cX9_stone 68 = .ok (.iload_n 1, 1) := by decide +kernel
theorem dX9_stone_69 : decode cX9_stone 69 = .ok (.ishr, 1) := by decide +kernel
theorem dX9_stone_70 : decode cX9_stone 70 = .ok (.iconst 1, 1) := by decide +kernel
theorem dX9_stone_71 : decode cX9_stone 71 = .ok (.iand, 1) := by decide +kernel
theorem dX9_stone_72 : decode cX9_stone 72 = .ok (.goto 29, 3) := by decide +kernel
theorem dX9_stone_75 : decode cX9_stone 75 = .ok (.iload_n 2, 1) := by decide +kernel
theorem dX9_stone_76 : decode cX9_stone 76 = .ok (.iconst 3, 1) := by decide +kernel
theorem dX9_stone_77 : decode cX9_stone 77 = .ok (.if_icmp .ne 15, 3) := by decide +kernel
theorem dX9_stone_80 : decode cX9_stone 80 = .ok (.aload_n 0, 1) := by decide +kernel
theorem dX9_stone_81 : decode cX9_stone 81 = .ok (.getfield 7, 3) := by decide +kernel
theorem dX9_stone_84 : decode cX9_stone 84 = .ok (.bipush 35, 2) := by decide +kernel
theorem dX9_stone_86 : decode cX9_stone 86 = .ok (.iload_n 1, 1) := by decide +kernel
theorem dX9_stone_87 : decode cX9_stone 87 = .ok (.iadd, 1) := by decide +kernel
theorem dX9_stone_88 : decode cX9_stone 88 = .ok (.iaload, 1) := by decide +kernel
theorem dX9_stone_89 : decode cX9_stone 89 = .ok (.goto 12, 3) := by decide +kernel
theorem dX9_stone_92 : decode cX9_stone 92 = .ok (.aload_n 0, 1) := by decide +kernel
theorem dX9_stone_93 : decode cX9_stone 93 = .ok (.getfield 7, 3) := by decide +kernel
theorem dX9_stone_96 : decode cX9_stone 96 = .ok (.bipush 45, 2) := by decide +kernel
theorem dX9_stone_98 : decode cX9_stone 98 = .ok (.iload_n 1, 1) := by decide +kernel
theorem dX9_stone_99 : decode cX9_stone 99 = .ok (.iadd, 1) := by decide +kernel
theorem dX9_stone_100 : decode cX9_stone 100 = .ok (.iaload, 1) := by decide +kernel
theorem dX9_stone_101 : decode cX9_stone 101 = .ok (.ireturn, 1) := by decide +kernel
theorem dX9_step_0 : decode cX9_step 0 = .ok (.aload_n 0, 1) := by decide +kernel
theorem dX9_step_1 : decode cX9_step 1 = .ok (.iload_n 1, 1) := by decide +kernel
theorem dX9_step_2 : decode cX9_step 2 = .ok (.invokevirtual 111, 3) := by decide +kernel
theorem dX9_step_5 : decode cX9_step 5 = .ok (.ifCond .eq 15, 3) := by decide +kernel
theorem dX9_step_8 : decode cX9_step 8 = .ok (.iload_n 2, 1) := by decide +kernel
theorem dX9_step_9 : decode cX9_step 9 = .ok (.i2l, 1) := by decide +kernel
theorem dX9_step_10 : decode cX9_step 10 = .ok (.lconst 0, 1) := by decide +kernel
theorem dX9_step_11 : decode cX9_step 11 = .ok (.ldc2_w 114, 3) := by decide +kernel
theorem dX9_step_14 : decode cX9_step 14 = .ok (.invokestatic 43, 3) := by decide +kernel
theorem dX9_step_17 : decode cX9_step 17 = .ok (.ifCond .ne 5, 3) := by decide +kernel
theorem dX9_step_20 : decode cX9_step 20 = .ok (.iconst (-1), 1) := by decide +kernel
theorem dX9_step_21 : decode cX9_step 21 = .ok (.ireturn, 1) := by decide +kernel
theorem dX9_step_22 : decode cX9_step 22 = .ok (.iload_n 2, 1) := by decide +kernel
theorem dX9_step_23 : decode cX9_step 23 = .ok (.ifCond .ne 14, 3) := by decide +kernel
theorem dX9_step_26 : decode cX9_step 26 = .ok (.aload_n 0, 1) := by decide +kernel
theorem dX9_step_27 : decode cX9_step 27 = .ok (.getfield 7, 3) := by decide +kernel
theorem dX9_step_30 : decode cX9_step 30 = .ok (.iconst 5, 1) := by decide +kernel
theorem dX9_step_31 : decode cX9_step 31 = .ok (.iload_n 1, 1) := by decide +kernel
theorem dX9_step_32 : decode cX9_step 32 = .ok (.iadd, 1) := by decide +kernel
theorem dX9_step_33 : decode cX9_step 33 = .ok (.iaload, 1) := by decide +kernel
theorem dX9_step_34 : decode cX9_step 34 = .ok (.goto 50, 3) := by decide +kernel
theorem dX9_step_37 : decode cX9_step 37 = .ok (.iload_n 2, 1) := by decide +kernel
theorem dX9_step_38 : decode cX9_step 38 = .ok (.iconst 1, 1) := by decide +kernel
theorem dX9_step_39 : decode cX9_step 39 = .ok (.if_icmp .ne 15, 3) := by decide +kernel
theorem dX9_step_42 : decode cX9_step 42 = .ok (.aload_n 0, 1) := by decide +kernel
theorem dX9_step_43 : decode cX9_step 43 = .ok (.getfield 7, 3) := by decide +kernel
theorem dX9_step_46 : decode cX9_step 46 = .ok (.bipush 15, 2) := by decide +kernel
theorem dX9_step_48 : decode cX9_step 48 = .ok (.iload_n 1, 1) := by decide +kernel
theorem dX9_step_49 : decode cX9_step 49 = .ok (.iadd, 1) := by decide +kernel
theorem dX9_step_50 : decode cX9_step 50 = .ok (.iaload, 1) := by decide +kernel
theorem dX9_step_51 : decode cX9_step 51 = .ok (.goto 33, 3) := by decide +kernel
theorem dX9_step_54 : decode cX9_step 54 = .ok (.iload_n 2, 1) := by decide +kernel
theorem dX9_step_55 : decode cX9_step 55 = .ok (.iconst 2, 1) := by decide +kernel
theorem dX9_step_56 : decode cX9_step 56 = .ok (.if_icmp .ne 15, 3) := by decide +kernel
theorem dX9_step_59 : decode cX9_step 59 = .ok (.aload_n 0, 1) := by decide +kernel
theorem dX9_step_60 : decode cX9_step 60 = .ok (.getfield 7, 3) := by decide +kernel
theorem dX9_step_63 : decode cX9_step 63 = .ok (.bipush 25, 2) := by decide +kernel
theorem dX9_step_65 : decode cX9_step 65 = .ok (.iload_n 1, 1) := by decide +kernel
theorem dX9_step_66 : decode cX9_step 66 = .ok (.iadd, 1) := by decide +kernel
theorem dX9_step_67 : decode cX9_step 67 = .ok (.iaload, 1) := by decide +kernel
theorem dX9_step_68 : decode cX9_step 68 = .ok (.goto 16, 3) := by decide +kernel
theorem dX9_step_71 : decode cX9_step 71 = .ok (.aload_n 0, 1) := by decide +kernel
theorem dX9_step_72 : decode cX9_step 72 = .ok (.iload_n 1, 1) := by decide +kernel
theorem dX9_step_73 : decode cX9_step 73 = .ok (.invokevirtual 116, 3) := by decide +kernel
theorem dX9_step_76 : decode cX9_step 76 = .ok (.ifCond .eq 7, 3) := by decide +kernel
theorem dX9_step_79 : decode cX9_step 79 = .ok (.iconst 1, 1) := by decide +kernel
theorem dX9_step_80 : decode cX9_step 80 = .ok (.goto 4, 3) := by decide +kernel
theorem dX9_step_83 : decode cX9_step 83 = .ok (.iconst 0, 1) := by decide +kernel
theorem dX9_step_84 : decode cX9_step 84 = .ok (.ireturn, 1) := by decide +kernel
theorem dX9_minds_0 : decode cX9_minds 0 = .ok (.aload_n 0, 1) := by decide +kernel
theorem dX9_minds_1 : decode cX9_minds 1 = .ok (.getfield 96, 3) := by decide +kernel
theorem dX9_minds_4 : decode cX9_minds 4 = .ok (.bipush 8, 2) := by decide +kernel
theorem dX9_minds_6 : decode cX9_minds 6 = .ok (.if_icmp .ne 51, 3) := by decide +kernel
theorem dX9_minds_9 : decode cX9_minds 9 = .ok (.iconst 0, 1) := by decide +kernel
theorem dX9_minds_10 : decode cX9_minds 10 = .ok (.istore_n 1, 1) := by decide +kernel
theorem dX9_minds_11 : decode cX9_minds 11 = .ok (.iload_n 1, 1) := by decide +kernel
theorem dX9_minds_12 : decode cX9_minds 12 = .ok (.sipush 385, 3) := by decide +kernel
theorem dX9_minds_15 : decode cX9_minds 15 = .ok (.if_icmp .ge 32, 3) := by decide +kernel
theorem dX9_minds_18 : decode cX9_minds 18 = .ok (.aload_n 0, 1) := by decide +kernel
theorem dX9_minds_19 : decode cX9_minds 19 = .ok (.getfield 7, 3) := by decide +kernel
theorem dX9_minds_22 : decode cX9_minds 22 = .ok (.sipush 165, 3) := by decide +kernel
theorem dX9_minds_25 : decode cX9_minds 25 = .ok (.iload_n 1, 1) := by decide +kernel
theorem dX9_minds_26 : decode cX9_minds 26 = .ok (.iadd, 1) := by decide +kernel
theorem dX9_minds_27 : decode cX9_minds 27 = .ok (.aload_n 0, 1) := by decide +kernel
theorem dX9_minds_28 : decode cX9_minds 28 = .ok (.getfield 7, 3) := by decide +kernel
theorem dX9_minds_31 : decode cX9_minds 31 = .ok (.sipush 165, 3) := by decide +kernel
theorem dX9_minds_34 : decode cX9_minds 34 = .ok (.iload_n 1, 1) := by decide +kernel
theorem dX9_minds_35 : decode cX9_minds 35 = .ok (.iadd, 1) := by decide +kernel
theorem dX9_minds_36 : decode cX9_minds 36 = .ok (.bipush 55, 2) := by decide +kernel
theorem dX9_minds_38 : decode cX9_minds 38 = .ok (.iadd, 1) := by decide +kernel
theorem dX9_minds_39 : decode cX9_minds 39 = .ok (.iaload, 1) := by decide +kernel
theorem dX9_minds_40 : decode cX9_minds 40 = .ok (.iastore, 1) := by decide +kernel
theorem dX9_minds_41 : decode cX9_minds 41 = .ok (.iinc 1 1, 3) := by decide +kernel
theorem dX9_minds_44 : decode cX9_minds 44 = .ok (.goto (-33), 3) := by decide +kernel
theorem dX9_minds_47 : decode cX9_minds 47 = .ok (.aload_n 0, 1) := by decide +kernel
theorem dX9_minds_48 : decode cX9_minds 48 = .ok (.dup, 1) := by decide +kernel
theorem dX9_minds_49 : decode cX9_minds 49 = .ok (.getfield 96, 3) := by decide +kernel
theorem dX9_minds_52 : decode cX9_minds 52 = .ok (.iconst 1, 1) := by decide +kernel
theorem dX9_minds_53 : decode cX9_minds 53 = .ok (.isub, 1) := by decide +kernel
theorem dX9_minds_54 : decode cX9_minds 54 = .ok (.putfield 96, 3) := by decide +kernel
theorem dX9_minds_57 : decode cX9_minds 57 = .ok (.aload_n 0, 1) := by decide +kernel
theorem dX9_minds_58 : decode cX9_minds 58 = .ok (.iconst 0, 1) := by decide +kernel
theorem dX9_minds_59 : decode cX9_minds 59 = .ok (.sipush 165, 3) := by decide +kernel
theorem dX9_minds_62 : decode cX9_minds 62 = .ok (.bipush 55, 2) := by decide +kernel
theorem dX9_minds_64 : decode cX9_minds 64 = .ok (.aload_n 0, 1) := by decide +kernel
theorem dX9_minds_65 : decode cX9_minds 65 = .ok (.getfield 96, 3) := by decide +kernel
theorem dX9_minds_68 : decode cX9_minds 68 = .ok (.imul, 1) := by decide +kernel
theorem dX9_minds_69 : decode cX9_minds 69 = .ok (.iadd, 1) := by decide +kernel
theorem dX9_minds_70 : decode cX9_minds 70 = .ok (.invokevirtual 89, 3) := by decide +kernel
theorem dX9_minds_73 : decode cX9_minds 73 = .ok (.aload_n 0, 1) := by decide +kernel
theorem dX9_minds_74 : decode cX9_minds 74 = .ok (.dup, 1) := by decide +kernel
theorem dX9_minds_75 : decode cX9_minds 75 = .ok (.getfield 96, 3) := by decide +kernel
theorem dX9_minds_78 : decode cX9_minds 78 = .ok (.iconst 1, 1) := by decide +kernel
theorem dX9_minds_79 : decode cX9_minds 79 = .ok (.iadd, 1) := by decide +kernel
theorem dX9_minds_80 : decode cX9_minds 80 = .ok (.putfield 96, 3) := by decide +kernel
theorem dX9_minds_83 : decode cX9_minds 83 = .ok (.return_, 1) := by decide +kernel
theorem dX9_go_0 : decode cX9_go 0 = .ok (.aload_n 0, 1) := by decide +kernel
theorem dX9_go_1 : decode cX9_go 1 = .ok (.iload_n 1, 1) := by decide +kernel
theorem dX9_go_2 : decode cX9_go 2 = .ok (.invokevirtual 111, 3) := by decide +kernel
theorem dX9_go_5 : decode cX9_go 5 = .ok (.ifCond .ne 5, 3) := by decide +kernel
theorem dX9_go_8 : decode cX9_go 8 = .ok (.iconst (-1), 1) := by decide +kernel
theorem dX9_go_9 : decode cX9_go 9 = .ok (.ireturn, 1) := by decide +kernel
theorem dX9_go_10 : decode cX9_go 10 = .ok (.aload_n 0, 1) := by decide +kernel
theorem dX9_go_11 : decode cX9_go 11 = .ok (.iload_n 1, 1) := by decide +kernel
theorem dX9_go_12 : decode cX9_go 12 = .ok (.invokevirtual 116, 3) := by decide +kernel
theorem dX9_go_15 : decode cX9_go 15 = .ok (.ifCond .ne 6, 3) := by decide +kernel
theorem dX9_go_18 : decode cX9_go 18 = .ok (.bipush (-2), 2) := by decide +kernel
theorem dX9_go_20 : decode cX9_go 20 = .ok (.ireturn, 1) := by decide +kernel
theorem dX9_go_21 : decode cX9_go 21 = .ok (.aload_n 0, 1) := by decide +kernel
theorem dX9_go_22 : decode cX9_go 22 = .ok (.invokevirtual 119, 3) := by decide +kernel
theorem dX9_go_25 : decode cX9_go 25 = .ok (.aload_n 0, 1) := by decide +kernel
theorem dX9_go_26 : decode cX9_go 26 = .ok (.getfield 7, 3) := by decide +kernel
theorem dX9_go_29 : decode cX9_go 29 = .ok (.iconst 3, 1) := by decide +kernel
theorem dX9_go_30 : decode cX9_go 30 = .ok (.dup2, 1) := by decide +kernel
theorem dX9_go_31 : decode cX9_go 31 = .ok (.iaload, 1) := by decide +kernel
theorem dX9_go_32 : decode cX9_go 32 = .ok (.iconst 1, 1) := by decide +kernel
theorem dX9_go_33 : decode cX9_go 33 = .ok (.aload_n 0, 1) := by decide +kernel
theorem dX9_go_34 : decode cX9_go 34 = .ok (.getfield 7, 3) := by decide +kernel
theorem dX9_go_37 : decode cX9_go 37 = .ok (.bipush 25, 2) := by decide +kernel
theorem dX9_go_39 : decode cX9_go 39 = .ok (.iload_n 1, 1) := by decide +kernel
theorem dX9_go_40 : decode cX9_go 40 = .ok (.iadd, 1) := by decide +kernel
theorem dX9_go_41 : decode cX9_go 41 = .ok (.iaload, 1) := by decide +kernel
theorem dX9_go_42 : decode cX9_go 42 = .ok (.ishl, 1) := by decide +kernel
theorem dX9_go_43 : decode cX9_go 43 = .ok (.ior, 1) := by decide +kernel
theorem dX9_go_44 : decode cX9_go 44 = .ok (.iastore, 1) := by decide +kernel
theorem dX9_go_45 : decode cX9_go 45 = .ok (.aload_n 0, 1) := by decide +kernel
theorem dX9_go_46 : decode cX9_go 46 = .ok (.getfield 7, 3) := by decide +kernel
theorem dX9_go_49 : decode cX9_go 49 = .ok (.bipush 35, 2) := by decide +kernel
theorem dX9_go_51 : decode cX9_go 51 = .ok (.aload_n 0, 1) := by decide +kernel
theorem dX9_go_52 : decode cX9_go 52 = .ok (.getfield 7, 3) := by decide +kernel
theorem dX9_go_55 : decode cX9_go 55 = .ok (.bipush 25, 2) := by decide +kernel
theorem dX9_go_57 : decode cX9_go 57 = .ok (.iload_n 1, 1) := by decide +kernel
theorem dX9_go_58 : decode cX9_go 58 = .ok (.iadd, 1) := by decide +kernel
theorem dX9_go_59 : decode cX9_go 59 = .ok (.iaload, 1) := by decide +kernel
theorem dX9_go_60 : decode cX9_go 60 = .ok (.iadd, 1) := by decide +kernel
theorem dX9_go_61 : decode cX9_go 61 = .ok (.dup2, 1) := by decide +kernel
theorem dX9_go_62 : decode cX9_go 62 = .ok (.iaload, 1) := by decide +kernel
theorem dX9_go_63 : decode cX9_go 63 = .ok (.iconst 1, 1) := by decide +kernel
theorem dX9_go_64 : decode cX9_go 64 = .ok (.iadd, 1) := by decide +kernel
theorem dX9_go_65 : decode cX9_go 65 = .ok (.iastore, 1) := by decide +kernel
theorem dX9_go_66 : decode cX9_go 66 = .ok (.aload_n 0, 1) := by decide +kernel
theorem dX9_go_67 : decode cX9_go 67 = .ok (.getfield 7, 3) := by decide +kernel
theorem dX9_go_70 : decode cX9_go 70 = .ok (.iconst 3, 1) := by decide +kernel
theorem dX9_go_71 : decode cX9_go 71 = .ok (.iaload, 1) := by decide +kernel
theorem dX9_go_72 : decode cX9_go 72 = .ok (.invokestatic 122, 3) := by decide +kernel
theorem dX9_go_75 : decode cX9_go 75 = .ok (.ireturn, 1) := by decide +kernel
theorem dX9_takeOut_0 : decode cX9_takeOut 0 = .ok (.aload_n 0, 1) := by decide +kernel
theorem dX9_takeOut_1 : decode cX9_takeOut 1 = .ok (.iload_n 1, 1) := by decide +kernel
theorem dX9_takeOut_2 : decode cX9_takeOut 2 = .ok (.invokevirtual 106, 3) := by decide +kernel
theorem dX9_takeOut_5 : decode cX9_takeOut 5 = .ok (.ifCond .ne 5, 3) := by decide +kernel
theorem dX9_takeOut_8 : decode cX9_takeOut 8 = .ok (.iconst (-1), 1) := by decide +kernel
theorem dX9_takeOut_9 : decode cX9_takeOut 9 = .ok (.ireturn, 1) := by decide +kernel
theorem dX9_takeOut_10 : decode cX9_takeOut 10 = .ok (.aload_n 0, 1) := by decide +kernel
theorem dX9_takeOut_11 : decode cX9_takeOut 11 = .ok (.getfield 7, 3) := by decide +kernel
theorem dX9_takeOut_14 : decode cX9_takeOut 14 = .ok (.iconst 2, 1) := by decide +kernel
theorem dX9_takeOut_15 : decode cX9_takeOut 15 = .ok (.iaload, 1) := by decide +kernel
theorem dX9_takeOut_16 : decode cX9_takeOut 16 = .ok (.iload_n 1, 1) := by decide +kernel
theorem dX9_takeOut_17 : decode cX9_takeOut 17 = .ok (.invokestatic 102, 3) := by decide +kernel
theorem dX9_takeOut_20 : decode cX9_takeOut 20 = .ok (.ifCond .ne 6, 3) := by decide +kernel
theorem dX9_takeOut_23 : decode cX9_takeOut 23 = .ok (.bipush (-2), 2) := by decide +kernel
theorem dX9_takeOut_25 : decode cX9_takeOut 25 = .ok (.ireturn, 1) := by decide +kernel
theorem dX9_takeOut_26 : decode cX9_takeOut 26 = .ok (.aload_n 0, 1) := by decide +kernel
theorem dX9_takeOut_27 : decode cX9_takeOut 27 = .ok (.invokevirtual 119, 3) := by decide +kernel
theorem dX9_takeOut_30 : decode cX9_takeOut 30 = .ok (.aload_n 0, 1) := by decide +kernel
theorem dX9_takeOut_31 : decode cX9_takeOut 31 = .ok (.getfield 7, 3) := by decide +kernel
theorem dX9_takeOut_34 : decode cX9_takeOut 34 = .ok (.iconst 2, 1) := by decide +kernel
theorem dX9_takeOut_35 : decode cX9_takeOut 35 = .ok (.dup2, 1) := by decide +kernel
theorem dX9_takeOut_36 : decode cX9_takeOut 36 = .ok (.iaload, 1) := by decide +kernel
theorem dX9_takeOut_37 : decode cX9_takeOut 37 = .ok (.iconst 1, 1) := by decide +kernel
theorem dX9_takeOut_38 : decode cX9_takeOut 38 = .ok (.iload_n 1, 1) := by decide +kernel
theorem dX9_takeOut_39 : decode cX9_takeOut 39 = .ok (.ishl, 1) := by decide +kernel
theorem dX9_takeOut_40 : decode cX9_takeOut 40 = .ok (.iconst (-1), 1) := by decide +kernel
theorem dX9_takeOut_41 : decode cX9_takeOut 41 = .ok (.ixor, 1) := by decide +kernel
theorem dX9_takeOut_42 : decode cX9_takeOut 42 = .ok (.iand, 1) := by decide +kernel
theorem dX9_takeOut_43 : decode cX9_takeOut 43 = .ok (.iastore, 1) := by decide +kernel
theorem dX9_takeOut_44 : decode cX9_takeOut 44 = .ok (.aload_n 0, 1) := by decide +kernel
theorem dX9_takeOut_45 : decode cX9_takeOut 45 = .ok (.getfield 7, 3) := by decide +kernel
theorem dX9_takeOut_48 : decode cX9_takeOut 48 = .ok (.iconst 3, 1) := by decide +kernel
theorem dX9_takeOut_49 : decode cX9_takeOut 49 = .ok (.dup2, 1) := by decide +kernel
theorem dX9_takeOut_50 : decode cX9_takeOut 50 = .ok (.iaload, 1) := by decide +kernel
theorem dX9_takeOut_51 : decode cX9_takeOut 51 = .ok (.iconst 1, 1) := by decide +kernel
theorem dX9_takeOut_52 : decode cX9_takeOut 52 = .ok (.iload_n 1, 1) := by decide +kernel
theorem dX9_takeOut_53 : decode cX9_takeOut 53 = .ok (.ishl, 1) := by decide +kernel
theorem dX9_takeOut_54 : decode cX9_takeOut 54 = .ok (.iconst (-1), 1) := by decide +kernel
theorem dX9_takeOut_55 : decode cX9_takeOut 55 = .ok (.ixor, 1) := by decide +kernel
theorem dX9_takeOut_56 : decode cX9_takeOut 56 = .ok (.iand, 1) := by decide +kernel
theorem dX9_takeOut_57 : decode cX9_takeOut 57 = .ok (.iastore, 1) := by decide +kernel
theorem dX9_takeOut_58 : decode cX9_takeOut 58 = .ok (.aload_n 0, 1) := by decide +kernel
theorem dX9_takeOut_59 : decode cX9_takeOut 59 = .ok (.getfield 7, 3) := by decide +kernel
theorem dX9_takeOut_62 : decode cX9_takeOut 62 = .ok (.iconst 2, 1) := by decide +kernel
theorem dX9_takeOut_63 : decode cX9_takeOut 63 = .ok (.iaload, 1) := by decide +kernel
theorem dX9_takeOut_64 : decode cX9_takeOut 64 = .ok (.invokestatic 122, 3) := by decide +kernel
theorem dX9_takeOut_67 : decode cX9_takeOut 67 = .ok (.ireturn, 1) := by decide +kernel
theorem dX9_lay_0 : decode cX9_lay 0 = .ok (.aload_n 0, 1) := by decide +kernel
theorem dX9_lay_1 : decode cX9_lay 1 = .ok (.iload_n 1, 1) := by decide +kernel
theorem dX9_lay_2 : decode cX9_lay 2 = .ok (.invokevirtual 106, 3) := by decide +kernel
theorem dX9_lay_5 : decode cX9_lay 5 = .ok (.ifCond .eq 29, 3) := by decide +kernel
theorem dX9_lay_8 : decode cX9_lay 8 = .ok (.aload_n 0, 1) := by decide +kernel
theorem dX9_lay_9 : decode cX9_lay 9 = .ok (.iload_n 2, 1) := by decide +kernel
theorem dX9_lay_10 : decode cX9_lay 10 = .ok (.invokevirtual 106, 3) := by decide +kernel
theorem dX9_lay_13 : decode cX9_lay 13 = .ok (.ifCond .eq 21, 3) := by decide +kernel
theorem dX9_lay_16 : decode cX9_lay 16 = .ok (.aload_n 0, 1) := by decide +kernel
theorem dX9_lay_17 : decode cX9_lay 17 = .ok (.iload_n 3, 1) := by decide +kernel
theorem dX9_lay_18 : decode cX9_lay 18 = .ok (.invokevirtual 106, 3) := by decide +kernel
theorem dX9_lay_21 : decode cX9_lay 21 = .ok (.ifCond .eq 13, 3) := by decide +kernel
theorem dX9_lay_24 : decode cX9_lay 24 = .ok (.iload_n 1, 1) := by decide +kernel
theorem dX9_lay_25 : decode cX9_lay 25 = .ok (.iload_n 3, 1) := by decide +kernel
theorem dX9_lay_26 : decode cX9_lay 26 = .ok (.if_icmp .eq 8, 3) := by decide +kernel
theorem dX9_lay_29 : decode cX9_lay 29 = .ok (.iload_n 2, 1) := by decide +kernel
theorem dX9_lay_30 : decode cX9_lay 30 = .ok (.iload_n 3, 1) := by decide +kernel
theorem dX9_lay_31 : decode cX9_lay 31 = .ok (.if_icmp .ne 5, 3) := by decide +kernel
theorem dX9_lay_34 : decode cX9_lay 34 = .ok (.iconst (-1), 1) := by decide +kernel
theorem dX9_lay_35 : decode cX9_lay 35 = .ok (.ireturn, 1) := by decide +kernel
theorem dX9_lay_36 : decode cX9_lay 36 = .ok (.aload_n 0, 1) := by decide +kernel
theorem dX9_lay_37 : decode cX9_lay 37 = .ok (.getfield 7, 3) := by decide +kernel
theorem dX9_lay_40 : decode cX9_lay 40 = .ok (.iconst 4, 1) := by decide +kernel
theorem dX9_lay_41 : decode cX9_lay 41 = .ok (.iaload, 1) := by decide +kernel
theorem dX9_lay_42 : decode cX9_lay 42 = .ok (.bipush 10, 2) := by decide +kernel
theorem dX9_lay_44 : decode cX9_lay 44 = .ok (.if_icmp .ne 6, 3) := by decide +kernel
theorem dX9_lay_47 : decode cX9_lay 47 = .ok (.bipush (-3), 2) := by decide +kernel
theorem dX9_lay_49 : decode cX9_lay 49 = .ok (.ireturn, 1) := by decide +kernel
theorem dX9_lay_50 : decode cX9_lay 50 = .ok (.aload_n 0, 1) := by decide +kernel
theorem dX9_lay_51 : decode cX9_lay 51 = .ok (.invokevirtual 119, 3) := by decide +kernel
theorem dX9_lay_54 : decode cX9_lay 54 = .ok (.aload_n 0, 1) := by decide +kernel
theorem dX9_lay_55 : decode cX9_lay 55 = .ok (.iconst 0, 1) := by decide +kernel
theorem dX9_lay_56 : decode cX9_lay 56 = .ok (.iload_n 1, 1) := by decide +kernel
theorem dX9_lay_57 : decode cX9_lay 57 = .ok (.iload_n 2, 1) := by decide +kernel
theorem dX9_lay_58 : decode cX9_lay 58 = .ok (.iload_n 3, 1) := by decide +kernel
theorem dX9_lay_59 : decode cX9_lay 59 = .ok (.invokevirtual 36, 3) := by decide +kernel
theorem dX9_lay_62 : decode cX9_lay 62 = .ok (.aload_n 0, 1) := by decide +kernel
theorem dX9_lay_63 : decode cX9_lay 63 = .ok (.getfield 7, 3) := by decide +kernel
theorem dX9_lay_66 : decode cX9_lay 66 = .ok (.iconst 4, 1) := by decide +kernel
theorem dX9_lay_67 : decode cX9_lay 67 = .ok (.iaload, 1) := by decide +kernel
theorem dX9_lay_68 : decode cX9_lay 68 = .ok (.iconst 1, 1) := by decide +kernel
theorem dX9_lay_69 : decode cX9_lay 69 = .ok (.isub, 1) := by decide +kernel
theorem dX9_lay_70 : decode cX9_lay 70 = .ok (.ireturn, 1) := by decide +kernel
theorem dX9_undo_0 : decode cX9_undo 0 = .ok (.aload_n 0, 1) := by decide +kernel
theorem dX9_undo_1 : decode cX9_undo 1 = .ok (.getfield 96, 3) := by decide +kernel
theorem dX9_undo_4 : decode cX9_undo 4 = .ok (.ifCond .ne 6, 3) := by decide +kernel
theorem dX9_undo_7 : decode cX9_undo 7 = .ok (.bipush (-2), 2) := by decide +kernel
theorem dX9_undo_9 : decode cX9_undo 9 = .ok (.ireturn, 1) := by decide +kernel
theorem dX9_undo_10 : decode cX9_undo 10 = .ok (.aload_n 0, 1) := by decide +kernel
theorem dX9_undo_11 : decode cX9_undo 11 = .ok (.dup, 1) := by decide +kernel
theorem dX9_undo_12 : decode cX9_undo 12 = .ok (.getfield 96, 3) := by decide +kernel
theorem dX9_undo_15 : decode cX9_undo 15 = .ok (.iconst 1, 1) := by decide +kernel
theorem dX9_undo_16 : decode cX9_undo 16 = .ok (.isub, 1) := by decide +kernel
theorem dX9_undo_17 : decode cX9_undo 17 = .ok (.putfield 96, 3) := by decide +kernel
theorem dX9_undo_20 : decode cX9_undo 20 = .ok (.aload_n 0, 1) := by decide +kernel
theorem dX9_undo_21 : decode cX9_undo 21 = .ok (.sipush 165, 3) := by decide +kernel
theorem dX9_undo_24 : decode cX9_undo 24 = .ok (.bipush 55, 2) := by decide +kernel
theorem dX9_undo_26 : decode cX9_undo 26 = .ok (.aload_n 0, 1) := by decide +kernel
theorem dX9_undo_27 : decode cX9_undo 27 = .ok (.getfield 96, 3) := by decide +kernel
theorem dX9_undo_30 : decode cX9_undo 30 = .ok (.imul, 1) := by decide +kernel
theorem dX9_undo_31 : decode cX9_undo 31 = .ok (.iadd, 1) := by decide +kernel
theorem dX9_undo_32 : decode cX9_undo 32 = .ok (.iconst 0, 1) := by decide +kernel
theorem dX9_undo_33 : decode cX9_undo 33 = .ok (.invokevirtual 89, 3) := by decide +kernel
theorem dX9_undo_36 : decode cX9_undo 36 = .ok (.aload_n 0, 1) := by decide +kernel
theorem dX9_undo_37 : decode cX9_undo 37 = .ok (.iconst 0, 1) := by decide +kernel
theorem dX9_undo_38 : decode cX9_undo 38 = .ok (.putfield 93, 3) := by decide +kernel
theorem dX9_undo_41 : decode cX9_undo 41 = .ok (.aload_n 0, 1) := by decide +kernel
theorem dX9_undo_42 : decode cX9_undo 42 = .ok (.getfield 96, 3) := by decide +kernel
theorem dX9_undo_45 : decode cX9_undo 45 = .ok (.ireturn, 1) := by decide +kernel
theorem dX9_closure_0 : decode cX9_closure 0 = .ok (.iload_n 1, 1) := by decide +kernel
theorem dX9_closure_1 : decode cX9_closure 1 = .ok (.iload_n 3, 1) := by decide +kernel
theorem dX9_closure_2 : decode cX9_closure 2 = .ok (.iand, 1) := by decide +kernel
theorem dX9_closure_3 : decode cX9_closure 3 = .ok (.istore 4, 2) := by decide +kernel
theorem dX9_closure_5 : decode cX9_closure 5 = .ok (.iconst 1, 1) := by decide +kernel
theorem dX9_closure_6 : decode cX9_closure 6 = .ok (.istore 5, 2) := by decide +kernel
theorem dX9_closure_8 : decode cX9_closure 8 = .ok (.iload 5, 2) := by decide +kernel
theorem dX9_closure_10 : decode cX9_closure 10 = .ok (.ifCond .eq 158, 3) := by decide +kernel
theorem dX9_closure_13 : decode cX9_closure 13 = .ok (.iconst 0, 1) := by decide +kernel
theorem dX9_closure_14 : decode cX9_closure 14 = .ok (.istore 5, 2) := by decide +kernel
theorem dX9_closure_16 : decode cX9_closure 16 = .ok (.iconst 0, 1) := by decide +kernel
theorem dX9_closure_17 : decode cX9_closure 17 = .ok (.istore 6, 2) := by decide +kernel
theorem dX9_closure_19 : decode cX9_closure 19 = .ok (.iload 6, 2) := by decide +kernel
theorem dX9_closure_21 : decode cX9_closure 21 = .ok (.aload_n 0, 1) := by decide +kernel
theorem dX9_closure_22 : decode cX9_closure 22 = .ok (.getfield 7, 3) := by decide +kernel
theorem dX9_closure_25 : decode cX9_closure 25 = .ok (.iconst 4, 1) := by decide +kernel
theorem dX9_closure_26 : decode cX9_closure 26 = .ok (.iaload, 1) := by decide +kernel
theorem dX9_closure_27 : decode cX9_closure 27 = .ok (.if_icmp .ge 138, 3) := by decide +kernel
theorem dX9_closure_30 : decode cX9_closure 30 = .ok (.iload_n 2, 1) := by decide +kernel
theorem dX9_closure_31 : decode cX9_closure 31 = .ok (.iload 6, 2) := by decide +kernel
theorem dX9_closure_33 : decode cX9_closure 33 = .ok (.invokestatic 102, 3) := by decide +kernel
theorem dX9_closure_36 : decode cX9_closure 36 = .ok (.ifCond .eq 77, 3) := by decide +kernel
theorem dX9_closure_39 : decode cX9_closure 39 = .ok (.iload 4, 2) := by decide +kernel
theorem dX9_closure_41 : decode cX9_closure 41 = .ok (.aload_n 0, 1) := by decide +kernel
theorem dX9_closure_42 : decode cX9_closure 42 = .ok (.getfield 7, 3) := by decide +kernel
theorem dX9_closure_45 : decode cX9_closure 45 = .ok (.iconst 5, 1) := by decide +kernel
theorem dX9_closure_46 : decode cX9_closure 46 = .ok (.iload 6, 2) := by decide +kernel
theorem dX9_closure_48 : decode cX9_closure 48 = .ok (.iadd, 1) := by decide +kernel
theorem dX9_closure_49 : decode cX9_closure 49 = .ok (.iaload, 1) := by decide +kernel
theorem dX9_closure_50 : decode cX9_closure 50 = .ok (.invokestatic 102, 3) := by decide +kernel
theorem dX9_closure_53 : decode cX9_closure 53 = .ok (.ifCond .eq 60, 3) := by decide +kernel
theorem dX9_closure_56 : decode cX9_closure 56 = .ok (.iload 4, 2) := by decide +kernel
theorem dX9_closure_58 : decode cX9_closure 58 = .ok (.aload_n 0, 1) := by decide +kernel
theorem dX9_closure_59 : decode cX9_closure 59 = .ok (.getfield 7, 3) := by decide +kernel
theorem dX9_closure_62 : decode cX9_closure 62 = .ok (.bipush 15, 2) := by decide +kernel
theorem dX9_closure_64 : decode cX9_closure 64 = .ok (.iload 6, 2) := by decide +kernel
theorem dX9_closure_66 : decode cX9_closure 66 = .ok (.iadd, 1) := by decide +kernel
theorem dX9_closure_67 : decode cX9_closure 67 = .ok (.iaload, 1) := by decide +kernel
theorem dX9_closure_68 : decode cX9_closure 68 = .ok (.invokestatic 102, 3) := by decide +kernel
theorem dX9_closure_71 : decode cX9_closure 71 = .ok (.ifCond .eq 42, 3) := by decide +kernel
theorem dX9_closure_74 : decode cX9_closure 74 = .ok (.iload_n 3, 1) := by decide +kernel
theorem dX9_closure_75 : decode cX9_closure 75 = .ok (.aload_n 0, 1) := by decide +kernel
theorem dX9_closure_76 : decode cX9_closure 76 = .ok (.getfield 7, 3) := by decide +kernel
theorem dX9_closure_79 : decode cX9_closure 79 = .ok (.bipush 25, 2) := by decide +kernel
theorem dX9_closure_81 : decode cX9_closure 81 = .ok (.iload 6, 2) := by decide +kernel
theorem dX9_closure_83 : decode cX9_closure 83 = .ok (.iadd, 1) := by decide +kernel
theorem dX9_closure_84 : decode cX9_closure 84 = .ok (.iaload, 1) := by decide +kernel
theorem dX9_closure_85 : decode cX9_closure 85 = .ok (.invokestatic 102, 3) := by decide +kernel
theorem dX9_closure_88 : decode cX9_closure 88 = .ok (.ifCond .eq 25, 3) := by decide +kernel
theorem dX9_closure_91 : decode cX9_closure 91 = .ok (.iload 4, 2) := by decide +kernel
theorem dX9_closure_93 : decode cX9_closure 93 = .ok (.aload_n 0, 1) := by decide +kernel
theorem dX9_closure_94 : decode cX9_closure 94 = .ok (.getfield 7, 3) := by decide +kernel
theorem dX9_closure_97 : decode cX9_closure 97 = .ok (.bipush 25, 2) := by decide +kernel
theorem dX9_closure_99 : decode cX9_closure 99 = .ok (.iload 6, 2) := by decide +kernel
theorem dX9_closure_101 : decode cX9_closure 101 = .ok (.iadd, 1) := by decide +kernel
theorem dX9_closure_102 : decode cX9_closure 102 = .ok (.iaload, 1) := by decide +kernel
theorem dX9_closure_103 : decode cX9_closure 103 = .ok (.invokestatic 102, 3) := by decide +kernel
theorem dX9_closure_106 : decode cX9_closure 106 = .ok (.ifCond .ne 7, 3) := by decide +kernel
theorem dX9_closure_109 : decode cX9_closure 109 = .ok (.iconst 1, 1) := by decide +kernel
theorem dX9_closure_110 : decode cX9_closure 110 = .ok (.goto 4, 3) := by decide +kernel
theorem dX9_closure_113 : decode cX9_closure 113 = .ok (.iconst 0, 1) := by decide +kernel
theorem dX9_closure_114 : decode cX9_closure 114 = .ok (.istore 7, 2) := by decide +kernel
theorem dX9_closure_116 : decode cX9_closure 116 = .ok (.iload 4, 2) := by decide +kernel
theorem dX9_closure_118 : decode cX9_closure 118 = .ok (.iload 7, 2) := by decide +kernel
theorem dX9_closure_120 : decode cX9_closure 120 = .ok (.ifCond .eq 18, 3) := by decide +kernel
theorem dX9_closure_123 : decode cX9_closure 123 = .ok (.iconst 1, 1) := by decide +kernel
theorem dX9_closure_124 : decode cX9_closure 124 = .ok (.aload_n 0, 1) := by decide +kernel
theorem dX9_closure_125 : decode cX9_closure 125 = .ok (.getfield 7, 3) := by decide +kernel
theorem dX9_closure_128 : decode cX9_closure 128 = .ok (.bipush 25, 2) := by decide +kernel
theorem dX9_closure_130 : decode cX9_closure 130 = .ok (.iload 6, 2) := by decide +kernel
theorem dX9_closure_132 : decode cX9_closure 132 = .ok (.iadd, 1) := by decide +kernel
theorem dX9_closure_133 : decode cX9_closure 133 = .ok (.iaload, 1) := by decide +kernel
theorem dX9_closure_134 : decode cX9_closure 134 = .ok (.ishl, 1) := by decide +kernel
theorem dX9_closure_135 : decode cX9_closure 135 = .ok (.goto 4, 3) := by decide +kernel
theorem dX9_closure_138 : decode cX9_closure 138 = .ok (.iconst 0, 1) := by decide +kernel
theorem dX9_closure_139 : decode cX9_closure 139 = .ok (.ior, 1) := by decide +kernel
theorem dX9_closure_140 : decode cX9_closure 140 = .ok (.istore 4, 2) := by decide +kernel
theorem dX9_closure_142 : decode cX9_closure 142 = .ok (.iload 5, 2) := by decide +kernel
theorem dX9_closure_144 : decode cX9_closure 144 = .ok (.ifCond .ne 8, 3) := by decide +kernel
theorem dX9_closure_147 : decode cX9_closure 147 = .ok (.iload 7, 2) := by decide +kernel
theorem dX9_closure_149 : decode cX9_closure 149 = .ok (.ifCond .eq 7, 3) := by decide +kernel
theorem dX9_closure_152 : decode cX9_closure 152 = .ok (.iconst 1, 1) := by decide +kernel
theorem dX9_closure_153 : decode cX9_closure 153 = .ok (.goto 4, 3) := by decide +kernel
theorem dX9_closure_156 : decode cX9_closure 156 = .ok (.iconst 0, 1) := by decide +kernel
theorem dX9_closure_157 : decode cX9_closure 157 = .ok (.istore 5, 2) := by decide +kernel
theorem dX9_closure_159 : decode cX9_closure 159 = .ok (.iinc 6 1, 3) := by decide +kernel
theorem dX9_closure_162 : decode cX9_closure 162 = .ok (.goto (-143), 3) := by decide +kernel
theorem dX9_closure_165 : decode cX9_closure 165 = .ok (.goto (-157), 3) := by decide +kernel
theorem dX9_closure_168 : decode cX9_closure 168 = .ok (.iload 4, 2) := by decide +kernel
theorem dX9_closure_170 : decode cX9_closure 170 = .ok (.ireturn, 1) := by decide +kernel
theorem dX9_allSteps_0 : decode cX9_allSteps 0 = .ok (.iconst 1, 1) := by decide +kernel
theorem dX9_allSteps_1 : decode cX9_allSteps 1 = .ok (.aload_n 0, 1) := by decide +kernel
theorem dX9_allSteps_2 : decode cX9_allSteps 2 = .ok (.getfield 7, 3) := by decide +kernel
theorem dX9_allSteps_5 : decode cX9_allSteps 5 = .ok (.iconst 4, 1) := by decide +kernel
theorem dX9_allSteps_6 : decode cX9_allSteps 6 = .ok (.iaload, 1) := by decide +kernel
theorem dX9_allSteps_7 : decode cX9_allSteps 7 = .ok (.ishl, 1) := by decide +kernel
theorem dX9_allSteps_8 : decode cX9_allSteps 8 = .ok (.iconst 1, 1) := by decide +kernel
theorem dX9_allSteps_9 : decode cX9_allSteps 9 = .ok (.isub, 1) := by decide +kernel
theorem dX9_allSteps_10 : decode cX9_allSteps 10 = .ok (.ireturn, 1) := by decide +kernel
theorem dX9_reachOf_0 : decode cX9_reachOf 0 = .ok (.aload_n 0, 1) := by decide +kernel
theorem dX9_reachOf_1 : decode cX9_reachOf 1 = .ok (.iload_n 1, 1) := by decide +kernel
theorem dX9_reachOf_2 : decode cX9_reachOf 2 = .ok (.aload_n 0, 1) := by decide +kernel
theorem dX9_reachOf_3 : decode cX9_reachOf 3 = .ok (.invokevirtual 126, 3) := by decide +kernel
theorem dX9_reachOf_6 : decode cX9_reachOf 6 = .ok (.aload_n 0, 1) := by decide +kernel
theorem dX9_reachOf_7 : decode cX9_reachOf 7 = .ok (.getfield 7, 3) := by decide +kernel
theorem dX9_reachOf_10 : decode cX9_reachOf 10 = .ok (.iconst 2, 1) := by decide +kernel
theorem dX9_reachOf_11 : decode cX9_reachOf 11 = .ok (.iaload, 1) := by decide +kernel
theorem dX9_reachOf_12 : decode cX9_reachOf 12 = .ok (.invokevirtual 129, 3) := by decide +kernel
theorem dX9_reachOf_15 : decode cX9_reachOf 15 = .ok (.ireturn, 1) := by decide +kernel
theorem dX9_beginnings_0 : decode cX9_beginnings 0 = .ok (.aload_n 0, 1) := by decide +kernel
theorem dX9_beginnings_1 : decode cX9_beginnings 1 = .ok (.getfield 7, 3) := by decide +kernel
theorem dX9_beginnings_4 : decode cX9_beginnings 4 = .ok (.iconst 1, 1) := by decide +kernel
theorem dX9_beginnings_5 : decode cX9_beginnings 5 = .ok (.iaload, 1) := by decide +kernel
theorem dX9_beginnings_6 : decode cX9_beginnings 6 = .ok (.aload_n 0, 1) := by decide +kernel
theorem dX9_beginnings_7 : decode cX9_beginnings 7 = .ok (.getfield 7, 3) := by decide +kernel
theorem dX9_beginnings_10 : decode cX9_beginnings 10 = .ok (.iconst 2, 1) := by decide +kernel
theorem dX9_beginnings_11 : decode cX9_beginnings 11 = .ok (.iaload, 1) := by decide +kernel
theorem dX9_beginnings_12 : decode cX9_beginnings 12 = .ok (.iand, 1) := by decide +kernel
theorem dX9_beginnings_13 : decode cX9_beginnings 13 = .ok (.ireturn, 1) := by decide +kernel
theorem dX9_reach_0 : decode cX9_reach 0 = .ok (.aload_n 0, 1) := by decide +kernel
theorem dX9_reach_1 : decode cX9_reach 1 = .ok (.iload_n 1, 1) := by decide +kernel
theorem dX9_reach_2 : decode cX9_reach 2 = .ok (.invokevirtual 133, 3) := by decide +kernel
theorem dX9_reach_5 : decode cX9_reach 5 = .ok (.ifCond .eq 11, 3) := by decide +kernel
theorem dX9_reach_8 : decode cX9_reach 8 = .ok (.aload_n 0, 1) := by decide +kernel
theorem dX9_reach_9 : decode cX9_reach 9 = .ok (.iload_n 1, 1) := by decide +kernel
theorem dX9_reach_10 : decode cX9_reach 10 = .ok (.invokevirtual 136, 3) := by decide +kernel
theorem dX9_reach_13 : decode cX9_reach 13 = .ok (.goto 4, 3) := by decide +kernel
theorem dX9_reach_16 : decode cX9_reach 16 = .ok (.iconst (-1), 1) := by decide +kernel
theorem dX9_reach_17 : decode cX9_reach 17 = .ok (.ireturn, 1) := by decide +kernel
theorem dX9_mayFrom_0 : decode cX9_mayFrom 0 = .ok (.aload_n 0, 1) := by decide +kernel
theorem dX9_mayFrom_1 : decode cX9_mayFrom 1 = .ok (.getfield 7, 3) := by decide +kernel
theorem dX9_mayFrom_4 : decode cX9_mayFrom 4 = .ok (.iconst 2, 1) := by decide +kernel
theorem dX9_mayFrom_5 : decode cX9_mayFrom 5 = .ok (.iaload, 1) := by decide +kernel
theorem dX9_mayFrom_6 : decode cX9_mayFrom 6 = .ok (.aload_n 0, 1) := by decide +kernel
theorem dX9_mayFrom_7 : decode cX9_mayFrom 7 = .ok (.getfield 7, 3) := by decide +kernel
theorem dX9_mayFrom_10 : decode cX9_mayFrom 10 = .ok (.bipush 25, 2) := by decide +kernel
theorem dX9_mayFrom_12 : decode cX9_mayFrom 12 = .ok (.iload_n 2, 1) := by decide +kernel
theorem dX9_mayFrom_13 : decode cX9_mayFrom 13 = .ok (.iadd, 1) := by decide +kernel
theorem dX9_mayFrom_14 : decode cX9_mayFrom 14 = .ok (.iaload, 1) := by decide +kernel
theorem dX9_mayFrom_15 : decode cX9_mayFrom 15 = .ok (.invokestatic 102, 3) := by decide +kernel
theorem dX9_mayFrom_18 : decode cX9_mayFrom 18 = .ok (.ifCond .eq 54, 3) := by decide +kernel
theorem dX9_mayFrom_21 : decode cX9_mayFrom 21 = .ok (.iload_n 1, 1) := by decide +kernel
theorem dX9_mayFrom_22 : decode cX9_mayFrom 22 = .ok (.aload_n 0, 1) := by decide +kernel
theorem dX9_mayFrom_23 : decode cX9_mayFrom 23 = .ok (.getfield 7, 3) := by decide +kernel
theorem dX9_mayFrom_26 : decode cX9_mayFrom 26 = .ok (.bipush 25, 2) := by decide +kernel
theorem dX9_mayFrom_28 : decode cX9_mayFrom 28 = .ok (.iload_n 2, 1) := by decide +kernel
theorem dX9_mayFrom_29 : decode cX9_mayFrom 29 = .ok (.iadd, 1) := by decide +kernel
theorem dX9_mayFrom_30 : decode cX9_mayFrom 30 = .ok (.iaload, 1) := by decide +kernel
theorem dX9_mayFrom_31 : decode cX9_mayFrom 31 = .ok (.invokestatic 102, 3) := by decide +kernel
theorem dX9_mayFrom_34 : decode cX9_mayFrom 34 = .ok (.ifCond .ne 38, 3) := by decide +kernel
theorem dX9_mayFrom_37 : decode cX9_mayFrom 37 = .ok (.iload_n 1, 1) := by decide +kernel
theorem dX9_mayFrom_38 : decode cX9_mayFrom 38 = .ok (.aload_n 0, 1) := by decide +kernel
theorem dX9_mayFrom_39 : decode cX9_mayFrom 39 = .ok (.getfield 7, 3) := by decide +kernel
theorem dX9_mayFrom_42 : decode cX9_mayFrom 42 = .ok (.iconst 5, 1) := by decide +kernel
theorem dX9_mayFrom_43 : decode cX9_mayFrom 43 = .ok (.iload_n 2, 1) := by decide +kernel
theorem dX9_mayFrom_44 : decode cX9_mayFrom 44 = .ok (.iadd, 1) := by decide +kernel
theorem dX9_mayFrom_45 : decode cX9_mayFrom 45 = .ok (.iaload, 1) := by decide +kernel
theorem dX9_mayFrom_46 : decode cX9_mayFrom 46 = .ok (.invokestatic 102, 3) := by decide +kernel
theorem dX9_mayFrom_49 : decode cX9_mayFrom 49 = .ok (.ifCond .eq 23, 3) := by decide +kernel
theorem dX9_mayFrom_52 : decode cX9_mayFrom 52 = .ok (.iload_n 1, 1) := by decide +kernel
theorem dX9_mayFrom_53 : decode cX9_mayFrom 53 = .ok (.aload_n 0, 1) := by decide +kernel
theorem dX9_mayFrom_54 : decode cX9_mayFrom 54 = .ok (.getfield 7, 3) := by decide +kernel
theorem dX9_mayFrom_57 : decode cX9_mayFrom 57 = .ok (.bipush 15, 2) := by decide +kernel
theorem dX9_mayFrom_59 : decode cX9_mayFrom 59 = .ok (.iload_n 2, 1) := by decide +kernel
theorem dX9_mayFrom_60 : decode cX9_mayFrom 60 = .ok (.iadd, 1) := by decide +kernel
theorem dX9_mayFrom_61 : decode cX9_mayFrom 61 = .ok (.iaload, 1) := by decide +kernel
theorem dX9_mayFrom_62 : decode cX9_mayFrom 62 = .ok (.invokestatic 102, 3) := by decide +kernel
theorem dX9_mayFrom_65 : decode cX9_mayFrom 65 = .ok (.ifCond .eq 7, 3) := by decide +kernel
theorem dX9_mayFrom_68 : decode cX9_mayFrom 68 = .ok (.iconst 1, 1) := by decide +kernel
theorem dX9_mayFrom_69 : decode cX9_mayFrom 69 = .ok (.goto 4, 3) := by decide +kernel
theorem dX9_mayFrom_72 : decode cX9_mayFrom 72 = .ok (.iconst 0, 1) := by decide +kernel
theorem dX9_mayFrom_73 : decode cX9_mayFrom 73 = .ok (.ireturn, 1) := by decide +kernel
theorem dX9_layWalks_0 : decode cX9_layWalks 0 = .ok (.iconst 1, 1) := by decide +kernel
theorem dX9_layWalks_1 : decode cX9_layWalks 1 = .ok (.aload_n 0, 1) := by decide +kernel
theorem dX9_layWalks_2 : decode cX9_layWalks 2 = .ok (.getfield 7, 3) := by decide +kernel
theorem dX9_layWalks_5 : decode cX9_layWalks 5 = .ok (.iconst 0, 1) := by decide +kernel
theorem dX9_layWalks_6 : decode cX9_layWalks 6 = .ok (.iaload, 1) := by decide +kernel
theorem dX9_layWalks_7 : decode cX9_layWalks 7 = .ok (.ishl, 1) := by decide +kernel
theorem dX9_layWalks_8 : decode cX9_layWalks 8 = .ok (.iconst 1, 1) := by decide +kernel
theorem dX9_layWalks_9 : decode cX9_layWalks 9 = .ok (.isub, 1) := by decide +kernel
theorem dX9_layWalks_10 : decode cX9_layWalks 10 = .ok (.istore_n 2, 1) := by decide +kernel
theorem dX9_layWalks_11 : decode cX9_layWalks 11 = .ok (.iload_n 2, 1) := by decide +kernel
theorem dX9_layWalks_12 : decode cX9_layWalks 12 = .ok (.ifCond .lt 227, 3) := by decide +kernel
theorem dX9_layWalks_15 : decode cX9_layWalks 15 = .ok (.aload_n 0, 1) := by decide +kernel
theorem dX9_layWalks_16 : decode cX9_layWalks 16 = .ok (.getfield 26, 3) := by decide +kernel
theorem dX9_layWalks_19 : decode cX9_layWalks 19 = .ok (.iload_n 2, 1) := by decide +kernel
theorem dX9_layWalks_20 : decode cX9_layWalks 20 = .ok (.iload_n 2, 1) := by decide +kernel
theorem dX9_layWalks_21 : decode cX9_layWalks 21 = .ok (.iload_n 1, 1) := by decide +kernel
theorem dX9_layWalks_22 : decode cX9_layWalks 22 = .ok (.invokestatic 102, 3) := by decide +kernel
theorem dX9_layWalks_25 : decode cX9_layWalks 25 = .ok (.ifCond .eq 7, 3) := by decide +kernel
theorem dX9_layWalks_28 : decode cX9_layWalks 28 = .ok (.iconst 0, 1) := by decide +kernel
theorem dX9_layWalks_29 : decode cX9_layWalks 29 = .ok (.goto 5, 3) := by decide +kernel
theorem dX9_layWalks_32 : decode cX9_layWalks 32 = .ok (.bipush 100, 2) := by decide +kernel
theorem dX9_layWalks_34 : decode cX9_layWalks 34 = .ok (.iastore, 1) := by decide +kernel
theorem dX9_layWalks_35 : decode cX9_layWalks 35 = .ok (.aload_n 0, 1) := by decide +kernel
theorem dX9_layWalks_36 : decode cX9_layWalks 36 = .ok (.getfield 22, 3) := by decide +kernel
theorem dX9_layWalks_39 : decode cX9_layWalks 39 = .ok (.iload_n 2, 1) := by decide +kernel
theorem dX9_layWalks_40 : decode cX9_layWalks 40 = .ok (.iload_n 2, 1) := by decide +kernel
theorem dX9_layWalks_41 : decode cX9_layWalks 41 = .ok (.iload_n 1, 1) := by decide +kernel
theorem dX9_layWalks_42 : decode cX9_layWalks 42 = .ok (.invokestatic 102, 3) := by decide +kernel
theorem dX9_layWalks_45 : decode cX9_layWalks 45 = .ok (.ifCond .eq 7, 3) := by decide +kernel
theorem dX9_layWalks_48 : decode cX9_layWalks 48 = .ok (.lconst 1, 1) := by decide +kernel
