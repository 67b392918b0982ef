theorem dX0_leadTo_0 : decode cX0_leadTo 0 = .ok (.aload_n 0, 1) := by decide +kernel
theorem dX0_leadTo_1 : decode cX0_leadTo 1 = .ok (.iload_n 1, 1) := by decide +kernel
theorem dX0_leadTo_2 : decode cX0_leadTo 2 = .ok (.aload_n 0, 1) := by decide +kernel
theorem dX0_leadTo_3 : decode cX0_leadTo 3 = .ok (.invokevirtual 9, 3) := by decide +kernel
theorem dX0_leadTo_6 : decode cX0_leadTo 6 = .ok (.invokestatic 15, 3) := by decide +kernel
theorem dX0_leadTo_9 : decode cX0_leadTo 9 = .ok (.ireturn, 1) := by decide +kernel
theorem dX0_leadIntoHall_0 : decode cX0_leadIntoHall 0 = .ok (.aload_n 0, 1) := by decide +kernel
theorem dX0_leadIntoHall_1 : decode cX0_leadIntoHall 1 = .ok (.iconst (-1), 1) := by decide +kernel
theorem dX0_leadIntoHall_2 : decode cX0_leadIntoHall 2 = .ok (.aload_n 0, 1) := by decide +kernel
theorem dX0_leadIntoHall_3 : decode cX0_leadIntoHall 3 = .ok (.invokevirtual 9, 3) := by decide +kernel
theorem dX0_leadIntoHall_6 : decode cX0_leadIntoHall 6 = .ok (.invokestatic 15, 3) := by decide +kernel
theorem dX0_leadIntoHall_9 : decode cX0_leadIntoHall 9 = .ok (.ireturn, 1) := by decide +kernel
theorem dX0_neededFor_0 : decode cX0_neededFor 0 = .ok (.iconst 0, 1) := by decide +kernel
theorem dX0_neededFor_1 : decode cX0_neededFor 1 = .ok (.istore_n 2, 1) := by decide +kernel
theorem dX0_neededFor_2 : decode cX0_neededFor 2 = .ok (.iconst 0, 1) := by decide +kernel
theorem dX0_neededFor_3 : decode cX0_neededFor 3 = .ok (.istore_n 3, 1) := by decide +kernel
theorem dX0_neededFor_4 : decode cX0_neededFor 4 = .ok (.iload_n 3, 1) := by decide +kernel
theorem dX0_neededFor_5 : decode cX0_neededFor 5 = .ok (.aload_n 0, 1) := by decide +kernel
theorem dX0_neededFor_6 : decode cX0_neededFor 6 = .ok (.invokevirtual 21, 3) := by decide +kernel
theorem dX0_neededFor_9 : decode cX0_neededFor 9 = .ok (.if_icmp .ge 48, 3) := by decide +kernel
theorem dX0_neededFor_12 : decode cX0_neededFor 12 = .ok (.aload_n 0, 1) := by decide +kernel
theorem dX0_neededFor_13 : decode cX0_neededFor 13 = .ok (.invokevirtual 9, 3) := by decide +kernel
theorem dX0_neededFor_16 : decode cX0_neededFor 16 = .ok (.iconst 1, 1) := by decide +kernel
theorem dX0_neededFor_17 : decode cX0_neededFor 17 = .ok (.iload_n 3, 1) := by decide +kernel
theorem dX0_neededFor_18 : decode cX0_neededFor 18 = .ok (.ishl, 1) := by decide +kernel
theorem dX0_neededFor_19 : decode cX0_neededFor 19 = .ok (.iconst (-1), 1) := by decide +kernel
theorem dX0_neededFor_20 : decode cX0_neededFor 20 = .ok (.ixor, 1) := by decide +kernel
theorem dX0_neededFor_21 : decode cX0_neededFor 21 = .ok (.iand, 1) := by decide +kernel
theorem dX0_neededFor_22 : decode cX0_neededFor 22 = .ok (.istore 4, 2) := by decide +kernel
theorem dX0_neededFor_24 : decode cX0_neededFor 24 = .ok (.aload_n 0, 1) := by decide +kernel
theorem dX0_neededFor_25 : decode cX0_neededFor 25 = .ok (.invokevirtual 9, 3) := by decide +kernel
theorem dX0_neededFor_28 : decode cX0_neededFor 28 = .ok (.iload_n 3, 1) := by decide +kernel
theorem dX0_neededFor_29 : decode cX0_neededFor 29 = .ok (.invokestatic 24, 3) := by decide +kernel
theorem dX0_neededFor_32 : decode cX0_neededFor 32 = .ok (.ifCond .eq 19, 3) := by decide +kernel
theorem dX0_neededFor_35 : decode cX0_neededFor 35 = .ok (.aload_n 0, 1) := by decide +kernel
theorem dX0_neededFor_36 : decode cX0_neededFor 36 = .ok (.iload_n 1, 1) := by decide +kernel
theorem dX0_neededFor_37 : decode cX0_neededFor 37 = .ok (.iload 4, 2) := by decide +kernel
theorem dX0_neededFor_39 : decode cX0_neededFor 39 = .ok (.invokestatic 15, 3) := by decide +kernel
theorem dX0_neededFor_42 : decode cX0_neededFor 42 = .ok (.ifCond .ne 9, 3) := by decide +kernel
theorem dX0_neededFor_45 : decode cX0_neededFor 45 = .ok (.iload_n 2, 1) := by decide +kernel
theorem dX0_neededFor_46 : decode cX0_neededFor 46 = .ok (.iconst 1, 1) := by decide +kernel
theorem dX0_neededFor_47 : decode cX0_neededFor 47 = .ok (.iload_n 3, 1) := by decide +kernel
theorem dX0_neededFor_48 : decode cX0_neededFor 48 = .ok (.ishl, 1) := by decide +kernel
theorem dX0_neededFor_49 : decode cX0_neededFor 49 = .ok (.ior, 1) := by decide +kernel
theorem dX0_neededFor_50 : decode cX0_neededFor 50 = .ok (.istore_n 2, 1) := by decide +kernel
theorem dX0_neededFor_51 : decode cX0_neededFor 51 = .ok (.iinc 3 1, 3) := by decide +kernel
theorem dX0_neededFor_54 : decode cX0_neededFor 54 = .ok (.goto (-50), 3) := by decide +kernel
theorem dX0_neededFor_57 : decode cX0_neededFor 57 = .ok (.iload_n 2, 1) := by decide +kernel
theorem dX0_neededFor_58 : decode cX0_neededFor 58 = .ok (.ireturn, 1) := by decide +kernel
theorem dX0_fewestFor_0 : decode cX0_fewestFor 0 = .ok (.aload_n 0, 1) := by decide +kernel
theorem dX0_fewestFor_1 : decode cX0_fewestFor 1 = .ok (.iload_n 1, 1) := by decide +kernel
theorem dX0_fewestFor_2 : decode cX0_fewestFor 2 = .ok (.iconst 0, 1) := by decide +kernel
theorem dX0_fewestFor_3 : decode cX0_fewestFor 3 = .ok (.aload_n 0, 1) := by decide +kernel
theorem dX0_fewestFor_4 : decode cX0_fewestFor 4 = .ok (.invokevirtual 9, 3) := by decide +kernel
theorem dX0_fewestFor_7 : decode cX0_fewestFor 7 = .ok (.invokestatic 28, 3) := by decide +kernel
theorem dX0_fewestFor_10 : decode cX0_fewestFor 10 = .ok (.ireturn, 1) := by decide +kernel
theorem dX0_lostBy_0 : decode cX0_lostBy 0 = .ok (.aload_n 0, 1) := by decide +kernel
theorem dX0_lostBy_1 : decode cX0_lostBy 1 = .ok (.invokevirtual 32, 3) := by decide +kernel
theorem dX0_lostBy_4 : decode cX0_lostBy 4 = .ok (.iconst 1, 1) := by decide +kernel
theorem dX0_lostBy_5 : decode cX0_lostBy 5 = .ok (.iload_n 1, 1) := by decide +kernel
theorem dX0_lostBy_6 : decode cX0_lostBy 6 = .ok (.ishl, 1) := by decide +kernel
theorem dX0_lostBy_7 : decode cX0_lostBy 7 = .ok (.iconst (-1), 1) := by decide +kernel
theorem dX0_lostBy_8 : decode cX0_lostBy 8 = .ok (.ixor, 1) := by decide +kernel
theorem dX0_lostBy_9 : decode cX0_lostBy 9 = .ok (.iand, 1) := by decide +kernel
theorem dX0_lostBy_10 : decode cX0_lostBy 10 = .ok (.istore_n 2, 1) := by decide +kernel
theorem dX0_lostBy_11 : decode cX0_lostBy 11 = .ok (.aload_n 0, 1) := by decide +kernel
theorem dX0_lostBy_12 : decode cX0_lostBy 12 = .ok (.aload_n 0, 1) := by decide +kernel
theorem dX0_lostBy_13 : decode cX0_lostBy 13 = .ok (.invokevirtual 9, 3) := by decide +kernel
theorem dX0_lostBy_16 : decode cX0_lostBy 16 = .ok (.sipush 1023, 3) := by decide +kernel
theorem dX0_lostBy_19 : decode cX0_lostBy 19 = .ok (.iload_n 2, 1) := by decide +kernel
theorem dX0_lostBy_20 : decode cX0_lostBy 20 = .ok (.invokevirtual 35, 3) := by decide +kernel
theorem dX0_lostBy_23 : decode cX0_lostBy 23 = .ok (.istore_n 3, 1) := by decide +kernel
theorem dX0_lostBy_24 : decode cX0_lostBy 24 = .ok (.aload_n 0, 1) := by decide +kernel
theorem dX0_lostBy_25 : decode cX0_lostBy 25 = .ok (.aload_n 0, 1) := by decide +kernel
theorem dX0_lostBy_26 : decode cX0_lostBy 26 = .ok (.invokevirtual 9, 3) := by decide +kernel
theorem dX0_lostBy_29 : decode cX0_lostBy 29 = .ok (.invokevirtual 39, 3) := by decide +kernel
theorem dX0_lostBy_32 : decode cX0_lostBy 32 = .ok (.iload_n 3, 1) := by decide +kernel
theorem dX0_lostBy_33 : decode cX0_lostBy 33 = .ok (.iconst (-1), 1) := by decide +kernel
theorem dX0_lostBy_34 : decode cX0_lostBy 34 = .ok (.ixor, 1) := by decide +kernel
theorem dX0_lostBy_35 : decode cX0_lostBy 35 = .ok (.iand, 1) := by decide +kernel
theorem dX0_lostBy_36 : decode cX0_lostBy 36 = .ok (.iload_n 2, 1) := by decide +kernel
theorem dX0_lostBy_37 : decode cX0_lostBy 37 = .ok (.iand, 1) := by decide +kernel
theorem dX0_lostBy_38 : decode cX0_lostBy 38 = .ok (.ireturn, 1) := by decide +kernel
theorem dX0_fewestMoreFor_0 : decode cX0_fewestMoreFor 0 = .ok (.aload_n 0, 1) := by decide +kernel
theorem dX0_fewestMoreFor_1 : decode cX0_fewestMoreFor 1 = .ok (.invokevirtual 32, 3) := by decide +kernel
theorem dX0_fewestMoreFor_4 : decode cX0_fewestMoreFor 4 = .ok (.iconst 1, 1) := by decide +kernel
theorem dX0_fewestMoreFor_5 : decode cX0_fewestMoreFor 5 = .ok (.iload_n 1, 1) := by decide +kernel
theorem dX0_fewestMoreFor_6 : decode cX0_fewestMoreFor 6 = .ok (.ishl, 1) := by decide +kernel
theorem dX0_fewestMoreFor_7 : decode cX0_fewestMoreFor 7 = .ok (.iconst (-1), 1) := by decide +kernel
theorem dX0_fewestMoreFor_8 : decode cX0_fewestMoreFor 8 = .ok (.ixor, 1) := by decide +kernel
theorem dX0_fewestMoreFor_9 : decode cX0_fewestMoreFor 9 = .ok (.iand, 1) := by decide +kernel
theorem dX0_fewestMoreFor_10 : decode cX0_fewestMoreFor 10 = .ok (.aload_n 0, 1) := by decide +kernel
theorem dX0_fewestMoreFor_11 : decode cX0_fewestMoreFor 11 = .ok (.invokevirtual 9, 3) := by decide +kernel
theorem dX0_fewestMoreFor_14 : decode cX0_fewestMoreFor 14 = .ok (.iconst (-1), 1) := by decide +kernel
theorem dX0_fewestMoreFor_15 : decode cX0_fewestMoreFor 15 = .ok (.ixor, 1) := by decide +kernel
theorem dX0_fewestMoreFor_16 : decode cX0_fewestMoreFor 16 = .ok (.iand, 1) := by decide +kernel
theorem dX0_fewestMoreFor_17 : decode cX0_fewestMoreFor 17 = .ok (.istore_n 2, 1) := by decide +kernel
theorem dX0_fewestMoreFor_18 : decode cX0_fewestMoreFor 18 = .ok (.aload_n 0, 1) := by decide +kernel
theorem dX0_fewestMoreFor_19 : decode cX0_fewestMoreFor 19 = .ok (.iload_n 1, 1) := by decide +kernel
theorem dX0_fewestMoreFor_20 : decode cX0_fewestMoreFor 20 = .ok (.aload_n 0, 1) := by decide +kernel
theorem dX0_fewestMoreFor_21 : decode cX0_fewestMoreFor 21 = .ok (.invokevirtual 9, 3) := by decide +kernel
theorem dX0_fewestMoreFor_24 : decode cX0_fewestMoreFor 24 = .ok (.iload_n 2, 1) := by decide +kernel
theorem dX0_fewestMoreFor_25 : decode cX0_fewestMoreFor 25 = .ok (.invokestatic 28, 3) := by decide +kernel
theorem dX0_fewestMoreFor_28 : decode cX0_fewestMoreFor 28 = .ok (.ireturn, 1) := by decide +kernel
theorem dX0_fewestIntoHall_0 : decode cX0_fewestIntoHall 0 = .ok (.aload_n 0, 1) := by decide +kernel
theorem dX0_fewestIntoHall_1 : decode cX0_fewestIntoHall 1 = .ok (.iconst (-1), 1) := by decide +kernel
theorem dX0_fewestIntoHall_2 : decode cX0_fewestIntoHall 2 = .ok (.iconst 0, 1) := by decide +kernel
theorem dX0_fewestIntoHall_3 : decode cX0_fewestIntoHall 3 = .ok (.aload_n 0, 1) := by decide +kernel
theorem dX0_fewestIntoHall_4 : decode cX0_fewestIntoHall 4 = .ok (.invokevirtual 9, 3) := by decide +kernel
theorem dX0_fewestIntoHall_7 : decode cX0_fewestIntoHall 7 = .ok (.invokestatic 28, 3) := by decide +kernel
theorem dX0_fewestIntoHall_10 : decode cX0_fewestIntoHall 10 = .ok (.ireturn, 1) := by decide +kernel
theorem dX0_fewestToRopeOff_0 : decode cX0_fewestToRopeOff 0 = .ok (.aload_n 0, 1) := by decide +kernel
theorem dX0_fewestToRopeOff_1 : decode cX0_fewestToRopeOff 1 = .ok (.bipush (-2), 2) := by decide +kernel
theorem dX0_fewestToRopeOff_3 : decode cX0_fewestToRopeOff 3 = .ok (.aload_n 0, 1) := by decide +kernel
theorem dX0_fewestToRopeOff_4 : decode cX0_fewestToRopeOff 4 = .ok (.invokevirtual 9, 3) := by decide +kernel
theorem dX0_fewestToRopeOff_7 : decode cX0_fewestToRopeOff 7 = .ok (.aload_n 0, 1) := by decide +kernel
theorem dX0_fewestToRopeOff_8 : decode cX0_fewestToRopeOff 8 = .ok (.invokevirtual 9, 3) := by decide +kernel
theorem dX0_fewestToRopeOff_11 : decode cX0_fewestToRopeOff 11 = .ok (.invokestatic 28, 3) := by decide +kernel
theorem dX0_fewestToRopeOff_14 : decode cX0_fewestToRopeOff 14 = .ok (.ireturn, 1) := by decide +kernel
theorem dX0_fewestTurned_0 : decode cX0_fewestTurned 0 = .ok (.aload_n 0, 1) := by decide +kernel
theorem dX0_fewestTurned_1 : decode cX0_fewestTurned 1 = .ok (.iload_n 1, 1) := by decide +kernel
theorem dX0_fewestTurned_2 : decode cX0_fewestTurned 2 = .ok (.iload_n 2, 1) := by decide +kernel
theorem dX0_fewestTurned_3 : decode cX0_fewestTurned 3 = .ok (.iload_n 3, 1) := by decide +kernel
theorem dX0_fewestTurned_4 : decode cX0_fewestTurned 4 = .ok (.ixor, 1) := by decide +kernel
theorem dX0_fewestTurned_5 : decode cX0_fewestTurned 5 = .ok (.invokestatic 15, 3) := by decide +kernel
theorem dX0_fewestTurned_8 : decode cX0_fewestTurned 8 = .ok (.ifCond .ne 6, 3) := by decide +kernel
theorem dX0_fewestTurned_11 : decode cX0_fewestTurned 11 = .ok (.bipush (-4), 2) := by decide +kernel
theorem dX0_fewestTurned_13 : decode cX0_fewestTurned 13 = .ok (.ireturn, 1) := by decide +kernel
theorem dX0_fewestTurned_14 : decode cX0_fewestTurned 14 = .ok (.iload_n 3, 1) := by decide +kernel
theorem dX0_fewestTurned_15 : decode cX0_fewestTurned 15 = .ok (.istore 4, 2) := by decide +kernel
theorem dX0_fewestTurned_17 : decode cX0_fewestTurned 17 = .ok (.iload_n 3, 1) := by decide +kernel
theorem dX0_fewestTurned_18 : decode cX0_fewestTurned 18 = .ok (.invokestatic 43, 3) := by decide +kernel
theorem dX0_fewestTurned_21 : decode cX0_fewestTurned 21 = .ok (.istore 5, 2) := by decide +kernel
theorem dX0_fewestTurned_23 : decode cX0_fewestTurned 23 = .ok (.iconst 0, 1) := by decide +kernel
theorem dX0_fewestTurned_24 : decode cX0_fewestTurned 24 = .ok (.istore 6, 2) := by decide +kernel
theorem dX0_fewestTurned_26 : decode cX0_fewestTurned 26 = .ok (.iload 6, 2) := by decide +kernel
theorem dX0_fewestTurned_28 : decode cX0_fewestTurned 28 = .ok (.iload_n 3, 1) := by decide +kernel
theorem dX0_fewestTurned_29 : decode cX0_fewestTurned 29 = .ok (.if_icmp .ge 52, 3) := by decide +kernel
theorem dX0_fewestTurned_32 : decode cX0_fewestTurned 32 = .ok (.iload 6, 2) := by decide +kernel
theorem dX0_fewestTurned_34 : decode cX0_fewestTurned 34 = .ok (.invokestatic 43, 3) := by decide +kernel
theorem dX0_fewestTurned_37 : decode cX0_fewestTurned 37 = .ok (.istore 7, 2) := by decide +kernel
theorem dX0_fewestTurned_39 : decode cX0_fewestTurned 39 = .ok (.iload 7, 2) := by decide +kernel
theorem dX0_fewestTurned_41 : decode cX0_fewestTurned 41 = .ok (.iload 5, 2) := by decide +kernel
theorem dX0_fewestTurned_43 : decode cX0_fewestTurned 43 = .ok (.if_icmp .ge 32, 3) := by decide +kernel
theorem dX0_fewestTurned_46 : decode cX0_fewestTurned 46 = .ok (.iload_n 3, 1) := by decide +kernel
theorem dX0_fewestTurned_47 : decode cX0_fewestTurned 47 = .ok (.iload 6, 2) := by decide +kernel
theorem dX0_fewestTurned_49 : decode cX0_fewestTurned 49 = .ok (.invokestatic 48, 3) := by decide +kernel
theorem dX0_fewestTurned_52 : decode cX0_fewestTurned 52 = .ok (.ifCond .eq 23, 3) := by decide +kernel
theorem dX0_fewestTurned_55 : decode cX0_fewestTurned 55 = .ok (.aload_n 0, 1) := by decide +kernel
theorem dX0_fewestTurned_56 : decode cX0_fewestTurned 56 = .ok (.iload_n 1, 1) := by decide +kernel
theorem dX0_fewestTurned_57 : decode cX0_fewestTurned 57 = .ok (.iload_n 2, 1) := by decide +kernel
theorem dX0_fewestTurned_58 : decode cX0_fewestTurned 58 = .ok (.iload 6, 2) := by decide +kernel
theorem dX0_fewestTurned_60 : decode cX0_fewestTurned 60 = .ok (.ixor, 1) := by decide +kernel
theorem dX0_fewestTurned_61 : decode cX0_fewestTurned 61 = .ok (.invokestatic 15, 3) := by decide +kernel
theorem dX0_fewestTurned_64 : decode cX0_fewestTurned 64 = .ok (.ifCond .eq 11, 3) := by decide +kernel
theorem dX0_fewestTurned_67 : decode cX0_fewestTurned 67 = .ok (.iload 6, 2) := by decide +kernel
theorem dX0_fewestTurned_69 : decode cX0_fewestTurned 69 = .ok (.istore 4, 2) := by decide +kernel
theorem dX0_fewestTurned_71 : decode cX0_fewestTurned 71 = .ok (.iload 7, 2) := by decide +kernel
theorem dX0_fewestTurned_73 : decode cX0_fewestTurned 73 = .ok (.istore 5, 2) := by decide +kernel
theorem dX0_fewestTurned_75 : decode cX0_fewestTurned 75 = .ok (.iinc 6 1, 3) := by decide +kernel
theorem dX0_fewestTurned_78 : decode cX0_fewestTurned 78 = .ok (.goto (-52), 3) := by decide +kernel
theorem dX0_fewestTurned_81 : decode cX0_fewestTurned 81 = .ok (.iload 4, 2) := by decide +kernel
theorem dX0_fewestTurned_83 : decode cX0_fewestTurned 83 = .ok (.ireturn, 1) := by decide +kernel
theorem dX0_isMet_0 : decode cX0_isMet 0 = .ok (.aload_n 0, 1) := by decide +kernel
theorem dX0_isMet_1 : decode cX0_isMet 1 = .ok (.iload_n 2, 1) := by decide +kernel
theorem dX0_isMet_2 : decode cX0_isMet 2 = .ok (.sipush 1023, 3) := by decide +kernel
theorem dX0_isMet_5 : decode cX0_isMet 5 = .ok (.aload_n 0, 1) := by decide +kernel
theorem dX0_isMet_6 : decode cX0_isMet 6 = .ok (.invokevirtual 32, 3) := by decide +kernel
theorem dX0_isMet_9 : decode cX0_isMet 9 = .ok (.invokevirtual 35, 3) := by decide +kernel
theorem dX0_isMet_12 : decode cX0_isMet 12 = .ok (.istore_n 3, 1) := by decide +kernel
theorem dX0_isMet_13 : decode cX0_isMet 13 = .ok (.iload_n 1, 1) := by decide +kernel
theorem dX0_isMet_14 : decode cX0_isMet 14 = .ok (.iconst (-1), 1) := by decide +kernel
theorem dX0_isMet_15 : decode cX0_isMet 15 = .ok (.if_icmp .ne 9, 3) := by decide +kernel
theorem dX0_isMet_18 : decode cX0_isMet 18 = .ok (.aload_n 0, 1) := by decide +kernel
theorem dX0_isMet_19 : decode cX0_isMet 19 = .ok (.iload_n 3, 1) := by decide +kernel
theorem dX0_isMet_20 : decode cX0_isMet 20 = .ok (.invokevirtual 51, 3) := by decide +kernel
theorem dX0_isMet_23 : decode cX0_isMet 23 = .ok (.ireturn, 1) := by decide +kernel
theorem dX0_isMet_24 : decode cX0_isMet 24 = .ok (.iload_n 1, 1) := by decide +kernel
theorem dX0_isMet_25 : decode cX0_isMet 25 = .ok (.bipush (-2), 2) := by decide +kernel
theorem dX0_isMet_27 : decode cX0_isMet 27 = .ok (.if_icmp .ne 17, 3) := by decide +kernel
theorem dX0_isMet_30 : decode cX0_isMet 30 = .ok (.aload_n 0, 1) := by decide +kernel
theorem dX0_isMet_31 : decode cX0_isMet 31 = .ok (.iload_n 3, 1) := by decide +kernel
theorem dX0_isMet_32 : decode cX0_isMet 32 = .ok (.invokevirtual 51, 3) := by decide +kernel
theorem dX0_isMet_35 : decode cX0_isMet 35 = .ok (.ifCond .ne 7, 3) := by decide +kernel
theorem dX0_isMet_38 : decode cX0_isMet 38 = .ok (.iconst 1, 1) := by decide +kernel
theorem dX0_isMet_39 : decode cX0_isMet 39 = .ok (.goto 4, 3) := by decide +kernel
theorem dX0_isMet_42 : decode cX0_isMet 42 = .ok (.iconst 0, 1) := by decide +kernel
theorem dX0_isMet_43 : decode cX0_isMet 43 = .ok (.ireturn, 1) := by decide +kernel
theorem dX0_isMet_44 : decode cX0_isMet 44 = .ok (.iload_n 3, 1) := by decide +kernel
theorem dX0_isMet_45 : decode cX0_isMet 45 = .ok (.iload_n 1, 1) := by decide +kernel
theorem dX0_isMet_46 : decode cX0_isMet 46 = .ok (.invokestatic 24, 3) := by decide +kernel
theorem dX0_isMet_49 : decode cX0_isMet 49 = .ok (.ireturn, 1) := by decide +kernel
theorem dX1_init_0 : decode cX1_init 0 = .ok (.aload_n 0, 1) := by decide +kernel
theorem dX1_init_1 : decode cX1_init 1 = .ok (.invokespecial 3, 3) := by decide +kernel
theorem dX1_init_4 : decode cX1_init 4 = .ok (.aload_n 0, 1) := by decide +kernel
theorem dX1_init_5 : decode cX1_init 5 = .ok (.bipush 10, 2) := by decide +kernel
theorem dX1_init_7 : decode cX1_init 7 = .ok (.newarray .int, 2) := by decide +kernel
theorem dX1_init_9 : decode cX1_init 9 = .ok (.putfield 9, 3) := by decide +kernel
theorem dX1_init_12 : decode cX1_init 12 = .ok (.aload_n 0, 1) := by decide +kernel
theorem dX1_init_13 : decode cX1_init 13 = .ok (.bipush 10, 2) := by decide +kernel
theorem dX1_init_15 : decode cX1_init 15 = .ok (.newarray .int, 2) := by decide +kernel
theorem dX1_init_17 : decode cX1_init 17 = .ok (.putfield 15, 3) := by decide +kernel
theorem dX1_init_20 : decode cX1_init 20 = .ok (.aload_n 0, 1) := by decide +kernel
theorem dX1_init_21 : decode cX1_init 21 = .ok (.bipush 10, 2) := by decide +kernel
theorem dX1_init_23 : decode cX1_init 23 = .ok (.newarray .int, 2) := by decide +kernel
theorem dX1_init_25 : decode cX1_init 25 = .ok (.putfield 18, 3) := by decide +kernel
theorem dX1_init_28 : decode cX1_init 28 = .ok (.aload_n 0, 1) := by decide +kernel
theorem dX1_init_29 : decode cX1_init 29 = .ok (.bipush 10, 2) := by decide +kernel
theorem dX1_init_31 : decode cX1_init 31 = .ok (.newarray .int, 2) := by decide +kernel
theorem dX1_init_33 : decode cX1_init 33 = .ok (.putfield 21, 3) := by decide +kernel
theorem dX1_init_36 : decode cX1_init 36 = .ok (.aload_n 0, 1) := by decide +kernel
theorem dX1_init_37 : decode cX1_init 37 = .ok (.bipush 10, 2) := by decide +kernel
theorem dX1_init_39 : decode cX1_init 39 = .ok (.newarray .int, 2) := by decide +kernel
theorem dX1_init_41 : decode cX1_init 41 = .ok (.putfield 24, 3) := by decide +kernel
theorem dX1_init_44 : decode cX1_init 44 = .ok (.aload_n 0, 1) := by decide +kernel
theorem dX1_init_45 : decode cX1_init 45 = .ok (.bipush 10, 2) := by decide +kernel
theorem dX1_init_47 : decode cX1_init 47 = .ok (.newarray .int, 2) := by decide +kernel
theorem dX1_init_49 : decode cX1_init 49 = .ok (.putfield 27, 3) := by decide +kernel
theorem dX1_init_52 : decode cX1_init 52 = .ok (.return_, 1) := by decide +kernel
theorem dX1_empty_0 : decode cX1_empty 0 = .ok (.aload_n 0, 1) := by decide +kernel
theorem dX1_empty_1 : decode cX1_empty 1 = .ok (.getfield 24, 3) := by decide +kernel
theorem dX1_empty_4 : decode cX1_empty 4 = .ok (.invokestatic 30, 3) := by decide +kernel
theorem dX1_empty_7 : decode cX1_empty 7 = .ok (.aload_n 0, 1) := by decide +kernel
theorem dX1_empty_8 : decode cX1_empty 8 = .ok (.getfield 27, 3) := by decide +kernel
theorem dX1_empty_11 : decode cX1_empty 11 = .ok (.invokestatic 30, 3) := by decide +kernel
theorem dX1_empty_14 : decode cX1_empty 14 = .ok (.aload_n 0, 1) := by decide +kernel
theorem dX1_empty_15 : decode cX1_empty 15 = .ok (.iconst 0, 1) := by decide +kernel
theorem dX1_empty_16 : decode cX1_empty 16 = .ok (.putfield 34, 3) := by decide +kernel
theorem dX1_empty_19 : decode cX1_empty 19 = .ok (.aload_n 0, 1) := by decide +kernel
theorem dX1_empty_20 : decode cX1_empty 20 = .ok (.iconst 0, 1) := by decide +kernel
theorem dX1_empty_21 : decode cX1_empty 21 = .ok (.putfield 38, 3) := by decide +kernel
theorem dX1_empty_24 : decode cX1_empty 24 = .ok (.aload_n 0, 1) := by decide +kernel
theorem dX1_empty_25 : decode cX1_empty 25 = .ok (.iconst 0, 1) := by decide +kernel
theorem dX1_empty_26 : decode cX1_empty 26 = .ok (.putfield 41, 3) := by decide +kernel
theorem dX1_empty_29 : decode cX1_empty 29 = .ok (.aload_n 0, 1) := by decide +kernel
theorem dX1_empty_30 : decode cX1_empty 30 = .ok (.iconst 4, 1) := by decide +kernel
theorem dX1_empty_31 : decode cX1_empty 31 = .ok (.invokevirtual 44, 3) := by decide +kernel
theorem dX1_empty_34 : decode cX1_empty 34 = .ok (.pop, 1) := by decide +kernel
theorem dX1_empty_35 : decode cX1_empty 35 = .ok (.return_, 1) := by decide +kernel
theorem dX1_copyFrom_0 : decode cX1_copyFrom 0 = .ok (.aload_n 1, 1) := by decide +kernel
theorem dX1_copyFrom_1 : decode cX1_copyFrom 1 = .ok (.getfield 9, 3) := by decide +kernel
theorem dX1_copyFrom_4 : decode cX1_copyFrom 4 = .ok (.aload_n 0, 1) := by decide +kernel
theorem dX1_copyFrom_5 : decode cX1_copyFrom 5 = .ok (.getfield 9, 3) := by decide +kernel
theorem dX1_copyFrom_8 : decode cX1_copyFrom 8 = .ok (.invokestatic 48, 3) := by decide +kernel
theorem dX1_copyFrom_11 : decode cX1_copyFrom 11 = .ok (.aload_n 1, 1) := by decide +kernel
theorem dX1_copyFrom_12 : decode cX1_copyFrom 12 = .ok (.getfield 15, 3) := by decide +kernel
theorem dX1_copyFrom_15 : decode cX1_copyFrom 15 = .ok (.aload_n 0, 1) := by decide +kernel
theorem dX1_copyFrom_16 : decode cX1_copyFrom 16 = .ok (.getfield 15, 3) := by decide +kernel
theorem dX1_copyFrom_19 : decode cX1_copyFrom 19 = .ok (.invokestatic 48, 3) := by decide +kernel
theorem dX1_copyFrom_22 : decode cX1_copyFrom 22 = .ok (.aload_n 1, 1) := by decide +kernel
theorem dX1_copyFrom_23 : decode cX1_copyFrom 23 = .ok (.getfield 18, 3) := by decide +kernel
theorem dX1_copyFrom_26 : decode cX1_copyFrom 26 = .ok (.aload_n 0, 1) := by decide +kernel
theorem dX1_copyFrom_27 : decode cX1_copyFrom 27 = .ok (.getfield 18, 3) := by decide +kernel
theorem dX1_copyFrom_30 : decode cX1_copyFrom 30 = .ok (.invokestatic 48, 3) := by decide +kernel
theorem dX1_copyFrom_33 : decode cX1_copyFrom 33 = .ok (.aload_n 1, 1) := by decide +kernel
theorem dX1_copyFrom_34 : decode cX1_copyFrom 34 = .ok (.getfield 21, 3) := by decide +kernel
theorem dX1_copyFrom_37 : decode cX1_copyFrom 37 = .ok (.aload_n 0, 1) := by decide +kernel
theorem dX1_copyFrom_38 : decode cX1_copyFrom 38 = .ok (.getfield 21, 3) := by decide +kernel
theorem dX1_copyFrom_41 : decode cX1_copyFrom 41 = .ok (.invokestatic 48, 3) := by decide +kernel
theorem dX1_copyFrom_44 : decode cX1_copyFrom 44 = .ok (.aload_n 1, 1) := by decide +kernel
theorem dX1_copyFrom_45 : decode cX1_copyFrom 45 = .ok (.getfield 24, 3) := by decide +kernel
theorem dX1_copyFrom_48 : decode cX1_copyFrom 48 = .ok (.aload_n 0, 1) := by decide +kernel
theorem dX1_copyFrom_49 : decode cX1_copyFrom 49 = .ok (.getfield 24, 3) := by decide +kernel
theorem dX1_copyFrom_52 : decode cX1_copyFrom 52 = .ok (.invokestatic 48, 3) := by decide +kernel
theorem dX1_copyFrom_55 : decode cX1_copyFrom 55 = .ok (.aload_n 1, 1) := by decide +kernel
theorem dX1_copyFrom_56 : decode cX1_copyFrom 56 = .ok (.getfield 27, 3) := by decide +kernel
theorem dX1_copyFrom_59 : decode cX1_copyFrom 59 = .ok (.aload_n 0, 1) := by decide +kernel
theorem dX1_copyFrom_60 : decode cX1_copyFrom 60 = .ok (.getfield 27, 3) := by decide +kernel
theorem dX1_copyFrom_63 : decode cX1_copyFrom 63 = .ok (.invokestatic 48, 3) := by decide +kernel
theorem dX1_copyFrom_66 : decode cX1_copyFrom 66 = .ok (.aload_n 0, 1) := by decide +kernel
theorem dX1_copyFrom_67 : decode cX1_copyFrom 67 = .ok (.aload_n 1, 1) := by decide +kernel
theorem dX1_copyFrom_68 : decode cX1_copyFrom 68 = .ok (.getfield 52, 3) := by decide +kernel
theorem dX1_copyFrom_71 : decode cX1_copyFrom 71 = .ok (.putfield 52, 3) := by decide +kernel
theorem dX1_copyFrom_74 : decode cX1_copyFrom 74 = .ok (.aload_n 0, 1) := by decide +kernel
theorem dX1_copyFrom_75 : decode cX1_copyFrom 75 = .ok (.aload_n 1, 1) := by decide +kernel
theorem dX1_copyFrom_76 : decode cX1_copyFrom 76 = .ok (.getfield 34, 3) := by decide +kernel
theorem dX1_copyFrom_79 : decode cX1_copyFrom 79 = .ok (.putfield 34, 3) := by decide +kernel
theorem dX1_copyFrom_82 : decode cX1_copyFrom 82 = .ok (.aload_n 0, 1) := by decide +kernel
theorem dX1_copyFrom_83 : decode cX1_copyFrom 83 = .ok (.aload_n 1, 1) := by decide +kernel
theorem dX1_copyFrom_84 : decode cX1_copyFrom 84 = .ok (.getfield 38, 3) := by decide +kernel
theorem dX1_copyFrom_87 : decode cX1_copyFrom 87 = .ok (.putfield 38, 3) := by decide +kernel
theorem dX1_copyFrom_90 : decode cX1_copyFrom 90 = .ok (.aload_n 0, 1) := by decide +kernel
theorem dX1_copyFrom_91 : decode cX1_copyFrom 91 = .ok (.aload_n 1, 1) := by decide +kernel
theorem dX1_copyFrom_92 : decode cX1_copyFrom 92 = .ok (.getfield 55, 3) := by decide +kernel
theorem dX1_copyFrom_95 : decode cX1_copyFrom 95 = .ok (.putfield 55, 3) := by decide +kernel
theorem dX1_copyFrom_98 : decode cX1_copyFrom 98 = .ok (.aload_n 0, 1) := by decide +kernel
theorem dX1_copyFrom_99 : decode cX1_copyFrom 99 = .ok (.aload_n 1, 1) := by decide +kernel
theorem dX1_copyFrom_100 : decode cX1_copyFrom 100 = .ok (.getfield 41, 3) := by decide +kernel
theorem dX1_copyFrom_103 : decode cX1_copyFrom 103 = .ok (.putfield 41, 3) := by decide +kernel
theorem dX1_copyFrom_106 : decode cX1_copyFrom 106 = .ok (.return_, 1) := by decide +kernel
theorem dX1_setStones_0 : decode cX1_setStones 0 = .ok (.iload_n 1, 1) := by decide +kernel
theorem dX1_setStones_1 : decode cX1_setStones 1 = .ok (.iconst 1, 1) := by decide +kernel
theorem dX1_setStones_2 : decode cX1_setStones 2 = .ok (.if_icmp .lt 9, 3) := by decide +kernel
theorem dX1_setStones_5 : decode cX1_setStones 5 = .ok (.iload_n 1, 1) := by decide +kernel
theorem dX1_setStones_6 : decode cX1_setStones 6 = .ok (.bipush 10, 2) := by decide +kernel
theorem dX1_setStones_8 : decode cX1_setStones 8 = .ok (.if_icmp .le 5, 3) := by decide +kernel
theorem dX1_setStones_11 : decode cX1_setStones 11 = .ok (.iconst 0, 1) := by decide +kernel
theorem dX1_setStones_12 : decode cX1_setStones 12 = .ok (.ireturn, 1) := by decide +kernel
theorem dX1_setStones_13 : decode cX1_setStones 13 = .ok (.aload_n 0, 1) := by decide +kernel
theorem dX1_setStones_14 : decode cX1_setStones 14 = .ok (.iload_n 1, 1) := by decide +kernel
theorem dX1_setStones_15 : decode cX1_setStones 15 = .ok (.putfield 52, 3) := by decide +kernel
theorem dX1_setStones_18 : decode cX1_setStones 18 = .ok (.aload_n 0, 1) := by decide +kernel
theorem dX1_setStones_19 : decode cX1_setStones 19 = .ok (.aload_n 0, 1) := by decide +kernel
theorem dX1_setStones_20 : decode cX1_setStones 20 = .ok (.invokevirtual 58, 3) := by decide +kernel
theorem dX1_setStones_23 : decode cX1_setStones 23 = .ok (.putfield 55, 3) := by decide +kernel
theorem dX1_setStones_26 : decode cX1_setStones 26 = .ok (.iconst 1, 1) := by decide +kernel
theorem dX1_setStones_27 : decode cX1_setStones 27 = .ok (.ireturn, 1) := by decide +kernel
theorem dX1_beginOn_0 : decode cX1_beginOn 0 = .ok (.aload_n 0, 1) := by decide +kernel
theorem dX1_beginOn_1 : decode cX1_beginOn 1 = .ok (.iload_n 1, 1) := by decide +kernel
theorem dX1_beginOn_2 : decode cX1_beginOn 2 = .ok (.invokevirtual 62, 3) := by decide +kernel
theorem dX1_beginOn_5 : decode cX1_beginOn 5 = .ok (.ifCond .ne 5, 3) := by decide +kernel
theorem dX1_beginOn_8 : decode cX1_beginOn 8 = .ok (.iconst 0, 1) := by decide +kernel
theorem dX1_beginOn_9 : decode cX1_beginOn 9 = .ok (.ireturn, 1) := by decide +kernel
theorem dX1_beginOn_10 : decode cX1_beginOn 10 = .ok (.aload_n 0, 1) := by decide +kernel
theorem dX1_beginOn_11 : decode cX1_beginOn 11 = .ok (.dup, 1) := by decide +kernel
theorem dX1_beginOn_12 : decode cX1_beginOn 12 = .ok (.getfield 38, 3) := by decide +kernel
theorem dX1_beginOn_15 : decode cX1_beginOn 15 = .ok (.iconst 1, 1) := by decide +kernel
theorem dX1_beginOn_16 : decode cX1_beginOn 16 = .ok (.iload_n 1, 1) := by decide +kernel
theorem dX1_beginOn_17 : decode cX1_beginOn 17 = .ok (.ishl, 1) := by decide +kernel
theorem dX1_beginOn_18 : decode cX1_beginOn 18 = .ok (.ior, 1) := by decide +kernel
theorem dX1_beginOn_19 : decode cX1_beginOn 19 = .ok (.putfield 38, 3) := by decide +kernel
theorem dX1_beginOn_22 : decode cX1_beginOn 22 = .ok (.iconst 1, 1) := by decide +kernel
theorem dX1_beginOn_23 : decode cX1_beginOn 23 = .ok (.ireturn, 1) := by decide +kernel
theorem dX1_standOnBeginnings_0 : decode cX1_standOnBeginnings 0 = .ok (.aload_n 0, 1) := by decide +kernel
theorem dX1_standOnBeginnings_1 : decode cX1_standOnBeginnings 1 = .ok (.aload_n 0, 1) := by decide +kernel
theorem dX1_standOnBeginnings_2 : decode cX1_standOnBeginnings 2 = .ok (.invokevirtual 65, 3) := by decide +kernel
theorem dX1_standOnBeginnings_5 : decode cX1_standOnBeginnings 5 = .ok (.putfield 41, 3) := by decide +kernel
theorem dX1_standOnBeginnings_8 : decode cX1_standOnBeginnings 8 = .ok (.return_, 1) := by decide +kernel
theorem dX1_couldBeStep_0 : decode cX1_couldBeStep 0 = .ok (.aload_n 0, 1) := by decide +kernel
theorem dX1_couldBeStep_1 : decode cX1_couldBeStep 1 = .ok (.iload_n 1, 1) := by decide +kernel
theorem dX1_couldBeStep_2 : decode cX1_couldBeStep 2 = .ok (.invokevirtual 62, 3) := by decide +kernel
theorem dX1_couldBeStep_5 : decode cX1_couldBeStep 5 = .ok (.ifCond .eq 33, 3) := by decide +kernel
theorem dX1_couldBeStep_8 : decode cX1_couldBeStep 8 = .ok (.aload_n 0, 1) := by decide +kernel
theorem dX1_couldBeStep_9 : decode cX1_couldBeStep 9 = .ok (.iload_n 2, 1) := by decide +kernel
theorem dX1_couldBeStep_10 : decode cX1_couldBeStep 10 = .ok (.invokevirtual 62, 3) := by decide +kernel
theorem dX1_couldBeStep_13 : decode cX1_couldBeStep 13 = .ok (.ifCond .eq 25, 3) := by decide +kernel
theorem dX1_couldBeStep_16 : decode cX1_couldBeStep 16 = .ok (.aload_n 0, 1) := by decide +kernel
theorem dX1_couldBeStep_17 : decode cX1_couldBeStep 17 = .ok (.iload_n 3, 1) := by decide +kernel
theorem dX1_couldBeStep_18 : decode cX1_couldBeStep 18 = .ok (.invokevirtual 62, 3) := by decide +kernel
theorem dX1_couldBeStep_21 : decode cX1_couldBeStep 21 = .ok (.ifCond .eq 17, 3) := by decide +kernel
theorem dX1_couldBeStep_24 : decode cX1_couldBeStep 24 = .ok (.iload_n 3, 1) := by decide +kernel
theorem dX1_couldBeStep_25 : decode cX1_couldBeStep 25 = .ok (.iload_n 1, 1) := by decide +kernel
theorem dX1_couldBeStep_26 : decode cX1_couldBeStep 26 = .ok (.if_icmp .eq 12, 3) := by decide +kernel
theorem dX1_couldBeStep_29 : decode cX1_couldBeStep 29 = .ok (.iload_n 3, 1) := by decide +kernel
theorem dX1_couldBeStep_30 : decode cX1_couldBeStep 30 = .ok (.iload_n 2, 1) := by decide +kernel
theorem dX1_couldBeStep_31 : decode cX1_couldBeStep 31 = .ok (.if_icmp .eq 7, 3) := by decide +kernel
theorem dX1_couldBeStep_34 : decode cX1_couldBeStep 34 = .ok (.iconst 1, 1) := by decide +kernel
theorem dX1_couldBeStep_35 : decode cX1_couldBeStep 35 = .ok (.goto 4, 3) := by decide +kernel
theorem dX1_couldBeStep_38 : decode cX1_couldBeStep 38 = .ok (.iconst 0, 1) := by decide +kernel
theorem dX1_couldBeStep_39 : decode cX1_couldBeStep 39 = .ok (.ireturn, 1) := by decide +kernel
theorem dX1_addStep_0 : decode cX1_addStep 0 = .ok (.aload_n 0, 1) := by decide +kernel
theorem dX1_addStep_1 : decode cX1_addStep 1 = .ok (.iload_n 1, 1) := by decide +kernel
theorem dX1_addStep_2 : decode cX1_addStep 2 = .ok (.iload_n 2, 1) := by decide +kernel
theorem dX1_addStep_3 : decode cX1_addStep 3 = .ok (.iload_n 3, 1) := by decide +kernel
theorem dX1_addStep_4 : decode cX1_addStep 4 = .ok (.invokevirtual 68, 3) := by decide +kernel
theorem dX1_addStep_7 : decode cX1_addStep 7 = .ok (.ifCond .eq 12, 3) := by decide +kernel
theorem dX1_addStep_10 : decode cX1_addStep 10 = .ok (.aload_n 0, 1) := by decide +kernel
theorem dX1_addStep_11 : decode cX1_addStep 11 = .ok (.getfield 34, 3) := by decide +kernel
theorem dX1_addStep_14 : decode cX1_addStep 14 = .ok (.bipush 10, 2) := by decide +kernel
theorem dX1_addStep_16 : decode cX1_addStep 16 = .ok (.if_icmp .lt 5, 3) := by decide +kernel
theorem dX1_addStep_19 : decode cX1_addStep 19 = .ok (.iconst 0, 1) := by decide +kernel
theorem dX1_addStep_20 : decode cX1_addStep 20 = .ok (.ireturn, 1) := by decide +kernel
theorem dX1_addStep_21 : decode cX1_addStep 21 = .ok (.aload_n 0, 1) := by decide +kernel
theorem dX1_addStep_22 : decode cX1_addStep 22 = .ok (.getfield 9, 3) := by decide +kernel
theorem dX1_addStep_25 : decode cX1_addStep 25 = .ok (.aload_n 0, 1) := by decide +kernel
theorem dX1_addStep_26 : decode cX1_addStep 26 = .ok (.getfield 34, 3) := by decide +kernel
theorem dX1_addStep_29 : decode cX1_addStep 29 = .ok (.iload_n 1, 1) := by decide +kernel
theorem dX1_addStep_30 : decode cX1_addStep 30 = .ok (.invokestatic 72, 3) := by decide +kernel
theorem dX1_addStep_33 : decode cX1_addStep 33 = .ok (.aload_n 0, 1) := by decide +kernel
theorem dX1_addStep_34 : decode cX1_addStep 34 = .ok (.getfield 15, 3) := by decide +kernel
theorem dX1_addStep_37 : decode cX1_addStep 37 = .ok (.aload_n 0, 1) := by decide +kernel
theorem dX1_addStep_38 : decode cX1_addStep 38 = .ok (.getfield 34, 3) := by decide +kernel
theorem dX1_addStep_41 : decode cX1_addStep 41 = .ok (.iload_n 2, 1) := by decide +kernel
theorem dX1_addStep_42 : decode cX1_addStep 42 = .ok (.invokestatic 72, 3) := by decide +kernel
theorem dX1_addStep_45 : decode cX1_addStep 45 = .ok (.aload_n 0, 1) := by decide +kernel
theorem dX1_addStep_46 : decode cX1_addStep 46 = .ok (.getfield 18, 3) := by decide +kernel
theorem dX1_addStep_49 : decode cX1_addStep 49 = .ok (.aload_n 0, 1) := by decide +kernel
theorem dX1_addStep_50 : decode cX1_addStep 50 = .ok (.getfield 34, 3) := by decide +kernel
theorem dX1_addStep_53 : decode cX1_addStep 53 = .ok (.iload_n 3, 1) := by decide +kernel
theorem dX1_addStep_54 : decode cX1_addStep 54 = .ok (.invokestatic 72, 3) := by decide +kernel
theorem dX1_addStep_57 : decode cX1_addStep 57 = .ok (.aload_n 0, 1) := by decide +kernel
theorem dX1_addStep_58 : decode cX1_addStep 58 = .ok (.getfield 21, 3) := by decide +kernel
theorem dX1_addStep_61 : decode cX1_addStep 61 = .ok (.aload_n 0, 1) := by decide +kernel
theorem dX1_addStep_62 : decode cX1_addStep 62 = .ok (.getfield 34, 3) := by decide +kernel
theorem dX1_addStep_65 : decode cX1_addStep 65 = .ok (.iconst 1, 1) := by decide +kernel
theorem dX1_addStep_66 : decode cX1_addStep 66 = .ok (.iload_n 1, 1) := by decide +kernel
theorem dX1_addStep_67 : decode cX1_addStep 67 = .ok (.ishl, 1) := by decide +kernel
theorem dX1_addStep_68 : decode cX1_addStep 68 = .ok (.iconst 1, 1) := by decide +kernel
theorem dX1_addStep_69 : decode cX1_addStep 69 = .ok (.iload_n 2, 1) := by decide +kernel
theorem dX1_addStep_70 : decode cX1_addStep 70 = .ok (.ishl, 1) := by decide +kernel
theorem dX1_addStep_71 : decode cX1_addStep 71 = .ok (.ior, 1) := by decide +kernel
theorem dX1_addStep_72 : decode cX1_addStep 72 = .ok (.invokestatic 72, 3) := by decide +kernel
theorem dX1_addStep_75 : decode cX1_addStep 75 = .ok (.aload_n 0, 1) := by decide +kernel
theorem dX1_addStep_76 : decode cX1_addStep 76 = .ok (.dup, 1) := by decide +kernel
theorem dX1_addStep_77 : decode cX1_addStep 77 = .ok (.getfield 34, 3) := by decide +kernel
theorem dX1_addStep_80 : decode cX1_addStep 80 = .ok (.iconst 1, 1) := by decide +kernel
theorem dX1_addStep_81 : decode cX1_addStep 81 = .ok (.iadd, 1) := by decide +kernel
theorem dX1_addStep_82 : decode cX1_addStep 82 = .ok (.putfield 34, 3) := by decide +kernel
theorem dX1_addStep_85 : decode cX1_addStep 85 = .ok (.iconst 1, 1) := by decide +kernel
theorem dX1_addStep_86 : decode cX1_addStep 86 = .ok (.ireturn, 1) := by decide +kernel
theorem dX1_setGainsay_0 : decode cX1_setGainsay 0 = .ok (.aload_n 0, 1) := by decide +kernel
theorem dX1_setGainsay_1 : decode cX1_setGainsay 1 = .ok (.iload_n 1, 1) := by decide +kernel
theorem dX1_setGainsay_2 : decode cX1_setGainsay 2 = .ok (.invokevirtual 62, 3) := by decide +kernel
theorem dX1_setGainsay_5 : decode cX1_setGainsay 5 = .ok (.ifCond .eq 16, 3) := by decide +kernel
theorem dX1_setGainsay_8 : decode cX1_setGainsay 8 = .ok (.aload_n 0, 1) := by decide +kernel
theorem dX1_setGainsay_9 : decode cX1_setGainsay 9 = .ok (.iload_n 2, 1) := by decide +kernel
theorem dX1_setGainsay_10 : decode cX1_setGainsay 10 = .ok (.invokevirtual 62, 3) := by decide +kernel
theorem dX1_setGainsay_13 : decode cX1_setGainsay 13 = .ok (.ifCond .eq 8, 3) := by decide +kernel
theorem dX1_setGainsay_16 : decode cX1_setGainsay 16 = .ok (.iload_n 1, 1) := by decide +kernel
theorem dX1_setGainsay_17 : decode cX1_setGainsay 17 = .ok (.iload_n 2, 1) := by decide +kernel
theorem dX1_setGainsay_18 : decode cX1_setGainsay 18 = .ok (.if_icmp .ne 5, 3) := by decide +kernel
theorem dX1_setGainsay_21 : decode cX1_setGainsay 21 = .ok (.iconst 0, 1) := by decide +kernel
theorem dX1_setGainsay_22 : decode cX1_setGainsay 22 = .ok (.ireturn, 1) := by decide +kernel
theorem dX1_setGainsay_23 : decode cX1_setGainsay 23 = .ok (.aload_n 0, 1) := by decide +kernel
theorem dX1_setGainsay_24 : decode cX1_setGainsay 24 = .ok (.getfield 24, 3) := by decide +kernel
theorem dX1_setGainsay_27 : decode cX1_setGainsay 27 = .ok (.iload_n 1, 1) := by decide +kernel
theorem dX1_setGainsay_28 : decode cX1_setGainsay 28 = .ok (.aload_n 0, 1) := by decide +kernel
theorem dX1_setGainsay_29 : decode cX1_setGainsay 29 = .ok (.getfield 24, 3) := by decide +kernel
theorem dX1_setGainsay_32 : decode cX1_setGainsay 32 = .ok (.iload_n 1, 1) := by decide +kernel
theorem dX1_setGainsay_33 : decode cX1_setGainsay 33 = .ok (.invokestatic 76, 3) := by decide +kernel
theorem dX1_setGainsay_36 : decode cX1_setGainsay 36 = .ok (.iconst 1, 1) := by decide +kernel
theorem dX1_setGainsay_37 : decode cX1_setGainsay 37 = .ok (.iload_n 2, 1) := by decide +kernel
theorem dX1_setGainsay_38 : decode cX1_setGainsay 38 = .ok (.ishl, 1) := by decide +kernel
theorem dX1_setGainsay_39 : decode cX1_setGainsay 39 = .ok (.ior, 1) := by decide +kernel
theorem dX1_setGainsay_40 : decode cX1_setGainsay 40 = .ok (.invokestatic 72, 3) := by decide +kernel
theorem dX1_setGainsay_43 : decode cX1_setGainsay 43 = .ok (.aload_n 0, 1) := by decide +kernel
theorem dX1_setGainsay_44 : decode cX1_setGainsay 44 = .ok (.getfield 24, 3) := by decide +kernel
theorem dX1_setGainsay_47 : decode cX1_setGainsay 47 = .ok (.iload_n 2, 1) := by decide +kernel
theorem dX1_setGainsay_48 : decode cX1_setGainsay 48 = .ok (.aload_n 0, 1) := by decide +kernel
theorem dX1_setGainsay_49 : decode cX1_setGainsay 49 = .ok (.getfield 24, 3) := by decide +kernel
theorem dX1_setGainsay_52 : decode cX1_setGainsay 52 = .ok (.iload_n 2, 1) := by decide +kernel
theorem dX1_setGainsay_53 : decode cX1_setGainsay 53 = .ok (.invokestatic 76, 3) := by decide +kernel
theorem dX1_setGainsay_56 : decode cX1_setGainsay 56 = .ok (.iconst 1, 1) := by decide +kernel
theorem dX1_setGainsay_57 : decode cX1_setGainsay 57 = .ok (.iload_n 1, 1) := by decide +kernel
theorem dX1_setGainsay_58 : decode cX1_setGainsay 58 = .ok (.ishl, 1) := by decide +kernel
theorem dX1_setGainsay_59 : decode cX1_setGainsay 59 = .ok (.ior, 1) := by decide +kernel
theorem dX1_setGainsay_60 : decode cX1_setGainsay 60 = .ok (.invokestatic 72, 3) := by decide +kernel
theorem dX1_setGainsay_63 : decode cX1_setGainsay 63 = .ok (.iconst 1, 1) := by decide +kernel
theorem dX1_setGainsay_64 : decode cX1_setGainsay 64 = .ok (.ireturn, 1) := by decide +kernel
theorem dX1_setWear_0 : decode cX1_setWear 0 = .ok (.aload_n 0, 1) := by decide +kernel
theorem dX1_setWear_1 : decode cX1_setWear 1 = .ok (.iload_n 1, 1) := by decide +kernel
theorem dX1_setWear_2 : decode cX1_setWear 2 = .ok (.invokevirtual 62, 3) := by decide +kernel
theorem dX1_setWear_5 : decode cX1_setWear 5 = .ok (.ifCond .ne 5, 3) := by decide +kernel
theorem dX1_setWear_8 : decode cX1_setWear 8 = .ok (.iconst 0, 1) := by decide +kernel
theorem dX1_setWear_9 : decode cX1_setWear 9 = .ok (.ireturn, 1) := by decide +kernel
theorem dX1_setWear_10 : decode cX1_setWear 10 = .ok (.aload_n 0, 1) := by decide +kernel
theorem dX1_setWear_11 : decode cX1_setWear 11 = .ok (.getfield 27, 3) := by decide +kernel
theorem dX1_setWear_14 : decode cX1_setWear 14 = .ok (.iload_n 1, 1) := by decide +kernel
theorem dX1_setWear_15 : decode cX1_setWear 15 = .ok (.iload_n 2, 1) := by decide +kernel
theorem dX1_setWear_16 : decode cX1_setWear 16 = .ok (.invokestatic 72, 3) := by decide +kernel
theorem dX1_setWear_19 : decode cX1_setWear 19 = .ok (.iconst 1, 1) := by decide +kernel
theorem dX1_setWear_20 : decode cX1_setWear 20 = .ok (.ireturn, 1) := by decide +kernel
theorem dX1_stoneCount_0 : decode cX1_stoneCount 0 = .ok (.aload_n 0, 1) := by decide +kernel
theorem dX1_stoneCount_1 : decode cX1_stoneCount 1 = .ok (.getfield 52, 3) := by decide +kernel
theorem dX1_stoneCount_4 : decode cX1_stoneCount 4 = .ok (.ireturn, 1) := by decide +kernel
theorem dX1_stepCount_0 : decode cX1_stepCount 0 = .ok (.aload_n 0, 1) := by decide +kernel
theorem dX1_stepCount_1 : decode cX1_stepCount 1 = .ok (.getfield 34, 3) := by decide +kernel
theorem dX1_stepCount_4 : decode cX1_stepCount 4 = .ok (.ireturn, 1) := by decide +kernel
theorem dX1_begins_0 : decode cX1_begins 0 = .ok (.aload_n 0, 1) := by decide +kernel
theorem dX1_begins_1 : decode cX1_begins 1 = .ok (.getfield 38, 3) := by decide +kernel
theorem dX1_begins_4 : decode cX1_begins 4 = .ok (.ireturn, 1) := by decide +kernel
theorem dX1_beginnings_0 : decode cX1_beginnings 0 = .ok (.aload_n 0, 1) := by decide +kernel
theorem dX1_beginnings_1 : decode cX1_beginnings 1 = .ok (.getfield 38, 3) := by decide +kernel
theorem dX1_beginnings_4 : decode cX1_beginnings 4 = .ok (.aload_n 0, 1) := by decide +kernel
theorem dX1_beginnings_5 : decode cX1_beginnings 5 = .ok (.getfield 55, 3) := by decide +kernel
theorem dX1_beginnings_8 : decode cX1_beginnings 8 = .ok (.iand, 1) := by decide +kernel
theorem dX1_beginnings_9 : decode cX1_beginnings 9 = .ok (.ireturn, 1) := by decide +kernel
theorem dX1_there_0 : decode cX1_there 0 = .ok (.aload_n 0, 1) := by decide +kernel
theorem dX1_there_1 : decode cX1_there 1 = .ok (.getfield 55, 3) := by decide +kernel
theorem dX1_there_4 : decode cX1_there 4 = .ok (.ireturn, 1) := by decide +kernel
theorem dX1_stood_0 : decode cX1_stood 0 = .ok (.aload_n 0, 1) := by decide +kernel
theorem dX1_stood_1 : decode cX1_stood 1 = .ok (.getfield 41, 3) := by decide +kernel
theorem dX1_stood_4 : decode cX1_stood 4 = .ok (.ireturn, 1) := by decide +kernel
theorem dX1_allStones_0 : decode cX1_allStones 0 = .ok (.iconst 1, 1) := by decide +kernel
theorem dX1_allStones_1 : decode cX1_allStones 1 = .ok (.aload_n 0, 1) := by decide +kernel
theorem dX1_allStones_2 : decode cX1_allStones 2 = .ok (.getfield 52, 3) := by decide +kernel
theorem dX1_allStones_5 : decode cX1_allStones 5 = .ok (.ishl, 1) := by decide +kernel
theorem dX1_allStones_6 : decode cX1_allStones 6 = .ok (.iconst 1, 1) := by decide +kernel
theorem dX1_allStones_7 : decode cX1_allStones 7 = .ok (.isub, 1) := by decide +kernel
theorem dX1_allStones_8 : decode cX1_allStones 8 = .ok (.ireturn, 1) := by decide +kernel
theorem dX1_hasStone_0 : decode cX1_hasStone 0 = .ok (.iload_n 1, 1) := by decide +kernel
theorem dX1_hasStone_1 : decode cX1_hasStone 1 = .ok (.ifCond .lt 15, 3) := by decide +kernel
theorem dX1_hasStone_4 : decode cX1_hasStone 4 = .ok (.iload_n 1, 1) := by decide +kernel
theorem dX1_hasStone_5 : decode cX1_hasStone 5 = .ok (.aload_n 0, 1) := by decide +kernel
theorem dX1_hasStone_6 : decode cX1_hasStone 6 = .ok (.getfield 52, 3) := by decide +kernel
theorem dX1_hasStone_9 : decode cX1_hasStone 9 = .ok (.if_icmp .ge 7, 3) := by decide +kernel
theorem dX1_hasStone_12 : decode cX1_hasStone 12 = .ok (.iconst 1, 1) := by decide +kernel
theorem dX1_hasStone_13 : decode cX1_hasStone 13 = .ok (.goto 4, 3) := by decide +kernel
theorem dX1_hasStone_16 : decode cX1_hasStone 16 = .ok (.iconst 0, 1) := by decide +kernel
theorem dX1_hasStone_17 : decode cX1_hasStone 17 = .ok (.ireturn, 1) := by decide +kernel
theorem dX1_isThere_0 : decode cX1_isThere 0 = .ok (.aload_n 0, 1) := by decide +kernel
theorem dX1_isThere_1 : decode cX1_isThere 1 = .ok (.getfield 55, 3) := by decide +kernel
theorem dX1_isThere_4 : decode cX1_isThere 4 = .ok (.iload_n 1, 1) := by decide +kernel
theorem dX1_isThere_5 : decode cX1_isThere 5 = .ok (.invokestatic 80, 3) := by decide +kernel
theorem dX1_isThere_8 : decode cX1_isThere 8 = .ok (.ireturn, 1) := by decide +kernel
theorem dX1_wearOf_0 : decode cX1_wearOf 0 = .ok (.aload_n 0, 1) := by decide +kernel
theorem dX1_wearOf_1 : decode cX1_wearOf 1 = .ok (.getfield 27, 3) := by decide +kernel
theorem dX1_wearOf_4 : decode cX1_wearOf 4 = .ok (.iload_n 1, 1) := by decide +kernel
theorem dX1_wearOf_5 : decode cX1_wearOf 5 = .ok (.invokestatic 76, 3) := by decide +kernel
theorem dX1_wearOf_8 : decode cX1_wearOf 8 = .ok (.ireturn, 1) := by decide +kernel
theorem dX1_gainsayersOf_0 : decode cX1_gainsayersOf 0 = .ok (.aload_n 0, 1) := by decide +kernel
theorem dX1_gainsayersOf_1 : decode cX1_gainsayersOf 1 = .ok (.getfield 24, 3) := by decide +kernel
theorem dX1_gainsayersOf_4 : decode cX1_gainsayersOf 4 = .ok (.iload_n 1, 1) := by decide +kernel
theorem dX1_gainsayersOf_5 : decode cX1_gainsayersOf 5 = .ok (.invokestatic 76, 3) := by decide +kernel
theorem dX1_gainsayersOf_8 : decode cX1_gainsayersOf 8 = .ok (.ireturn, 1) := by decide +kernel
theorem dX1_firstOf_0 : decode cX1_firstOf 0 = .ok (.aload_n 0, 1) := by decide +kernel
theorem dX1_firstOf_1 : decode cX1_firstOf 1 = .ok (.getfield 9, 3) := by decide +kernel
theorem dX1_firstOf_4 : decode cX1_firstOf 4 = .ok (.iload_n 1, 1) := by decide +kernel
theorem dX1_firstOf_5 : decode cX1_firstOf 5 = .ok (.invokestatic 76, 3) := by decide +kernel
theorem dX1_firstOf_8 : decode cX1_firstOf 8 = .ok (.ireturn, 1) := by decide +kernel
theorem dX1_secondOf_0 : decode cX1_secondOf 0 = .ok (.aload_n 0, 1) := by decide +kernel
theorem dX1_secondOf_1 : decode cX1_secondOf 1 = .ok (.getfield 15, 3) := by decide +kernel
theorem dX1_secondOf_4 : decode cX1_secondOf 4 = .ok (.iload_n 1, 1) := by decide +kernel
theorem dX1_secondOf_5 : decode cX1_secondOf 5 = .ok (.invokestatic 76, 3) := by decide +kernel
theorem dX1_secondOf_8 : decode cX1_secondOf 8 = .ok (.ireturn, 1) := by decide +kernel
theorem dX1_endOf_0 : decode cX1_endOf 0 = .ok (.aload_n 0, 1) := by decide +kernel
theorem dX1_endOf_1 : decode cX1_endOf 1 = .ok (.getfield 18, 3) := by decide +kernel
theorem dX1_endOf_4 : decode cX1_endOf 4 = .ok (.iload_n 1, 1) := by decide +kernel
theorem dX1_endOf_5 : decode cX1_endOf 5 = .ok (.invokestatic 76, 3) := by decide +kernel
theorem dX1_endOf_8 : decode cX1_endOf 8 = .ok (.ireturn, 1) := by decide +kernel
theorem dX1_originsOf_0 : decode cX1_originsOf 0 = .ok (.aload_n 0, 1) := by decide +kernel
theorem dX1_originsOf_1 : decode cX1_originsOf 1 = .ok (.getfield 21, 3) := by decide +kernel
theorem dX1_originsOf_4 : decode cX1_originsOf 4 = .ok (.iload_n 1, 1) := by decide +kernel
theorem dX1_originsOf_5 : decode cX1_originsOf 5 = .ok (.invokestatic 76, 3) := by decide +kernel
theorem dX1_originsOf_8 : decode cX1_originsOf 8 = .ok (.ireturn, 1) := by decide +kernel
theorem dX1_mayBeGone_0 : decode cX1_mayBeGone 0 = .ok (.aload_n 0, 1) := by decide +kernel
theorem dX1_mayBeGone_1 : decode cX1_mayBeGone 1 = .ok (.iload_n 1, 1) := by decide +kernel
theorem dX1_mayBeGone_2 : decode cX1_mayBeGone 2 = .ok (.aload_n 0, 1) := by decide +kernel
theorem dX1_mayBeGone_3 : decode cX1_mayBeGone 3 = .ok (.getfield 41, 3) := by decide +kernel
theorem dX1_mayBeGone_6 : decode cX1_mayBeGone 6 = .ok (.invokevirtual 84, 3) := by decide +kernel
theorem dX1_mayBeGone_9 : decode cX1_mayBeGone 9 = .ok (.aload_n 0, 1) := by decide +kernel
theorem dX1_mayBeGone_10 : decode cX1_mayBeGone 10 = .ok (.getfield 41, 3) := by decide +kernel
theorem dX1_mayBeGone_13 : decode cX1_mayBeGone 13 = .ok (.if_icmp .eq 7, 3) := by decide +kernel
theorem dX1_mayBeGone_16 : decode cX1_mayBeGone 16 = .ok (.iconst 1, 1) := by decide +kernel
theorem dX1_mayBeGone_17 : decode cX1_mayBeGone 17 = .ok (.goto 4, 3) := by decide +kernel
theorem dX1_mayBeGone_20 : decode cX1_mayBeGone 20 = .ok (.iconst 0, 1) := by decide +kernel
theorem dX1_mayBeGone_21 : decode cX1_mayBeGone 21 = .ok (.ireturn, 1) := by decide +kernel
theorem dX1_after_0 : decode cX1_after 0 = .ok (.aload_n 0, 1) := by decide +kernel
theorem dX1_after_1 : decode cX1_after 1 = .ok (.iload_n 1, 1) := by decide +kernel
theorem dX1_after_2 : decode cX1_after 2 = .ok (.iload_n 2, 1) := by decide +kernel
theorem dX1_after_3 : decode cX1_after 3 = .ok (.aload_n 0, 1) := by decide +kernel
theorem dX1_after_4 : decode cX1_after 4 = .ok (.getfield 55, 3) := by decide +kernel
theorem dX1_after_7 : decode cX1_after 7 = .ok (.invokevirtual 88, 3) := by decide +kernel
theorem dX1_after_10 : decode cX1_after 10 = .ok (.ireturn, 1) := by decide +kernel
theorem dX1_afterAmong_0 : decode cX1_afterAmong 0 = .ok (.iconst 1, 1) := by decide +kernel
theorem dX1_afterAmong_1 : decode cX1_afterAmong 1 = .ok (.aload_n 0, 1) := by decide +kernel
theorem dX1_afterAmong_2 : decode cX1_afterAmong 2 = .ok (.getfield 18, 3) := by decide +kernel
theorem dX1_afterAmong_5 : decode cX1_afterAmong 5 = .ok (.iload_n 1, 1) := by decide +kernel
theorem dX1_afterAmong_6 : decode cX1_afterAmong 6 = .ok (.invokestatic 76, 3) := by decide +kernel
theorem dX1_afterAmong_9 : decode cX1_afterAmong 9 = .ok (.ishl, 1) := by decide +kernel
theorem dX1_afterAmong_10 : decode cX1_afterAmong 10 = .ok (.istore 4, 2) := by decide +kernel
theorem dX1_afterAmong_12 : decode cX1_afterAmong 12 = .ok (.iload_n 2, 1) := by decide +kernel
theorem dX1_afterAmong_13 : decode cX1_afterAmong 13 = .ok (.aload_n 0, 1) := by decide +kernel
theorem dX1_afterAmong_14 : decode cX1_afterAmong 14 = .ok (.getfield 21, 3) := by decide +kernel
theorem dX1_afterAmong_17 : decode cX1_afterAmong 17 = .ok (.iload_n 1, 1) := by decide +kernel
theorem dX1_afterAmong_18 : decode cX1_afterAmong 18 = .ok (.invokestatic 76, 3) := by decide +kernel
theorem dX1_afterAmong_21 : decode cX1_afterAmong 21 = .ok (.invokestatic 92, 3) := by decide +kernel
theorem dX1_afterAmong_24 : decode cX1_afterAmong 24 = .ok (.ifCond .eq 19, 3) := by decide +kernel
theorem dX1_afterAmong_27 : decode cX1_afterAmong 27 = .ok (.iload_n 3, 1) := by decide +kernel
theorem dX1_afterAmong_28 : decode cX1_afterAmong 28 = .ok (.iload 4, 2) := by decide +kernel
theorem dX1_afterAmong_30 : decode cX1_afterAmong 30 = .ok (.invokestatic 92, 3) := by decide +kernel
theorem dX1_afterAmong_33 : decode cX1_afterAmong 33 = .ok (.ifCond .eq 10, 3) := by decide +kernel
theorem dX1_afterAmong_36 : decode cX1_afterAmong 36 = .ok (.iload_n 2, 1) := by decide +kernel
theorem dX1_afterAmong_37 : decode cX1_afterAmong 37 = .ok (.iload 4, 2) := by decide +kernel
theorem dX1_afterAmong_39 : decode cX1_afterAmong 39 = .ok (.ior, 1) := by decide +kernel
theorem dX1_afterAmong_40 : decode cX1_afterAmong 40 = .ok (.goto 4, 3) := by decide +kernel
theorem dX1_afterAmong_43 : decode cX1_afterAmong 43 = .ok (.iload_n 2, 1) := by decide +kernel
theorem dX1_afterAmong_44 : decode cX1_afterAmong 44 = .ok (.ireturn, 1) := by decide +kernel
theorem dX1_tread_0 : decode cX1_tread 0 = .ok (.aload_n 0, 1) := by decide +kernel
theorem dX1_tread_1 : decode cX1_tread 1 = .ok (.iload_n 1, 1) := by decide +kernel
theorem dX1_tread_2 : decode cX1_tread 2 = .ok (.invokevirtual 95, 3) := by decide +kernel
theorem dX1_tread_5 : decode cX1_tread 5 = .ok (.istore_n 2, 1) := by decide +kernel
theorem dX1_tread_6 : decode cX1_tread 6 = .ok (.aload_n 0, 1) := by decide +kernel
theorem dX1_tread_7 : decode cX1_tread 7 = .ok (.aload_n 0, 1) := by decide +kernel
theorem dX1_tread_8 : decode cX1_tread 8 = .ok (.iload_n 1, 1) := by decide +kernel
theorem dX1_tread_9 : decode cX1_tread 9 = .ok (.aload_n 0, 1) := by decide +kernel
theorem dX1_tread_10 : decode cX1_tread 10 = .ok (.getfield 41, 3) := by decide +kernel
theorem dX1_tread_13 : decode cX1_tread 13 = .ok (.invokevirtual 84, 3) := by decide +kernel
theorem dX1_tread_16 : decode cX1_tread 16 = .ok (.putfield 41, 3) := by decide +kernel
theorem dX1_tread_19 : decode cX1_tread 19 = .ok (.aload_n 0, 1) := by decide +kernel
theorem dX1_tread_20 : decode cX1_tread 20 = .ok (.getfield 27, 3) := by decide +kernel
theorem dX1_tread_23 : decode cX1_tread 23 = .ok (.iload_n 2, 1) := by decide +kernel
theorem dX1_tread_24 : decode cX1_tread 24 = .ok (.aload_n 0, 1) := by decide +kernel
theorem dX1_tread_25 : decode cX1_tread 25 = .ok (.getfield 27, 3) := by decide +kernel
theorem dX1_tread_28 : decode cX1_tread 28 = .ok (.iload_n 2, 1) := by decide +kernel
theorem dX1_tread_29 : decode cX1_tread 29 = .ok (.invokestatic 76, 3) := by decide +kernel
theorem dX1_tread_32 : decode cX1_tread 32 = .ok (.iconst 1, 1) := by decide +kernel
theorem dX1_tread_33 : decode cX1_tread 33 = .ok (.iadd, 1) := by decide +kernel
theorem dX1_tread_34 : decode cX1_tread 34 = .ok (.invokestatic 72, 3) := by decide +kernel
theorem dX1_tread_37 : decode cX1_tread 37 = .ok (.return_, 1) := by decide +kernel
theorem dX1_untread_0 : decode cX1_untread 0 = .ok (.aload_n 0, 1) := by decide +kernel
theorem dX1_untread_1 : decode cX1_untread 1 = .ok (.dup, 1) := by decide +kernel
theorem dX1_untread_2 : decode cX1_untread 2 = .ok (.getfield 41, 3) := by decide +kernel
theorem dX1_untread_5 : decode cX1_untread 5 = .ok (.iconst 1, 1) := by decide +kernel
theorem dX1_untread_6 : decode cX1_untread 6 = .ok (.iload_n 1, 1) := by decide +kernel
theorem dX1_untread_7 : decode cX1_untread 7 = .ok (.ishl, 1) := by decide +kernel
theorem dX1_untread_8 : decode cX1_untread 8 = .ok (.iconst (-1), 1) := by decide +kernel
theorem dX1_untread_9 : decode cX1_untread 9 = .ok (.ixor, 1) := by decide +kernel
theorem dX1_untread_10 : decode cX1_untread 10 = .ok (.iand, 1) := by decide +kernel
theorem dX1_untread_11 : decode cX1_untread 11 = .ok (.putfield 41, 3) := by decide +kernel
theorem dX1_untread_14 : decode cX1_untread 14 = .ok (.aload_n 0, 1) := by decide +kernel
theorem dX1_untread_15 : decode cX1_untread 15 = .ok (.getfield 27, 3) := by decide +kernel
theorem dX1_untread_18 : decode cX1_untread 18 = .ok (.iload_n 1, 1) := by decide +kernel
theorem dX1_untread_19 : decode cX1_untread 19 = .ok (.aload_n 0, 1) := by decide +kernel
theorem dX1_untread_20 : decode cX1_untread 20 = .ok (.getfield 27, 3) := by decide +kernel
theorem dX1_untread_23 : decode cX1_untread 23 = .ok (.iload_n 1, 1) := by decide +kernel
theorem dX1_untread_24 : decode cX1_untread 24 = .ok (.invokestatic 76, 3) := by decide +kernel
theorem dX1_untread_27 : decode cX1_untread 27 = .ok (.iconst 1, 1) := by decide +kernel
theorem dX1_untread_28 : decode cX1_untread 28 = .ok (.isub, 1) := by decide +kernel
theorem dX1_untread_29 : decode cX1_untread 29 = .ok (.invokestatic 72, 3) := by decide +kernel
theorem dX1_untread_32 : decode cX1_untread 32 = .ok (.return_, 1) := by decide +kernel
theorem dX1_removeSlab_0 : decode cX1_removeSlab 0 = .ok (.aload_n 0, 1) := by decide +kernel
theorem dX1_removeSlab_1 : decode cX1_removeSlab 1 = .ok (.dup, 1) := by decide +kernel
theorem dX1_removeSlab_2 : decode cX1_removeSlab 2 = .ok (.getfield 55, 3) := by decide +kernel
theorem dX1_removeSlab_5 : decode cX1_removeSlab 5 = .ok (.iconst 1, 1) := by decide +kernel
theorem dX1_removeSlab_6 : decode cX1_removeSlab 6 = .ok (.iload_n 1, 1) := by decide +kernel
theorem dX1_removeSlab_7 : decode cX1_removeSlab 7 = .ok (.ishl, 1) := by decide +kernel
theorem dX1_removeSlab_8 : decode cX1_removeSlab 8 = .ok (.iconst (-1), 1) := by decide +kernel
theorem dX1_removeSlab_9 : decode cX1_removeSlab 9 = .ok (.ixor, 1) := by decide +kernel
theorem dX1_removeSlab_10 : decode cX1_removeSlab 10 = .ok (.iand, 1) := by decide +kernel
theorem dX1_removeSlab_11 : decode cX1_removeSlab 11 = .ok (.putfield 55, 3) := by decide +kernel
theorem dX1_removeSlab_14 : decode cX1_removeSlab 14 = .ok (.aload_n 0, 1) := by decide +kernel
theorem dX1_removeSlab_15 : decode cX1_removeSlab 15 = .ok (.dup, 1) := by decide +kernel
theorem dX1_removeSlab_16 : decode cX1_removeSlab 16 = .ok (.getfield 41, 3) := by decide +kernel
theorem dX1_removeSlab_19 : decode cX1_removeSlab 19 = .ok (.iconst 1, 1) := by decide +kernel
theorem dX1_removeSlab_20 : decode cX1_removeSlab 20 = .ok (.iload_n 1, 1) := by decide +kernel
theorem dX1_removeSlab_21 : decode cX1_removeSlab 21 = .ok (.ishl, 1) := by decide +kernel
theorem dX1_removeSlab_22 : decode cX1_removeSlab 22 = .ok (.iconst (-1), 1) := by decide +kernel
theorem dX1_removeSlab_23 : decode cX1_removeSlab 23 = .ok (.ixor, 1) := by decide +kernel
theorem dX1_removeSlab_24 : decode cX1_removeSlab 24 = .ok (.iand, 1) := by decide +kernel
theorem dX1_removeSlab_25 : decode cX1_removeSlab 25 = .ok (.putfield 41, 3) := by decide +kernel
theorem dX1_removeSlab_28 : decode cX1_removeSlab 28 = .ok (.return_, 1) := by decide +kernel
theorem dX1_putSlabBack_0 : decode cX1_putSlabBack 0 = .ok (.aload_n 0, 1) := by decide +kernel
theorem dX1_putSlabBack_1 : decode cX1_putSlabBack 1 = .ok (.dup, 1) := by decide +kernel
theorem dX1_putSlabBack_2 : decode cX1_putSlabBack 2 = .ok (.getfield 55, 3) := by decide +kernel
theorem dX1_putSlabBack_5 : decode cX1_putSlabBack 5 = .ok (.iconst 1, 1) := by decide +kernel
theorem dX1_putSlabBack_6 : decode cX1_putSlabBack 6 = .ok (.iload_n 1, 1) := by decide +kernel
theorem dX1_putSlabBack_7 : decode cX1_putSlabBack 7 = .ok (.ishl, 1) := by decide +kernel
theorem dX1_putSlabBack_8 : decode cX1_putSlabBack 8 = .ok (.ior, 1) := by decide +kernel
theorem dX1_putSlabBack_9 : decode cX1_putSlabBack 9 = .ok (.putfield 55, 3) := by decide +kernel
theorem dX1_putSlabBack_12 : decode cX1_putSlabBack 12 = .ok (.iload_n 2, 1) := by decide +kernel
theorem dX1_putSlabBack_13 : decode cX1_putSlabBack 13 = .ok (.ifCond .eq 15, 3) := by decide +kernel
theorem dX1_putSlabBack_16 : decode cX1_putSlabBack 16 = .ok (.aload_n 0, 1) := by decide +kernel
theorem dX1_putSlabBack_17 : decode cX1_putSlabBack 17 = .ok (.dup, 1) := by decide +kernel
theorem dX1_putSlabBack_18 : decode cX1_putSlabBack 18 = .ok (.getfield 41, 3) := by decide +kernel
theorem dX1_putSlabBack_21 : decode cX1_putSlabBack 21 = .ok (.iconst 1, 1) := by decide +kernel
theorem dX1_putSlabBack_22 : decode cX1_putSlabBack 22 = .ok (.iload_n 1, 1) := by decide +kernel
theorem dX1_putSlabBack_23 : decode cX1_putSlabBack 23 = .ok (.ishl, 1) := by decide +kernel
theorem dX1_putSlabBack_24 : decode cX1_putSlabBack 24 = .ok (.ior, 1) := by decide +kernel
theorem dX1_putSlabBack_25 : decode cX1_putSlabBack 25 = .ok (.putfield 41, 3) := by decide +kernel
theorem dX1_putSlabBack_28 : decode cX1_putSlabBack 28 = .ok (.return_, 1) := by decide +kernel
theorem dX1_removeLatestStep_0 : decode cX1_removeLatestStep 0 = .ok (.aload_n 0, 1) := by decide +kernel
theorem dX1_removeLatestStep_1 : decode cX1_removeLatestStep 1 = .ok (.getfield 34, 3) := by decide +kernel
theorem dX1_removeLatestStep_4 : decode cX1_removeLatestStep 4 = .ok (.ifCond .le 13, 3) := by decide +kernel
theorem dX1_removeLatestStep_7 : decode cX1_removeLatestStep 7 = .ok (.aload_n 0, 1) := by decide +kernel
theorem dX1_removeLatestStep_8 : decode cX1_removeLatestStep 8 = .ok (.dup, 1) := by decide +kernel
theorem dX1_removeLatestStep_9 : decode cX1_removeLatestStep 9 = .ok (.getfield 34, 3) := by decide +kernel
theorem dX1_removeLatestStep_12 : decode cX1_removeLatestStep 12 = .ok (.iconst 1, 1) := by decide +kernel
theorem dX1_removeLatestStep_13 : decode cX1_removeLatestStep 13 = .ok (.isub, 1) := by decide +kernel
theorem dX1_removeLatestStep_14 : decode cX1_removeLatestStep 14 = .ok (.putfield 34, 3) := by decide +kernel
theorem dX1_removeLatestStep_17 : decode cX1_removeLatestStep 17 = .ok (.return_, 1) := by decide +kernel
theorem dX1_reachOf_0 : decode cX1_reachOf 0 = .ok (.aload_n 0, 1) := by decide +kernel
theorem dX1_reachOf_1 : decode cX1_reachOf 1 = .ok (.iload_n 1, 1) := by decide +kernel
theorem dX1_reachOf_2 : decode cX1_reachOf 2 = .ok (.sipush 1023, 3) := by decide +kernel
theorem dX1_reachOf_5 : decode cX1_reachOf 5 = .ok (.aload_n 0, 1) := by decide +kernel
theorem dX1_reachOf_6 : decode cX1_reachOf 6 = .ok (.getfield 55, 3) := by decide +kernel
theorem dX1_reachOf_9 : decode cX1_reachOf 9 = .ok (.invokevirtual 99, 3) := by decide +kernel
theorem dX1_reachOf_12 : decode cX1_reachOf 12 = .ok (.ireturn, 1) := by decide +kernel
theorem dX1_reachBy_0 : decode cX1_reachBy 0 = .ok (.iload_n 1, 1) := by decide +kernel
theorem dX1_reachBy_1 : decode cX1_reachBy 1 = .ok (.iload_n 3, 1) := by decide +kernel
theorem dX1_reachBy_2 : decode cX1_reachBy 2 = .ok (.iand, 1) := by decide +kernel
theorem dX1_reachBy_3 : decode cX1_reachBy 3 = .ok (.istore 4, 2) := by decide +kernel
theorem dX1_reachBy_5 : decode cX1_reachBy 5 = .ok (.iconst 0, 1) := by decide +kernel
theorem dX1_reachBy_6 : decode cX1_reachBy 6 = .ok (.istore 5, 2) := by decide +kernel
theorem dX1_reachBy_8 : decode cX1_reachBy 8 = .ok (.iload 5, 2) := by decide +kernel
theorem dX1_reachBy_10 : decode cX1_reachBy 10 = .ok (.bipush 10, 2) := by decide +kernel
theorem dX1_reachBy_12 : decode cX1_reachBy 12 = .ok (.if_icmp .ge 61, 3) := by decide +kernel
theorem dX1_reachBy_15 : decode cX1_reachBy 15 = .ok (.iload 4, 2) := by decide +kernel
theorem dX1_reachBy_17 : decode cX1_reachBy 17 = .ok (.istore 6, 2) := by decide +kernel
theorem dX1_reachBy_19 : decode cX1_reachBy 19 = .ok (.iconst 0, 1) := by decide +kernel
theorem dX1_reachBy_20 : decode cX1_reachBy 20 = .ok (.istore 7, 2) := by decide +kernel
theorem dX1_reachBy_22 : decode cX1_reachBy 22 = .ok (.iload 7, 2) := by decide +kernel
theorem dX1_reachBy_24 : decode cX1_reachBy 24 = .ok (.aload_n 0, 1) := by decide +kernel
theorem dX1_reachBy_25 : decode cX1_reachBy 25 = .ok (.getfield 34, 3) := by decide +kernel
theorem dX1_reachBy_28 : decode cX1_reachBy 28 = .ok (.if_icmp .ge 29, 3) := by decide +kernel
theorem dX1_reachBy_31 : decode cX1_reachBy 31 = .ok (.iload_n 2, 1) := by decide +kernel
theorem dX1_reachBy_32 : decode cX1_reachBy 32 = .ok (.iload 7, 2) := by decide +kernel
theorem dX1_reachBy_34 : decode cX1_reachBy 34 = .ok (.invokestatic 80, 3) := by decide +kernel
theorem dX1_reachBy_37 : decode cX1_reachBy 37 = .ok (.ifCond .eq 14, 3) := by decide +kernel
theorem dX1_reachBy_40 : decode cX1_reachBy 40 = .ok (.aload_n 0, 1) := by decide +kernel
theorem dX1_reachBy_41 : decode cX1_reachBy 41 = .ok (.iload 7, 2) := by decide +kernel
theorem dX1_reachBy_43 : decode cX1_reachBy 43 = .ok (.iload 4, 2) := by decide +kernel
theorem dX1_reachBy_45 : decode cX1_reachBy 45 = .ok (.iload_n 3, 1) := by decide +kernel
theorem dX1_reachBy_46 : decode cX1_reachBy 46 = .ok (.invokevirtual 88, 3) := by decide +kernel
theorem dX1_reachBy_49 : decode cX1_reachBy 49 = .ok (.istore 4, 2) := by decide +kernel
theorem dX1_reachBy_51 : decode cX1_reachBy 51 = .ok (.iinc 7 1, 3) := by decide +kernel
theorem dX1_reachBy_54 : decode cX1_reachBy 54 = .ok (.goto (-32), 3) := by decide +kernel
theorem dX1_reachBy_57 : decode cX1_reachBy 57 = .ok (.iload 4, 2) := by decide +kernel
theorem dX1_reachBy_59 : decode cX1_reachBy 59 = .ok (.iload 6, 2) := by decide +kernel
theorem dX1_reachBy_61 : decode cX1_reachBy 61 = .ok (.if_icmp .ne 6, 3) := by decide +kernel
theorem dX1_reachBy_64 : decode cX1_reachBy 64 = .ok (.iload 4, 2) := by decide +kernel
theorem dX1_reachBy_66 : decode cX1_reachBy 66 = .ok (.ireturn, 1) := by decide +kernel
theorem dX1_reachBy_67 : decode cX1_reachBy 67 = .ok (.iinc 5 1, 3) := by decide +kernel
theorem dX1_reachBy_70 : decode cX1_reachBy 70 = .ok (.goto (-62), 3) := by decide +kernel
theorem dX1_reachBy_73 : decode cX1_reachBy 73 = .ok (.iload 4, 2) := by decide +kernel
theorem dX1_reachBy_75 : decode cX1_reachBy 75 = .ok (.ireturn, 1) := by decide +kernel
theorem dX1_hasGainsayersIn_0 : decode cX1_hasGainsayersIn 0 = .ok (.iconst 0, 1) := by decide +kernel
theorem dX1_hasGainsayersIn_1 : decode cX1_hasGainsayersIn 1 = .ok (.istore_n 2, 1) := by decide +kernel
theorem dX1_hasGainsayersIn_2 : decode cX1_hasGainsayersIn 2 = .ok (.iload_n 2, 1) := by decide +kernel
theorem dX1_hasGainsayersIn_3 : decode cX1_hasGainsayersIn 3 = .ok (.aload_n 0, 1) := by decide +kernel
theorem dX1_hasGainsayersIn_4 : decode cX1_hasGainsayersIn 4 = .ok (.getfield 52, 3) := by decide +kernel
theorem dX1_hasGainsayersIn_7 : decode cX1_hasGainsayersIn 7 = .ok (.if_icmp .ge 29, 3) := by decide +kernel
theorem dX1_hasGainsayersIn_10 : decode cX1_hasGainsayersIn 10 = .ok (.iload_n 1, 1) := by decide +kernel
theorem dX1_hasGainsayersIn_11 : decode cX1_hasGainsayersIn 11 = .ok (.iload_n 2, 1) := by decide +kernel
theorem dX1_hasGainsayersIn_12 : decode cX1_hasGainsayersIn 12 = .ok (.invokestatic 80, 3) := by decide +kernel
theorem dX1_hasGainsayersIn_15 : decode cX1_hasGainsayersIn 15 = .ok (.ifCond .eq 15, 3) := by decide +kernel
theorem dX1_hasGainsayersIn_18 : decode cX1_hasGainsayersIn 18 = .ok (.aload_n 0, 1) := by decide +kernel
theorem dX1_hasGainsayersIn_19 : decode cX1_hasGainsayersIn 19 = .ok (.iload_n 2, 1) := by decide +kernel
theorem dX1_hasGainsayersIn_20 : decode cX1_hasGainsayersIn 20 = .ok (.invokevirtual 102, 3) := by decide +kernel
theorem dX1_hasGainsayersIn_23 : decode cX1_hasGainsayersIn 23 = .ok (.iload_n 1, 1) := by decide +kernel
theorem dX1_hasGainsayersIn_24 : decode cX1_hasGainsayersIn 24 = .ok (.iand, 1) := by decide +kernel
theorem dX1_hasGainsayersIn_25 : decode cX1_hasGainsayersIn 25 = .ok (.ifCond .eq 5, 3) := by decide +kernel
theorem dX1_hasGainsayersIn_28 : decode cX1_hasGainsayersIn 28 = .ok (.iconst 1, 1) := by decide +kernel
theorem dX1_hasGainsayersIn_29 : decode cX1_hasGainsayersIn 29 = .ok (.ireturn, 1) := by decide +kernel
theorem dX1_hasGainsayersIn_30 : decode cX1_hasGainsayersIn 30 = .ok (.iinc 2 1, 3) := by decide +kernel
theorem dX1_hasGainsayersIn_33 : decode cX1_hasGainsayersIn 33 = .ok (.goto (-31), 3) := by decide +kernel
theorem dX1_hasGainsayersIn_36 : decode cX1_hasGainsayersIn 36 = .ok (.iconst 0, 1) := by decide +kernel
theorem dX1_hasGainsayersIn_37 : decode cX1_hasGainsayersIn 37 = .ok (.ireturn, 1) := by decide +kernel
theorem dX1_directlyBehind_0 : decode cX1_directlyBehind 0 = .ok (.iconst 0, 1) := by decide +kernel
theorem dX1_directlyBehind_1 : decode cX1_directlyBehind 1 = .ok (.istore_n 2, 1) := by decide +kernel
theorem dX1_directlyBehind_2 : decode cX1_directlyBehind 2 = .ok (.iconst 0, 1) := by decide +kernel
theorem dX1_directlyBehind_3 : decode cX1_directlyBehind 3 = .ok (.istore_n 3, 1) := by decide +kernel
theorem dX1_directlyBehind_4 : decode cX1_directlyBehind 4 = .ok (.iload_n 3, 1) := by decide +kernel
theorem dX1_directlyBehind_5 : decode cX1_directlyBehind 5 = .ok (.aload_n 0, 1) := by decide +kernel
theorem dX1_directlyBehind_6 : decode cX1_directlyBehind 6 = .ok (.getfield 34, 3) := by decide +kernel
theorem dX1_directlyBehind_9 : decode cX1_directlyBehind 9 = .ok (.if_icmp .ge 29, 3) := by decide +kernel
theorem dX1_directlyBehind_12 : decode cX1_directlyBehind 12 = .ok (.aload_n 0, 1) := by decide +kernel
theorem dX1_directlyBehind_13 : decode cX1_directlyBehind 13 = .ok (.iload_n 3, 1) := by decide +kernel
theorem dX1_directlyBehind_14 : decode cX1_directlyBehind 14 = .ok (.invokevirtual 105, 3) := by decide +kernel
theorem dX1_directlyBehind_17 : decode cX1_directlyBehind 17 = .ok (.iload_n 1, 1) := by decide +kernel
theorem dX1_directlyBehind_18 : decode cX1_directlyBehind 18 = .ok (.iand, 1) := by decide +kernel
theorem dX1_directlyBehind_19 : decode cX1_directlyBehind 19 = .ok (.ifCond .eq 13, 3) := by decide +kernel
theorem dX1_directlyBehind_22 : decode cX1_directlyBehind 22 = .ok (.iload_n 2, 1) := by decide +kernel
theorem dX1_directlyBehind_23 : decode cX1_directlyBehind 23 = .ok (.iconst 1, 1) := by decide +kernel
theorem dX1_directlyBehind_24 : decode cX1_directlyBehind 24 = .ok (.aload_n 0, 1) := by decide +kernel
theorem dX1_directlyBehind_25 : decode cX1_directlyBehind 25 = .ok (.iload_n 3, 1) := by decide +kernel
theorem dX1_directlyBehind_26 : decode cX1_directlyBehind 26 = .ok (.invokevirtual 95, 3) := by decide +kernel
theorem dX1_directlyBehind_29 : decode cX1_directlyBehind 29 = .ok (.ishl, 1) := by decide +kernel
theorem dX1_directlyBehind_30 : decode cX1_directlyBehind 30 = .ok (.ior, 1) := by decide +kernel
theorem dX1_directlyBehind_31 : decode cX1_directlyBehind 31 = .ok (.istore_n 2, 1) := by decide +kernel
theorem dX1_directlyBehind_32 : decode cX1_directlyBehind 32 = .ok (.iinc 3 1, 3) := by decide +kernel
theorem dX1_directlyBehind_35 : decode cX1_directlyBehind 35 = .ok (.goto (-31), 3) := by decide +kernel
theorem dX1_directlyBehind_38 : decode cX1_directlyBehind 38 = .ok (.iload_n 2, 1) := by decide +kernel
theorem dX1_directlyBehind_39 : decode cX1_directlyBehind 39 = .ok (.ireturn, 1) := by decide +kernel
theorem dX2_init_0 : decode cX2_init 0 = .ok (.aload_n 0, 1) := by decide +kernel
theorem dX2_init_1 : decode cX2_init 1 = .ok (.invokespecial 3, 3) := by decide +kernel
theorem dX2_init_4 : decode cX2_init 4 = .ok (.aload_n 0, 1) := by decide +kernel
theorem dX2_init_5 : decode cX2_init 5 = .ok (.bipush 8, 2) := by decide +kernel
theorem dX2_init_7 : decode cX2_init 7 = .ok (.newarray .int, 2) := by decide +kernel
theorem dX2_init_9 : decode cX2_init 9 = .ok (.putfield 9, 3) := by decide +kernel
theorem dX2_init_12 : decode cX2_init 12 = .ok (.aload_n 0, 1) := by decide +kernel
theorem dX2_init_13 : decode cX2_init 13 = .ok (.bipush 8, 2) := by decide +kernel
theorem dX2_init_15 : decode cX2_init 15 = .ok (.newarray .int, 2) := by decide +kernel
theorem dX2_init_17 : decode cX2_init 17 = .ok (.putfield 15, 3) := by decide +kernel
theorem dX2_init_20 : decode cX2_init 20 = .ok (.return_, 1) := by decide +kernel
theorem dX2_size_0 : decode cX2_size 0 = .ok (.aload_n 0, 1) := by decide +kernel
theorem dX2_size_1 : decode cX2_size 1 = .ok (.getfield 18, 3) := by decide +kernel
theorem dX2_size_4 : decode cX2_size 4 = .ok (.ireturn, 1) := by decide +kernel
theorem dX2_clear_0 : decode cX2_clear 0 = .ok (.aload_n 0, 1) := by decide +kernel
theorem dX2_clear_1 : decode cX2_clear 1 = .ok (.iconst 0, 1) := by decide +kernel
theorem dX2_clear_2 : decode cX2_clear 2 = .ok (.putfield 18, 3) := by decide +kernel
theorem dX2_clear_5 : decode cX2_clear 5 = .ok (.return_, 1) := by decide +kernel
theorem dX2_noteGone_0 : decode cX2_noteGone 0 = .ok (.aload_n 0, 1) := by decide +kernel
theorem dX2_noteGone_1 : decode cX2_noteGone 1 = .ok (.iconst 0, 1) := by decide +kernel
theorem dX2_noteGone_2 : decode cX2_noteGone 2 = .ok (.iload_n 1, 1) := by decide +kernel
theorem dX2_noteGone_3 : decode cX2_noteGone 3 = .ok (.invokevirtual 22, 3) := by decide +kernel
theorem dX2_noteGone_6 : decode cX2_noteGone 6 = .ok (.return_, 1) := by decide +kernel
theorem dX2_noteOut_0 : decode cX2_noteOut 0 = .ok (.aload_n 0, 1) := by decide +kernel
theorem dX2_noteOut_1 : decode cX2_noteOut 1 = .ok (.iload_n 2, 1) := by decide +kernel
theorem dX2_noteOut_2 : decode cX2_noteOut 2 = .ok (.ifCond .eq 7, 3) := by decide +kernel
theorem dX2_noteOut_5 : decode cX2_noteOut 5 = .ok (.iconst 2, 1) := by decide +kernel
theorem dX2_noteOut_6 : decode cX2_noteOut 6 = .ok (.goto 4, 3) := by decide +kernel
theorem dX2_noteOut_9 : decode cX2_noteOut 9 = .ok (.iconst 1, 1) := by decide +kernel
theorem dX2_noteOut_10 : decode cX2_noteOut 10 = .ok (.iload_n 1, 1) := by decide +kernel
theorem dX2_noteOut_11 : decode cX2_noteOut 11 = .ok (.invokevirtual 22, 3) := by decide +kernel
theorem dX2_noteOut_14 : decode cX2_noteOut 14 = .ok (.return_, 1) := by decide +kernel
theorem dX2_noteLaid_0 : decode cX2_noteLaid 0 = .ok (.aload_n 0, 1) := by decide +kernel
theorem dX2_noteLaid_1 : decode cX2_noteLaid 1 = .ok (.iconst 3, 1) := by decide +kernel
theorem dX2_noteLaid_2 : decode cX2_noteLaid 2 = .ok (.iconst 0, 1) := by decide +kernel
theorem dX2_noteLaid_3 : decode cX2_noteLaid 3 = .ok (.invokevirtual 22, 3) := by decide +kernel
theorem dX2_noteLaid_6 : decode cX2_noteLaid 6 = .ok (.return_, 1) := by decide +kernel
theorem dX2_note_0 : decode cX2_note 0 = .ok (.aload_n 0, 1) := by decide +kernel
theorem dX2_note_1 : decode cX2_note 1 = .ok (.getfield 18, 3) := by decide +kernel
theorem dX2_note_4 : decode cX2_note 4 = .ok (.bipush 8, 2) := by decide +kernel
theorem dX2_note_6 : decode cX2_note 6 = .ok (.if_icmp .lt 7, 3) := by decide +kernel
theorem dX2_note_9 : decode cX2_note 9 = .ok (.aload_n 0, 1) := by decide +kernel
theorem dX2_note_10 : decode cX2_note 10 = .ok (.invokevirtual 26, 3) := by decide +kernel
theorem dX2_note_13 : decode cX2_note 13 = .ok (.aload_n 0, 1) := by decide +kernel
theorem dX2_note_14 : decode cX2_note 14 = .ok (.getfield 9, 3) := by decide +kernel
theorem dX2_note_17 : decode cX2_note 17 = .ok (.aload_n 0, 1) := by decide +kernel
theorem dX2_note_18 : decode cX2_note 18 = .ok (.getfield 18, 3) := by decide +kernel
theorem dX2_note_21 : decode cX2_note 21 = .ok (.iload_n 1, 1) := by decide +kernel
theorem dX2_note_22 : decode cX2_note 22 = .ok (.invokestatic 29, 3) := by decide +kernel
theorem dX2_note_25 : decode cX2_note 25 = .ok (.aload_n 0, 1) := by decide +kernel
theorem dX2_note_26 : decode cX2_note 26 = .ok (.getfield 15, 3) := by decide +kernel
theorem dX2_note_29 : decode cX2_note 29 = .ok (.aload_n 0, 1) := by decide +kernel
theorem dX2_note_30 : decode cX2_note 30 = .ok (.getfield 18, 3) := by decide +kernel
theorem dX2_note_33 : decode cX2_note 33 = .ok (.iload_n 2, 1) := by decide +kernel
theorem dX2_note_34 : decode cX2_note 34 = .ok (.invokestatic 29, 3) := by decide +kernel
theorem dX2_note_37 : decode cX2_note 37 = .ok (.aload_n 0, 1) := by decide +kernel
theorem dX2_note_38 : decode cX2_note 38 = .ok (.dup, 1) := by decide +kernel
theorem dX2_note_39 : decode cX2_note 39 = .ok (.getfield 18, 3) := by decide +kernel
theorem dX2_note_42 : decode cX2_note 42 = .ok (.iconst 1, 1) := by decide +kernel
theorem dX2_note_43 : decode cX2_note 43 = .ok (.iadd, 1) := by decide +kernel
theorem dX2_note_44 : decode cX2_note 44 = .ok (.putfield 18, 3) := by decide +kernel
theorem dX2_note_47 : decode cX2_note 47 = .ok (.return_, 1) := by decide +kernel
theorem dX2_forgetOldest_0 : decode cX2_forgetOldest 0 = .ok (.iconst 1, 1) := by decide +kernel
theorem dX2_forgetOldest_1 : decode cX2_forgetOldest 1 = .ok (.istore_n 1, 1) := by decide +kernel
theorem dX2_forgetOldest_2 : decode cX2_forgetOldest 2 = .ok (.iload_n 1, 1) := by decide +kernel
theorem dX2_forgetOldest_3 : decode cX2_forgetOldest 3 = .ok (.aload_n 0, 1) := by decide +kernel
theorem dX2_forgetOldest_4 : decode cX2_forgetOldest 4 = .ok (.getfield 18, 3) := by decide +kernel
theorem dX2_forgetOldest_7 : decode cX2_forgetOldest 7 = .ok (.if_icmp .ge 45, 3) := by decide +kernel
theorem dX2_forgetOldest_10 : decode cX2_forgetOldest 10 = .ok (.aload_n 0, 1) := by decide +kernel
theorem dX2_forgetOldest_11 : decode cX2_forgetOldest 11 = .ok (.getfield 9, 3) := by decide +kernel
theorem dX2_forgetOldest_14 : decode cX2_forgetOldest 14 = .ok (.iload_n 1, 1) := by decide +kernel
theorem dX2_forgetOldest_15 : decode cX2_forgetOldest 15 = .ok (.iconst 1, 1) := by decide +kernel
theorem dX2_forgetOldest_16 : decode cX2_forgetOldest 16 = .ok (.isub, 1) := by decide +kernel
theorem dX2_forgetOldest_17 : decode cX2_forgetOldest 17 = .ok (.aload_n 0, 1) := by decide +kernel
theorem dX2_forgetOldest_18 : decode cX2_forgetOldest 18 = .ok (.getfield 9, 3) := by decide +kernel
theorem dX2_forgetOldest_21 : decode cX2_forgetOldest 21 = .ok (.iload_n 1, 1) := by decide +kernel
theorem dX2_forgetOldest_22 : decode cX2_forgetOldest 22 = .ok (.invokestatic 33, 3) := by decide +kernel
theorem dX2_forgetOldest_25 : decode cX2_forgetOldest 25 = .ok (.invokestatic 29, 3) := by decide +kernel
theorem dX2_forgetOldest_28 : decode cX2_forgetOldest 28 = .ok (.aload_n 0, 1) := by decide +kernel
theorem dX2_forgetOldest_29 : decode cX2_forgetOldest 29 = .ok (.getfield 15, 3) := by decide +kernel
theorem dX2_forgetOldest_32 : decode cX2_forgetOldest 32 = .ok (.iload_n 1, 1) := by decide +kernel
theorem dX2_forgetOldest_33 : decode cX2_forgetOldest 33 = .ok (.iconst 1, 1) := by decide +kernel
theorem dX2_forgetOldest_34 : decode cX2_forgetOldest 34 = .ok (.isub, 1) := by decide +kernel
theorem dX2_forgetOldest_35 : decode cX2_forgetOldest 35 = .ok (.aload_n 0, 1) := by decide +kernel
theorem dX2_forgetOldest_36 : decode cX2_forgetOldest 36 = .ok (.getfield 15, 3) := by decide +kernel
theorem dX2_forgetOldest_39 : decode cX2_forgetOldest 39 = .ok (.iload_n 1, 1) := by decide +kernel
theorem dX2_forgetOldest_40 : decode cX2_forgetOldest 40 = .ok (.invokestatic 33, 3) := by decide +kernel
theorem dX2_forgetOldest_43 : decode cX2_forgetOldest 43 = .ok (.invokestatic 29, 3) := by decide +kernel
theorem dX2_forgetOldest_46 : decode cX2_forgetOldest 46 = .ok (.iinc 1 1, 3) := by decide +kernel
theorem dX2_forgetOldest_49 : decode cX2_forgetOldest 49 = .ok (.goto (-47), 3) := by decide +kernel
theorem dX2_forgetOldest_52 : decode cX2_forgetOldest 52 = .ok (.aload_n 0, 1) := by decide +kernel
theorem dX2_forgetOldest_53 : decode cX2_forgetOldest 53 = .ok (.dup, 1) := by decide +kernel
theorem dX2_forgetOldest_54 : decode cX2_forgetOldest 54 = .ok (.getfield 18, 3) := by decide +kernel
theorem dX2_forgetOldest_57 : decode cX2_forgetOldest 57 = .ok (.iconst 1, 1) := by decide +kernel
theorem dX2_forgetOldest_58 : decode cX2_forgetOldest 58 = .ok (.isub, 1) := by decide +kernel
theorem dX2_forgetOldest_59 : decode cX2_forgetOldest 59 = .ok (.putfield 18, 3) := by decide +kernel
theorem dX2_forgetOldest_62 : decode cX2_forgetOldest 62 = .ok (.return_, 1) := by decide +kernel
theorem dX2_takeBackLatest_0 : decode cX2_takeBackLatest 0 = .ok (.aload_n 0, 1) := by decide +kernel
theorem dX2_takeBackLatest_1 : decode cX2_takeBackLatest 1 = .ok (.getfield 18, 3) := by decide +kernel
theorem dX2_takeBackLatest_4 : decode cX2_takeBackLatest 4 = .ok (.ifCond .ne 4, 3) := by decide +kernel
theorem dX2_takeBackLatest_7 : decode cX2_takeBackLatest 7 = .ok (.return_, 1) := by decide +kernel
theorem dX2_takeBackLatest_8 : decode cX2_takeBackLatest 8 = .ok (.aload_n 0, 1) := by decide +kernel
theorem dX2_takeBackLatest_9 : decode cX2_takeBackLatest 9 = .ok (.dup, 1) := by decide +kernel
theorem dX2_takeBackLatest_10 : decode cX2_takeBackLatest 10 = .ok (.getfield 18, 3) := by decide +kernel
theorem dX2_takeBackLatest_13 : decode cX2_takeBackLatest 13 = .ok (.iconst 1, 1) := by decide +kernel
theorem dX2_takeBackLatest_14 : decode cX2_takeBackLatest 14 = .ok (.isub, 1) := by decide +kernel
theorem dX2_takeBackLatest_15 : decode cX2_takeBackLatest 15 = .ok (.putfield 18, 3) := by decide +kernel
theorem dX2_takeBackLatest_18 : decode cX2_takeBackLatest 18 = .ok (.aload_n 0, 1) := by decide +kernel
theorem dX2_takeBackLatest_19 : decode cX2_takeBackLatest 19 = .ok (.getfield 9, 3) := by decide +kernel
theorem dX2_takeBackLatest_22 : decode cX2_takeBackLatest 22 = .ok (.aload_n 0, 1) := by decide +kernel
theorem dX2_takeBackLatest_23 : decode cX2_takeBackLatest 23 = .ok (.getfield 18, 3) := by decide +kernel
theorem dX2_takeBackLatest_26 : decode cX2_takeBackLatest 26 = .ok (.invokestatic 33, 3) := by decide +kernel
theorem dX2_takeBackLatest_29 : decode cX2_takeBackLatest 29 = .ok (.istore_n 2, 1) := by decide +kernel
theorem dX2_takeBackLatest_30 : decode cX2_takeBackLatest 30 = .ok (.aload_n 0, 1) := by decide +kernel
theorem dX2_takeBackLatest_31 : decode cX2_takeBackLatest 31 = .ok (.getfield 15, 3) := by decide +kernel
theorem dX2_takeBackLatest_34 : decode cX2_takeBackLatest 34 = .ok (.aload_n 0, 1) := by decide +kernel
theorem dX2_takeBackLatest_35 : decode cX2_takeBackLatest 35 = .ok (.getfield 18, 3) := by decide +kernel
theorem dX2_takeBackLatest_38 : decode cX2_takeBackLatest 38 = .ok (.invokestatic 33, 3) := by decide +kernel
theorem dX2_takeBackLatest_41 : decode cX2_takeBackLatest 41 = .ok (.istore_n 3, 1) := by decide +kernel
theorem dX2_takeBackLatest_42 : decode cX2_takeBackLatest 42 = .ok (.iload_n 2, 1) := by decide +kernel
theorem dX2_takeBackLatest_43 : decode cX2_takeBackLatest 43 = .ok (.ifCond .ne 11, 3) := by decide +kernel
theorem dX2_takeBackLatest_46 : decode cX2_takeBackLatest 46 = .ok (.aload_n 1, 1) := by decide +kernel
theorem dX2_takeBackLatest_47 : decode cX2_takeBackLatest 47 = .ok (.iload_n 3, 1) := by decide +kernel
theorem dX2_takeBackLatest_48 : decode cX2_takeBackLatest 48 = .ok (.invokevirtual 37, 3) := by decide +kernel
theorem dX2_takeBackLatest_51 : decode cX2_takeBackLatest 51 = .ok (.goto 30, 3) := by decide +kernel
theorem dX2_takeBackLatest_54 : decode cX2_takeBackLatest 54 = .ok (.iload_n 2, 1) := by decide +kernel
theorem dX2_takeBackLatest_55 : decode cX2_takeBackLatest 55 = .ok (.iconst 3, 1) := by decide +kernel
theorem dX2_takeBackLatest_56 : decode cX2_takeBackLatest 56 = .ok (.if_icmp .ne 10, 3) := by decide +kernel
theorem dX2_takeBackLatest_59 : decode cX2_takeBackLatest 59 = .ok (.aload_n 1, 1) := by decide +kernel
theorem dX2_takeBackLatest_60 : decode cX2_takeBackLatest 60 = .ok (.invokevirtual 43, 3) := by decide +kernel
theorem dX2_takeBackLatest_63 : decode cX2_takeBackLatest 63 = .ok (.goto 18, 3) := by decide +kernel
theorem dX2_takeBackLatest_66 : decode cX2_takeBackLatest 66 = .ok (.aload_n 1, 1) := by decide +kernel
theorem dX2_takeBackLatest_67 : decode cX2_takeBackLatest 67 = .ok (.iload_n 3, 1) := by decide +kernel
theorem dX2_takeBackLatest_68 : decode cX2_takeBackLatest 68 = .ok (.iload_n 2, 1) := by decide +kernel
theorem dX2_takeBackLatest_69 : decode cX2_takeBackLatest 69 = .ok (.iconst 2, 1) := by decide +kernel
theorem dX2_takeBackLatest_70 : decode cX2_takeBackLatest 70 = .ok (.if_icmp .ne 7, 3) := by decide +kernel
theorem dX2_takeBackLatest_73 : decode cX2_takeBackLatest 73 = .ok (.iconst 1, 1) := by decide +kernel
theorem dX2_takeBackLatest_74 : decode cX2_takeBackLatest 74 = .ok (.goto 4, 3) := by decide +kernel
theorem dX2_takeBackLatest_77 : decode cX2_takeBackLatest 77 = .ok (.iconst 0, 1) := by decide +kernel
theorem dX2_takeBackLatest_78 : decode cX2_takeBackLatest 78 = .ok (.invokevirtual 46, 3) := by decide +kernel
theorem dX2_takeBackLatest_81 : decode cX2_takeBackLatest 81 = .ok (.return_, 1) := by decide +kernel
theorem dX3_init_0 : decode cX3_init 0 = .ok (.aload_n 0, 1) := by decide +kernel
theorem dX3_init_1 : decode cX3_init 1 = .ok (.invokespecial 3, 3) := by decide +kernel
theorem dX3_init_4 : decode cX3_init 4 = .ok (.aload_n 0, 1) := by decide +kernel
theorem dX3_init_5 : decode cX3_init 5 = .ok (.sipush 1024, 3) := by decide +kernel
theorem dX3_init_8 : decode cX3_init 8 = .ok (.newarray .int, 2) := by decide +kernel
theorem dX3_init_10 : decode cX3_init 10 = .ok (.putfield 9, 3) := by decide +kernel
theorem dX3_init_13 : decode cX3_init 13 = .ok (.return_, 1) := by decide +kernel
theorem dX3_reckon_0 : decode cX3_reckon 0 = .ok (.aload_n 0, 1) := by decide +kernel
theorem dX3_reckon_1 : decode cX3_reckon 1 = .ok (.iconst 1, 1) := by decide +kernel
theorem dX3_reckon_2 : decode cX3_reckon 2 = .ok (.aload_n 1, 1) := by decide +kernel
theorem dX3_reckon_3 : decode cX3_reckon 3 = .ok (.invokevirtual 15, 3) := by decide +kernel
theorem dX3_reckon_6 : decode cX3_reckon 6 = .ok (.ishl, 1) := by decide +kernel
theorem dX3_reckon_7 : decode cX3_reckon 7 = .ok (.putfield 21, 3) := by decide +kernel
theorem dX3_reckon_10 : decode cX3_reckon 10 = .ok (.aload_n 0, 1) := by decide +kernel
theorem dX3_reckon_11 : decode cX3_reckon 11 = .ok (.getfield 9, 3) := by decide +kernel
theorem dX3_reckon_14 : decode cX3_reckon 14 = .ok (.iconst 0, 1) := by decide +kernel
theorem dX3_reckon_15 : decode cX3_reckon 15 = .ok (.aload_n 1, 1) := by decide +kernel
theorem dX3_reckon_16 : decode cX3_reckon 16 = .ok (.invokevirtual 25, 3) := by decide +kernel
theorem dX3_reckon_19 : decode cX3_reckon 19 = .ok (.invokestatic 28, 3) := by decide +kernel
theorem dX3_reckon_22 : decode cX3_reckon 22 = .ok (.iconst 1, 1) := by decide +kernel
theorem dX3_reckon_23 : decode cX3_reckon 23 = .ok (.istore_n 2, 1) := by decide +kernel
theorem dX3_reckon_24 : decode cX3_reckon 24 = .ok (.iload_n 2, 1) := by decide +kernel
theorem dX3_reckon_25 : decode cX3_reckon 25 = .ok (.aload_n 0, 1) := by decide +kernel
theorem dX3_reckon_26 : decode cX3_reckon 26 = .ok (.getfield 21, 3) := by decide +kernel
theorem dX3_reckon_29 : decode cX3_reckon 29 = .ok (.if_icmp .ge 65, 3) := by decide +kernel
theorem dX3_reckon_32 : decode cX3_reckon 32 = .ok (.aload_n 0, 1) := by decide +kernel
theorem dX3_reckon_33 : decode cX3_reckon 33 = .ok (.getfield 9, 3) := by decide +kernel
theorem dX3_reckon_36 : decode cX3_reckon 36 = .ok (.iload_n 2, 1) := by decide +kernel
theorem dX3_reckon_37 : decode cX3_reckon 37 = .ok (.iload_n 2, 1) := by decide +kernel
theorem dX3_reckon_38 : decode cX3_reckon 38 = .ok (.iconst 1, 1) := by decide +kernel
theorem dX3_reckon_39 : decode cX3_reckon 39 = .ok (.isub, 1) := by decide +kernel
theorem dX3_reckon_40 : decode cX3_reckon 40 = .ok (.iand, 1) := by decide +kernel
theorem dX3_reckon_41 : decode cX3_reckon 41 = .ok (.invokestatic 32, 3) := by decide +kernel
theorem dX3_reckon_44 : decode cX3_reckon 44 = .ok (.istore_n 3, 1) := by decide +kernel
theorem dX3_reckon_45 : decode cX3_reckon 45 = .ok (.iload_n 2, 1) := by decide +kernel
theorem dX3_reckon_46 : decode cX3_reckon 46 = .ok (.invokestatic 36, 3) := by decide +kernel
theorem dX3_reckon_49 : decode cX3_reckon 49 = .ok (.istore 4, 2) := by decide +kernel
theorem dX3_reckon_51 : decode cX3_reckon 51 = .ok (.aload_n 1, 1) := by decide +kernel
theorem dX3_reckon_52 : decode cX3_reckon 52 = .ok (.iload 4, 2) := by decide +kernel
theorem dX3_reckon_54 : decode cX3_reckon 54 = .ok (.iload_n 3, 1) := by decide +kernel
theorem dX3_reckon_55 : decode cX3_reckon 55 = .ok (.invokevirtual 42, 3) := by decide +kernel
theorem dX3_reckon_58 : decode cX3_reckon 58 = .ok (.iload_n 3, 1) := by decide +kernel
theorem dX3_reckon_59 : decode cX3_reckon 59 = .ok (.if_icmp .ne 7, 3) := by decide +kernel
theorem dX3_reckon_62 : decode cX3_reckon 62 = .ok (.iload_n 3, 1) := by decide +kernel
theorem dX3_reckon_63 : decode cX3_reckon 63 = .ok (.goto 13, 3) := by decide +kernel
theorem dX3_reckon_66 : decode cX3_reckon 66 = .ok (.aload_n 1, 1) := by decide +kernel
theorem dX3_reckon_67 : decode cX3_reckon 67 = .ok (.iload_n 3, 1) := by decide +kernel
theorem dX3_reckon_68 : decode cX3_reckon 68 = .ok (.iload_n 2, 1) := by decide +kernel
theorem dX3_reckon_69 : decode cX3_reckon 69 = .ok (.aload_n 1, 1) := by decide +kernel
theorem dX3_reckon_70 : decode cX3_reckon 70 = .ok (.invokevirtual 46, 3) := by decide +kernel
theorem dX3_reckon_73 : decode cX3_reckon 73 = .ok (.invokevirtual 49, 3) := by decide +kernel
theorem dX3_reckon_76 : decode cX3_reckon 76 = .ok (.istore 5, 2) := by decide +kernel
theorem dX3_reckon_78 : decode cX3_reckon 78 = .ok (.aload_n 0, 1) := by decide +kernel
theorem dX3_reckon_79 : decode cX3_reckon 79 = .ok (.getfield 9, 3) := by decide +kernel
theorem dX3_reckon_82 : decode cX3_reckon 82 = .ok (.iload_n 2, 1) := by decide +kernel
theorem dX3_reckon_83 : decode cX3_reckon 83 = .ok (.iload 5, 2) := by decide +kernel
theorem dX3_reckon_85 : decode cX3_reckon 85 = .ok (.invokestatic 28, 3) := by decide +kernel
theorem dX3_reckon_88 : decode cX3_reckon 88 = .ok (.iinc 2 1, 3) := by decide +kernel
theorem dX3_reckon_91 : decode cX3_reckon 91 = .ok (.goto (-67), 3) := by decide +kernel
theorem dX3_reckon_94 : decode cX3_reckon 94 = .ok (.return_, 1) := by decide +kernel
theorem dX3_isProof_0 : decode cX3_isProof 0 = .ok (.aload_n 0, 1) := by decide +kernel
theorem dX3_isProof_1 : decode cX3_isProof 1 = .ok (.getfield 9, 3) := by decide +kernel
theorem dX3_isProof_4 : decode cX3_isProof 4 = .ok (.iload_n 1, 1) := by decide +kernel
theorem dX3_isProof_5 : decode cX3_isProof 5 = .ok (.invokestatic 32, 3) := by decide +kernel
theorem dX3_isProof_8 : decode cX3_isProof 8 = .ok (.iload_n 2, 1) := by decide +kernel
theorem dX3_isProof_9 : decode cX3_isProof 9 = .ok (.invokestatic 53, 3) := by decide +kernel
theorem dX3_isProof_12 : decode cX3_isProof 12 = .ok (.ifCond .ne 5, 3) := by decide +kernel
theorem dX3_isProof_15 : decode cX3_isProof 15 = .ok (.iconst 0, 1) := by decide +kernel
theorem dX3_isProof_16 : decode cX3_isProof 16 = .ok (.ireturn, 1) := by decide +kernel
theorem dX3_isProof_17 : decode cX3_isProof 17 = .ok (.iconst 0, 1) := by decide +kernel
theorem dX3_isProof_18 : decode cX3_isProof 18 = .ok (.istore_n 3, 1) := by decide +kernel
theorem dX3_isProof_19 : decode cX3_isProof 19 = .ok (.iload_n 3, 1) := by decide +kernel
theorem dX3_isProof_20 : decode cX3_isProof 20 = .ok (.bipush 10, 2) := by decide +kernel
theorem dX3_isProof_22 : decode cX3_isProof 22 = .ok (.if_icmp .ge 40, 3) := by decide +kernel
theorem dX3_isProof_25 : decode cX3_isProof 25 = .ok (.iload_n 1, 1) := by decide +kernel
theorem dX3_isProof_26 : decode cX3_isProof 26 = .ok (.iload_n 3, 1) := by decide +kernel
theorem dX3_isProof_27 : decode cX3_isProof 27 = .ok (.invokestatic 53, 3) := by decide +kernel
theorem dX3_isProof_30 : decode cX3_isProof 30 = .ok (.ifCond .eq 26, 3) := by decide +kernel
theorem dX3_isProof_33 : decode cX3_isProof 33 = .ok (.aload_n 0, 1) := by decide +kernel
theorem dX3_isProof_34 : decode cX3_isProof 34 = .ok (.getfield 9, 3) := by decide +kernel
theorem dX3_isProof_37 : decode cX3_isProof 37 = .ok (.iload_n 1, 1) := by decide +kernel
theorem dX3_isProof_38 : decode cX3_isProof 38 = .ok (.iconst 1, 1) := by decide +kernel
theorem dX3_isProof_39 : decode cX3_isProof 39 = .ok (.iload_n 3, 1) := by decide +kernel
theorem dX3_isProof_40 : decode cX3_isProof 40 = .ok (.ishl, 1) := by decide +kernel
theorem dX3_isProof_41 : decode cX3_isProof 41 = .ok (.iconst (-1), 1) := by decide +kernel
theorem dX3_isProof_42 : decode cX3_isProof 42 = .ok (.ixor, 1) := by decide +kernel
theorem dX3_isProof_43 : decode cX3_isProof 43 = .ok (.iand, 1) := by decide +kernel
theorem dX3_isProof_44 : decode cX3_isProof 44 = .ok (.invokestatic 32, 3) := by decide +kernel
theorem dX3_isProof_47 : decode cX3_isProof 47 = .ok (.iload_n 2, 1) := by decide +kernel
theorem dX3_isProof_48 : decode cX3_isProof 48 = .ok (.invokestatic 53, 3) := by decide +kernel
theorem dX3_isProof_51 : decode cX3_isProof 51 = .ok (.ifCond .eq 5, 3) := by decide +kernel
theorem dX3_isProof_54 : decode cX3_isProof 54 = .ok (.iconst 0, 1) := by decide +kernel
theorem dX3_isProof_55 : decode cX3_isProof 55 = .ok (.ireturn, 1) := by decide +kernel
theorem dX3_isProof_56 : decode cX3_isProof 56 = .ok (.iinc 3 1, 3) := by decide +kernel
theorem dX3_isProof_59 : decode cX3_isProof 59 = .ok (.goto (-40), 3) := by decide +kernel
theorem dX3_isProof_62 : decode cX3_isProof 62 = .ok (.iconst 1, 1) := by decide +kernel
theorem dX3_isProof_63 : decode cX3_isProof 63 = .ok (.ireturn, 1) := by decide +kernel
theorem dX3_howMany_0 : decode cX3_howMany 0 = .ok (.iconst 0, 1) := by decide +kernel
theorem dX3_howMany_1 : decode cX3_howMany 1 = .ok (.istore_n 2, 1) := by decide +kernel
theorem dX3_howMany_2 : decode cX3_howMany 2 = .ok (.iconst 0, 1) := by decide +kernel
theorem dX3_howMany_3 : decode cX3_howMany 3 = .ok (.istore_n 3, 1) := by decide +kernel
theorem dX3_howMany_4 : decode cX3_howMany 4 = .ok (.iload_n 3, 1) := by decide +kernel
theorem dX3_howMany_5 : decode cX3_howMany 5 = .ok (.aload_n 0, 1) := by decide +kernel
theorem dX3_howMany_6 : decode cX3_howMany 6 = .ok (.getfield 21, 3) := by decide +kernel
theorem dX3_howMany_9 : decode cX3_howMany 9 = .ok (.if_icmp .ge 21, 3) := by decide +kernel
theorem dX3_howMany_12 : decode cX3_howMany 12 = .ok (.aload_n 0, 1) := by decide +kernel
theorem dX3_howMany_13 : decode cX3_howMany 13 = .ok (.iload_n 3, 1) := by decide +kernel
theorem dX3_howMany_14 : decode cX3_howMany 14 = .ok (.iload_n 1, 1) := by decide +kernel
theorem dX3_howMany_15 : decode cX3_howMany 15 = .ok (.invokevirtual 57, 3) := by decide +kernel
theorem dX3_howMany_18 : decode cX3_howMany 18 = .ok (.ifCond .eq 6, 3) := by decide +kernel
theorem dX3_howMany_21 : decode cX3_howMany 21 = .ok (.iinc 2 1, 3) := by decide +kernel
theorem dX3_howMany_24 : decode cX3_howMany 24 = .ok (.iinc 3 1, 3) := by decide +kernel
theorem dX3_howMany_27 : decode cX3_howMany 27 = .ok (.goto (-23), 3) := by decide +kernel
theorem dX3_howMany_30 : decode cX3_howMany 30 = .ok (.iload_n 2, 1) := by decide +kernel
theorem dX3_howMany_31 : decode cX3_howMany 31 = .ok (.ireturn, 1) := by decide +kernel
theorem dX3_shortest_0 : decode cX3_shortest 0 = .ok (.bipush (-4), 2) := by decide +kernel
theorem dX3_shortest_2 : decode cX3_shortest 2 = .ok (.istore_n 2, 1) := by decide +kernel
theorem dX3_shortest_3 : decode cX3_shortest 3 = .ok (.bipush 11, 2) := by decide +kernel
theorem dX3_shortest_5 : decode cX3_shortest 5 = .ok (.istore_n 3, 1) := by decide +kernel
theorem dX3_shortest_6 : decode cX3_shortest 6 = .ok (.iconst 0, 1) := by decide +kernel
theorem dX3_shortest_7 : decode cX3_shortest 7 = .ok (.istore 4, 2) := by decide +kernel
theorem dX3_shortest_9 : decode cX3_shortest 9 = .ok (.iload 4, 2) := by decide +kernel
theorem dX3_shortest_11 : decode cX3_shortest 11 = .ok (.aload_n 0, 1) := by decide +kernel
theorem dX3_shortest_12 : decode cX3_shortest 12 = .ok (.getfield 21, 3) := by decide +kernel
theorem dX3_shortest_15 : decode cX3_shortest 15 = .ok (.if_icmp .ge 37, 3) := by decide +kernel
theorem dX3_shortest_18 : decode cX3_shortest 18 = .ok (.iload 4, 2) := by decide +kernel
theorem dX3_shortest_20 : decode cX3_shortest 20 = .ok (.invokestatic 60, 3) := by decide +kernel
theorem dX3_shortest_23 : decode cX3_shortest 23 = .ok (.iload_n 3, 1) := by decide +kernel
theorem dX3_shortest_24 : decode cX3_shortest 24 = .ok (.if_icmp .ge 22, 3) := by decide +kernel
theorem dX3_shortest_27 : decode cX3_shortest 27 = .ok (.aload_n 0, 1) := by decide +kernel
theorem dX3_shortest_28 : decode cX3_shortest 28 = .ok (.iload 4, 2) := by decide +kernel
theorem dX3_shortest_30 : decode cX3_shortest 30 = .ok (.iload_n 1, 1) := by decide +kernel
theorem dX3_shortest_31 : decode cX3_shortest 31 = .ok (.invokevirtual 57, 3) := by decide +kernel
theorem dX3_shortest_34 : decode cX3_shortest 34 = .ok (.ifCond .eq 12, 3) := by decide +kernel
theorem dX3_shortest_37 : decode cX3_shortest 37 = .ok (.iload 4, 2) := by decide +kernel
theorem dX3_shortest_39 : decode cX3_shortest 39 = .ok (.istore_n 2, 1) := by decide +kernel
theorem dX3_shortest_40 : decode cX3_shortest 40 = .ok (.iload 4, 2) := by decide +kernel
theorem dX3_shortest_42 : decode cX3_shortest 42 = .ok (.invokestatic 60, 3) := by decide +kernel
theorem dX3_shortest_45 : decode cX3_shortest 45 = .ok (.istore_n 3, 1) := by decide +kernel
theorem dX3_shortest_46 : decode cX3_shortest 46 = .ok (.iinc 4 1, 3) := by decide +kernel
theorem dX3_shortest_49 : decode cX3_shortest 49 = .ok (.goto (-40), 3) := by decide +kernel
theorem dX3_shortest_52 : decode cX3_shortest 52 = .ok (.iload_n 2, 1) := by decide +kernel
theorem dX3_shortest_53 : decode cX3_shortest 53 = .ok (.ireturn, 1) := by decide +kernel
theorem dX3_inAll_0 : decode cX3_inAll 0 = .ok (.sipush 1023, 3) := by decide +kernel
theorem dX3_inAll_3 : decode cX3_inAll 3 = .ok (.istore_n 2, 1) := by decide +kernel
theorem dX3_inAll_4 : decode cX3_inAll 4 = .ok (.iconst 0, 1) := by decide +kernel
theorem dX3_inAll_5 : decode cX3_inAll 5 = .ok (.istore_n 3, 1) := by decide +kernel
theorem dX3_inAll_6 : decode cX3_inAll 6 = .ok (.iconst 0, 1) := by decide +kernel
theorem dX3_inAll_7 : decode cX3_inAll 7 = .ok (.istore 4, 2) := by decide +kernel
theorem dX3_inAll_9 : decode cX3_inAll 9 = .ok (.iload 4, 2) := by decide +kernel
theorem dX3_inAll_11 : decode cX3_inAll 11 = .ok (.aload_n 0, 1) := by decide +kernel
theorem dX3_inAll_12 : decode cX3_inAll 12 = .ok (.getfield 21, 3) := by decide +kernel
theorem dX3_inAll_15 : decode cX3_inAll 15 = .ok (.if_icmp .ge 26, 3) := by decide +kernel
theorem dX3_inAll_18 : decode cX3_inAll 18 = .ok (.aload_n 0, 1) := by decide +kernel
theorem dX3_inAll_19 : decode cX3_inAll 19 = .ok (.iload 4, 2) := by decide +kernel
theorem dX3_inAll_21 : decode cX3_inAll 21 = .ok (.iload_n 1, 1) := by decide +kernel
theorem dX3_inAll_22 : decode cX3_inAll 22 = .ok (.invokevirtual 57, 3) := by decide +kernel
theorem dX3_inAll_25 : decode cX3_inAll 25 = .ok (.ifCond .eq 10, 3) := by decide +kernel
theorem dX3_inAll_28 : decode cX3_inAll 28 = .ok (.iload_n 2, 1) := by decide +kernel
theorem dX3_inAll_29 : decode cX3_inAll 29 = .ok (.iload 4, 2) := by decide +kernel
theorem dX3_inAll_31 : decode cX3_inAll 31 = .ok (.iand, 1) := by decide +kernel
theorem dX3_inAll_32 : decode cX3_inAll 32 = .ok (.istore_n 2, 1) := by decide +kernel
theorem dX3_inAll_33 : decode cX3_inAll 33 = .ok (.iconst 1, 1) := by decide +kernel
theorem dX3_inAll_34 : decode cX3_inAll 34 = .ok (.istore_n 3, 1) := by decide +kernel
theorem dX3_inAll_35 : decode cX3_inAll 35 = .ok (.iinc 4 1, 3) := by decide +kernel
theorem dX3_inAll_38 : decode cX3_inAll 38 = .ok (.goto (-29), 3) := by decide +kernel
theorem dX3_inAll_41 : decode cX3_inAll 41 = .ok (.iload_n 3, 1) := by decide +kernel
theorem dX3_inAll_42 : decode cX3_inAll 42 = .ok (.ifCond .eq 7, 3) := by decide +kernel
theorem dX3_inAll_45 : decode cX3_inAll 45 = .ok (.iload_n 2, 1) := by decide +kernel
theorem dX3_inAll_46 : decode cX3_inAll 46 = .ok (.goto 4, 3) := by decide +kernel
theorem dX3_inAll_49 : decode cX3_inAll 49 = .ok (.iconst 0, 1) := by decide +kernel
theorem dX3_inAll_50 : decode cX3_inAll 50 = .ok (.ireturn, 1) := by decide +kernel
theorem dX3_howManyWear_0 : decode cX3_howManyWear 0 = .ok (.iconst 0, 1) := by decide +kernel
theorem dX3_howManyWear_1 : decode cX3_howManyWear 1 = .ok (.istore 4, 2) := by decide +kernel
theorem dX3_howManyWear_3 : decode cX3_howManyWear 3 = .ok (.iconst 0, 1) := by decide +kernel
theorem dX3_howManyWear_4 : decode cX3_howManyWear 4 = .ok (.istore 5, 2) := by decide +kernel
theorem dX3_howManyWear_6 : decode cX3_howManyWear 6 = .ok (.iload 5, 2) := by decide +kernel
theorem dX3_howManyWear_8 : decode cX3_howManyWear 8 = .ok (.aload_n 0, 1) := by decide +kernel
theorem dX3_howManyWear_9 : decode cX3_howManyWear 9 = .ok (.getfield 21, 3) := by decide +kernel
theorem dX3_howManyWear_12 : decode cX3_howManyWear 12 = .ok (.if_icmp .ge 32, 3) := by decide +kernel
theorem dX3_howManyWear_15 : decode cX3_howManyWear 15 = .ok (.aload_n 1, 1) := by decide +kernel
theorem dX3_howManyWear_16 : decode cX3_howManyWear 16 = .ok (.iload 5, 2) := by decide +kernel
theorem dX3_howManyWear_18 : decode cX3_howManyWear 18 = .ok (.invokestatic 63, 3) := by decide +kernel
theorem dX3_howManyWear_21 : decode cX3_howManyWear 21 = .ok (.iload_n 3, 1) := by decide +kernel
theorem dX3_howManyWear_22 : decode cX3_howManyWear 22 = .ok (.if_icmp .ne 16, 3) := by decide +kernel
theorem dX3_howManyWear_25 : decode cX3_howManyWear 25 = .ok (.aload_n 0, 1) := by decide +kernel
theorem dX3_howManyWear_26 : decode cX3_howManyWear 26 = .ok (.iload 5, 2) := by decide +kernel
theorem dX3_howManyWear_28 : decode cX3_howManyWear 28 = .ok (.iload_n 2, 1) := by decide +kernel
theorem dX3_howManyWear_29 : decode cX3_howManyWear 29 = .ok (.invokevirtual 57, 3) := by decide +kernel
theorem dX3_howManyWear_32 : decode cX3_howManyWear 32 = .ok (.ifCond .eq 6, 3) := by decide +kernel
theorem dX3_howManyWear_35 : decode cX3_howManyWear 35 = .ok (.iinc 4 1, 3) := by decide +kernel
theorem dX3_howManyWear_38 : decode cX3_howManyWear 38 = .ok (.iinc 5 1, 3) := by decide +kernel
theorem dX3_howManyWear_41 : decode cX3_howManyWear 41 = .ok (.goto (-35), 3) := by decide +kernel
theorem dX3_howManyWear_44 : decode cX3_howManyWear 44 = .ok (.iload 4, 2) := by decide +kernel
theorem dX3_howManyWear_46 : decode cX3_howManyWear 46 = .ok (.ireturn, 1) := by decide +kernel
theorem dX3_endsOf_0 : decode cX3_endsOf 0 = .ok (.iconst 0, 1) := by decide +kernel
theorem dX3_endsOf_1 : decode cX3_endsOf 1 = .ok (.istore_n 2, 1) := by decide +kernel
theorem dX3_endsOf_2 : decode cX3_endsOf 2 = .ok (.iconst 0, 1) := by decide +kernel
theorem dX3_endsOf_3 : decode cX3_endsOf 3 = .ok (.istore_n 3, 1) := by decide +kernel
theorem dX3_endsOf_4 : decode cX3_endsOf 4 = .ok (.iload_n 3, 1) := by decide +kernel
theorem dX3_endsOf_5 : decode cX3_endsOf 5 = .ok (.aload_n 0, 1) := by decide +kernel
theorem dX3_endsOf_6 : decode cX3_endsOf 6 = .ok (.invokevirtual 15, 3) := by decide +kernel
theorem dX3_endsOf_9 : decode cX3_endsOf 9 = .ok (.if_icmp .ge 27, 3) := by decide +kernel
theorem dX3_endsOf_12 : decode cX3_endsOf 12 = .ok (.iload_n 1, 1) := by decide +kernel
theorem dX3_endsOf_13 : decode cX3_endsOf 13 = .ok (.iload_n 3, 1) := by decide +kernel
theorem dX3_endsOf_14 : decode cX3_endsOf 14 = .ok (.invokestatic 53, 3) := by decide +kernel
theorem dX3_endsOf_17 : decode cX3_endsOf 17 = .ok (.ifCond .eq 13, 3) := by decide +kernel
theorem dX3_endsOf_20 : decode cX3_endsOf 20 = .ok (.iload_n 2, 1) := by decide +kernel
theorem dX3_endsOf_21 : decode cX3_endsOf 21 = .ok (.iconst 1, 1) := by decide +kernel
theorem dX3_endsOf_22 : decode cX3_endsOf 22 = .ok (.aload_n 0, 1) := by decide +kernel
theorem dX3_endsOf_23 : decode cX3_endsOf 23 = .ok (.iload_n 3, 1) := by decide +kernel
theorem dX3_endsOf_24 : decode cX3_endsOf 24 = .ok (.invokevirtual 67, 3) := by decide +kernel
theorem dX3_endsOf_27 : decode cX3_endsOf 27 = .ok (.ishl, 1) := by decide +kernel
theorem dX3_endsOf_28 : decode cX3_endsOf 28 = .ok (.ior, 1) := by decide +kernel
theorem dX3_endsOf_29 : decode cX3_endsOf 29 = .ok (.istore_n 2, 1) := by decide +kernel
theorem dX3_endsOf_30 : decode cX3_endsOf 30 = .ok (.iinc 3 1, 3) := by decide +kernel
theorem dX3_endsOf_33 : decode cX3_endsOf 33 = .ok (.goto (-29), 3) := by decide +kernel
theorem dX3_endsOf_36 : decode cX3_endsOf 36 = .ok (.iload_n 2, 1) := by decide +kernel
theorem dX3_endsOf_37 : decode cX3_endsOf 37 = .ok (.ireturn, 1) := by decide +kernel
theorem dX4_init_0 : decode cX4_init 0 = .ok (.aload_n 0, 1) := by decide +kernel
theorem dX4_init_1 : decode cX4_init 1 = .ok (.invokespecial 3, 3) := by decide +kernel
theorem dX4_init_4 : decode cX4_init 4 = .ok (.aload_n 0, 1) := by decide +kernel
theorem dX4_init_5 : decode cX4_init 5 = .ok (.iconst 3, 1) := by decide +kernel
theorem dX4_init_6 : decode cX4_init 6 = .ok (.newarray .int, 2) := by decide +kernel
theorem dX4_init_8 : decode cX4_init 8 = .ok (.putfield 11, 3) := by decide +kernel
theorem dX4_init_11 : decode cX4_init 11 = .ok (.return_, 1) := by decide +kernel
theorem dX4_readOnto_0 : decode cX4_readOnto 0 = .ok (.aload_n 1, 1) := by decide +kernel
theorem dX4_readOnto_1 : decode cX4_readOnto 1 = .ok (.invokevirtual 15, 3) := by decide +kernel
theorem dX4_readOnto_4 : decode cX4_readOnto 4 = .ok (.aload_n 0, 1) := by decide +kernel
theorem dX4_readOnto_5 : decode cX4_readOnto 5 = .ok (.iconst 1, 1) := by decide +kernel
theorem dX4_readOnto_6 : decode cX4_readOnto 6 = .ok (.putfield 20, 3) := by decide +kernel
theorem dX4_readOnto_9 : decode cX4_readOnto 9 = .ok (.iconst 0, 1) := by decide +kernel
theorem dX4_readOnto_10 : decode cX4_readOnto 10 = .ok (.istore_n 3, 1) := by decide +kernel
theorem dX4_readOnto_11 : decode cX4_readOnto 11 = .ok (.iconst 0, 1) := by decide +kernel
theorem dX4_readOnto_12 : decode cX4_readOnto 12 = .ok (.istore 4, 2) := by decide +kernel
theorem dX4_readOnto_14 : decode cX4_readOnto 14 = .ok (.iload 4, 2) := by decide +kernel
theorem dX4_readOnto_16 : decode cX4_readOnto 16 = .ok (.sipush 300, 3) := by decide +kernel
theorem dX4_readOnto_19 : decode cX4_readOnto 19 = .ok (.if_icmp .ge 49, 3) := by decide +kernel
theorem dX4_readOnto_22 : decode cX4_readOnto 22 = .ok (.iload_n 3, 1) := by decide +kernel
theorem dX4_readOnto_23 : decode cX4_readOnto 23 = .ok (.aload_n 2, 1) := by decide +kernel
theorem dX4_readOnto_24 : decode cX4_readOnto 24 = .ok (.invokevirtual 24, 3) := by decide +kernel
theorem dX4_readOnto_27 : decode cX4_readOnto 27 = .ok (.if_icmp .ge 41, 3) := by decide +kernel
theorem dX4_readOnto_30 : decode cX4_readOnto 30 = .ok (.aload_n 0, 1) := by decide +kernel
theorem dX4_readOnto_31 : decode cX4_readOnto 31 = .ok (.aload_n 2, 1) := by decide +kernel
theorem dX4_readOnto_32 : decode cX4_readOnto 32 = .ok (.iload_n 3, 1) := by decide +kernel
theorem dX4_readOnto_33 : decode cX4_readOnto 33 = .ok (.invokevirtual 30, 3) := by decide +kernel
theorem dX4_readOnto_36 : decode cX4_readOnto 36 = .ok (.istore 5, 2) := by decide +kernel
theorem dX4_readOnto_38 : decode cX4_readOnto 38 = .ok (.iload 5, 2) := by decide +kernel
theorem dX4_readOnto_40 : decode cX4_readOnto 40 = .ok (.iconst (-1), 1) := by decide +kernel
theorem dX4_readOnto_41 : decode cX4_readOnto 41 = .ok (.if_icmp .eq 16, 3) := by decide +kernel
theorem dX4_readOnto_44 : decode cX4_readOnto 44 = .ok (.aload_n 0, 1) := by decide +kernel
theorem dX4_readOnto_45 : decode cX4_readOnto 45 = .ok (.aload_n 1, 1) := by decide +kernel
theorem dX4_readOnto_46 : decode cX4_readOnto 46 = .ok (.aload_n 2, 1) := by decide +kernel
theorem dX4_readOnto_47 : decode cX4_readOnto 47 = .ok (.iload_n 3, 1) := by decide +kernel
theorem dX4_readOnto_48 : decode cX4_readOnto 48 = .ok (.invokevirtual 34, 3) := by decide +kernel
theorem dX4_readOnto_51 : decode cX4_readOnto 51 = .ok (.invokevirtual 38, 3) := by decide +kernel
theorem dX4_readOnto_54 : decode cX4_readOnto 54 = .ok (.ifCond .ne 5, 3) := by decide +kernel
theorem dX4_readOnto_57 : decode cX4_readOnto 57 = .ok (.iload_n 3, 1) := by decide +kernel
theorem dX4_readOnto_58 : decode cX4_readOnto 58 = .ok (.ireturn, 1) := by decide +kernel
theorem dX4_readOnto_59 : decode cX4_readOnto 59 = .ok (.iload 5, 2) := by decide +kernel
theorem dX4_readOnto_61 : decode cX4_readOnto 61 = .ok (.istore_n 3, 1) := by decide +kernel
theorem dX4_readOnto_62 : decode cX4_readOnto 62 = .ok (.iinc 4 1, 3) := by decide +kernel
theorem dX4_readOnto_65 : decode cX4_readOnto 65 = .ok (.goto (-51), 3) := by decide +kernel
theorem dX4_readOnto_68 : decode cX4_readOnto 68 = .ok (.aload_n 1, 1) := by decide +kernel
theorem dX4_readOnto_69 : decode cX4_readOnto 69 = .ok (.invokevirtual 42, 3) := by decide +kernel
theorem dX4_readOnto_72 : decode cX4_readOnto 72 = .ok (.bipush (-4), 2) := by decide +kernel
theorem dX4_readOnto_74 : decode cX4_readOnto 74 = .ok (.ireturn, 1) := by decide +kernel
theorem dX4_numbersOf_0 : decode cX4_numbersOf 0 = .ok (.iload_n 0, 1) := by decide +kernel
theorem dX4_numbersOf_1 : decode cX4_numbersOf 1 = .ok (.lookupswitch 57 #[(97, 51), (110, 51), (116, 55), (119, 53), (120, 53)], 51) := by decide +kernel
theorem dX4_numbersOf_52 : decode cX4_numbersOf 52 = .ok (.iconst 1, 1) := by decide +kernel
theorem dX4_numbersOf_53 : decode cX4_numbersOf 53 = .ok (.ireturn, 1) := by decide +kernel
theorem dX4_numbersOf_54 : decode cX4_numbersOf 54 = .ok (.iconst 2, 1) := by decide +kernel
theorem dX4_numbersOf_55 : decode cX4_numbersOf 55 = .ok (.ireturn, 1) := by decide +kernel
theorem dX4_numbersOf_56 : decode cX4_numbersOf 56 = .ok (.iconst 3, 1) := by decide +kernel
theorem dX4_numbersOf_57 : decode cX4_numbersOf 57 = .ok (.ireturn, 1) := by decide +kernel
theorem dX4_numbersOf_58 : decode cX4_numbersOf 58 = .ok (.iconst 0, 1) := by decide +kernel
theorem dX4_numbersOf_59 : decode cX4_numbersOf 59 = .ok (.ireturn, 1) := by decide +kernel
theorem dX4_itemsEnd_0 : decode cX4_itemsEnd 0 = .ok (.aload_n 1, 1) := by decide +kernel
theorem dX4_itemsEnd_1 : decode cX4_itemsEnd 1 = .ok (.iload_n 2, 1) := by decide +kernel
theorem dX4_itemsEnd_2 : decode cX4_itemsEnd 2 = .ok (.invokevirtual 34, 3) := by decide +kernel
theorem dX4_itemsEnd_5 : decode cX4_itemsEnd 5 = .ok (.invokestatic 45, 3) := by decide +kernel
theorem dX4_itemsEnd_8 : decode cX4_itemsEnd 8 = .ok (.istore_n 3, 1) := by decide +kernel
theorem dX4_itemsEnd_9 : decode cX4_itemsEnd 9 = .ok (.iload_n 3, 1) := by decide +kernel
theorem dX4_itemsEnd_10 : decode cX4_itemsEnd 10 = .ok (.ifCond .ne 5, 3) := by decide +kernel
theorem dX4_itemsEnd_13 : decode cX4_itemsEnd 13 = .ok (.iconst (-1), 1) := by decide +kernel
theorem dX4_itemsEnd_14 : decode cX4_itemsEnd 14 = .ok (.ireturn, 1) := by decide +kernel
theorem dX4_itemsEnd_15 : decode cX4_itemsEnd 15 = .ok (.iload_n 2, 1) := by decide +kernel
theorem dX4_itemsEnd_16 : decode cX4_itemsEnd 16 = .ok (.iconst 1, 1) := by decide +kernel
theorem dX4_itemsEnd_17 : decode cX4_itemsEnd 17 = .ok (.iadd, 1) := by decide +kernel
theorem dX4_itemsEnd_18 : decode cX4_itemsEnd 18 = .ok (.istore 4, 2) := by decide +kernel
theorem dX4_itemsEnd_20 : decode cX4_itemsEnd 20 = .ok (.iconst 0, 1) := by decide +kernel
theorem dX4_itemsEnd_21 : decode cX4_itemsEnd 21 = .ok (.istore 5, 2) := by decide +kernel
theorem dX4_itemsEnd_23 : decode cX4_itemsEnd 23 = .ok (.iload 5, 2) := by decide +kernel
theorem dX4_itemsEnd_25 : decode cX4_itemsEnd 25 = .ok (.iload_n 3, 1) := by decide +kernel
theorem dX4_itemsEnd_26 : decode cX4_itemsEnd 26 = .ok (.if_icmp .ge 83, 3) := by decide +kernel
theorem dX4_itemsEnd_29 : decode cX4_itemsEnd 29 = .ok (.aload_n 1, 1) := by decide +kernel
theorem dX4_itemsEnd_30 : decode cX4_itemsEnd 30 = .ok (.iload 4, 2) := by decide +kernel
theorem dX4_itemsEnd_32 : decode cX4_itemsEnd 32 = .ok (.invokestatic 48, 3) := by decide +kernel
theorem dX4_itemsEnd_35 : decode cX4_itemsEnd 35 = .ok (.istore 6, 2) := by decide +kernel
theorem dX4_itemsEnd_37 : decode cX4_itemsEnd 37 = .ok (.iload 6, 2) := by decide +kernel
theorem dX4_itemsEnd_39 : decode cX4_itemsEnd 39 = .ok (.ifCond .ne 5, 3) := by decide +kernel
theorem dX4_itemsEnd_42 : decode cX4_itemsEnd 42 = .ok (.iconst (-1), 1) := by decide +kernel
theorem dX4_itemsEnd_43 : decode cX4_itemsEnd 43 = .ok (.ireturn, 1) := by decide +kernel
theorem dX4_itemsEnd_44 : decode cX4_itemsEnd 44 = .ok (.aload_n 0, 1) := by decide +kernel
theorem dX4_itemsEnd_45 : decode cX4_itemsEnd 45 = .ok (.getfield 11, 3) := by decide +kernel
theorem dX4_itemsEnd_48 : decode cX4_itemsEnd 48 = .ok (.iload 5, 2) := by decide +kernel
theorem dX4_itemsEnd_50 : decode cX4_itemsEnd 50 = .ok (.aload_n 1, 1) := by decide +kernel
theorem dX4_itemsEnd_51 : decode cX4_itemsEnd 51 = .ok (.iload 4, 2) := by decide +kernel
theorem dX4_itemsEnd_53 : decode cX4_itemsEnd 53 = .ok (.iload 6, 2) := by decide +kernel
theorem dX4_itemsEnd_55 : decode cX4_itemsEnd 55 = .ok (.invokestatic 51, 3) := by decide +kernel
theorem dX4_itemsEnd_58 : decode cX4_itemsEnd 58 = .ok (.invokestatic 55, 3) := by decide +kernel
theorem dX4_itemsEnd_61 : decode cX4_itemsEnd 61 = .ok (.iload 5, 2) := by decide +kernel
theorem dX4_itemsEnd_63 : decode cX4_itemsEnd 63 = .ok (.iload_n 3, 1) := by decide +kernel
theorem dX4_itemsEnd_64 : decode cX4_itemsEnd 64 = .ok (.iconst 1, 1) := by decide +kernel
theorem dX4_itemsEnd_65 : decode cX4_itemsEnd 65 = .ok (.isub, 1) := by decide +kernel
theorem dX4_itemsEnd_66 : decode cX4_itemsEnd 66 = .ok (.if_icmp .ne 8, 3) := by decide +kernel
theorem dX4_itemsEnd_69 : decode cX4_itemsEnd 69 = .ok (.bipush 59, 2) := by decide +kernel
theorem dX4_itemsEnd_71 : decode cX4_itemsEnd 71 = .ok (.goto 5, 3) := by decide +kernel
theorem dX4_itemsEnd_74 : decode cX4_itemsEnd 74 = .ok (.bipush 44, 2) := by decide +kernel
theorem dX4_itemsEnd_76 : decode cX4_itemsEnd 76 = .ok (.istore 7, 2) := by decide +kernel
theorem dX4_itemsEnd_78 : decode cX4_itemsEnd 78 = .ok (.aload_n 1, 1) := by decide +kernel
theorem dX4_itemsEnd_79 : decode cX4_itemsEnd 79 = .ok (.iload 4, 2) := by decide +kernel
theorem dX4_itemsEnd_81 : decode cX4_itemsEnd 81 = .ok (.iload 6, 2) := by decide +kernel
theorem dX4_itemsEnd_83 : decode cX4_itemsEnd 83 = .ok (.iadd, 1) := by decide +kernel
theorem dX4_itemsEnd_84 : decode cX4_itemsEnd 84 = .ok (.invokevirtual 34, 3) := by decide +kernel
theorem dX4_itemsEnd_87 : decode cX4_itemsEnd 87 = .ok (.iload 7, 2) := by decide +kernel
theorem dX4_itemsEnd_89 : decode cX4_itemsEnd 89 = .ok (.if_icmp .eq 5, 3) := by decide +kernel
theorem dX4_itemsEnd_92 : decode cX4_itemsEnd 92 = .ok (.iconst (-1), 1) := by decide +kernel
theorem dX4_itemsEnd_93 : decode cX4_itemsEnd 93 = .ok (.ireturn, 1) := by decide +kernel
theorem dX4_itemsEnd_94 : decode cX4_itemsEnd 94 = .ok (.iload 4, 2) := by decide +kernel
theorem dX4_itemsEnd_96 : decode cX4_itemsEnd 96 = .ok (.iload 6, 2) := by decide +kernel
theorem dX4_itemsEnd_98 : decode cX4_itemsEnd 98 = .ok (.iconst 1, 1) := by decide +kernel
theorem dX4_itemsEnd_99 : decode cX4_itemsEnd 99 = .ok (.iadd, 1) := by decide +kernel
theorem dX4_itemsEnd_100 : decode cX4_itemsEnd 100 = .ok (.iadd, 1) := by decide +kernel
theorem dX4_itemsEnd_101 : decode cX4_itemsEnd 101 = .ok (.istore 4, 2) := by decide +kernel
theorem dX4_itemsEnd_103 : decode cX4_itemsEnd 103 = .ok (.iinc 5 1, 3) := by decide +kernel
theorem dX4_itemsEnd_106 : decode cX4_itemsEnd 106 = .ok (.goto (-83), 3) := by decide +kernel
theorem dX4_itemsEnd_109 : decode cX4_itemsEnd 109 = .ok (.iload 4, 2) := by decide +kernel
theorem dX4_itemsEnd_111 : decode cX4_itemsEnd 111 = .ok (.ireturn, 1) := by decide +kernel
theorem dX4_isFigure_0 : decode cX4_isFigure 0 = .ok (.iload_n 0, 1) := by decide +kernel
theorem dX4_isFigure_1 : decode cX4_isFigure 1 = .ok (.bipush 48, 2) := by decide +kernel
theorem dX4_isFigure_3 : decode cX4_isFigure 3 = .ok (.if_icmp .lt 13, 3) := by decide +kernel
theorem dX4_isFigure_6 : decode cX4_isFigure 6 = .ok (.iload_n 0, 1) := by decide +kernel
theorem dX4_isFigure_7 : decode cX4_isFigure 7 = .ok (.bipush 57, 2) := by decide +kernel
theorem dX4_isFigure_9 : decode cX4_isFigure 9 = .ok (.if_icmp .gt 7, 3) := by decide +kernel
theorem dX4_isFigure_12 : decode cX4_isFigure 12 = .ok (.iconst 1, 1) := by decide +kernel
theorem dX4_isFigure_13 : decode cX4_isFigure 13 = .ok (.goto 4, 3) := by decide +kernel
theorem dX4_isFigure_16 : decode cX4_isFigure 16 = .ok (.iconst 0, 1) := by decide +kernel
theorem dX4_isFigure_17 : decode cX4_isFigure 17 = .ok (.ireturn, 1) := by decide +kernel
theorem dX4_figuresAt_0 : decode cX4_figuresAt 0 = .ok (.aload_n 0, 1) := by decide +kernel
theorem dX4_figuresAt_1 : decode cX4_figuresAt 1 = .ok (.iload_n 1, 1) := by decide +kernel
theorem dX4_figuresAt_2 : decode cX4_figuresAt 2 = .ok (.invokevirtual 34, 3) := by decide +kernel
theorem dX4_figuresAt_5 : decode cX4_figuresAt 5 = .ok (.invokestatic 59, 3) := by decide +kernel
theorem dX4_figuresAt_8 : decode cX4_figuresAt 8 = .ok (.ifCond .ne 5, 3) := by decide +kernel
theorem dX4_figuresAt_11 : decode cX4_figuresAt 11 = .ok (.iconst 0, 1) := by decide +kernel
theorem dX4_figuresAt_12 : decode cX4_figuresAt 12 = .ok (.ireturn, 1) := by decide +kernel
theorem dX4_figuresAt_13 : decode cX4_figuresAt 13 = .ok (.aload_n 0, 1) := by decide +kernel
theorem dX4_figuresAt_14 : decode cX4_figuresAt 14 = .ok (.iload_n 1, 1) := by decide +kernel
theorem dX4_figuresAt_15 : decode cX4_figuresAt 15 = .ok (.iconst 1, 1) := by decide +kernel
theorem dX4_figuresAt_16 : decode cX4_figuresAt 16 = .ok (.iadd, 1) := by decide +kernel
theorem dX4_figuresAt_17 : decode cX4_figuresAt 17 = .ok (.invokevirtual 34, 3) := by decide +kernel
theorem dX4_figuresAt_20 : decode cX4_figuresAt 20 = .ok (.invokestatic 59, 3) := by decide +kernel
theorem dX4_figuresAt_23 : decode cX4_figuresAt 23 = .ok (.ifCond .eq 7, 3) := by decide +kernel
theorem dX4_figuresAt_26 : decode cX4_figuresAt 26 = .ok (.iconst 2, 1) := by decide +kernel
theorem dX4_figuresAt_27 : decode cX4_figuresAt 27 = .ok (.goto 4, 3) := by decide +kernel
theorem dX4_figuresAt_30 : decode cX4_figuresAt 30 = .ok (.iconst 1, 1) := by decide +kernel
theorem dX4_figuresAt_31 : decode cX4_figuresAt 31 = .ok (.ireturn, 1) := by decide +kernel
theorem dX4_numberAt_0 : decode cX4_numberAt 0 = .ok (.iconst 0, 1) := by decide +kernel
theorem dX4_numberAt_1 : decode cX4_numberAt 1 = .ok (.istore_n 3, 1) := by decide +kernel
theorem dX4_numberAt_2 : decode cX4_numberAt 2 = .ok (.iconst 0, 1) := by decide +kernel
theorem dX4_numberAt_3 : decode cX4_numberAt 3 = .ok (.istore 4, 2) := by decide +kernel
theorem dX4_numberAt_5 : decode cX4_numberAt 5 = .ok (.iload 4, 2) := by decide +kernel
theorem dX4_numberAt_7 : decode cX4_numberAt 7 = .ok (.iload_n 2, 1) := by decide +kernel
theorem dX4_numberAt_8 : decode cX4_numberAt 8 = .ok (.if_icmp .ge 26, 3) := by decide +kernel
theorem dX4_numberAt_11 : decode cX4_numberAt 11 = .ok (.bipush 10, 2) := by decide +kernel
theorem dX4_numberAt_13 : decode cX4_numberAt 13 = .ok (.iload_n 3, 1) := by decide +kernel
theorem dX4_numberAt_14 : decode cX4_numberAt 14 = .ok (.imul, 1) := by decide +kernel
theorem dX4_numberAt_15 : decode cX4_numberAt 15 = .ok (.aload_n 0, 1) := by decide +kernel
theorem dX4_numberAt_16 : decode cX4_numberAt 16 = .ok (.iload_n 1, 1) := by decide +kernel
theorem dX4_numberAt_17 : decode cX4_numberAt 17 = .ok (.iload 4, 2) := by decide +kernel
theorem dX4_numberAt_19 : decode cX4_numberAt 19 = .ok (.iadd, 1) := by decide +kernel
theorem dX4_numberAt_20 : decode cX4_numberAt 20 = .ok (.invokevirtual 34, 3) := by decide +kernel
theorem dX4_numberAt_23 : decode cX4_numberAt 23 = .ok (.iadd, 1) := by decide +kernel
theorem dX4_numberAt_24 : decode cX4_numberAt 24 = .ok (.bipush 48, 2) := by decide +kernel
theorem dX4_numberAt_26 : decode cX4_numberAt 26 = .ok (.isub, 1) := by decide +kernel
theorem dX4_numberAt_27 : decode cX4_numberAt 27 = .ok (.istore_n 3, 1) := by decide +kernel
theorem dX4_numberAt_28 : decode cX4_numberAt 28 = .ok (.iinc 4 1, 3) := by decide +kernel
theorem dX4_numberAt_31 : decode cX4_numberAt 31 = .ok (.goto (-26), 3) := by decide +kernel
theorem dX4_numberAt_34 : decode cX4_numberAt 34 = .ok (.iload_n 3, 1) := by decide +kernel
theorem dX4_numberAt_35 : decode cX4_numberAt 35 = .ok (.ireturn, 1) := by decide +kernel
theorem dX4_takeItem_0 : decode cX4_takeItem 0 = .ok (.aload_n 0, 1) := by decide +kernel
theorem dX4_takeItem_1 : decode cX4_takeItem 1 = .ok (.getfield 11, 3) := by decide +kernel
theorem dX4_takeItem_4 : decode cX4_takeItem 4 = .ok (.iconst 0, 1) := by decide +kernel
theorem dX4_takeItem_5 : decode cX4_takeItem 5 = .ok (.invokestatic 63, 3) := by decide +kernel
theorem dX4_takeItem_8 : decode cX4_takeItem 8 = .ok (.istore_n 3, 1) := by decide +kernel
theorem dX4_takeItem_9 : decode cX4_takeItem 9 = .ok (.aload_n 0, 1) := by decide +kernel
theorem dX4_takeItem_10 : decode cX4_takeItem 10 = .ok (.getfield 11, 3) := by decide +kernel
theorem dX4_takeItem_13 : decode cX4_takeItem 13 = .ok (.iconst 1, 1) := by decide +kernel
theorem dX4_takeItem_14 : decode cX4_takeItem 14 = .ok (.invokestatic 63, 3) := by decide +kernel
theorem dX4_takeItem_17 : decode cX4_takeItem 17 = .ok (.istore 4, 2) := by decide +kernel
theorem dX4_takeItem_19 : decode cX4_takeItem 19 = .ok (.iload_n 2, 1) := by decide +kernel
theorem dX4_takeItem_20 : decode cX4_takeItem 20 = .ok (.bipush 110, 2) := by decide +kernel
theorem dX4_takeItem_22 : decode cX4_takeItem 22 = .ok (.if_icmp .ne 24, 3) := by decide +kernel
theorem dX4_takeItem_25 : decode cX4_takeItem 25 = .ok (.aload_n 0, 1) := by decide +kernel
theorem dX4_takeItem_26 : decode cX4_takeItem 26 = .ok (.getfield 20, 3) := by decide +kernel
theorem dX4_takeItem_29 : decode cX4_takeItem 29 = .ok (.ifCond .eq 15, 3) := by decide +kernel
theorem dX4_takeItem_32 : decode cX4_takeItem 32 = .ok (.aload_n 1, 1) := by decide +kernel
theorem dX4_takeItem_33 : decode cX4_takeItem 33 = .ok (.iload_n 3, 1) := by decide +kernel
theorem dX4_takeItem_34 : decode cX4_takeItem 34 = .ok (.invokevirtual 67, 3) := by decide +kernel
theorem dX4_takeItem_37 : decode cX4_takeItem 37 = .ok (.ifCond .eq 7, 3) := by decide +kernel
theorem dX4_takeItem_40 : decode cX4_takeItem 40 = .ok (.iconst 1, 1) := by decide +kernel
theorem dX4_takeItem_41 : decode cX4_takeItem 41 = .ok (.goto 4, 3) := by decide +kernel
theorem dX4_takeItem_44 : decode cX4_takeItem 44 = .ok (.iconst 0, 1) := by decide +kernel
theorem dX4_takeItem_45 : decode cX4_takeItem 45 = .ok (.ireturn, 1) := by decide +kernel
theorem dX4_takeItem_46 : decode cX4_takeItem 46 = .ok (.aload_n 0, 1) := by decide +kernel
theorem dX4_takeItem_47 : decode cX4_takeItem 47 = .ok (.iconst 0, 1) := by decide +kernel
theorem dX4_takeItem_48 : decode cX4_takeItem 48 = .ok (.putfield 20, 3) := by decide +kernel
theorem dX4_takeItem_51 : decode cX4_takeItem 51 = .ok (.iload_n 2, 1) := by decide +kernel
theorem dX4_takeItem_52 : decode cX4_takeItem 52 = .ok (.lookupswitch 66 #[(97, 36), (116, 42), (120, 58)], 36) := by decide +kernel
theorem dX4_takeItem_88 : decode cX4_takeItem 88 = .ok (.aload_n 1, 1) := by decide +kernel
theorem dX4_takeItem_89 : decode cX4_takeItem 89 = .ok (.iload_n 3, 1) := by decide +kernel
theorem dX4_takeItem_90 : decode cX4_takeItem 90 = .ok (.invokevirtual 70, 3) := by decide +kernel
theorem dX4_takeItem_93 : decode cX4_takeItem 93 = .ok (.ireturn, 1) := by decide +kernel
theorem dX4_takeItem_94 : decode cX4_takeItem 94 = .ok (.aload_n 1, 1) := by decide +kernel
theorem dX4_takeItem_95 : decode cX4_takeItem 95 = .ok (.iload_n 3, 1) := by decide +kernel
theorem dX4_takeItem_96 : decode cX4_takeItem 96 = .ok (.iload 4, 2) := by decide +kernel
theorem dX4_takeItem_98 : decode cX4_takeItem 98 = .ok (.aload_n 0, 1) := by decide +kernel
theorem dX4_takeItem_99 : decode cX4_takeItem 99 = .ok (.getfield 11, 3) := by decide +kernel
theorem dX4_takeItem_102 : decode cX4_takeItem 102 = .ok (.iconst 2, 1) := by decide +kernel
theorem dX4_takeItem_103 : decode cX4_takeItem 103 = .ok (.invokestatic 63, 3) := by decide +kernel
theorem dX4_takeItem_106 : decode cX4_takeItem 106 = .ok (.invokevirtual 73, 3) := by decide +kernel
theorem dX4_takeItem_109 : decode cX4_takeItem 109 = .ok (.ireturn, 1) := by decide +kernel
theorem dX4_takeItem_110 : decode cX4_takeItem 110 = .ok (.aload_n 1, 1) := by decide +kernel
theorem dX4_takeItem_111 : decode cX4_takeItem 111 = .ok (.iload_n 3, 1) := by decide +kernel
theorem dX4_takeItem_112 : decode cX4_takeItem 112 = .ok (.iload 4, 2) := by decide +kernel
theorem dX4_takeItem_114 : decode cX4_takeItem 114 = .ok (.invokevirtual 77, 3) := by decide +kernel
theorem dX4_takeItem_117 : decode cX4_takeItem 117 = .ok (.ireturn, 1) := by decide +kernel
theorem dX4_takeItem_118 : decode cX4_takeItem 118 = .ok (.aload_n 1, 1) := by decide +kernel
theorem dX4_takeItem_119 : decode cX4_takeItem 119 = .ok (.iload_n 3, 1) := by decide +kernel
theorem dX4_takeItem_120 : decode cX4_takeItem 120 = .ok (.iload 4, 2) := by decide +kernel
theorem dX4_takeItem_122 : decode cX4_takeItem 122 = .ok (.invokevirtual 81, 3) := by decide +kernel
theorem dX4_takeItem_125 : decode cX4_takeItem 125 = .ok (.ireturn, 1) := by decide +kernel
theorem dX5_idleSteps_0 : decode cX5_idleSteps 0 = .ok (.iconst 0, 1) := by decide +kernel
theorem dX5_idleSteps_1 : decode cX5_idleSteps 1 = .ok (.istore_n 1, 1) := by decide +kernel
theorem dX5_idleSteps_2 : decode cX5_idleSteps 2 = .ok (.iconst 0, 1) := by decide +kernel
theorem dX5_idleSteps_3 : decode cX5_idleSteps 3 = .ok (.istore_n 2, 1) := by decide +kernel
theorem dX5_idleSteps_4 : decode cX5_idleSteps 4 = .ok (.iload_n 2, 1) := by decide +kernel
theorem dX5_idleSteps_5 : decode cX5_idleSteps 5 = .ok (.aload_n 0, 1) := by decide +kernel
theorem dX5_idleSteps_6 : decode cX5_idleSteps 6 = .ok (.invokevirtual 9, 3) := by decide +kernel
theorem dX5_idleSteps_9 : decode cX5_idleSteps 9 = .ok (.if_icmp .ge 54, 3) := by decide +kernel
theorem dX5_idleSteps_12 : decode cX5_idleSteps 12 = .ok (.sipush 1023, 3) := by decide +kernel
theorem dX5_idleSteps_15 : decode cX5_idleSteps 15 = .ok (.iconst 1, 1) := by decide +kernel
theorem dX5_idleSteps_16 : decode cX5_idleSteps 16 = .ok (.iload_n 2, 1) := by decide +kernel
theorem dX5_idleSteps_17 : decode cX5_idleSteps 17 = .ok (.ishl, 1) := by decide +kernel
theorem dX5_idleSteps_18 : decode cX5_idleSteps 18 = .ok (.iconst (-1), 1) := by decide +kernel
theorem dX5_idleSteps_19 : decode cX5_idleSteps 19 = .ok (.ixor, 1) := by decide +kernel
theorem dX5_idleSteps_20 : decode cX5_idleSteps 20 = .ok (.iand, 1) := by decide +kernel
theorem dX5_idleSteps_21 : decode cX5_idleSteps 21 = .ok (.istore_n 3, 1) := by decide +kernel
theorem dX5_idleSteps_22 : decode cX5_idleSteps 22 = .ok (.aload_n 0, 1) := by decide +kernel
theorem dX5_idleSteps_23 : decode cX5_idleSteps 23 = .ok (.aload_n 0, 1) := by decide +kernel
theorem dX5_idleSteps_24 : decode cX5_idleSteps 24 = .ok (.iload_n 2, 1) := by decide +kernel
theorem dX5_idleSteps_25 : decode cX5_idleSteps 25 = .ok (.invokevirtual 15, 3) := by decide +kernel
theorem dX5_idleSteps_28 : decode cX5_idleSteps 28 = .ok (.iload_n 3, 1) := by decide +kernel
theorem dX5_idleSteps_29 : decode cX5_idleSteps 29 = .ok (.aload_n 0, 1) := by decide +kernel
theorem dX5_idleSteps_30 : decode cX5_idleSteps 30 = .ok (.invokevirtual 19, 3) := by decide +kernel
theorem dX5_idleSteps_33 : decode cX5_idleSteps 33 = .ok (.invokevirtual 22, 3) := by decide +kernel
theorem dX5_idleSteps_36 : decode cX5_idleSteps 36 = .ok (.istore 4, 2) := by decide +kernel
theorem dX5_idleSteps_38 : decode cX5_idleSteps 38 = .ok (.iload 4, 2) := by decide +kernel
theorem dX5_idleSteps_40 : decode cX5_idleSteps 40 = .ok (.aload_n 0, 1) := by decide +kernel
theorem dX5_idleSteps_41 : decode cX5_idleSteps 41 = .ok (.iload_n 2, 1) := by decide +kernel
theorem dX5_idleSteps_42 : decode cX5_idleSteps 42 = .ok (.invokevirtual 26, 3) := by decide +kernel
theorem dX5_idleSteps_45 : decode cX5_idleSteps 45 = .ok (.invokestatic 29, 3) := by decide +kernel
theorem dX5_idleSteps_48 : decode cX5_idleSteps 48 = .ok (.ifCond .eq 9, 3) := by decide +kernel
theorem dX5_idleSteps_51 : decode cX5_idleSteps 51 = .ok (.iload_n 1, 1) := by decide +kernel
theorem dX5_idleSteps_52 : decode cX5_idleSteps 52 = .ok (.iconst 1, 1) := by decide +kernel
theorem dX5_idleSteps_53 : decode cX5_idleSteps 53 = .ok (.iload_n 2, 1) := by decide +kernel
theorem dX5_idleSteps_54 : decode cX5_idleSteps 54 = .ok (.ishl, 1) := by decide +kernel
theorem dX5_idleSteps_55 : decode cX5_idleSteps 55 = .ok (.ior, 1) := by decide +kernel
theorem dX5_idleSteps_56 : decode cX5_idleSteps 56 = .ok (.istore_n 1, 1) := by decide +kernel
theorem dX5_idleSteps_57 : decode cX5_idleSteps 57 = .ok (.iinc 2 1, 3) := by decide +kernel
theorem dX5_idleSteps_60 : decode cX5_idleSteps 60 = .ok (.goto (-56), 3) := by decide +kernel
theorem dX5_idleSteps_63 : decode cX5_idleSteps 63 = .ok (.iload_n 1, 1) := by decide +kernel
theorem dX5_idleSteps_64 : decode cX5_idleSteps 64 = .ok (.ireturn, 1) := by decide +kernel
theorem dX5_lowestInCircle_0 : decode cX5_lowestInCircle 0 = .ok (.iconst 0, 1) := by decide +kernel
theorem dX5_lowestInCircle_1 : decode cX5_lowestInCircle 1 = .ok (.istore_n 1, 1) := by decide +kernel
theorem dX5_lowestInCircle_2 : decode cX5_lowestInCircle 2 = .ok (.iload_n 1, 1) := by decide +kernel
theorem dX5_lowestInCircle_3 : decode cX5_lowestInCircle 3 = .ok (.aload_n 0, 1) := by decide +kernel
theorem dX5_lowestInCircle_4 : decode cX5_lowestInCircle 4 = .ok (.invokevirtual 33, 3) := by decide +kernel
theorem dX5_lowestInCircle_7 : decode cX5_lowestInCircle 7 = .ok (.if_icmp .ge 23, 3) := by decide +kernel
theorem dX5_lowestInCircle_10 : decode cX5_lowestInCircle 10 = .ok (.aload_n 0, 1) := by decide +kernel
theorem dX5_lowestInCircle_11 : decode cX5_lowestInCircle 11 = .ok (.iload_n 1, 1) := by decide +kernel
theorem dX5_lowestInCircle_12 : decode cX5_lowestInCircle 12 = .ok (.invokestatic 36, 3) := by decide +kernel
theorem dX5_lowestInCircle_15 : decode cX5_lowestInCircle 15 = .ok (.iload_n 1, 1) := by decide +kernel
theorem dX5_lowestInCircle_16 : decode cX5_lowestInCircle 16 = .ok (.invokestatic 29, 3) := by decide +kernel
theorem dX5_lowestInCircle_19 : decode cX5_lowestInCircle 19 = .ok (.ifCond .eq 5, 3) := by decide +kernel
theorem dX5_lowestInCircle_22 : decode cX5_lowestInCircle 22 = .ok (.iload_n 1, 1) := by decide +kernel
theorem dX5_lowestInCircle_23 : decode cX5_lowestInCircle 23 = .ok (.ireturn, 1) := by decide +kernel
theorem dX5_lowestInCircle_24 : decode cX5_lowestInCircle 24 = .ok (.iinc 1 1, 3) := by decide +kernel
theorem dX5_lowestInCircle_27 : decode cX5_lowestInCircle 27 = .ok (.goto (-25), 3) := by decide +kernel
theorem dX5_lowestInCircle_30 : decode cX5_lowestInCircle 30 = .ok (.bipush (-4), 2) := by decide +kernel
theorem dX5_lowestInCircle_32 : decode cX5_lowestInCircle 32 = .ok (.ireturn, 1) := by decide +kernel
theorem dX5_everBehind_0 : decode cX5_everBehind 0 = .ok (.aload_n 0, 1) := by decide +kernel
theorem dX5_everBehind_1 : decode cX5_everBehind 1 = .ok (.iconst 1, 1) := by decide +kernel
theorem dX5_everBehind_2 : decode cX5_everBehind 2 = .ok (.iload_n 1, 1) := by decide +kernel
theorem dX5_everBehind_3 : decode cX5_everBehind 3 = .ok (.ishl, 1) := by decide +kernel
theorem dX5_everBehind_4 : decode cX5_everBehind 4 = .ok (.invokevirtual 42, 3) := by decide +kernel
theorem dX5_everBehind_7 : decode cX5_everBehind 7 = .ok (.istore_n 2, 1) := by decide +kernel
theorem dX5_everBehind_8 : decode cX5_everBehind 8 = .ok (.iconst 0, 1) := by decide +kernel
theorem dX5_everBehind_9 : decode cX5_everBehind 9 = .ok (.istore_n 3, 1) := by decide +kernel
theorem dX5_everBehind_10 : decode cX5_everBehind 10 = .ok (.iload_n 3, 1) := by decide +kernel
theorem dX5_everBehind_11 : decode cX5_everBehind 11 = .ok (.bipush 10, 2) := by decide +kernel
theorem dX5_everBehind_13 : decode cX5_everBehind 13 = .ok (.if_icmp .ge 17, 3) := by decide +kernel
theorem dX5_everBehind_16 : decode cX5_everBehind 16 = .ok (.iload_n 2, 1) := by decide +kernel
theorem dX5_everBehind_17 : decode cX5_everBehind 17 = .ok (.aload_n 0, 1) := by decide +kernel
theorem dX5_everBehind_18 : decode cX5_everBehind 18 = .ok (.iload_n 2, 1) := by decide +kernel
theorem dX5_everBehind_19 : decode cX5_everBehind 19 = .ok (.invokevirtual 42, 3) := by decide +kernel
theorem dX5_everBehind_22 : decode cX5_everBehind 22 = .ok (.ior, 1) := by decide +kernel
theorem dX5_everBehind_23 : decode cX5_everBehind 23 = .ok (.istore_n 2, 1) := by decide +kernel
theorem dX5_everBehind_24 : decode cX5_everBehind 24 = .ok (.iinc 3 1, 3) := by decide +kernel
theorem dX5_everBehind_27 : decode cX5_everBehind 27 = .ok (.goto (-17), 3) := by decide +kernel
theorem dX5_everBehind_30 : decode cX5_everBehind 30 = .ok (.iload_n 2, 1) := by decide +kernel
theorem dX5_everBehind_31 : decode cX5_everBehind 31 = .ok (.ireturn, 1) := by decide +kernel
theorem dX5_depth_0 : decode cX5_depth 0 = .ok (.aload_n 0, 1) := by decide +kernel
theorem dX5_depth_1 : decode cX5_depth 1 = .ok (.invokevirtual 19, 3) := by decide +kernel
theorem dX5_depth_4 : decode cX5_depth 4 = .ok (.istore_n 1, 1) := by decide +kernel
theorem dX5_depth_5 : decode cX5_depth 5 = .ok (.iconst 0, 1) := by decide +kernel
theorem dX5_depth_6 : decode cX5_depth 6 = .ok (.istore_n 2, 1) := by decide +kernel
theorem dX5_depth_7 : decode cX5_depth 7 = .ok (.iload_n 2, 1) := by decide +kernel
theorem dX5_depth_8 : decode cX5_depth 8 = .ok (.bipush 10, 2) := by decide +kernel
theorem dX5_depth_10 : decode cX5_depth 10 = .ok (.if_icmp .ge 21, 3) := by decide +kernel
theorem dX5_depth_13 : decode cX5_depth 13 = .ok (.aload_n 0, 1) := by decide +kernel
theorem dX5_depth_14 : decode cX5_depth 14 = .ok (.iload_n 1, 1) := by decide +kernel
theorem dX5_depth_15 : decode cX5_depth 15 = .ok (.invokevirtual 42, 3) := by decide +kernel
theorem dX5_depth_18 : decode cX5_depth 18 = .ok (.istore_n 1, 1) := by decide +kernel
theorem dX5_depth_19 : decode cX5_depth 19 = .ok (.iload_n 1, 1) := by decide +kernel
theorem dX5_depth_20 : decode cX5_depth 20 = .ok (.ifCond .ne 5, 3) := by decide +kernel
theorem dX5_depth_23 : decode cX5_depth 23 = .ok (.iload_n 2, 1) := by decide +kernel
theorem dX5_depth_24 : decode cX5_depth 24 = .ok (.ireturn, 1) := by decide +kernel
theorem dX5_depth_25 : decode cX5_depth 25 = .ok (.iinc 2 1, 3) := by decide +kernel
theorem dX5_depth_28 : decode cX5_depth 28 = .ok (.goto (-21), 3) := by decide +kernel
theorem dX5_depth_31 : decode cX5_depth 31 = .ok (.bipush (-4), 2) := by decide +kernel
theorem dX5_depth_33 : decode cX5_depth 33 = .ok (.ireturn, 1) := by decide +kernel
theorem dX6_init_0 : decode cX6_init 0 = .ok (.aload_n 0, 1) := by decide +kernel
theorem dX6_init_1 : decode cX6_init 1 = .ok (.invokespecial 3, 3) := by decide +kernel
theorem dX6_init_4 : decode cX6_init 4 = .ok (.aload_n 0, 1) := by decide +kernel
theorem dX6_init_5 : decode cX6_init 5 = .ok (.sipush 300, 3) := by decide +kernel
theorem dX6_init_8 : decode cX6_init 8 = .ok (.newarray .int, 2) := by decide +kernel
theorem dX6_init_10 : decode cX6_init 10 = .ok (.putfield 9, 3) := by decide +kernel
theorem dX6_init_13 : decode cX6_init 13 = .ok (.return_, 1) := by decide +kernel
theorem dX6_size_0 : decode cX6_size 0 = .ok (.aload_n 0, 1) := by decide +kernel
theorem dX6_size_1 : decode cX6_size 1 = .ok (.getfield 15, 3) := by decide +kernel
theorem dX6_size_4 : decode cX6_size 4 = .ok (.ireturn, 1) := by decide +kernel
theorem dX6_clear_0 : decode cX6_clear 0 = .ok (.aload_n 0, 1) := by decide +kernel
theorem dX6_clear_1 : decode cX6_clear 1 = .ok (.iconst 0, 1) := by decide +kernel
theorem dX6_clear_2 : decode cX6_clear 2 = .ok (.putfield 15, 3) := by decide +kernel
theorem dX6_clear_5 : decode cX6_clear 5 = .ok (.return_, 1) := by decide +kernel
theorem dX6_addByte_0 : decode cX6_addByte 0 = .ok (.aload_n 0, 1) := by decide +kernel
theorem dX6_addByte_1 : decode cX6_addByte 1 = .ok (.getfield 15, 3) := by decide +kernel
theorem dX6_addByte_4 : decode cX6_addByte 4 = .ok (.sipush 300, 3) := by decide +kernel
theorem dX6_addByte_7 : decode cX6_addByte 7 = .ok (.if_icmp .ge 25, 3) := by decide +kernel
theorem dX6_addByte_10 : decode cX6_addByte 10 = .ok (.aload_n 0, 1) := by decide +kernel
theorem dX6_addByte_11 : decode cX6_addByte 11 = .ok (.getfield 9, 3) := by decide +kernel
theorem dX6_addByte_14 : decode cX6_addByte 14 = .ok (.aload_n 0, 1) := by decide +kernel
theorem dX6_addByte_15 : decode cX6_addByte 15 = .ok (.getfield 15, 3) := by decide +kernel
theorem dX6_addByte_18 : decode cX6_addByte 18 = .ok (.iload_n 1, 1) := by decide +kernel
theorem dX6_addByte_19 : decode cX6_addByte 19 = .ok (.invokestatic 19, 3) := by decide +kernel
theorem dX6_addByte_22 : decode cX6_addByte 22 = .ok (.aload_n 0, 1) := by decide +kernel
theorem dX6_addByte_23 : decode cX6_addByte 23 = .ok (.dup, 1) := by decide +kernel
theorem dX6_addByte_24 : decode cX6_addByte 24 = .ok (.getfield 15, 3) := by decide +kernel
theorem dX6_addByte_27 : decode cX6_addByte 27 = .ok (.iconst 1, 1) := by decide +kernel
theorem dX6_addByte_28 : decode cX6_addByte 28 = .ok (.iadd, 1) := by decide +kernel
theorem dX6_addByte_29 : decode cX6_addByte 29 = .ok (.putfield 15, 3) := by decide +kernel
theorem dX6_addByte_32 : decode cX6_addByte 32 = .ok (.return_, 1) := by decide +kernel
theorem dX6_addSigns_0 : decode cX6_addSigns 0 = .ok (.iconst 0, 1) := by decide +kernel
theorem dX6_addSigns_1 : decode cX6_addSigns 1 = .ok (.istore_n 2, 1) := by decide +kernel
theorem dX6_addSigns_2 : decode cX6_addSigns 2 = .ok (.iload_n 2, 1) := by decide +kernel
theorem dX6_addSigns_3 : decode cX6_addSigns 3 = .ok (.aload_n 1, 1) := by decide +kernel
theorem dX6_addSigns_4 : decode cX6_addSigns 4 = .ok (.invokevirtual 23, 3) := by decide +kernel
theorem dX6_addSigns_7 : decode cX6_addSigns 7 = .ok (.if_icmp .ge 18, 3) := by decide +kernel
theorem dX6_addSigns_10 : decode cX6_addSigns 10 = .ok (.aload_n 0, 1) := by decide +kernel
theorem dX6_addSigns_11 : decode cX6_addSigns 11 = .ok (.aload_n 1, 1) := by decide +kernel
theorem dX6_addSigns_12 : decode cX6_addSigns 12 = .ok (.iload_n 2, 1) := by decide +kernel
theorem dX6_addSigns_13 : decode cX6_addSigns 13 = .ok (.invokevirtual 29, 3) := by decide +kernel
theorem dX6_addSigns_16 : decode cX6_addSigns 16 = .ok (.invokevirtual 33, 3) := by decide +kernel
theorem dX6_addSigns_19 : decode cX6_addSigns 19 = .ok (.iinc 2 1, 3) := by decide +kernel
theorem dX6_addSigns_22 : decode cX6_addSigns 22 = .ok (.goto (-20), 3) := by decide +kernel
theorem dX6_addSigns_25 : decode cX6_addSigns 25 = .ok (.return_, 1) := by decide +kernel
theorem dX6_byteAt_0 : decode cX6_byteAt 0 = .ok (.iload_n 1, 1) := by decide +kernel
theorem dX6_byteAt_1 : decode cX6_byteAt 1 = .ok (.ifCond .lt 22, 3) := by decide +kernel
theorem dX6_byteAt_4 : decode cX6_byteAt 4 = .ok (.iload_n 1, 1) := by decide +kernel
theorem dX6_byteAt_5 : decode cX6_byteAt 5 = .ok (.aload_n 0, 1) := by decide +kernel
theorem dX6_byteAt_6 : decode cX6_byteAt 6 = .ok (.getfield 15, 3) := by decide +kernel
theorem dX6_byteAt_9 : decode cX6_byteAt 9 = .ok (.if_icmp .ge 14, 3) := by decide +kernel
theorem dX6_byteAt_12 : decode cX6_byteAt 12 = .ok (.aload_n 0, 1) := by decide +kernel
theorem dX6_byteAt_13 : decode cX6_byteAt 13 = .ok (.getfield 9, 3) := by decide +kernel
theorem dX6_byteAt_16 : decode cX6_byteAt 16 = .ok (.iload_n 1, 1) := by decide +kernel
theorem dX6_byteAt_17 : decode cX6_byteAt 17 = .ok (.invokestatic 37, 3) := by decide +kernel
theorem dX6_byteAt_20 : decode cX6_byteAt 20 = .ok (.goto 4, 3) := by decide +kernel
theorem dX6_byteAt_23 : decode cX6_byteAt 23 = .ok (.iconst (-1), 1) := by decide +kernel
theorem dX6_byteAt_24 : decode cX6_byteAt 24 = .ok (.ireturn, 1) := by decide +kernel
theorem dX7_init_0 : decode cX7_init 0 = .ok (.aload_n 0, 1) := by decide +kernel
theorem dX7_init_1 : decode cX7_init 1 = .ok (.invokespecial 3, 3) := by decide +kernel
theorem dX7_init_4 : decode cX7_init 4 = .ok (.aload_n 0, 1) := by decide +kernel
theorem dX7_init_5 : decode cX7_init 5 = .ok (.sipush 1024, 3) := by decide +kernel
theorem dX7_init_8 : decode cX7_init 8 = .ok (.newarray .int, 2) := by decide +kernel
theorem dX7_init_10 : decode cX7_init 10 = .ok (.putfield 9, 3) := by decide +kernel
theorem dX7_init_13 : decode cX7_init 13 = .ok (.aload_n 0, 1) := by decide +kernel
theorem dX7_init_14 : decode cX7_init 14 = .ok (.sipush 1024, 3) := by decide +kernel
theorem dX7_init_17 : decode cX7_init 17 = .ok (.newarray .int, 2) := by decide +kernel
theorem dX7_init_19 : decode cX7_init 19 = .ok (.putfield 15, 3) := by decide +kernel
theorem dX7_init_22 : decode cX7_init 22 = .ok (.return_, 1) := by decide +kernel
theorem dX7_measure_0 : decode cX7_measure 0 = .ok (.aload_n 1, 1) := by decide +kernel
theorem dX7_measure_1 : decode cX7_measure 1 = .ok (.invokevirtual 18, 3) := by decide +kernel
theorem dX7_measure_4 : decode cX7_measure 4 = .ok (.istore_n 3, 1) := by decide +kernel
theorem dX7_measure_5 : decode cX7_measure 5 = .ok (.aload_n 1, 1) := by decide +kernel
theorem dX7_measure_6 : decode cX7_measure 6 = .ok (.invokevirtual 24, 3) := by decide +kernel
theorem dX7_measure_9 : decode cX7_measure 9 = .ok (.istore 4, 2) := by decide +kernel
theorem dX7_measure_11 : decode cX7_measure 11 = .ok (.iload 4, 2) := by decide +kernel
theorem dX7_measure_13 : decode cX7_measure 13 = .ok (.iload_n 3, 1) := by decide +kernel
theorem dX7_measure_14 : decode cX7_measure 14 = .ok (.if_icmp .lt 38, 3) := by decide +kernel
theorem dX7_measure_17 : decode cX7_measure 17 = .ok (.iload 4, 2) := by decide +kernel
theorem dX7_measure_19 : decode cX7_measure 19 = .ok (.iload_n 3, 1) := by decide +kernel
theorem dX7_measure_20 : decode cX7_measure 20 = .ok (.invokestatic 27, 3) := by decide +kernel
theorem dX7_measure_23 : decode cX7_measure 23 = .ok (.ifCond .eq 23, 3) := by decide +kernel
theorem dX7_measure_26 : decode cX7_measure 26 = .ok (.aload_n 1, 1) := by decide +kernel
theorem dX7_measure_27 : decode cX7_measure 27 = .ok (.invokevirtual 24, 3) := by decide +kernel
theorem dX7_measure_30 : decode cX7_measure 30 = .ok (.iload 4, 2) := by decide +kernel
theorem dX7_measure_32 : decode cX7_measure 32 = .ok (.invokestatic 27, 3) := by decide +kernel
theorem dX7_measure_35 : decode cX7_measure 35 = .ok (.ifCond .eq 11, 3) := by decide +kernel
theorem dX7_measure_38 : decode cX7_measure 38 = .ok (.aload_n 0, 1) := by decide +kernel
theorem dX7_measure_39 : decode cX7_measure 39 = .ok (.aload_n 1, 1) := by decide +kernel
theorem dX7_measure_40 : decode cX7_measure 40 = .ok (.iload 4, 2) := by decide +kernel
theorem dX7_measure_42 : decode cX7_measure 42 = .ok (.iload_n 2, 1) := by decide +kernel
theorem dX7_measure_43 : decode cX7_measure 43 = .ok (.invokevirtual 31, 3) := by decide +kernel
theorem dX7_measure_46 : decode cX7_measure 46 = .ok (.iinc 4 (-1), 3) := by decide +kernel
theorem dX7_measure_49 : decode cX7_measure 49 = .ok (.goto (-38), 3) := by decide +kernel
theorem dX7_measure_52 : decode cX7_measure 52 = .ok (.return_, 1) := by decide +kernel
theorem dX7_measureFrom_0 : decode cX7_measureFrom 0 = .ok (.sipush 1000, 3) := by decide +kernel
theorem dX7_measureFrom_3 : decode cX7_measureFrom 3 = .ok (.istore 4, 2) := by decide +kernel
theorem dX7_measureFrom_5 : decode cX7_measureFrom 5 = .ok (.iconst 0, 1) := by decide +kernel
theorem dX7_measureFrom_6 : decode cX7_measureFrom 6 = .ok (.istore 5, 2) := by decide +kernel
theorem dX7_measureFrom_8 : decode cX7_measureFrom 8 = .ok (.iload_n 2, 1) := by decide +kernel
theorem dX7_measureFrom_9 : decode cX7_measureFrom 9 = .ok (.iload_n 3, 1) := by decide +kernel
theorem dX7_measureFrom_10 : decode cX7_measureFrom 10 = .ok (.invokestatic 35, 3) := by decide +kernel
theorem dX7_measureFrom_13 : decode cX7_measureFrom 13 = .ok (.ifCond .eq 9, 3) := by decide +kernel
theorem dX7_measureFrom_16 : decode cX7_measureFrom 16 = .ok (.iconst 0, 1) := by decide +kernel
theorem dX7_measureFrom_17 : decode cX7_measureFrom 17 = .ok (.istore 4, 2) := by decide +kernel
theorem dX7_measureFrom_19 : decode cX7_measureFrom 19 = .ok (.iconst 1, 1) := by decide +kernel
theorem dX7_measureFrom_20 : decode cX7_measureFrom 20 = .ok (.istore 5, 2) := by decide +kernel
theorem dX7_measureFrom_22 : decode cX7_measureFrom 22 = .ok (.iconst 0, 1) := by decide +kernel
theorem dX7_measureFrom_23 : decode cX7_measureFrom 23 = .ok (.istore 6, 2) := by decide +kernel
theorem dX7_measureFrom_25 : decode cX7_measureFrom 25 = .ok (.iload 6, 2) := by decide +kernel
theorem dX7_measureFrom_27 : decode cX7_measureFrom 27 = .ok (.aload_n 1, 1) := by decide +kernel
theorem dX7_measureFrom_28 : decode cX7_measureFrom 28 = .ok (.invokevirtual 38, 3) := by decide +kernel
theorem dX7_measureFrom_31 : decode cX7_measureFrom 31 = .ok (.if_icmp .ge 78, 3) := by decide +kernel
theorem dX7_measureFrom_34 : decode cX7_measureFrom 34 = .ok (.iload 4, 2) := by decide +kernel
theorem dX7_measureFrom_36 : decode cX7_measureFrom 36 = .ok (.ifCond .le 73, 3) := by decide +kernel
theorem dX7_measureFrom_39 : decode cX7_measureFrom 39 = .ok (.aload_n 1, 1) := by decide +kernel
theorem dX7_measureFrom_40 : decode cX7_measureFrom 40 = .ok (.iload 6, 2) := by decide +kernel
theorem dX7_measureFrom_42 : decode cX7_measureFrom 42 = .ok (.iload_n 2, 1) := by decide +kernel
theorem dX7_measureFrom_43 : decode cX7_measureFrom 43 = .ok (.invokevirtual 41, 3) := by decide +kernel
theorem dX7_measureFrom_46 : decode cX7_measureFrom 46 = .ok (.istore 7, 2) := by decide +kernel
theorem dX7_measureFrom_48 : decode cX7_measureFrom 48 = .ok (.aload_n 0, 1) := by decide +kernel
theorem dX7_measureFrom_49 : decode cX7_measureFrom 49 = .ok (.getfield 9, 3) := by decide +kernel
theorem dX7_measureFrom_52 : decode cX7_measureFrom 52 = .ok (.iload 7, 2) := by decide +kernel
theorem dX7_measureFrom_54 : decode cX7_measureFrom 54 = .ok (.invokestatic 45, 3) := by decide +kernel
theorem dX7_measureFrom_57 : decode cX7_measureFrom 57 = .ok (.iconst 1, 1) := by decide +kernel
theorem dX7_measureFrom_58 : decode cX7_measureFrom 58 = .ok (.iadd, 1) := by decide +kernel
theorem dX7_measureFrom_59 : decode cX7_measureFrom 59 = .ok (.istore 8, 2) := by decide +kernel
theorem dX7_measureFrom_61 : decode cX7_measureFrom 61 = .ok (.iload 7, 2) := by decide +kernel
theorem dX7_measureFrom_63 : decode cX7_measureFrom 63 = .ok (.iload_n 2, 1) := by decide +kernel
theorem dX7_measureFrom_64 : decode cX7_measureFrom 64 = .ok (.if_icmp .eq 39, 3) := by decide +kernel
theorem dX7_measureFrom_67 : decode cX7_measureFrom 67 = .ok (.iload 8, 2) := by decide +kernel
theorem dX7_measureFrom_69 : decode cX7_measureFrom 69 = .ok (.iload 4, 2) := by decide +kernel
theorem dX7_measureFrom_71 : decode cX7_measureFrom 71 = .ok (.if_icmp .gt 32, 3) := by decide +kernel
theorem dX7_measureFrom_74 : decode cX7_measureFrom 74 = .ok (.aload_n 0, 1) := by decide +kernel
theorem dX7_measureFrom_75 : decode cX7_measureFrom 75 = .ok (.getfield 15, 3) := by decide +kernel
theorem dX7_measureFrom_78 : decode cX7_measureFrom 78 = .ok (.iload 7, 2) := by decide +kernel
theorem dX7_measureFrom_80 : decode cX7_measureFrom 80 = .ok (.invokestatic 45, 3) := by decide +kernel
theorem dX7_measureFrom_83 : decode cX7_measureFrom 83 = .ok (.iload 8, 2) := by decide +kernel
theorem dX7_measureFrom_85 : decode cX7_measureFrom 85 = .ok (.iload 4, 2) := by decide +kernel
theorem dX7_measureFrom_87 : decode cX7_measureFrom 87 = .ok (.if_icmp .ne 8, 3) := by decide +kernel
theorem dX7_measureFrom_90 : decode cX7_measureFrom 90 = .ok (.iload 5, 2) := by decide +kernel
theorem dX7_measureFrom_92 : decode cX7_measureFrom 92 = .ok (.goto 4, 3) := by decide +kernel
theorem dX7_measureFrom_95 : decode cX7_measureFrom 95 = .ok (.iconst 0, 1) := by decide +kernel
theorem dX7_measureFrom_96 : decode cX7_measureFrom 96 = .ok (.iadd, 1) := by decide +kernel
theorem dX7_measureFrom_97 : decode cX7_measureFrom 97 = .ok (.istore 5, 2) := by decide +kernel
theorem dX7_measureFrom_99 : decode cX7_measureFrom 99 = .ok (.iload 8, 2) := by decide +kernel
theorem dX7_measureFrom_101 : decode cX7_measureFrom 101 = .ok (.istore 4, 2) := by decide +kernel
theorem dX7_measureFrom_103 : decode cX7_measureFrom 103 = .ok (.iinc 6 1, 3) := by decide +kernel
theorem dX7_measureFrom_106 : decode cX7_measureFrom 106 = .ok (.goto (-81), 3) := by decide +kernel
theorem dX7_measureFrom_109 : decode cX7_measureFrom 109 = .ok (.aload_n 0, 1) := by decide +kernel
theorem dX7_measureFrom_110 : decode cX7_measureFrom 110 = .ok (.getfield 9, 3) := by decide +kernel
theorem dX7_measureFrom_113 : decode cX7_measureFrom 113 = .ok (.iload_n 2, 1) := by decide +kernel
theorem dX7_measureFrom_114 : decode cX7_measureFrom 114 = .ok (.iload 4, 2) := by decide +kernel
theorem dX7_measureFrom_116 : decode cX7_measureFrom 116 = .ok (.invokestatic 49, 3) := by decide +kernel
theorem dX7_measureFrom_119 : decode cX7_measureFrom 119 = .ok (.aload_n 0, 1) := by decide +kernel
theorem dX7_measureFrom_120 : decode cX7_measureFrom 120 = .ok (.getfield 15, 3) := by decide +kernel
theorem dX7_measureFrom_123 : decode cX7_measureFrom 123 = .ok (.iload_n 2, 1) := by decide +kernel
theorem dX7_measureFrom_124 : decode cX7_measureFrom 124 = .ok (.iload 5, 2) := by decide +kernel
theorem dX7_measureFrom_126 : decode cX7_measureFrom 126 = .ok (.invokestatic 49, 3) := by decide +kernel
theorem dX7_measureFrom_129 : decode cX7_measureFrom 129 = .ok (.return_, 1) := by decide +kernel
theorem dX7_fewestSteps_0 : decode cX7_fewestSteps 0 = .ok (.aload_n 0, 1) := by decide +kernel
theorem dX7_fewestSteps_1 : decode cX7_fewestSteps 1 = .ok (.getfield 9, 3) := by decide +kernel
theorem dX7_fewestSteps_4 : decode cX7_fewestSteps 4 = .ok (.aload_n 1, 1) := by decide +kernel
theorem dX7_fewestSteps_5 : decode cX7_fewestSteps 5 = .ok (.invokevirtual 18, 3) := by decide +kernel
theorem dX7_fewestSteps_8 : decode cX7_fewestSteps 8 = .ok (.invokestatic 45, 3) := by decide +kernel
theorem dX7_fewestSteps_11 : decode cX7_fewestSteps 11 = .ok (.istore_n 2, 1) := by decide +kernel
theorem dX7_fewestSteps_12 : decode cX7_fewestSteps 12 = .ok (.iload_n 2, 1) := by decide +kernel
theorem dX7_fewestSteps_13 : decode cX7_fewestSteps 13 = .ok (.sipush 1000, 3) := by decide +kernel
theorem dX7_fewestSteps_16 : decode cX7_fewestSteps 16 = .ok (.if_icmp .ne 8, 3) := by decide +kernel
theorem dX7_fewestSteps_19 : decode cX7_fewestSteps 19 = .ok (.bipush (-4), 2) := by decide +kernel
theorem dX7_fewestSteps_21 : decode cX7_fewestSteps 21 = .ok (.goto 4, 3) := by decide +kernel
theorem dX7_fewestSteps_24 : decode cX7_fewestSteps 24 = .ok (.iload_n 2, 1) := by decide +kernel
theorem dX7_fewestSteps_25 : decode cX7_fewestSteps 25 = .ok (.ireturn, 1) := by decide +kernel
theorem dX7_lowestFirstStep_0 : decode cX7_lowestFirstStep 0 = .ok (.aload_n 1, 1) := by decide +kernel
theorem dX7_lowestFirstStep_1 : decode cX7_lowestFirstStep 1 = .ok (.invokevirtual 18, 3) := by decide +kernel
theorem dX7_lowestFirstStep_4 : decode cX7_lowestFirstStep 4 = .ok (.istore_n 2, 1) := by decide +kernel
theorem dX7_lowestFirstStep_5 : decode cX7_lowestFirstStep 5 = .ok (.aload_n 0, 1) := by decide +kernel
theorem dX7_lowestFirstStep_6 : decode cX7_lowestFirstStep 6 = .ok (.aload_n 1, 1) := by decide +kernel
theorem dX7_lowestFirstStep_7 : decode cX7_lowestFirstStep 7 = .ok (.invokevirtual 53, 3) := by decide +kernel
theorem dX7_lowestFirstStep_10 : decode cX7_lowestFirstStep 10 = .ok (.istore_n 3, 1) := by decide +kernel
theorem dX7_lowestFirstStep_11 : decode cX7_lowestFirstStep 11 = .ok (.iconst 0, 1) := by decide +kernel
theorem dX7_lowestFirstStep_12 : decode cX7_lowestFirstStep 12 = .ok (.istore 4, 2) := by decide +kernel
theorem dX7_lowestFirstStep_14 : decode cX7_lowestFirstStep 14 = .ok (.iload 4, 2) := by decide +kernel
theorem dX7_lowestFirstStep_16 : decode cX7_lowestFirstStep 16 = .ok (.aload_n 1, 1) := by decide +kernel
theorem dX7_lowestFirstStep_17 : decode cX7_lowestFirstStep 17 = .ok (.invokevirtual 38, 3) := by decide +kernel
theorem dX7_lowestFirstStep_20 : decode cX7_lowestFirstStep 20 = .ok (.if_icmp .ge 46, 3) := by decide +kernel
theorem dX7_lowestFirstStep_23 : decode cX7_lowestFirstStep 23 = .ok (.iload_n 3, 1) := by decide +kernel
theorem dX7_lowestFirstStep_24 : decode cX7_lowestFirstStep 24 = .ok (.ifCond .le 42, 3) := by decide +kernel
theorem dX7_lowestFirstStep_27 : decode cX7_lowestFirstStep 27 = .ok (.aload_n 1, 1) := by decide +kernel
theorem dX7_lowestFirstStep_28 : decode cX7_lowestFirstStep 28 = .ok (.iload 4, 2) := by decide +kernel
theorem dX7_lowestFirstStep_30 : decode cX7_lowestFirstStep 30 = .ok (.iload_n 2, 1) := by decide +kernel
theorem dX7_lowestFirstStep_31 : decode cX7_lowestFirstStep 31 = .ok (.invokevirtual 41, 3) := by decide +kernel
theorem dX7_lowestFirstStep_34 : decode cX7_lowestFirstStep 34 = .ok (.istore 5, 2) := by decide +kernel
theorem dX7_lowestFirstStep_36 : decode cX7_lowestFirstStep 36 = .ok (.iload 5, 2) := by decide +kernel
theorem dX7_lowestFirstStep_38 : decode cX7_lowestFirstStep 38 = .ok (.iload_n 2, 1) := by decide +kernel
theorem dX7_lowestFirstStep_39 : decode cX7_lowestFirstStep 39 = .ok (.if_icmp .eq 21, 3) := by decide +kernel
theorem dX7_lowestFirstStep_42 : decode cX7_lowestFirstStep 42 = .ok (.aload_n 0, 1) := by decide +kernel
theorem dX7_lowestFirstStep_43 : decode cX7_lowestFirstStep 43 = .ok (.getfield 9, 3) := by decide +kernel
theorem dX7_lowestFirstStep_46 : decode cX7_lowestFirstStep 46 = .ok (.iload 5, 2) := by decide +kernel
theorem dX7_lowestFirstStep_48 : decode cX7_lowestFirstStep 48 = .ok (.invokestatic 45, 3) := by decide +kernel
theorem dX7_lowestFirstStep_51 : decode cX7_lowestFirstStep 51 = .ok (.iload_n 3, 1) := by decide +kernel
theorem dX7_lowestFirstStep_52 : decode cX7_lowestFirstStep 52 = .ok (.iconst 1, 1) := by decide +kernel
theorem dX7_lowestFirstStep_53 : decode cX7_lowestFirstStep 53 = .ok (.isub, 1) := by decide +kernel
theorem dX7_lowestFirstStep_54 : decode cX7_lowestFirstStep 54 = .ok (.if_icmp .ne 6, 3) := by decide +kernel
theorem dX7_lowestFirstStep_57 : decode cX7_lowestFirstStep 57 = .ok (.iload 4, 2) := by decide +kernel
theorem dX7_lowestFirstStep_59 : decode cX7_lowestFirstStep 59 = .ok (.ireturn, 1) := by decide +kernel
theorem dX7_lowestFirstStep_60 : decode cX7_lowestFirstStep 60 = .ok (.iinc 4 1, 3) := by decide +kernel
theorem dX7_lowestFirstStep_63 : decode cX7_lowestFirstStep 63 = .ok (.goto (-49), 3) := by decide +kernel
theorem dX7_lowestFirstStep_66 : decode cX7_lowestFirstStep 66 = .ok (.bipush (-4), 2) := by decide +kernel
theorem dX7_lowestFirstStep_68 : decode cX7_lowestFirstStep 68 = .ok (.ireturn, 1) := by decide +kernel
theorem dX7_howManyRows_0 : decode cX7_howManyRows 0 = .ok (.aload_n 0, 1) := by decide +kernel
theorem dX7_howManyRows_1 : decode cX7_howManyRows 1 = .ok (.aload_n 1, 1) := by decide +kernel
theorem dX7_howManyRows_2 : decode cX7_howManyRows 2 = .ok (.invokevirtual 53, 3) := by decide +kernel
theorem dX7_howManyRows_5 : decode cX7_howManyRows 5 = .ok (.bipush (-4), 2) := by decide +kernel
theorem dX7_howManyRows_7 : decode cX7_howManyRows 7 = .ok (.if_icmp .ne 8, 3) := by decide +kernel
theorem dX7_howManyRows_10 : decode cX7_howManyRows 10 = .ok (.bipush (-4), 2) := by decide +kernel
theorem dX7_howManyRows_12 : decode cX7_howManyRows 12 = .ok (.goto 14, 3) := by decide +kernel
theorem dX7_howManyRows_15 : decode cX7_howManyRows 15 = .ok (.aload_n 0, 1) := by decide +kernel
theorem dX7_howManyRows_16 : decode cX7_howManyRows 16 = .ok (.getfield 15, 3) := by decide +kernel
theorem dX7_howManyRows_19 : decode cX7_howManyRows 19 = .ok (.aload_n 1, 1) := by decide +kernel
theorem dX7_howManyRows_20 : decode cX7_howManyRows 20 = .ok (.invokevirtual 18, 3) := by decide +kernel
theorem dX7_howManyRows_23 : decode cX7_howManyRows 23 = .ok (.invokestatic 45, 3) := by decide +kernel
theorem dX7_howManyRows_26 : decode cX7_howManyRows 26 = .ok (.ireturn, 1) := by decide +kernel
theorem dX7_rounds_0 : decode cX7_rounds 0 = .ok (.aload_n 0, 1) := by decide +kernel
theorem dX7_rounds_1 : decode cX7_rounds 1 = .ok (.invokevirtual 18, 3) := by decide +kernel
theorem dX7_rounds_4 : decode cX7_rounds 4 = .ok (.istore_n 2, 1) := by decide +kernel
theorem dX7_rounds_5 : decode cX7_rounds 5 = .ok (.iconst 0, 1) := by decide +kernel
theorem dX7_rounds_6 : decode cX7_rounds 6 = .ok (.istore_n 3, 1) := by decide +kernel
theorem dX7_rounds_7 : decode cX7_rounds 7 = .ok (.iload_n 3, 1) := by decide +kernel
theorem dX7_rounds_8 : decode cX7_rounds 8 = .ok (.bipush 10, 2) := by decide +kernel
theorem dX7_rounds_10 : decode cX7_rounds 10 = .ok (.if_icmp .gt 25, 3) := by decide +kernel
theorem dX7_rounds_13 : decode cX7_rounds 13 = .ok (.iload_n 2, 1) := by decide +kernel
theorem dX7_rounds_14 : decode cX7_rounds 14 = .ok (.iload_n 1, 1) := by decide +kernel
theorem dX7_rounds_15 : decode cX7_rounds 15 = .ok (.invokestatic 35, 3) := by decide +kernel
theorem dX7_rounds_18 : decode cX7_rounds 18 = .ok (.ifCond .eq 5, 3) := by decide +kernel
theorem dX7_rounds_21 : decode cX7_rounds 21 = .ok (.iload_n 3, 1) := by decide +kernel
theorem dX7_rounds_22 : decode cX7_rounds 22 = .ok (.ireturn, 1) := by decide +kernel
theorem dX7_rounds_23 : decode cX7_rounds 23 = .ok (.aload_n 0, 1) := by decide +kernel
theorem dX7_rounds_24 : decode cX7_rounds 24 = .ok (.iload_n 2, 1) := by decide +kernel
theorem dX7_rounds_25 : decode cX7_rounds 25 = .ok (.invokestatic 57, 3) := by decide +kernel
theorem dX7_rounds_28 : decode cX7_rounds 28 = .ok (.istore_n 2, 1) := by decide +kernel
theorem dX7_rounds_29 : decode cX7_rounds 29 = .ok (.iinc 3 1, 3) := by decide +kernel
theorem dX7_rounds_32 : decode cX7_rounds 32 = .ok (.goto (-25), 3) := by decide +kernel
theorem dX7_rounds_35 : decode cX7_rounds 35 = .ok (.bipush (-4), 2) := by decide +kernel
theorem dX7_rounds_37 : decode cX7_rounds 37 = .ok (.ireturn, 1) := by decide +kernel
theorem dX7_afterAllAtOnce_0 : decode cX7_afterAllAtOnce 0 = .ok (.iload_n 1, 1) := by decide +kernel
theorem dX7_afterAllAtOnce_1 : decode cX7_afterAllAtOnce 1 = .ok (.istore_n 2, 1) := by decide +kernel
theorem dX7_afterAllAtOnce_2 : decode cX7_afterAllAtOnce 2 = .ok (.iconst 0, 1) := by decide +kernel
theorem dX7_afterAllAtOnce_3 : decode cX7_afterAllAtOnce 3 = .ok (.istore_n 3, 1) := by decide +kernel
theorem dX7_afterAllAtOnce_4 : decode cX7_afterAllAtOnce 4 = .ok (.iload_n 3, 1) := by decide +kernel
theorem dX7_afterAllAtOnce_5 : decode cX7_afterAllAtOnce 5 = .ok (.aload_n 0, 1) := by decide +kernel
theorem dX7_afterAllAtOnce_6 : decode cX7_afterAllAtOnce 6 = .ok (.invokevirtual 38, 3) := by decide +kernel
theorem dX7_afterAllAtOnce_9 : decode cX7_afterAllAtOnce 9 = .ok (.if_icmp .ge 18, 3) := by decide +kernel
theorem dX7_afterAllAtOnce_12 : decode cX7_afterAllAtOnce 12 = .ok (.iload_n 2, 1) := by decide +kernel
theorem dX7_afterAllAtOnce_13 : decode cX7_afterAllAtOnce 13 = .ok (.aload_n 0, 1) := by decide +kernel
theorem dX7_afterAllAtOnce_14 : decode cX7_afterAllAtOnce 14 = .ok (.iload_n 3, 1) := by decide +kernel
theorem dX7_afterAllAtOnce_15 : decode cX7_afterAllAtOnce 15 = .ok (.iload_n 1, 1) := by decide +kernel
theorem dX7_afterAllAtOnce_16 : decode cX7_afterAllAtOnce 16 = .ok (.invokevirtual 41, 3) := by decide +kernel
theorem dX7_afterAllAtOnce_19 : decode cX7_afterAllAtOnce 19 = .ok (.ior, 1) := by decide +kernel
theorem dX7_afterAllAtOnce_20 : decode cX7_afterAllAtOnce 20 = .ok (.istore_n 2, 1) := by decide +kernel
theorem dX7_afterAllAtOnce_21 : decode cX7_afterAllAtOnce 21 = .ok (.iinc 3 1, 3) := by decide +kernel
theorem dX7_afterAllAtOnce_24 : decode cX7_afterAllAtOnce 24 = .ok (.goto (-20), 3) := by decide +kernel
theorem dX7_afterAllAtOnce_27 : decode cX7_afterAllAtOnce 27 = .ok (.iload_n 2, 1) := by decide +kernel
theorem dX7_afterAllAtOnce_28 : decode cX7_afterAllAtOnce 28 = .ok (.ireturn, 1) := by decide +kernel
theorem dJ6_numberOfTrailingZeros_0f7a4_0 : decode cJ6_numberOfTrailingZeros_0f7a4 0 = .ok (.iload_n 0, 1) := by decide +kernel
theorem dJ6_numberOfTrailingZeros_0f7a4_1 : decode cJ6_numberOfTrailingZeros_0f7a4 1 = .ok (.iconst (-1), 1) := by decide +kernel
theorem dJ6_numberOfTrailingZeros_0f7a4_2 : decode cJ6_numberOfTrailingZeros_0f7a4 2 = .ok (.ixor, 1) := by decide +kernel
theorem dJ6_numberOfTrailingZeros_0f7a4_3 : decode cJ6_numberOfTrailingZeros_0f7a4 3 = .ok (.iload_n 0, 1) := by decide +kernel
theorem dJ6_numberOfTrailingZeros_0f7a4_4 : decode cJ6_numberOfTrailingZeros_0f7a4 4 = .ok (.iconst 1, 1) := by decide +kernel
theorem dJ6_numberOfTrailingZeros_0f7a4_5 : decode cJ6_numberOfTrailingZeros_0f7a4 5 = .ok (.isub, 1) := by decide +kernel
theorem dJ6_numberOfTrailingZeros_0f7a4_6 : decode cJ6_numberOfTrailingZeros_0f7a4 6 = .ok (.iand, 1) := by decide +kernel
theorem dJ6_numberOfTrailingZeros_0f7a4_7 : decode cJ6_numberOfTrailingZeros_0f7a4 7 = .ok (.istore_n 0, 1) := by decide +kernel
theorem dJ6_numberOfTrailingZeros_0f7a4_8 : decode cJ6_numberOfTrailingZeros_0f7a4 8 = .ok (.iload_n 0, 1) := by decide +kernel
theorem dJ6_numberOfTrailingZeros_0f7a4_9 : decode cJ6_numberOfTrailingZeros_0f7a4 9 = .ok (.ifCond .gt 8, 3) := by decide +kernel
theorem dJ6_numberOfTrailingZeros_0f7a4_12 : decode cJ6_numberOfTrailingZeros_0f7a4 12 = .ok (.iload_n 0, 1) := by decide +kernel
theorem dJ6_numberOfTrailingZeros_0f7a4_13 : decode cJ6_numberOfTrailingZeros_0f7a4 13 = .ok (.bipush 32, 2) := by decide +kernel
theorem dJ6_numberOfTrailingZeros_0f7a4_15 : decode cJ6_numberOfTrailingZeros_0f7a4 15 = .ok (.iand, 1) := by decide +kernel
theorem dJ6_numberOfTrailingZeros_0f7a4_16 : decode cJ6_numberOfTrailingZeros_0f7a4 16 = .ok (.ireturn, 1) := by decide +kernel
theorem dJ6_numberOfTrailingZeros_0f7a4_17 : decode cJ6_numberOfTrailingZeros_0f7a4 17 = .ok (.iconst 1, 1) := by decide +kernel
theorem dJ6_numberOfTrailingZeros_0f7a4_18 : decode cJ6_numberOfTrailingZeros_0f7a4 18 = .ok (.istore_n 1, 1) := by decide +kernel
theorem dJ6_numberOfTrailingZeros_0f7a4_19 : decode cJ6_numberOfTrailingZeros_0f7a4 19 = .ok (.iload_n 0, 1) := by decide +kernel
theorem dJ6_numberOfTrailingZeros_0f7a4_20 : decode cJ6_numberOfTrailingZeros_0f7a4 20 = .ok (.ldc_w 264, 3) := by decide +kernel
theorem dJ6_numberOfTrailingZeros_0f7a4_23 : decode cJ6_numberOfTrailingZeros_0f7a4 23 = .ok (.if_icmp .le 11, 3) := by decide +kernel
theorem dJ6_numberOfTrailingZeros_0f7a4_26 : decode cJ6_numberOfTrailingZeros_0f7a4 26 = .ok (.iinc 1 16, 3) := by decide +kernel
theorem dJ6_numberOfTrailingZeros_0f7a4_29 : decode cJ6_numberOfTrailingZeros_0f7a4 29 = .ok (.iload_n 0, 1) := by decide +kernel
theorem dJ6_numberOfTrailingZeros_0f7a4_30 : decode cJ6_numberOfTrailingZeros_0f7a4 30 = .ok (.bipush 16, 2) := by decide +kernel
theorem dJ6_numberOfTrailingZeros_0f7a4_32 : decode cJ6_numberOfTrailingZeros_0f7a4 32 = .ok (.iushr, 1) := by decide +kernel
theorem dJ6_numberOfTrailingZeros_0f7a4_33 : decode cJ6_numberOfTrailingZeros_0f7a4 33 = .ok (.istore_n 0, 1) := by decide +kernel
theorem dJ6_numberOfTrailingZeros_0f7a4_34 : decode cJ6_numberOfTrailingZeros_0f7a4 34 = .ok (.iload_n 0, 1) := by decide +kernel
theorem dJ6_numberOfTrailingZeros_0f7a4_35 : decode cJ6_numberOfTrailingZeros_0f7a4 35 = .ok (.sipush 256, 3) := by decide +kernel
theorem dJ6_numberOfTrailingZeros_0f7a4_38 : decode cJ6_numberOfTrailingZeros_0f7a4 38 = .ok (.if_icmp .le 11, 3) := by decide +kernel
theorem dJ6_numberOfTrailingZeros_0f7a4_41 : decode cJ6_numberOfTrailingZeros_0f7a4 41 = .ok (.iinc 1 8, 3) := by decide +kernel
theorem dJ6_numberOfTrailingZeros_0f7a4_44 : decode cJ6_numberOfTrailingZeros_0f7a4 44 = .ok (.iload_n 0, 1) := by decide +kernel
theorem dJ6_numberOfTrailingZeros_0f7a4_45 : decode cJ6_numberOfTrailingZeros_0f7a4 45 = .ok (.bipush 8, 2) := by decide +kernel
theorem dJ6_numberOfTrailingZeros_0f7a4_47 : decode cJ6_numberOfTrailingZeros_0f7a4 47 = .ok (.iushr, 1) := by decide +kernel
theorem dJ6_numberOfTrailingZeros_0f7a4_48 : decode cJ6_numberOfTrailingZeros_0f7a4 48 = .ok (.istore_n 0, 1) := by decide +kernel
theorem dJ6_numberOfTrailingZeros_0f7a4_49 : decode cJ6_numberOfTrailingZeros_0f7a4 49 = .ok (.iload_n 0, 1) := by decide +kernel
theorem dJ6_numberOfTrailingZeros_0f7a4_50 : decode cJ6_numberOfTrailingZeros_0f7a4 50 = .ok (.bipush 16, 2) := by decide +kernel
theorem dJ6_numberOfTrailingZeros_0f7a4_52 : decode cJ6_numberOfTrailingZeros_0f7a4 52 = .ok (.if_icmp .le 10, 3) := by decide +kernel
theorem dJ6_numberOfTrailingZeros_0f7a4_55 : decode cJ6_numberOfTrailingZeros_0f7a4 55 = .ok (.iinc 1 4, 3) := by decide +kernel
theorem dJ6_numberOfTrailingZeros_0f7a4_58 : decode cJ6_numberOfTrailingZeros_0f7a4 58 = .ok (.iload_n 0, 1) := by decide +kernel
theorem dJ6_numberOfTrailingZeros_0f7a4_59 : decode cJ6_numberOfTrailingZeros_0f7a4 59 = .ok (.iconst 4, 1) := by decide +kernel
theorem dJ6_numberOfTrailingZeros_0f7a4_60 : decode cJ6_numberOfTrailingZeros_0f7a4 60 = .ok (.iushr, 1) := by decide +kernel
theorem dJ6_numberOfTrailingZeros_0f7a4_61 : decode cJ6_numberOfTrailingZeros_0f7a4 61 = .ok (.istore_n 0, 1) := by decide +kernel
theorem dJ6_numberOfTrailingZeros_0f7a4_62 : decode cJ6_numberOfTrailingZeros_0f7a4 62 = .ok (.iload_n 0, 1) := by decide +kernel
theorem dJ6_numberOfTrailingZeros_0f7a4_63 : decode cJ6_numberOfTrailingZeros_0f7a4 63 = .ok (.iconst 4, 1) := by decide +kernel
theorem dJ6_numberOfTrailingZeros_0f7a4_64 : decode cJ6_numberOfTrailingZeros_0f7a4 64 = .ok (.if_icmp .le 10, 3) := by decide +kernel
theorem dJ6_numberOfTrailingZeros_0f7a4_67 : decode cJ6_numberOfTrailingZeros_0f7a4 67 = .ok (.iinc 1 2, 3) := by decide +kernel
theorem dJ6_numberOfTrailingZeros_0f7a4_70 : decode cJ6_numberOfTrailingZeros_0f7a4 70 = .ok (.iload_n 0, 1) := by decide +kernel
theorem dJ6_numberOfTrailingZeros_0f7a4_71 : decode cJ6_numberOfTrailingZeros_0f7a4 71 = .ok (.iconst 2, 1) := by decide +kernel
theorem dJ6_numberOfTrailingZeros_0f7a4_72 : decode cJ6_numberOfTrailingZeros_0f7a4 72 = .ok (.iushr, 1) := by decide +kernel
theorem dJ6_numberOfTrailingZeros_0f7a4_73 : decode cJ6_numberOfTrailingZeros_0f7a4 73 = .ok (.istore_n 0, 1) := by decide +kernel
theorem dJ6_numberOfTrailingZeros_0f7a4_74 : decode cJ6_numberOfTrailingZeros_0f7a4 74 = .ok (.iload_n 1, 1) := by decide +kernel
theorem dJ6_numberOfTrailingZeros_0f7a4_75 : decode cJ6_numberOfTrailingZeros_0f7a4 75 = .ok (.iload_n 0, 1) := by decide +kernel
theorem dJ6_numberOfTrailingZeros_0f7a4_76 : decode cJ6_numberOfTrailingZeros_0f7a4 76 = .ok (.iconst 1, 1) := by decide +kernel
theorem dJ6_numberOfTrailingZeros_0f7a4_77 : decode cJ6_numberOfTrailingZeros_0f7a4 77 = .ok (.iushr, 1) := by decide +kernel
theorem dJ6_numberOfTrailingZeros_0f7a4_78 : decode cJ6_numberOfTrailingZeros_0f7a4 78 = .ok (.iadd, 1) := by decide +kernel
theorem dJ6_numberOfTrailingZeros_0f7a4_79 : decode cJ6_numberOfTrailingZeros_0f7a4 79 = .ok (.ireturn, 1) := by decide +kernel
theorem dJ6_bitCount_0f7a4_0 : decode cJ6_bitCount_0f7a4 0 = .ok (.iload_n 0, 1) := by decide +kernel
theorem dJ6_bitCount_0f7a4_1 : decode cJ6_bitCount_0f7a4 1 = .ok (.iload_n 0, 1) := by decide +kernel
theorem dJ6_bitCount_0f7a4_2 : decode cJ6_bitCount_0f7a4 2 = .ok (.iconst 1, 1) := by decide +kernel
theorem dJ6_bitCount_0f7a4_3 : decode cJ6_bitCount_0f7a4 3 = .ok (.iushr, 1) := by decide +kernel
theorem dJ6_bitCount_0f7a4_4 : decode cJ6_bitCount_0f7a4 4 = .ok (.ldc_w 265, 3) := by decide +kernel
theorem dJ6_bitCount_0f7a4_7 : decode cJ6_bitCount_0f7a4 7 = .ok (.iand, 1) := by decide +kernel
theorem dJ6_bitCount_0f7a4_8 : decode cJ6_bitCount_0f7a4 8 = .ok (.isub, 1) := by decide +kernel
theorem dJ6_bitCount_0f7a4_9 : decode cJ6_bitCount_0f7a4 9 = .ok (.istore_n 0, 1) := by decide +kernel
theorem dJ6_bitCount_0f7a4_10 : decode cJ6_bitCount_0f7a4 10 = .ok (.iload_n 0, 1) := by decide +kernel
theorem dJ6_bitCount_0f7a4_11 : decode cJ6_bitCount_0f7a4 11 = .ok (.ldc_w 266, 3) := by decide +kernel
theorem dJ6_bitCount_0f7a4_14 : decode cJ6_bitCount_0f7a4 14 = .ok (.iand, 1) := by decide +kernel
theorem dJ6_bitCount_0f7a4_15 : decode cJ6_bitCount_0f7a4 15 = .ok (.iload_n 0, 1) := by decide +kernel
theorem dJ6_bitCount_0f7a4_16 : decode cJ6_bitCount_0f7a4 16 = .ok (.iconst 2, 1) := by decide +kernel
theorem dJ6_bitCount_0f7a4_17 : decode cJ6_bitCount_0f7a4 17 = .ok (.iushr, 1) := by decide +kernel
theorem dJ6_bitCount_0f7a4_18 : decode cJ6_bitCount_0f7a4 18 = .ok (.ldc_w 266, 3) := by decide +kernel
theorem dJ6_bitCount_0f7a4_21 : decode cJ6_bitCount_0f7a4 21 = .ok (.iand, 1) := by decide +kernel
theorem dJ6_bitCount_0f7a4_22 : decode cJ6_bitCount_0f7a4 22 = .ok (.iadd, 1) := by decide +kernel
theorem dJ6_bitCount_0f7a4_23 : decode cJ6_bitCount_0f7a4 23 = .ok (.istore_n 0, 1) := by decide +kernel
theorem dJ6_bitCount_0f7a4_24 : decode cJ6_bitCount_0f7a4 24 = .ok (.iload_n 0, 1) := by decide +kernel
theorem dJ6_bitCount_0f7a4_25 : decode cJ6_bitCount_0f7a4 25 = .ok (.iload_n 0, 1) := by decide +kernel
theorem dJ6_bitCount_0f7a4_26 : decode cJ6_bitCount_0f7a4 26 = .ok (.iconst 4, 1) := by decide +kernel
theorem dJ6_bitCount_0f7a4_27 : decode cJ6_bitCount_0f7a4 27 = .ok (.iushr, 1) := by decide +kernel
theorem dJ6_bitCount_0f7a4_28 : decode cJ6_bitCount_0f7a4 28 = .ok (.iadd, 1) := by decide +kernel
theorem dJ6_bitCount_0f7a4_29 : decode cJ6_bitCount_0f7a4 29 = .ok (.ldc_w 267, 3) := by decide +kernel
theorem dJ6_bitCount_0f7a4_32 : decode cJ6_bitCount_0f7a4 32 = .ok (.iand, 1) := by decide +kernel
theorem dJ6_bitCount_0f7a4_33 : decode cJ6_bitCount_0f7a4 33 = .ok (.istore_n 0, 1) := by decide +kernel
theorem dJ6_bitCount_0f7a4_34 : decode cJ6_bitCount_0f7a4 34 = .ok (.iload_n 0, 1) := by decide +kernel
theorem dJ6_bitCount_0f7a4_35 : decode cJ6_bitCount_0f7a4 35 = .ok (.iload_n 0, 1) := by decide +kernel
theorem dJ6_bitCount_0f7a4_36 : decode cJ6_bitCount_0f7a4 36 = .ok (.bipush 8, 2) := by decide +kernel
theorem dJ6_bitCount_0f7a4_38 : decode cJ6_bitCount_0f7a4 38 = .ok (.iushr, 1) := by decide +kernel
theorem dJ6_bitCount_0f7a4_39 : decode cJ6_bitCount_0f7a4 39 = .ok (.iadd, 1) := by decide +kernel
theorem dJ6_bitCount_0f7a4_40 : decode cJ6_bitCount_0f7a4 40 = .ok (.istore_n 0, 1) := by decide +kernel
theorem dJ6_bitCount_0f7a4_41 : decode cJ6_bitCount_0f7a4 41 = .ok (.iload_n 0, 1) := by decide +kernel
theorem dJ6_bitCount_0f7a4_42 : decode cJ6_bitCount_0f7a4 42 = .ok (.iload_n 0, 1) := by decide +kernel
theorem dJ6_bitCount_0f7a4_43 : decode cJ6_bitCount_0f7a4 43 = .ok (.bipush 16, 2) := by decide +kernel
theorem dJ6_bitCount_0f7a4_45 : decode cJ6_bitCount_0f7a4 45 = .ok (.iushr, 1) := by decide +kernel
theorem dJ6_bitCount_0f7a4_46 : decode cJ6_bitCount_0f7a4 46 = .ok (.iadd, 1) := by decide +kernel
theorem dJ6_bitCount_0f7a4_47 : decode cJ6_bitCount_0f7a4 47 = .ok (.istore_n 0, 1) := by decide +kernel
theorem dJ6_bitCount_0f7a4_48 : decode cJ6_bitCount_0f7a4 48 = .ok (.iload_n 0, 1) := by decide +kernel
theorem dJ6_bitCount_0f7a4_49 : decode cJ6_bitCount_0f7a4 49 = .ok (.bipush 63, 2) := by decide +kernel
theorem dJ6_bitCount_0f7a4_51 : decode cJ6_bitCount_0f7a4 51 = .ok (.iand, 1) := by decide +kernel
theorem dJ6_bitCount_0f7a4_52 : decode cJ6_bitCount_0f7a4 52 = .ok (.ireturn, 1) := by decide +kernel
theorem dJ0_length_8abf5_0 : decode cJ0_length_8abf5 0 = .ok (.aload_n 0, 1) := by decide +kernel
theorem dJ0_length_8abf5_1 : decode cJ0_length_8abf5 1 = .ok (.getfield 9, 3) := by decide +kernel
theorem dJ0_length_8abf5_4 : decode cJ0_length_8abf5 4 = .ok (.arraylength, 1) := by decide +kernel
theorem dJ0_length_8abf5_5 : decode cJ0_length_8abf5 5 = .ok (.aload_n 0, 1) := by decide +kernel
theorem dJ0_length_8abf5_6 : decode cJ0_length_8abf5 6 = .ok (.invokevirtual 335, 3) := by decide +kernel
theorem dJ0_length_8abf5_9 : decode cJ0_length_8abf5 9 = .ok (.ishr, 1) := by decide +kernel
theorem dJ0_length_8abf5_10 : decode cJ0_length_8abf5 10 = .ok (.ireturn, 1) := by decide +kernel
theorem dJ0_charAt_5068e_0 : decode cJ0_charAt_5068e 0 = .ok (.aload_n 0, 1) := by decide +kernel
theorem dJ0_charAt_5068e_1 : decode cJ0_charAt_5068e 1 = .ok (.invokevirtual 492, 3) := by decide +kernel
theorem dJ0_charAt_5068e_4 : decode cJ0_charAt_5068e 4 = .ok (.ifCond .eq 12, 3) := by decide +kernel
theorem dJ0_charAt_5068e_7 : decode cJ0_charAt_5068e 7 = .ok (.aload_n 0, 1) := by decide +kernel
theorem dJ0_charAt_5068e_8 : decode cJ0_charAt_5068e 8 = .ok (.getfield 9, 3) := by decide +kernel
theorem dJ0_charAt_5068e_11 : decode cJ0_charAt_5068e 11 = .ok (.iload_n 1, 1) := by decide +kernel
theorem dJ0_charAt_5068e_12 : decode cJ0_charAt_5068e 12 = .ok (.invokestatic 495, 3) := by decide +kernel
theorem dJ0_charAt_5068e_15 : decode cJ0_charAt_5068e 15 = .ok (.ireturn, 1) := by decide +kernel
theorem dJ0_charAt_5068e_16 : decode cJ0_charAt_5068e 16 = .ok (.aload_n 0, 1) := by decide +kernel
theorem dJ0_charAt_5068e_17 : decode cJ0_charAt_5068e 17 = .ok (.getfield 9, 3) := by decide +kernel
theorem dJ0_charAt_5068e_20 : decode cJ0_charAt_5068e 20 = .ok (.iload_n 1, 1) := by decide +kernel
theorem dJ0_charAt_5068e_21 : decode cJ0_charAt_5068e 21 = .ok (.invokestatic 498, 3) := by decide +kernel
theorem dJ0_charAt_5068e_24 : decode cJ0_charAt_5068e 24 = .ok (.ireturn, 1) := by decide +kernel
theorem dJ0_coder_7d493_0 : decode cJ0_coder_7d493 0 = .ok (.getstatic 38, 3) := by decide +kernel
theorem dJ0_coder_7d493_3 : decode cJ0_coder_7d493 3 = .ok (.ifCond .eq 10, 3) := by decide +kernel
theorem dJ0_coder_7d493_6 : decode cJ0_coder_7d493 6 = .ok (.aload_n 0, 1) := by decide +kernel
theorem dJ0_coder_7d493_7 : decode cJ0_coder_7d493 7 = .ok (.getfield 15, 3) := by decide +kernel
theorem dJ0_coder_7d493_10 : decode cJ0_coder_7d493 10 = .ok (.goto 4, 3) := by decide +kernel
theorem dJ0_coder_7d493_13 : decode cJ0_coder_7d493 13 = .ok (.iconst 1, 1) := by decide +kernel
theorem dJ0_coder_7d493_14 : decode cJ0_coder_7d493 14 = .ok (.ireturn, 1) := by decide +kernel
theorem dJ0_isLatin1_aae02_0 : decode cJ0_isLatin1_aae02 0 = .ok (.getstatic 38, 3) := by decide +kernel
theorem dJ0_isLatin1_aae02_3 : decode cJ0_isLatin1_aae02 3 = .ok (.ifCond .eq 14, 3) := by decide +kernel
theorem dJ0_isLatin1_aae02_6 : decode cJ0_isLatin1_aae02 6 = .ok (.aload_n 0, 1) := by decide +kernel
theorem dJ0_isLatin1_aae02_7 : decode cJ0_isLatin1_aae02 7 = .ok (.getfield 15, 3) := by decide +kernel
theorem dJ0_isLatin1_aae02_10 : decode cJ0_isLatin1_aae02 10 = .ok (.ifCond .ne 7, 3) := by decide +kernel
theorem dJ0_isLatin1_aae02_13 : decode cJ0_isLatin1_aae02 13 = .ok (.iconst 1, 1) := by decide +kernel
theorem dJ0_isLatin1_aae02_14 : decode cJ0_isLatin1_aae02 14 = .ok (.goto 4, 3) := by decide +kernel
theorem dJ0_isLatin1_aae02_17 : decode cJ0_isLatin1_aae02 17 = .ok (.iconst 0, 1) := by decide +kernel
theorem dJ0_isLatin1_aae02_18 : decode cJ0_isLatin1_aae02 18 = .ok (.ireturn, 1) := by decide +kernel
theorem dJ0_checkIndex_df160_0 : decode cJ0_checkIndex_df160 0 = .ok (.iload_n 0, 1) := by decide +kernel
theorem dJ0_checkIndex_df160_1 : decode cJ0_checkIndex_df160 1 = .ok (.iload_n 1, 1) := by decide +kernel
theorem dJ0_checkIndex_df160_2 : decode cJ0_checkIndex_df160 2 = .ok (.getstatic 1053, 3) := by decide +kernel
theorem dJ0_checkIndex_df160_5 : decode cJ0_checkIndex_df160 5 = .ok (.invokestatic 1059, 3) := by decide +kernel
theorem dJ0_checkIndex_df160_8 : decode cJ0_checkIndex_df160 8 = .ok (.pop, 1) := by decide +kernel
theorem dJ0_checkIndex_df160_9 : decode cJ0_checkIndex_df160 9 = .ok (.return_, 1) := by decide +kernel
theorem dJ1_charAt_3b067_0 : decode cJ1_charAt_3b067 0 = .ok (.iload_n 1, 1) := by decide +kernel
theorem dJ1_charAt_3b067_1 : decode cJ1_charAt_3b067 1 = .ok (.aload_n 0, 1) := by decide +kernel
theorem dJ1_charAt_3b067_2 : decode cJ1_charAt_3b067 2 = .ok (.arraylength, 1) := by decide +kernel
theorem dJ1_charAt_3b067_3 : decode cJ1_charAt_3b067 3 = .ok (.invokestatic 9, 3) := by decide +kernel
theorem dJ1_charAt_3b067_6 : decode cJ1_charAt_3b067 6 = .ok (.aload_n 0, 1) := by decide +kernel
theorem dJ1_charAt_3b067_7 : decode cJ1_charAt_3b067 7 = .ok (.iload_n 1, 1) := by decide +kernel
theorem dJ1_charAt_3b067_8 : decode cJ1_charAt_3b067 8 = .ok (.baload, 1) := by decide +kernel
theorem dJ1_charAt_3b067_9 : decode cJ1_charAt_3b067 9 = .ok (.sipush 255, 3) := by decide +kernel
theorem dJ1_charAt_3b067_12 : decode cJ1_charAt_3b067 12 = .ok (.iand, 1) := by decide +kernel
theorem dJ1_charAt_3b067_13 : decode cJ1_charAt_3b067 13 = .ok (.i2c, 1) := by decide +kernel
theorem dJ1_charAt_3b067_14 : decode cJ1_charAt_3b067 14 = .ok (.ireturn, 1) := by decide +kernel
theorem dJ2_getChar_3b067_0 : decode cJ2_getChar_3b067 0 = .ok (.getstatic 44, 3) := by decide +kernel
theorem dJ2_getChar_3b067_3 : decode cJ2_getChar_3b067 3 = .ok (.ifCond .ne 25, 3) := by decide +kernel
theorem dJ2_getChar_3b067_6 : decode cJ2_getChar_3b067 6 = .ok (.iload_n 1, 1) := by decide +kernel
theorem dJ2_getChar_3b067_7 : decode cJ2_getChar_3b067 7 = .ok (.ifCond .lt 11, 3) := by decide +kernel
theorem dJ2_getChar_3b067_10 : decode cJ2_getChar_3b067 10 = .ok (.iload_n 1, 1) := by decide +kernel
theorem dJ2_getChar_3b067_11 : decode cJ2_getChar_3b067 11 = .ok (.aload_n 0, 1) := by decide +kernel
theorem dJ2_getChar_3b067_12 : decode cJ2_getChar_3b067 12 = .ok (.invokestatic 48, 3) := by decide +kernel
theorem dJ2_getChar_3b067_15 : decode cJ2_getChar_3b067 15 = .ok (.if_icmp .lt 13, 3) := by decide +kernel
theorem dJ2_getChar_3b067_18 : decode cJ2_getChar_3b067 18 = .ok (.new 52, 3) := by decide +kernel
theorem dJ2_getChar_3b067_21 : decode cJ2_getChar_3b067 21 = .ok (.dup, 1) := by decide +kernel
theorem dJ2_getChar_3b067_22 : decode cJ2_getChar_3b067 22 = .ok (.ldc 54, 2) := by decide +kernel
theorem dJ2_getChar_3b067_24 : decode cJ2_getChar_3b067 24 = .ok (.invokespecial 56, 3) := by decide +kernel
theorem dJ2_getChar_3b067_27 : decode cJ2_getChar_3b067 27 = .ok (.athrow, 1) := by decide +kernel
theorem dJ2_getChar_3b067_28 : decode cJ2_getChar_3b067 28 = .ok (.iload_n 1, 1) := by decide +kernel
theorem dJ2_getChar_3b067_29 : decode cJ2_getChar_3b067 29 = .ok (.iconst 1, 1) := by decide +kernel
theorem dJ2_getChar_3b067_30 : decode cJ2_getChar_3b067 30 = .ok (.ishl, 1) := by decide +kernel
theorem dJ2_getChar_3b067_31 : decode cJ2_getChar_3b067 31 = .ok (.istore_n 1, 1) := by decide +kernel
theorem dJ2_getChar_3b067_32 : decode cJ2_getChar_3b067 32 = .ok (.aload_n 0, 1) := by decide +kernel
theorem dJ2_getChar_3b067_33 : decode cJ2_getChar_3b067 33 = .ok (.iload_n 1, 1) := by decide +kernel
theorem dJ2_getChar_3b067_34 : decode cJ2_getChar_3b067 34 = .ok (.iinc 1 1, 3) := by decide +kernel
theorem dJ2_getChar_3b067_37 : decode cJ2_getChar_3b067 37 = .ok (.baload, 1) := by decide +kernel
theorem dJ2_getChar_3b067_38 : decode cJ2_getChar_3b067 38 = .ok (.sipush 255, 3) := by decide +kernel
theorem dJ2_getChar_3b067_41 : decode cJ2_getChar_3b067 41 = .ok (.iand, 1) := by decide +kernel
theorem dJ2_getChar_3b067_42 : decode cJ2_getChar_3b067 42 = .ok (.getstatic 59, 3) := by decide +kernel
theorem dJ2_getChar_3b067_45 : decode cJ2_getChar_3b067 45 = .ok (.ishl, 1) := by decide +kernel
theorem dJ2_getChar_3b067_46 : decode cJ2_getChar_3b067 46 = .ok (.aload_n 0, 1) := by decide +kernel
theorem dJ2_getChar_3b067_47 : decode cJ2_getChar_3b067 47 = .ok (.iload_n 1, 1) := by decide +kernel
theorem dJ2_getChar_3b067_48 : decode cJ2_getChar_3b067 48 = .ok (.baload, 1) := by decide +kernel
theorem dJ2_getChar_3b067_49 : decode cJ2_getChar_3b067 49 = .ok (.sipush 255, 3) := by decide +kernel
theorem dJ2_getChar_3b067_52 : decode cJ2_getChar_3b067 52 = .ok (.iand, 1) := by decide +kernel
theorem dJ2_getChar_3b067_53 : decode cJ2_getChar_3b067 53 = .ok (.getstatic 63, 3) := by decide +kernel
theorem dJ2_getChar_3b067_56 : decode cJ2_getChar_3b067 56 = .ok (.ishl, 1) := by decide +kernel
theorem dJ2_getChar_3b067_57 : decode cJ2_getChar_3b067 57 = .ok (.ior, 1) := by decide +kernel
theorem dJ2_getChar_3b067_58 : decode cJ2_getChar_3b067 58 = .ok (.i2c, 1) := by decide +kernel
theorem dJ2_getChar_3b067_59 : decode cJ2_getChar_3b067 59 = .ok (.ireturn, 1) := by decide +kernel
theorem dJ2_length_9d52b_0 : decode cJ2_length_9d52b 0 = .ok (.aload_n 0, 1) := by decide +kernel
theorem dJ2_length_9d52b_1 : decode cJ2_length_9d52b 1 = .ok (.arraylength, 1) := by decide +kernel
theorem dJ2_length_9d52b_2 : decode cJ2_length_9d52b 2 = .ok (.iconst 1, 1) := by decide +kernel
theorem dJ2_length_9d52b_3 : decode cJ2_length_9d52b 3 = .ok (.ishr, 1) := by decide +kernel
theorem dJ2_length_9d52b_4 : decode cJ2_length_9d52b 4 = .ok (.ireturn, 1) := by decide +kernel
theorem dJ2_charAt_3b067_0 : decode cJ2_charAt_3b067 0 = .ok (.iload_n 1, 1) := by decide +kernel
theorem dJ2_charAt_3b067_1 : decode cJ2_charAt_3b067 1 = .ok (.aload_n 0, 1) := by decide +kernel
theorem dJ2_charAt_3b067_2 : decode cJ2_charAt_3b067 2 = .ok (.invokestatic 67, 3) := by decide +kernel
theorem dJ2_charAt_3b067_5 : decode cJ2_charAt_3b067 5 = .ok (.aload_n 0, 1) := by decide +kernel
theorem dJ2_charAt_3b067_6 : decode cJ2_charAt_3b067 6 = .ok (.iload_n 1, 1) := by decide +kernel
theorem dJ2_charAt_3b067_7 : decode cJ2_charAt_3b067 7 = .ok (.invokestatic 71, 3) := by decide +kernel
theorem dJ2_charAt_3b067_10 : decode cJ2_charAt_3b067 10 = .ok (.ireturn, 1) := by decide +kernel
theorem dJ2_checkIndex_2214a_0 : decode cJ2_checkIndex_2214a 0 = .ok (.iload_n 0, 1) := by decide +kernel
theorem dJ2_checkIndex_2214a_1 : decode cJ2_checkIndex_2214a 1 = .ok (.aload_n 1, 1) := by decide +kernel
theorem dJ2_checkIndex_2214a_2 : decode cJ2_checkIndex_2214a 2 = .ok (.invokestatic 48, 3) := by decide +kernel
theorem dJ2_checkIndex_2214a_5 : decode cJ2_checkIndex_2214a 5 = .ok (.invokestatic 414, 3) := by decide +kernel
theorem dJ2_checkIndex_2214a_8 : decode cJ2_checkIndex_2214a 8 = .ok (.return_, 1) := by decide +kernel
theorem dJ3_checkIndex_8e157_0 : decode cJ3_checkIndex_8e157 0 = .ok (.iload_n 0, 1) := by decide +kernel
theorem dJ3_checkIndex_8e157_1 : decode cJ3_checkIndex_8e157 1 = .ok (.ifCond .lt 8, 3) := by decide +kernel
theorem dJ3_checkIndex_8e157_4 : decode cJ3_checkIndex_8e157 4 = .ok (.iload_n 0, 1) := by decide +kernel
theorem dJ3_checkIndex_8e157_5 : decode cJ3_checkIndex_8e157 5 = .ok (.iload_n 1, 1) := by decide +kernel
theorem dJ3_checkIndex_8e157_6 : decode cJ3_checkIndex_8e157 6 = .ok (.if_icmp .lt 10, 3) := by decide +kernel
theorem dJ3_checkIndex_8e157_9 : decode cJ3_checkIndex_8e157 9 = .ok (.aload_n 2, 1) := by decide +kernel
theorem dJ3_checkIndex_8e157_10 : decode cJ3_checkIndex_8e157 10 = .ok (.iload_n 0, 1) := by decide +kernel
theorem dJ3_checkIndex_8e157_11 : decode cJ3_checkIndex_8e157 11 = .ok (.iload_n 1, 1) := by decide +kernel
theorem dJ3_checkIndex_8e157_12 : decode cJ3_checkIndex_8e157 12 = .ok (.invokestatic 95, 3) := by decide +kernel
theorem dJ3_checkIndex_8e157_15 : decode cJ3_checkIndex_8e157 15 = .ok (.athrow, 1) := by decide +kernel
theorem dJ3_checkIndex_8e157_16 : decode cJ3_checkIndex_8e157 16 = .ok (.iload_n 0, 1) := by decide +kernel
theorem dJ3_checkIndex_8e157_17 : decode cJ3_checkIndex_8e157 17 = .ok (.ireturn, 1) := by decide +kernel
