theorem dX2_pick_0 : decode cX2_pick 0 = .ok (.iconst (-1), 1) := by decide +kernel
theorem dX2_pick_1 : decode cX2_pick 1 = .ok (.istore 5, 2) := by decide +kernel
theorem dX2_pick_3 : decode cX2_pick 3 = .ok (.iconst 0, 1) := by decide +kernel
theorem dX2_pick_4 : decode cX2_pick 4 = .ok (.istore 6, 2) := by decide +kernel
theorem dX2_pick_6 : decode cX2_pick 6 = .ok (.iconst 0, 1) := by decide +kernel
theorem dX2_pick_7 : decode cX2_pick 7 = .ok (.istore 7, 2) := by decide +kernel
theorem dX2_pick_9 : decode cX2_pick 9 = .ok (.iload 7, 2) := by decide +kernel
theorem dX2_pick_11 : decode cX2_pick 11 = .ok (.aload_n 1, 1) := by decide +kernel
theorem dX2_pick_12 : decode cX2_pick 12 = .ok (.invokevirtual 27, 3) := by decide +kernel
theorem dX2_pick_15 : decode cX2_pick 15 = .ok (.if_icmp .ge 66, 3) := by decide +kernel
theorem dX2_pick_18 : decode cX2_pick 18 = .ok (.aload_n 1, 1) := by decide +kernel
theorem dX2_pick_19 : decode cX2_pick 19 = .ok (.iload_n 2, 1) := by decide +kernel
theorem dX2_pick_20 : decode cX2_pick 20 = .ok (.iload 7, 2) := by decide +kernel
theorem dX2_pick_22 : decode cX2_pick 22 = .ok (.invokevirtual 40, 3) := by decide +kernel
theorem dX2_pick_25 : decode cX2_pick 25 = .ok (.ifCond .eq 50, 3) := by decide +kernel
theorem dX2_pick_28 : decode cX2_pick 28 = .ok (.aload_n 0, 1) := by decide +kernel
theorem dX2_pick_29 : decode cX2_pick 29 = .ok (.aload_n 1, 1) := by decide +kernel
theorem dX2_pick_30 : decode cX2_pick 30 = .ok (.iload_n 2, 1) := by decide +kernel
theorem dX2_pick_31 : decode cX2_pick 31 = .ok (.iload_n 3, 1) := by decide +kernel
theorem dX2_pick_32 : decode cX2_pick 32 = .ok (.iload 7, 2) := by decide +kernel
theorem dX2_pick_34 : decode cX2_pick 34 = .ok (.invokevirtual 23, 3) := by decide +kernel
theorem dX2_pick_37 : decode cX2_pick 37 = .ok (.istore 8, 2) := by decide +kernel
theorem dX2_pick_39 : decode cX2_pick 39 = .ok (.iload 5, 2) := by decide +kernel
theorem dX2_pick_41 : decode cX2_pick 41 = .ok (.iconst (-1), 1) := by decide +kernel
theorem dX2_pick_42 : decode cX2_pick 42 = .ok (.if_icmp .eq 25, 3) := by decide +kernel
theorem dX2_pick_45 : decode cX2_pick 45 = .ok (.iload 4, 2) := by decide +kernel
theorem dX2_pick_47 : decode cX2_pick 47 = .ok (.ifCond .eq 13, 3) := by decide +kernel
theorem dX2_pick_50 : decode cX2_pick 50 = .ok (.iload 8, 2) := by decide +kernel
theorem dX2_pick_52 : decode cX2_pick 52 = .ok (.iload 6, 2) := by decide +kernel
theorem dX2_pick_54 : decode cX2_pick 54 = .ok (.if_icmp .le 21, 3) := by decide +kernel
theorem dX2_pick_57 : decode cX2_pick 57 = .ok (.goto 10, 3) := by decide +kernel
theorem dX2_pick_60 : decode cX2_pick 60 = .ok (.iload 8, 2) := by decide +kernel
theorem dX2_pick_62 : decode cX2_pick 62 = .ok (.iload 6, 2) := by decide +kernel
theorem dX2_pick_64 : decode cX2_pick 64 = .ok (.if_icmp .ge 11, 3) := by decide +kernel
theorem dX2_pick_67 : decode cX2_pick 67 = .ok (.iload 7, 2) := by decide +kernel
theorem dX2_pick_69 : decode cX2_pick 69 = .ok (.istore 5, 2) := by decide +kernel
theorem dX2_pick_71 : decode cX2_pick 71 = .ok (.iload 8, 2) := by decide +kernel
theorem dX2_pick_73 : decode cX2_pick 73 = .ok (.istore 6, 2) := by decide +kernel
theorem dX2_pick_75 : decode cX2_pick 75 = .ok (.iinc 7 1, 3) := by decide +kernel
theorem dX2_pick_78 : decode cX2_pick 78 = .ok (.goto (-69), 3) := by decide +kernel
theorem dX2_pick_81 : decode cX2_pick 81 = .ok (.iload 5, 2) := by decide +kernel
theorem dX2_pick_83 : decode cX2_pick 83 = .ok (.ireturn, 1) := by decide +kernel
theorem dX2_thingAt_0 : decode cX2_thingAt 0 = .ok (.aload_n 0, 1) := by decide +kernel
theorem dX2_thingAt_1 : decode cX2_thingAt 1 = .ok (.aload_n 1, 1) := by decide +kernel
theorem dX2_thingAt_2 : decode cX2_thingAt 2 = .ok (.iload_n 2, 1) := by decide +kernel
theorem dX2_thingAt_3 : decode cX2_thingAt 3 = .ok (.invokevirtual 15, 3) := by decide +kernel
theorem dX2_thingAt_6 : decode cX2_thingAt 6 = .ok (.iconst 0, 1) := by decide +kernel
theorem dX2_thingAt_7 : decode cX2_thingAt 7 = .ok (.istore 4, 2) := by decide +kernel
theorem dX2_thingAt_9 : decode cX2_thingAt 9 = .ok (.iconst (-1), 1) := by decide +kernel
theorem dX2_thingAt_10 : decode cX2_thingAt 10 = .ok (.istore 5, 2) := by decide +kernel
theorem dX2_thingAt_12 : decode cX2_thingAt 12 = .ok (.iconst 0, 1) := by decide +kernel
theorem dX2_thingAt_13 : decode cX2_thingAt 13 = .ok (.istore 6, 2) := by decide +kernel
theorem dX2_thingAt_15 : decode cX2_thingAt 15 = .ok (.iload 6, 2) := by decide +kernel
theorem dX2_thingAt_17 : decode cX2_thingAt 17 = .ok (.iload_n 3, 1) := by decide +kernel
theorem dX2_thingAt_18 : decode cX2_thingAt 18 = .ok (.if_icmp .gt 39, 3) := by decide +kernel
theorem dX2_thingAt_21 : decode cX2_thingAt 21 = .ok (.iload 6, 2) := by decide +kernel
theorem dX2_thingAt_23 : decode cX2_thingAt 23 = .ok (.aload_n 1, 1) := by decide +kernel
theorem dX2_thingAt_24 : decode cX2_thingAt 24 = .ok (.invokevirtual 27, 3) := by decide +kernel
theorem dX2_thingAt_27 : decode cX2_thingAt 27 = .ok (.if_icmp .ge 30, 3) := by decide +kernel
theorem dX2_thingAt_30 : decode cX2_thingAt 30 = .ok (.aload_n 0, 1) := by decide +kernel
theorem dX2_thingAt_31 : decode cX2_thingAt 31 = .ok (.aload_n 1, 1) := by decide +kernel
theorem dX2_thingAt_32 : decode cX2_thingAt 32 = .ok (.iload 4, 2) := by decide +kernel
theorem dX2_thingAt_34 : decode cX2_thingAt 34 = .ok (.iload 5, 2) := by decide +kernel
theorem dX2_thingAt_36 : decode cX2_thingAt 36 = .ok (.iload_n 2, 1) := by decide +kernel
theorem dX2_thingAt_37 : decode cX2_thingAt 37 = .ok (.invokevirtual 19, 3) := by decide +kernel
theorem dX2_thingAt_40 : decode cX2_thingAt 40 = .ok (.istore 5, 2) := by decide +kernel
theorem dX2_thingAt_42 : decode cX2_thingAt 42 = .ok (.iload 4, 2) := by decide +kernel
theorem dX2_thingAt_44 : decode cX2_thingAt 44 = .ok (.iconst 1, 1) := by decide +kernel
theorem dX2_thingAt_45 : decode cX2_thingAt 45 = .ok (.iload 5, 2) := by decide +kernel
theorem dX2_thingAt_47 : decode cX2_thingAt 47 = .ok (.ishl, 1) := by decide +kernel
theorem dX2_thingAt_48 : decode cX2_thingAt 48 = .ok (.ior, 1) := by decide +kernel
theorem dX2_thingAt_49 : decode cX2_thingAt 49 = .ok (.istore 4, 2) := by decide +kernel
theorem dX2_thingAt_51 : decode cX2_thingAt 51 = .ok (.iinc 6 1, 3) := by decide +kernel
theorem dX2_thingAt_54 : decode cX2_thingAt 54 = .ok (.goto (-39), 3) := by decide +kernel
theorem dX2_thingAt_57 : decode cX2_thingAt 57 = .ok (.iload 5, 2) := by decide +kernel
theorem dX2_thingAt_59 : decode cX2_thingAt 59 = .ok (.ireturn, 1) := by decide +kernel
theorem dX2_worth_0 : decode cX2_worth 0 = .ok (.aload_n 1, 1) := by decide +kernel
theorem dX2_worth_1 : decode cX2_worth 1 = .ok (.iload 4, 2) := by decide +kernel
theorem dX2_worth_3 : decode cX2_worth 3 = .ok (.invokevirtual 44, 3) := by decide +kernel
theorem dX2_worth_6 : decode cX2_worth 6 = .ok (.ifCond .ne 5, 3) := by decide +kernel
theorem dX2_worth_9 : decode cX2_worth 9 = .ok (.iconst 0, 1) := by decide +kernel
theorem dX2_worth_10 : decode cX2_worth 10 = .ok (.ireturn, 1) := by decide +kernel
theorem dX2_worth_11 : decode cX2_worth 11 = .ok (.iload_n 3, 1) := by decide +kernel
theorem dX2_worth_12 : decode cX2_worth 12 = .ok (.iconst (-1), 1) := by decide +kernel
theorem dX2_worth_13 : decode cX2_worth 13 = .ok (.if_icmp .eq 13, 3) := by decide +kernel
theorem dX2_worth_16 : decode cX2_worth 16 = .ok (.aload_n 1, 1) := by decide +kernel
theorem dX2_worth_17 : decode cX2_worth 17 = .ok (.iload_n 3, 1) := by decide +kernel
theorem dX2_worth_18 : decode cX2_worth 18 = .ok (.iload 4, 2) := by decide +kernel
theorem dX2_worth_20 : decode cX2_worth 20 = .ok (.invokevirtual 47, 3) := by decide +kernel
theorem dX2_worth_23 : decode cX2_worth 23 = .ok (.ifCond .eq 7, 3) := by decide +kernel
theorem dX2_worth_26 : decode cX2_worth 26 = .ok (.iconst 0, 1) := by decide +kernel
theorem dX2_worth_27 : decode cX2_worth 27 = .ok (.goto 4, 3) := by decide +kernel
theorem dX2_worth_30 : decode cX2_worth 30 = .ok (.iconst 1, 1) := by decide +kernel
theorem dX2_worth_31 : decode cX2_worth 31 = .ok (.istore 5, 2) := by decide +kernel
theorem dX2_worth_33 : decode cX2_worth 33 = .ok (.iload 5, 2) := by decide +kernel
theorem dX2_worth_35 : decode cX2_worth 35 = .ok (.aload_n 0, 1) := by decide +kernel
theorem dX2_worth_36 : decode cX2_worth 36 = .ok (.getfield 9, 3) := by decide +kernel
theorem dX2_worth_39 : decode cX2_worth 39 = .ok (.iload_n 2, 1) := by decide +kernel
theorem dX2_worth_40 : decode cX2_worth 40 = .ok (.iconst 1, 1) := by decide +kernel
theorem dX2_worth_41 : decode cX2_worth 41 = .ok (.iload 4, 2) := by decide +kernel
theorem dX2_worth_43 : decode cX2_worth 43 = .ok (.ishl, 1) := by decide +kernel
theorem dX2_worth_44 : decode cX2_worth 44 = .ok (.ior, 1) := by decide +kernel
theorem dX2_worth_45 : decode cX2_worth 45 = .ok (.sipush 255, 3) := by decide +kernel
theorem dX2_worth_48 : decode cX2_worth 48 = .ok (.iand, 1) := by decide +kernel
theorem dX2_worth_49 : decode cX2_worth 49 = .ok (.bipush 8, 2) := by decide +kernel
theorem dX2_worth_51 : decode cX2_worth 51 = .ok (.imul, 1) := by decide +kernel
theorem dX2_worth_52 : decode cX2_worth 52 = .ok (.iload 4, 2) := by decide +kernel
theorem dX2_worth_54 : decode cX2_worth 54 = .ok (.iadd, 1) := by decide +kernel
theorem dX2_worth_55 : decode cX2_worth 55 = .ok (.iaload, 1) := by decide +kernel
theorem dX2_worth_56 : decode cX2_worth 56 = .ok (.iadd, 1) := by decide +kernel
theorem dX2_worth_57 : decode cX2_worth 57 = .ok (.ireturn, 1) := by decide +kernel
theorem dX3_between_0 : decode cX3_between 0 = .ok (.aload_n 1, 1) := by decide +kernel
theorem dX3_between_1 : decode cX3_between 1 = .ok (.invokevirtual 15, 3) := by decide +kernel
theorem dX3_between_4 : decode cX3_between 4 = .ok (.aload_n 2, 1) := by decide +kernel
theorem dX3_between_5 : decode cX3_between 5 = .ok (.invokevirtual 15, 3) := by decide +kernel
theorem dX3_between_8 : decode cX3_between 8 = .ok (.if_icmp .ne 21, 3) := by decide +kernel
theorem dX3_between_11 : decode cX3_between 11 = .ok (.aload_n 1, 1) := by decide +kernel
theorem dX3_between_12 : decode cX3_between 12 = .ok (.aload_n 2, 1) := by decide +kernel
theorem dX3_between_13 : decode cX3_between 13 = .ok (.aload_n 0, 1) := by decide +kernel
theorem dX3_between_14 : decode cX3_between 14 = .ok (.getfield 9, 3) := by decide +kernel
theorem dX3_between_17 : decode cX3_between 17 = .ok (.iconst 0, 1) := by decide +kernel
theorem dX3_between_18 : decode cX3_between 18 = .ok (.iconst 0, 1) := by decide +kernel
theorem dX3_between_19 : decode cX3_between 19 = .ok (.invokestatic 21, 3) := by decide +kernel
theorem dX3_between_22 : decode cX3_between 22 = .ok (.ifCond .eq 7, 3) := by decide +kernel
theorem dX3_between_25 : decode cX3_between 25 = .ok (.iconst 1, 1) := by decide +kernel
theorem dX3_between_26 : decode cX3_between 26 = .ok (.goto 4, 3) := by decide +kernel
theorem dX3_between_29 : decode cX3_between 29 = .ok (.iconst 0, 1) := by decide +kernel
theorem dX3_between_30 : decode cX3_between 30 = .ok (.ireturn, 1) := by decide +kernel
theorem dX3_extend_0 : decode cX3_extend 0 = .ok (.aload_n 0, 1) := by decide +kernel
theorem dX3_extend_1 : decode cX3_extend 1 = .ok (.iload_n 3, 1) := by decide +kernel
theorem dX3_extend_2 : decode cX3_extend 2 = .ok (.invokevirtual 32, 3) := by decide +kernel
theorem dX3_extend_5 : decode cX3_extend 5 = .ok (.ifCond .ne 5, 3) := by decide +kernel
theorem dX3_extend_8 : decode cX3_extend 8 = .ok (.iconst 1, 1) := by decide +kernel
theorem dX3_extend_9 : decode cX3_extend 9 = .ok (.ireturn, 1) := by decide +kernel
theorem dX3_extend_10 : decode cX3_extend 10 = .ok (.iconst 0, 1) := by decide +kernel
theorem dX3_extend_11 : decode cX3_extend 11 = .ok (.istore 5, 2) := by decide +kernel
theorem dX3_extend_13 : decode cX3_extend 13 = .ok (.iload 5, 2) := by decide +kernel
theorem dX3_extend_15 : decode cX3_extend 15 = .ok (.aload_n 1, 1) := by decide +kernel
theorem dX3_extend_16 : decode cX3_extend 16 = .ok (.invokevirtual 15, 3) := by decide +kernel
theorem dX3_extend_19 : decode cX3_extend 19 = .ok (.if_icmp .ge 57, 3) := by decide +kernel
theorem dX3_extend_22 : decode cX3_extend 22 = .ok (.iload 4, 2) := by decide +kernel
theorem dX3_extend_24 : decode cX3_extend 24 = .ok (.iload 5, 2) := by decide +kernel
theorem dX3_extend_26 : decode cX3_extend 26 = .ok (.ishr, 1) := by decide +kernel
theorem dX3_extend_27 : decode cX3_extend 27 = .ok (.iconst 1, 1) := by decide +kernel
theorem dX3_extend_28 : decode cX3_extend 28 = .ok (.iand, 1) := by decide +kernel
theorem dX3_extend_29 : decode cX3_extend 29 = .ok (.ifCond .ne 41, 3) := by decide +kernel
theorem dX3_extend_32 : decode cX3_extend 32 = .ok (.aload_n 0, 1) := by decide +kernel
theorem dX3_extend_33 : decode cX3_extend 33 = .ok (.aload_n 1, 1) := by decide +kernel
theorem dX3_extend_34 : decode cX3_extend 34 = .ok (.aload_n 2, 1) := by decide +kernel
theorem dX3_extend_35 : decode cX3_extend 35 = .ok (.iload_n 3, 1) := by decide +kernel
theorem dX3_extend_36 : decode cX3_extend 36 = .ok (.iload 5, 2) := by decide +kernel
theorem dX3_extend_38 : decode cX3_extend 38 = .ok (.invokestatic 25, 3) := by decide +kernel
theorem dX3_extend_41 : decode cX3_extend 41 = .ok (.ifCond .eq 29, 3) := by decide +kernel
theorem dX3_extend_44 : decode cX3_extend 44 = .ok (.aload_n 2, 1) := by decide +kernel
theorem dX3_extend_45 : decode cX3_extend 45 = .ok (.iload_n 3, 1) := by decide +kernel
theorem dX3_extend_46 : decode cX3_extend 46 = .ok (.iload 5, 2) := by decide +kernel
theorem dX3_extend_48 : decode cX3_extend 48 = .ok (.iastore, 1) := by decide +kernel
theorem dX3_extend_49 : decode cX3_extend 49 = .ok (.aload_n 0, 1) := by decide +kernel
theorem dX3_extend_50 : decode cX3_extend 50 = .ok (.aload_n 1, 1) := by decide +kernel
theorem dX3_extend_51 : decode cX3_extend 51 = .ok (.aload_n 2, 1) := by decide +kernel
theorem dX3_extend_52 : decode cX3_extend 52 = .ok (.iload_n 3, 1) := by decide +kernel
theorem dX3_extend_53 : decode cX3_extend 53 = .ok (.iconst 1, 1) := by decide +kernel
theorem dX3_extend_54 : decode cX3_extend 54 = .ok (.iadd, 1) := by decide +kernel
theorem dX3_extend_55 : decode cX3_extend 55 = .ok (.iload 4, 2) := by decide +kernel
theorem dX3_extend_57 : decode cX3_extend 57 = .ok (.iconst 1, 1) := by decide +kernel
theorem dX3_extend_58 : decode cX3_extend 58 = .ok (.iload 5, 2) := by decide +kernel
theorem dX3_extend_60 : decode cX3_extend 60 = .ok (.ishl, 1) := by decide +kernel
theorem dX3_extend_61 : decode cX3_extend 61 = .ok (.ior, 1) := by decide +kernel
theorem dX3_extend_62 : decode cX3_extend 62 = .ok (.invokestatic 21, 3) := by decide +kernel
theorem dX3_extend_65 : decode cX3_extend 65 = .ok (.ifCond .eq 5, 3) := by decide +kernel
theorem dX3_extend_68 : decode cX3_extend 68 = .ok (.iconst 1, 1) := by decide +kernel
theorem dX3_extend_69 : decode cX3_extend 69 = .ok (.ireturn, 1) := by decide +kernel
theorem dX3_extend_70 : decode cX3_extend 70 = .ok (.iinc 5 1, 3) := by decide +kernel
theorem dX3_extend_73 : decode cX3_extend 73 = .ok (.goto (-60), 3) := by decide +kernel
theorem dX3_extend_76 : decode cX3_extend 76 = .ok (.iconst 0, 1) := by decide +kernel
theorem dX3_extend_77 : decode cX3_extend 77 = .ok (.ireturn, 1) := by decide +kernel
theorem dX3_init_0 : decode cX3_init 0 = .ok (.aload_n 0, 1) := by decide +kernel
theorem dX3_init_1 : decode cX3_init 1 = .ok (.invokespecial 3, 3) := by decide +kernel
theorem dX3_init_4 : decode cX3_init 4 = .ok (.aload_n 0, 1) := by decide +kernel
theorem dX3_init_5 : decode cX3_init 5 = .ok (.bipush 8, 2) := by decide +kernel
theorem dX3_init_7 : decode cX3_init 7 = .ok (.newarray .int, 2) := by decide +kernel
theorem dX3_init_9 : decode cX3_init 9 = .ok (.putfield 9, 3) := by decide +kernel
theorem dX3_init_12 : decode cX3_init 12 = .ok (.return_, 1) := by decide +kernel
theorem dX3_isName_0 : decode cX3_isName 0 = .ok (.aload_n 0, 1) := by decide +kernel
theorem dX3_isName_1 : decode cX3_isName 1 = .ok (.iload_n 3, 1) := by decide +kernel
theorem dX3_isName_2 : decode cX3_isName 2 = .ok (.invokevirtual 36, 3) := by decide +kernel
theorem dX3_isName_5 : decode cX3_isName 5 = .ok (.invokestatic 40, 3) := by decide +kernel
theorem dX3_isName_8 : decode cX3_isName 8 = .ok (.aload_n 1, 1) := by decide +kernel
theorem dX3_isName_9 : decode cX3_isName 9 = .ok (.iload 4, 2) := by decide +kernel
theorem dX3_isName_11 : decode cX3_isName 11 = .ok (.invokevirtual 36, 3) := by decide +kernel
theorem dX3_isName_14 : decode cX3_isName 14 = .ok (.invokestatic 40, 3) := by decide +kernel
theorem dX3_isName_17 : decode cX3_isName 17 = .ok (.if_icmp .ne 23, 3) := by decide +kernel
theorem dX3_isName_20 : decode cX3_isName 20 = .ok (.aload_n 0, 1) := by decide +kernel
theorem dX3_isName_21 : decode cX3_isName 21 = .ok (.iload_n 3, 1) := by decide +kernel
theorem dX3_isName_22 : decode cX3_isName 22 = .ok (.invokevirtual 45, 3) := by decide +kernel
theorem dX3_isName_25 : decode cX3_isName 25 = .ok (.invokestatic 40, 3) := by decide +kernel
theorem dX3_isName_28 : decode cX3_isName 28 = .ok (.aload_n 1, 1) := by decide +kernel
theorem dX3_isName_29 : decode cX3_isName 29 = .ok (.iload 4, 2) := by decide +kernel
theorem dX3_isName_31 : decode cX3_isName 31 = .ok (.invokevirtual 45, 3) := by decide +kernel
theorem dX3_isName_34 : decode cX3_isName 34 = .ok (.invokestatic 40, 3) := by decide +kernel
theorem dX3_isName_37 : decode cX3_isName 37 = .ok (.if_icmp .eq 5, 3) := by decide +kernel
theorem dX3_isName_40 : decode cX3_isName 40 = .ok (.iconst 0, 1) := by decide +kernel
theorem dX3_isName_41 : decode cX3_isName 41 = .ok (.ireturn, 1) := by decide +kernel
theorem dX3_isName_42 : decode cX3_isName 42 = .ok (.iconst 0, 1) := by decide +kernel
theorem dX3_isName_43 : decode cX3_isName 43 = .ok (.istore 5, 2) := by decide +kernel
theorem dX3_isName_45 : decode cX3_isName 45 = .ok (.iload 5, 2) := by decide +kernel
theorem dX3_isName_47 : decode cX3_isName 47 = .ok (.iload_n 3, 1) := by decide +kernel
theorem dX3_isName_48 : decode cX3_isName 48 = .ok (.if_icmp .ge 51, 3) := by decide +kernel
theorem dX3_isName_51 : decode cX3_isName 51 = .ok (.aload_n 0, 1) := by decide +kernel
theorem dX3_isName_52 : decode cX3_isName 52 = .ok (.iload 5, 2) := by decide +kernel
theorem dX3_isName_54 : decode cX3_isName 54 = .ok (.iload_n 3, 1) := by decide +kernel
theorem dX3_isName_55 : decode cX3_isName 55 = .ok (.invokevirtual 48, 3) := by decide +kernel
theorem dX3_isName_58 : decode cX3_isName 58 = .ok (.aload_n 1, 1) := by decide +kernel
theorem dX3_isName_59 : decode cX3_isName 59 = .ok (.aload_n 2, 1) := by decide +kernel
theorem dX3_isName_60 : decode cX3_isName 60 = .ok (.iload 5, 2) := by decide +kernel
theorem dX3_isName_62 : decode cX3_isName 62 = .ok (.iaload, 1) := by decide +kernel
theorem dX3_isName_63 : decode cX3_isName 63 = .ok (.iload 4, 2) := by decide +kernel
theorem dX3_isName_65 : decode cX3_isName 65 = .ok (.invokevirtual 48, 3) := by decide +kernel
theorem dX3_isName_68 : decode cX3_isName 68 = .ok (.if_icmp .ne 23, 3) := by decide +kernel
theorem dX3_isName_71 : decode cX3_isName 71 = .ok (.aload_n 0, 1) := by decide +kernel
theorem dX3_isName_72 : decode cX3_isName 72 = .ok (.iload_n 3, 1) := by decide +kernel
theorem dX3_isName_73 : decode cX3_isName 73 = .ok (.iload 5, 2) := by decide +kernel
theorem dX3_isName_75 : decode cX3_isName 75 = .ok (.invokevirtual 48, 3) := by decide +kernel
theorem dX3_isName_78 : decode cX3_isName 78 = .ok (.aload_n 1, 1) := by decide +kernel
theorem dX3_isName_79 : decode cX3_isName 79 = .ok (.iload 4, 2) := by decide +kernel
theorem dX3_isName_81 : decode cX3_isName 81 = .ok (.aload_n 2, 1) := by decide +kernel
theorem dX3_isName_82 : decode cX3_isName 82 = .ok (.iload 5, 2) := by decide +kernel
theorem dX3_isName_84 : decode cX3_isName 84 = .ok (.iaload, 1) := by decide +kernel
theorem dX3_isName_85 : decode cX3_isName 85 = .ok (.invokevirtual 48, 3) := by decide +kernel
theorem dX3_isName_88 : decode cX3_isName 88 = .ok (.if_icmp .eq 5, 3) := by decide +kernel
theorem dX3_isName_91 : decode cX3_isName 91 = .ok (.iconst 0, 1) := by decide +kernel
theorem dX3_isName_92 : decode cX3_isName 92 = .ok (.ireturn, 1) := by decide +kernel
theorem dX3_isName_93 : decode cX3_isName 93 = .ok (.iinc 5 1, 3) := by decide +kernel
theorem dX3_isName_96 : decode cX3_isName 96 = .ok (.goto (-51), 3) := by decide +kernel
theorem dX3_isName_99 : decode cX3_isName 99 = .ok (.iconst 1, 1) := by decide +kernel
theorem dX3_isName_100 : decode cX3_isName 100 = .ok (.ireturn, 1) := by decide +kernel
theorem dX3_waysOf_0 : decode cX3_waysOf 0 = .ok (.iconst 1, 1) := by decide +kernel
theorem dX3_waysOf_1 : decode cX3_waysOf 1 = .ok (.istore_n 2, 1) := by decide +kernel
theorem dX3_waysOf_2 : decode cX3_waysOf 2 = .ok (.iconst 0, 1) := by decide +kernel
theorem dX3_waysOf_3 : decode cX3_waysOf 3 = .ok (.istore_n 3, 1) := by decide +kernel
theorem dX3_waysOf_4 : decode cX3_waysOf 4 = .ok (.iconst 0, 1) := by decide +kernel
theorem dX3_waysOf_5 : decode cX3_waysOf 5 = .ok (.istore 4, 2) := by decide +kernel
theorem dX3_waysOf_7 : decode cX3_waysOf 7 = .ok (.iload 4, 2) := by decide +kernel
theorem dX3_waysOf_9 : decode cX3_waysOf 9 = .ok (.aload_n 1, 1) := by decide +kernel
theorem dX3_waysOf_10 : decode cX3_waysOf 10 = .ok (.invokevirtual 15, 3) := by decide +kernel
theorem dX3_waysOf_13 : decode cX3_waysOf 13 = .ok (.if_icmp .ge 104, 3) := by decide +kernel
theorem dX3_waysOf_16 : decode cX3_waysOf 16 = .ok (.iconst 0, 1) := by decide +kernel
theorem dX3_waysOf_17 : decode cX3_waysOf 17 = .ok (.istore 5, 2) := by decide +kernel
theorem dX3_waysOf_19 : decode cX3_waysOf 19 = .ok (.iload 4, 2) := by decide +kernel
theorem dX3_waysOf_21 : decode cX3_waysOf 21 = .ok (.istore 6, 2) := by decide +kernel
theorem dX3_waysOf_23 : decode cX3_waysOf 23 = .ok (.iload 6, 2) := by decide +kernel
theorem dX3_waysOf_25 : decode cX3_waysOf 25 = .ok (.aload_n 1, 1) := by decide +kernel
theorem dX3_waysOf_26 : decode cX3_waysOf 26 = .ok (.invokevirtual 15, 3) := by decide +kernel
theorem dX3_waysOf_29 : decode cX3_waysOf 29 = .ok (.if_icmp .ge 61, 3) := by decide +kernel
theorem dX3_waysOf_32 : decode cX3_waysOf 32 = .ok (.aload_n 1, 1) := by decide +kernel
theorem dX3_waysOf_33 : decode cX3_waysOf 33 = .ok (.aload_n 1, 1) := by decide +kernel
theorem dX3_waysOf_34 : decode cX3_waysOf 34 = .ok (.aload_n 0, 1) := by decide +kernel
theorem dX3_waysOf_35 : decode cX3_waysOf 35 = .ok (.getfield 9, 3) := by decide +kernel
theorem dX3_waysOf_38 : decode cX3_waysOf 38 = .ok (.iload 4, 2) := by decide +kernel
theorem dX3_waysOf_40 : decode cX3_waysOf 40 = .ok (.iload 6, 2) := by decide +kernel
theorem dX3_waysOf_42 : decode cX3_waysOf 42 = .ok (.invokestatic 25, 3) := by decide +kernel
theorem dX3_waysOf_45 : decode cX3_waysOf 45 = .ok (.ifCond .eq 39, 3) := by decide +kernel
theorem dX3_waysOf_48 : decode cX3_waysOf 48 = .ok (.aload_n 0, 1) := by decide +kernel
theorem dX3_waysOf_49 : decode cX3_waysOf 49 = .ok (.getfield 9, 3) := by decide +kernel
theorem dX3_waysOf_52 : decode cX3_waysOf 52 = .ok (.iload 4, 2) := by decide +kernel
theorem dX3_waysOf_54 : decode cX3_waysOf 54 = .ok (.iload 6, 2) := by decide +kernel
theorem dX3_waysOf_56 : decode cX3_waysOf 56 = .ok (.iastore, 1) := by decide +kernel
theorem dX3_waysOf_57 : decode cX3_waysOf 57 = .ok (.iload 5, 2) := by decide +kernel
theorem dX3_waysOf_59 : decode cX3_waysOf 59 = .ok (.aload_n 1, 1) := by decide +kernel
theorem dX3_waysOf_60 : decode cX3_waysOf 60 = .ok (.aload_n 1, 1) := by decide +kernel
theorem dX3_waysOf_61 : decode cX3_waysOf 61 = .ok (.aload_n 0, 1) := by decide +kernel
theorem dX3_waysOf_62 : decode cX3_waysOf 62 = .ok (.getfield 9, 3) := by decide +kernel
theorem dX3_waysOf_65 : decode cX3_waysOf 65 = .ok (.iload 4, 2) := by decide +kernel
theorem dX3_waysOf_67 : decode cX3_waysOf 67 = .ok (.iconst 1, 1) := by decide +kernel
theorem dX3_waysOf_68 : decode cX3_waysOf 68 = .ok (.iadd, 1) := by decide +kernel
theorem dX3_waysOf_69 : decode cX3_waysOf 69 = .ok (.iload_n 3, 1) := by decide +kernel
theorem dX3_waysOf_70 : decode cX3_waysOf 70 = .ok (.iconst 1, 1) := by decide +kernel
theorem dX3_waysOf_71 : decode cX3_waysOf 71 = .ok (.iload 6, 2) := by decide +kernel
theorem dX3_waysOf_73 : decode cX3_waysOf 73 = .ok (.ishl, 1) := by decide +kernel
theorem dX3_waysOf_74 : decode cX3_waysOf 74 = .ok (.ior, 1) := by decide +kernel
theorem dX3_waysOf_75 : decode cX3_waysOf 75 = .ok (.invokestatic 21, 3) := by decide +kernel
theorem dX3_waysOf_78 : decode cX3_waysOf 78 = .ok (.invokestatic 28, 3) := by decide +kernel
theorem dX3_waysOf_81 : decode cX3_waysOf 81 = .ok (.iadd, 1) := by decide +kernel
theorem dX3_waysOf_82 : decode cX3_waysOf 82 = .ok (.istore 5, 2) := by decide +kernel
theorem dX3_waysOf_84 : decode cX3_waysOf 84 = .ok (.iinc 6 1, 3) := by decide +kernel
theorem dX3_waysOf_87 : decode cX3_waysOf 87 = .ok (.goto (-64), 3) := by decide +kernel
theorem dX3_waysOf_90 : decode cX3_waysOf 90 = .ok (.aload_n 0, 1) := by decide +kernel
theorem dX3_waysOf_91 : decode cX3_waysOf 91 = .ok (.getfield 9, 3) := by decide +kernel
theorem dX3_waysOf_94 : decode cX3_waysOf 94 = .ok (.iload 4, 2) := by decide +kernel
theorem dX3_waysOf_96 : decode cX3_waysOf 96 = .ok (.iload 4, 2) := by decide +kernel
theorem dX3_waysOf_98 : decode cX3_waysOf 98 = .ok (.iastore, 1) := by decide +kernel
theorem dX3_waysOf_99 : decode cX3_waysOf 99 = .ok (.iload_n 3, 1) := by decide +kernel
theorem dX3_waysOf_100 : decode cX3_waysOf 100 = .ok (.iconst 1, 1) := by decide +kernel
theorem dX3_waysOf_101 : decode cX3_waysOf 101 = .ok (.iload 4, 2) := by decide +kernel
theorem dX3_waysOf_103 : decode cX3_waysOf 103 = .ok (.ishl, 1) := by decide +kernel
theorem dX3_waysOf_104 : decode cX3_waysOf 104 = .ok (.ior, 1) := by decide +kernel
theorem dX3_waysOf_105 : decode cX3_waysOf 105 = .ok (.istore_n 3, 1) := by decide +kernel
theorem dX3_waysOf_106 : decode cX3_waysOf 106 = .ok (.iload_n 2, 1) := by decide +kernel
theorem dX3_waysOf_107 : decode cX3_waysOf 107 = .ok (.iload 5, 2) := by decide +kernel
theorem dX3_waysOf_109 : decode cX3_waysOf 109 = .ok (.imul, 1) := by decide +kernel
theorem dX3_waysOf_110 : decode cX3_waysOf 110 = .ok (.istore_n 2, 1) := by decide +kernel
theorem dX3_waysOf_111 : decode cX3_waysOf 111 = .ok (.iinc 4 1, 3) := by decide +kernel
theorem dX3_waysOf_114 : decode cX3_waysOf 114 = .ok (.goto (-107), 3) := by decide +kernel
theorem dX3_waysOf_117 : decode cX3_waysOf 117 = .ok (.iload_n 2, 1) := by decide +kernel
theorem dX3_waysOf_118 : decode cX3_waysOf 118 = .ok (.ireturn, 1) := by decide +kernel
theorem dX4_bestBalanced_0 : decode cX4_bestBalanced 0 = .ok (.iconst (-1), 1) := by decide +kernel
theorem dX4_bestBalanced_1 : decode cX4_bestBalanced 1 = .ok (.istore_n 2, 1) := by decide +kernel
theorem dX4_bestBalanced_2 : decode cX4_bestBalanced 2 = .ok (.iconst 0, 1) := by decide +kernel
theorem dX4_bestBalanced_3 : decode cX4_bestBalanced 3 = .ok (.istore_n 3, 1) := by decide +kernel
theorem dX4_bestBalanced_4 : decode cX4_bestBalanced 4 = .ok (.iconst 0, 1) := by decide +kernel
theorem dX4_bestBalanced_5 : decode cX4_bestBalanced 5 = .ok (.istore 4, 2) := by decide +kernel
theorem dX4_bestBalanced_7 : decode cX4_bestBalanced 7 = .ok (.iload 4, 2) := by decide +kernel
theorem dX4_bestBalanced_9 : decode cX4_bestBalanced 9 = .ok (.aload_n 1, 1) := by decide +kernel
theorem dX4_bestBalanced_10 : decode cX4_bestBalanced 10 = .ok (.invokevirtual 24, 3) := by decide +kernel
theorem dX4_bestBalanced_13 : decode cX4_bestBalanced 13 = .ok (.if_icmp .ge 89, 3) := by decide +kernel
theorem dX4_bestBalanced_16 : decode cX4_bestBalanced 16 = .ok (.iload 4, 2) := by decide +kernel
theorem dX4_bestBalanced_18 : decode cX4_bestBalanced 18 = .ok (.iconst 1, 1) := by decide +kernel
theorem dX4_bestBalanced_19 : decode cX4_bestBalanced 19 = .ok (.iadd, 1) := by decide +kernel
theorem dX4_bestBalanced_20 : decode cX4_bestBalanced 20 = .ok (.istore 5, 2) := by decide +kernel
theorem dX4_bestBalanced_22 : decode cX4_bestBalanced 22 = .ok (.iload 5, 2) := by decide +kernel
theorem dX4_bestBalanced_24 : decode cX4_bestBalanced 24 = .ok (.aload_n 1, 1) := by decide +kernel
theorem dX4_bestBalanced_25 : decode cX4_bestBalanced 25 = .ok (.invokevirtual 24, 3) := by decide +kernel
theorem dX4_bestBalanced_28 : decode cX4_bestBalanced 28 = .ok (.if_icmp .ge 68, 3) := by decide +kernel
theorem dX4_bestBalanced_31 : decode cX4_bestBalanced 31 = .ok (.aload_n 1, 1) := by decide +kernel
theorem dX4_bestBalanced_32 : decode cX4_bestBalanced 32 = .ok (.iload 4, 2) := by decide +kernel
theorem dX4_bestBalanced_34 : decode cX4_bestBalanced 34 = .ok (.invokevirtual 57, 3) := by decide +kernel
theorem dX4_bestBalanced_37 : decode cX4_bestBalanced 37 = .ok (.iload 5, 2) := by decide +kernel
theorem dX4_bestBalanced_39 : decode cX4_bestBalanced 39 = .ok (.ishr, 1) := by decide +kernel
theorem dX4_bestBalanced_40 : decode cX4_bestBalanced 40 = .ok (.iconst 1, 1) := by decide +kernel
theorem dX4_bestBalanced_41 : decode cX4_bestBalanced 41 = .ok (.iand, 1) := by decide +kernel
theorem dX4_bestBalanced_42 : decode cX4_bestBalanced 42 = .ok (.iconst 1, 1) := by decide +kernel
theorem dX4_bestBalanced_43 : decode cX4_bestBalanced 43 = .ok (.if_icmp .ne 47, 3) := by decide +kernel
theorem dX4_bestBalanced_46 : decode cX4_bestBalanced 46 = .ok (.iconst 2, 1) := by decide +kernel
theorem dX4_bestBalanced_47 : decode cX4_bestBalanced 47 = .ok (.aload_n 0, 1) := by decide +kernel
theorem dX4_bestBalanced_48 : decode cX4_bestBalanced 48 = .ok (.aload_n 1, 1) := by decide +kernel
theorem dX4_bestBalanced_49 : decode cX4_bestBalanced 49 = .ok (.iload 4, 2) := by decide +kernel
theorem dX4_bestBalanced_51 : decode cX4_bestBalanced 51 = .ok (.iload 5, 2) := by decide +kernel
theorem dX4_bestBalanced_53 : decode cX4_bestBalanced 53 = .ok (.invokevirtual 60, 3) := by decide +kernel
theorem dX4_bestBalanced_56 : decode cX4_bestBalanced 56 = .ok (.imul, 1) := by decide +kernel
theorem dX4_bestBalanced_57 : decode cX4_bestBalanced 57 = .ok (.aload_n 0, 1) := by decide +kernel
theorem dX4_bestBalanced_58 : decode cX4_bestBalanced 58 = .ok (.invokevirtual 31, 3) := by decide +kernel
theorem dX4_bestBalanced_61 : decode cX4_bestBalanced 61 = .ok (.isub, 1) := by decide +kernel
theorem dX4_bestBalanced_62 : decode cX4_bestBalanced 62 = .ok (.invokestatic 63, 3) := by decide +kernel
theorem dX4_bestBalanced_65 : decode cX4_bestBalanced 65 = .ok (.istore 6, 2) := by decide +kernel
theorem dX4_bestBalanced_67 : decode cX4_bestBalanced 67 = .ok (.iload_n 2, 1) := by decide +kernel
theorem dX4_bestBalanced_68 : decode cX4_bestBalanced 68 = .ok (.iconst (-1), 1) := by decide +kernel
theorem dX4_bestBalanced_69 : decode cX4_bestBalanced 69 = .ok (.if_icmp .eq 9, 3) := by decide +kernel
theorem dX4_bestBalanced_72 : decode cX4_bestBalanced 72 = .ok (.iload 6, 2) := by decide +kernel
theorem dX4_bestBalanced_74 : decode cX4_bestBalanced 74 = .ok (.iload_n 3, 1) := by decide +kernel
theorem dX4_bestBalanced_75 : decode cX4_bestBalanced 75 = .ok (.if_icmp .ge 15, 3) := by decide +kernel
theorem dX4_bestBalanced_78 : decode cX4_bestBalanced 78 = .ok (.bipush 10, 2) := by decide +kernel
theorem dX4_bestBalanced_80 : decode cX4_bestBalanced 80 = .ok (.iload 4, 2) := by decide +kernel
theorem dX4_bestBalanced_82 : decode cX4_bestBalanced 82 = .ok (.imul, 1) := by decide +kernel
theorem dX4_bestBalanced_83 : decode cX4_bestBalanced 83 = .ok (.iload 5, 2) := by decide +kernel
theorem dX4_bestBalanced_85 : decode cX4_bestBalanced 85 = .ok (.iadd, 1) := by decide +kernel
theorem dX4_bestBalanced_86 : decode cX4_bestBalanced 86 = .ok (.istore_n 2, 1) := by decide +kernel
theorem dX4_bestBalanced_87 : decode cX4_bestBalanced 87 = .ok (.iload 6, 2) := by decide +kernel
theorem dX4_bestBalanced_89 : decode cX4_bestBalanced 89 = .ok (.istore_n 3, 1) := by decide +kernel
theorem dX4_bestBalanced_90 : decode cX4_bestBalanced 90 = .ok (.iinc 5 1, 3) := by decide +kernel
theorem dX4_bestBalanced_93 : decode cX4_bestBalanced 93 = .ok (.goto (-71), 3) := by decide +kernel
theorem dX4_bestBalanced_96 : decode cX4_bestBalanced 96 = .ok (.iinc 4 1, 3) := by decide +kernel
theorem dX4_bestBalanced_99 : decode cX4_bestBalanced 99 = .ok (.goto (-92), 3) := by decide +kernel
theorem dX4_bestBalanced_102 : decode cX4_bestBalanced 102 = .ok (.iload_n 2, 1) := by decide +kernel
theorem dX4_bestBalanced_103 : decode cX4_bestBalanced 103 = .ok (.ireturn, 1) := by decide +kernel
theorem dX4_fill_0 : decode cX4_fill 0 = .ok (.aload_n 1, 1) := by decide +kernel
theorem dX4_fill_1 : decode cX4_fill 1 = .ok (.invokevirtual 18, 3) := by decide +kernel
theorem dX4_fill_4 : decode cX4_fill 4 = .ok (.istore_n 2, 1) := by decide +kernel
theorem dX4_fill_5 : decode cX4_fill 5 = .ok (.iconst 0, 1) := by decide +kernel
theorem dX4_fill_6 : decode cX4_fill 6 = .ok (.istore_n 3, 1) := by decide +kernel
theorem dX4_fill_7 : decode cX4_fill 7 = .ok (.iload_n 3, 1) := by decide +kernel
theorem dX4_fill_8 : decode cX4_fill 8 = .ok (.sipush 256, 3) := by decide +kernel
theorem dX4_fill_11 : decode cX4_fill 11 = .ok (.if_icmp .ge 23, 3) := by decide +kernel
theorem dX4_fill_14 : decode cX4_fill 14 = .ok (.aload_n 0, 1) := by decide +kernel
theorem dX4_fill_15 : decode cX4_fill 15 = .ok (.getfield 9, 3) := by decide +kernel
theorem dX4_fill_18 : decode cX4_fill 18 = .ok (.iload_n 3, 1) := by decide +kernel
theorem dX4_fill_19 : decode cX4_fill 19 = .ok (.iconst 0, 1) := by decide +kernel
theorem dX4_fill_20 : decode cX4_fill 20 = .ok (.iastore, 1) := by decide +kernel
theorem dX4_fill_21 : decode cX4_fill 21 = .ok (.aload_n 0, 1) := by decide +kernel
theorem dX4_fill_22 : decode cX4_fill 22 = .ok (.getfield 15, 3) := by decide +kernel
theorem dX4_fill_25 : decode cX4_fill 25 = .ok (.iload_n 3, 1) := by decide +kernel
theorem dX4_fill_26 : decode cX4_fill 26 = .ok (.iconst 0, 1) := by decide +kernel
theorem dX4_fill_27 : decode cX4_fill 27 = .ok (.iastore, 1) := by decide +kernel
theorem dX4_fill_28 : decode cX4_fill 28 = .ok (.iinc 3 1, 3) := by decide +kernel
theorem dX4_fill_31 : decode cX4_fill 31 = .ok (.goto (-24), 3) := by decide +kernel
theorem dX4_fill_34 : decode cX4_fill 34 = .ok (.aload_n 0, 1) := by decide +kernel
theorem dX4_fill_35 : decode cX4_fill 35 = .ok (.getfield 9, 3) := by decide +kernel
theorem dX4_fill_38 : decode cX4_fill 38 = .ok (.iconst 0, 1) := by decide +kernel
theorem dX4_fill_39 : decode cX4_fill 39 = .ok (.iconst 1, 1) := by decide +kernel
theorem dX4_fill_40 : decode cX4_fill 40 = .ok (.iastore, 1) := by decide +kernel
theorem dX4_fill_41 : decode cX4_fill 41 = .ok (.iconst 0, 1) := by decide +kernel
theorem dX4_fill_42 : decode cX4_fill 42 = .ok (.istore_n 3, 1) := by decide +kernel
theorem dX4_fill_43 : decode cX4_fill 43 = .ok (.iload_n 3, 1) := by decide +kernel
theorem dX4_fill_44 : decode cX4_fill 44 = .ok (.iload_n 2, 1) := by decide +kernel
theorem dX4_fill_45 : decode cX4_fill 45 = .ok (.if_icmp .ge 66, 3) := by decide +kernel
theorem dX4_fill_48 : decode cX4_fill 48 = .ok (.iconst 0, 1) := by decide +kernel
theorem dX4_fill_49 : decode cX4_fill 49 = .ok (.istore 4, 2) := by decide +kernel
theorem dX4_fill_51 : decode cX4_fill 51 = .ok (.aload_n 0, 1) := by decide +kernel
theorem dX4_fill_52 : decode cX4_fill 52 = .ok (.getfield 9, 3) := by decide +kernel
theorem dX4_fill_55 : decode cX4_fill 55 = .ok (.iload_n 3, 1) := by decide +kernel
theorem dX4_fill_56 : decode cX4_fill 56 = .ok (.iaload, 1) := by decide +kernel
theorem dX4_fill_57 : decode cX4_fill 57 = .ok (.ifCond .le 48, 3) := by decide +kernel
theorem dX4_fill_60 : decode cX4_fill 60 = .ok (.iload 4, 2) := by decide +kernel
theorem dX4_fill_62 : decode cX4_fill 62 = .ok (.aload_n 1, 1) := by decide +kernel
theorem dX4_fill_63 : decode cX4_fill 63 = .ok (.invokevirtual 24, 3) := by decide +kernel
theorem dX4_fill_66 : decode cX4_fill 66 = .ok (.if_icmp .ge 39, 3) := by decide +kernel
theorem dX4_fill_69 : decode cX4_fill 69 = .ok (.aload_n 1, 1) := by decide +kernel
theorem dX4_fill_70 : decode cX4_fill 70 = .ok (.iload_n 3, 1) := by decide +kernel
theorem dX4_fill_71 : decode cX4_fill 71 = .ok (.iload 4, 2) := by decide +kernel
theorem dX4_fill_73 : decode cX4_fill 73 = .ok (.invokevirtual 27, 3) := by decide +kernel
theorem dX4_fill_76 : decode cX4_fill 76 = .ok (.ifCond .eq 23, 3) := by decide +kernel
theorem dX4_fill_79 : decode cX4_fill 79 = .ok (.aload_n 0, 1) := by decide +kernel
theorem dX4_fill_80 : decode cX4_fill 80 = .ok (.getfield 9, 3) := by decide +kernel
theorem dX4_fill_83 : decode cX4_fill 83 = .ok (.iload_n 3, 1) := by decide +kernel
theorem dX4_fill_84 : decode cX4_fill 84 = .ok (.iconst 1, 1) := by decide +kernel
theorem dX4_fill_85 : decode cX4_fill 85 = .ok (.iload 4, 2) := by decide +kernel
theorem dX4_fill_87 : decode cX4_fill 87 = .ok (.ishl, 1) := by decide +kernel
theorem dX4_fill_88 : decode cX4_fill 88 = .ok (.ior, 1) := by decide +kernel
theorem dX4_fill_89 : decode cX4_fill 89 = .ok (.dup2, 1) := by decide +kernel
theorem dX4_fill_90 : decode cX4_fill 90 = .ok (.iaload, 1) := by decide +kernel
theorem dX4_fill_91 : decode cX4_fill 91 = .ok (.aload_n 0, 1) := by decide +kernel
theorem dX4_fill_92 : decode cX4_fill 92 = .ok (.getfield 9, 3) := by decide +kernel
theorem dX4_fill_95 : decode cX4_fill 95 = .ok (.iload_n 3, 1) := by decide +kernel
theorem dX4_fill_96 : decode cX4_fill 96 = .ok (.iaload, 1) := by decide +kernel
theorem dX4_fill_97 : decode cX4_fill 97 = .ok (.iadd, 1) := by decide +kernel
theorem dX4_fill_98 : decode cX4_fill 98 = .ok (.iastore, 1) := by decide +kernel
theorem dX4_fill_99 : decode cX4_fill 99 = .ok (.iinc 4 1, 3) := by decide +kernel
theorem dX4_fill_102 : decode cX4_fill 102 = .ok (.goto (-51), 3) := by decide +kernel
theorem dX4_fill_105 : decode cX4_fill 105 = .ok (.iinc 3 1, 3) := by decide +kernel
theorem dX4_fill_108 : decode cX4_fill 108 = .ok (.goto (-65), 3) := by decide +kernel
theorem dX4_fill_111 : decode cX4_fill 111 = .ok (.aload_n 0, 1) := by decide +kernel
theorem dX4_fill_112 : decode cX4_fill 112 = .ok (.getfield 15, 3) := by decide +kernel
theorem dX4_fill_115 : decode cX4_fill 115 = .ok (.iload_n 2, 1) := by decide +kernel
theorem dX4_fill_116 : decode cX4_fill 116 = .ok (.iconst 1, 1) := by decide +kernel
theorem dX4_fill_117 : decode cX4_fill 117 = .ok (.iastore, 1) := by decide +kernel
theorem dX4_fill_118 : decode cX4_fill 118 = .ok (.iload_n 2, 1) := by decide +kernel
theorem dX4_fill_119 : decode cX4_fill 119 = .ok (.iconst 1, 1) := by decide +kernel
theorem dX4_fill_120 : decode cX4_fill 120 = .ok (.isub, 1) := by decide +kernel
theorem dX4_fill_121 : decode cX4_fill 121 = .ok (.istore_n 3, 1) := by decide +kernel
theorem dX4_fill_122 : decode cX4_fill 122 = .ok (.iload_n 3, 1) := by decide +kernel
theorem dX4_fill_123 : decode cX4_fill 123 = .ok (.ifCond .lt 66, 3) := by decide +kernel
theorem dX4_fill_126 : decode cX4_fill 126 = .ok (.iconst 0, 1) := by decide +kernel
theorem dX4_fill_127 : decode cX4_fill 127 = .ok (.istore 4, 2) := by decide +kernel
theorem dX4_fill_129 : decode cX4_fill 129 = .ok (.aload_n 0, 1) := by decide +kernel
theorem dX4_fill_130 : decode cX4_fill 130 = .ok (.getfield 9, 3) := by decide +kernel
theorem dX4_fill_133 : decode cX4_fill 133 = .ok (.iload_n 3, 1) := by decide +kernel
theorem dX4_fill_134 : decode cX4_fill 134 = .ok (.iaload, 1) := by decide +kernel
theorem dX4_fill_135 : decode cX4_fill 135 = .ok (.ifCond .le 48, 3) := by decide +kernel
theorem dX4_fill_138 : decode cX4_fill 138 = .ok (.iload 4, 2) := by decide +kernel
theorem dX4_fill_140 : decode cX4_fill 140 = .ok (.aload_n 1, 1) := by decide +kernel
theorem dX4_fill_141 : decode cX4_fill 141 = .ok (.invokevirtual 24, 3) := by decide +kernel
theorem dX4_fill_144 : decode cX4_fill 144 = .ok (.if_icmp .ge 39, 3) := by decide +kernel
theorem dX4_fill_147 : decode cX4_fill 147 = .ok (.aload_n 1, 1) := by decide +kernel
theorem dX4_fill_148 : decode cX4_fill 148 = .ok (.iload_n 3, 1) := by decide +kernel
theorem dX4_fill_149 : decode cX4_fill 149 = .ok (.iload 4, 2) := by decide +kernel
theorem dX4_fill_151 : decode cX4_fill 151 = .ok (.invokevirtual 27, 3) := by decide +kernel
theorem dX4_fill_154 : decode cX4_fill 154 = .ok (.ifCond .eq 23, 3) := by decide +kernel
theorem dX4_fill_157 : decode cX4_fill 157 = .ok (.aload_n 0, 1) := by decide +kernel
theorem dX4_fill_158 : decode cX4_fill 158 = .ok (.getfield 15, 3) := by decide +kernel
theorem dX4_fill_161 : decode cX4_fill 161 = .ok (.iload_n 3, 1) := by decide +kernel
theorem dX4_fill_162 : decode cX4_fill 162 = .ok (.dup2, 1) := by decide +kernel
theorem dX4_fill_163 : decode cX4_fill 163 = .ok (.iaload, 1) := by decide +kernel
theorem dX4_fill_164 : decode cX4_fill 164 = .ok (.aload_n 0, 1) := by decide +kernel
theorem dX4_fill_165 : decode cX4_fill 165 = .ok (.getfield 15, 3) := by decide +kernel
theorem dX4_fill_168 : decode cX4_fill 168 = .ok (.iload_n 3, 1) := by decide +kernel
theorem dX4_fill_169 : decode cX4_fill 169 = .ok (.iconst 1, 1) := by decide +kernel
theorem dX4_fill_170 : decode cX4_fill 170 = .ok (.iload 4, 2) := by decide +kernel
theorem dX4_fill_172 : decode cX4_fill 172 = .ok (.ishl, 1) := by decide +kernel
theorem dX4_fill_173 : decode cX4_fill 173 = .ok (.ior, 1) := by decide +kernel
theorem dX4_fill_174 : decode cX4_fill 174 = .ok (.iaload, 1) := by decide +kernel
theorem dX4_fill_175 : decode cX4_fill 175 = .ok (.iadd, 1) := by decide +kernel
theorem dX4_fill_176 : decode cX4_fill 176 = .ok (.iastore, 1) := by decide +kernel
theorem dX4_fill_177 : decode cX4_fill 177 = .ok (.iinc 4 1, 3) := by decide +kernel
theorem dX4_fill_180 : decode cX4_fill 180 = .ok (.goto (-51), 3) := by decide +kernel
theorem dX4_fill_183 : decode cX4_fill 183 = .ok (.iinc 3 (-1), 3) := by decide +kernel
theorem dX4_fill_186 : decode cX4_fill 186 = .ok (.goto (-64), 3) := by decide +kernel
theorem dX4_fill_189 : decode cX4_fill 189 = .ok (.return_, 1) := by decide +kernel
theorem dX4_init_0 : decode cX4_init 0 = .ok (.aload_n 0, 1) := by decide +kernel
theorem dX4_init_1 : decode cX4_init 1 = .ok (.invokespecial 3, 3) := by decide +kernel
theorem dX4_init_4 : decode cX4_init 4 = .ok (.aload_n 0, 1) := by decide +kernel
theorem dX4_init_5 : decode cX4_init 5 = .ok (.sipush 256, 3) := by decide +kernel
theorem dX4_init_8 : decode cX4_init 8 = .ok (.newarray .int, 2) := by decide +kernel
theorem dX4_init_10 : decode cX4_init 10 = .ok (.putfield 9, 3) := by decide +kernel
theorem dX4_init_13 : decode cX4_init 13 = .ok (.aload_n 0, 1) := by decide +kernel
theorem dX4_init_14 : decode cX4_init 14 = .ok (.sipush 256, 3) := by decide +kernel
theorem dX4_init_17 : decode cX4_init 17 = .ok (.newarray .int, 2) := by decide +kernel
theorem dX4_init_19 : decode cX4_init 19 = .ok (.putfield 15, 3) := by decide +kernel
theorem dX4_init_22 : decode cX4_init 22 = .ok (.return_, 1) := by decide +kernel
theorem dX4_numberOf_0 : decode cX4_numberOf 0 = .ok (.iconst 0, 1) := by decide +kernel
theorem dX4_numberOf_1 : decode cX4_numberOf 1 = .ok (.istore_n 3, 1) := by decide +kernel
theorem dX4_numberOf_2 : decode cX4_numberOf 2 = .ok (.iconst 0, 1) := by decide +kernel
theorem dX4_numberOf_3 : decode cX4_numberOf 3 = .ok (.istore 4, 2) := by decide +kernel
theorem dX4_numberOf_5 : decode cX4_numberOf 5 = .ok (.iconst 0, 1) := by decide +kernel
theorem dX4_numberOf_6 : decode cX4_numberOf 6 = .ok (.istore 5, 2) := by decide +kernel
theorem dX4_numberOf_8 : decode cX4_numberOf 8 = .ok (.iload 5, 2) := by decide +kernel
theorem dX4_numberOf_10 : decode cX4_numberOf 10 = .ok (.aload_n 1, 1) := by decide +kernel
theorem dX4_numberOf_11 : decode cX4_numberOf 11 = .ok (.invokevirtual 24, 3) := by decide +kernel
theorem dX4_numberOf_14 : decode cX4_numberOf 14 = .ok (.if_icmp .ge 71, 3) := by decide +kernel
theorem dX4_numberOf_17 : decode cX4_numberOf 17 = .ok (.aload_n 1, 1) := by decide +kernel
theorem dX4_numberOf_18 : decode cX4_numberOf 18 = .ok (.invokevirtual 38, 3) := by decide +kernel
theorem dX4_numberOf_21 : decode cX4_numberOf 21 = .ok (.iload_n 2, 1) := by decide +kernel
theorem dX4_numberOf_22 : decode cX4_numberOf 22 = .ok (.iload 5, 2) := by decide +kernel
theorem dX4_numberOf_24 : decode cX4_numberOf 24 = .ok (.invokevirtual 42, 3) := by decide +kernel
theorem dX4_numberOf_27 : decode cX4_numberOf 27 = .ok (.istore 6, 2) := by decide +kernel
theorem dX4_numberOf_29 : decode cX4_numberOf 29 = .ok (.aload_n 1, 1) := by decide +kernel
theorem dX4_numberOf_30 : decode cX4_numberOf 30 = .ok (.iload 4, 2) := by decide +kernel
theorem dX4_numberOf_32 : decode cX4_numberOf 32 = .ok (.iload 6, 2) := by decide +kernel
theorem dX4_numberOf_34 : decode cX4_numberOf 34 = .ok (.invokevirtual 27, 3) := by decide +kernel
theorem dX4_numberOf_37 : decode cX4_numberOf 37 = .ok (.ifCond .ne 5, 3) := by decide +kernel
theorem dX4_numberOf_40 : decode cX4_numberOf 40 = .ok (.iconst (-1), 1) := by decide +kernel
theorem dX4_numberOf_41 : decode cX4_numberOf 41 = .ok (.ireturn, 1) := by decide +kernel
theorem dX4_numberOf_42 : decode cX4_numberOf 42 = .ok (.iconst 0, 1) := by decide +kernel
theorem dX4_numberOf_43 : decode cX4_numberOf 43 = .ok (.istore 7, 2) := by decide +kernel
theorem dX4_numberOf_45 : decode cX4_numberOf 45 = .ok (.iload 7, 2) := by decide +kernel
theorem dX4_numberOf_47 : decode cX4_numberOf 47 = .ok (.iload 6, 2) := by decide +kernel
theorem dX4_numberOf_49 : decode cX4_numberOf 49 = .ok (.if_icmp .ge 21, 3) := by decide +kernel
theorem dX4_numberOf_52 : decode cX4_numberOf 52 = .ok (.iload_n 3, 1) := by decide +kernel
theorem dX4_numberOf_53 : decode cX4_numberOf 53 = .ok (.aload_n 0, 1) := by decide +kernel
theorem dX4_numberOf_54 : decode cX4_numberOf 54 = .ok (.aload_n 1, 1) := by decide +kernel
theorem dX4_numberOf_55 : decode cX4_numberOf 55 = .ok (.iload 4, 2) := by decide +kernel
theorem dX4_numberOf_57 : decode cX4_numberOf 57 = .ok (.iload 7, 2) := by decide +kernel
theorem dX4_numberOf_59 : decode cX4_numberOf 59 = .ok (.invokevirtual 34, 3) := by decide +kernel
theorem dX4_numberOf_62 : decode cX4_numberOf 62 = .ok (.iadd, 1) := by decide +kernel
theorem dX4_numberOf_63 : decode cX4_numberOf 63 = .ok (.istore_n 3, 1) := by decide +kernel
theorem dX4_numberOf_64 : decode cX4_numberOf 64 = .ok (.iinc 7 1, 3) := by decide +kernel
theorem dX4_numberOf_67 : decode cX4_numberOf 67 = .ok (.goto (-22), 3) := by decide +kernel
theorem dX4_numberOf_70 : decode cX4_numberOf 70 = .ok (.iload 4, 2) := by decide +kernel
theorem dX4_numberOf_72 : decode cX4_numberOf 72 = .ok (.iconst 1, 1) := by decide +kernel
theorem dX4_numberOf_73 : decode cX4_numberOf 73 = .ok (.iload 6, 2) := by decide +kernel
theorem dX4_numberOf_75 : decode cX4_numberOf 75 = .ok (.ishl, 1) := by decide +kernel
theorem dX4_numberOf_76 : decode cX4_numberOf 76 = .ok (.ior, 1) := by decide +kernel
theorem dX4_numberOf_77 : decode cX4_numberOf 77 = .ok (.istore 4, 2) := by decide +kernel
theorem dX4_numberOf_79 : decode cX4_numberOf 79 = .ok (.iinc 5 1, 3) := by decide +kernel
theorem dX4_numberOf_82 : decode cX4_numberOf 82 = .ok (.goto (-74), 3) := by decide +kernel
theorem dX4_numberOf_85 : decode cX4_numberOf 85 = .ok (.iload_n 3, 1) := by decide +kernel
theorem dX4_numberOf_86 : decode cX4_numberOf 86 = .ok (.ireturn, 1) := by decide +kernel
theorem dX4_placeSum_0 : decode cX4_placeSum 0 = .ok (.iconst 0, 1) := by decide +kernel
theorem dX4_placeSum_1 : decode cX4_placeSum 1 = .ok (.istore_n 3, 1) := by decide +kernel
theorem dX4_placeSum_2 : decode cX4_placeSum 2 = .ok (.iconst 1, 1) := by decide +kernel
theorem dX4_placeSum_3 : decode cX4_placeSum 3 = .ok (.istore 4, 2) := by decide +kernel
theorem dX4_placeSum_5 : decode cX4_placeSum 5 = .ok (.iload 4, 2) := by decide +kernel
theorem dX4_placeSum_7 : decode cX4_placeSum 7 = .ok (.aload_n 1, 1) := by decide +kernel
theorem dX4_placeSum_8 : decode cX4_placeSum 8 = .ok (.invokevirtual 24, 3) := by decide +kernel
theorem dX4_placeSum_11 : decode cX4_placeSum 11 = .ok (.if_icmp .ge 23, 3) := by decide +kernel
theorem dX4_placeSum_14 : decode cX4_placeSum 14 = .ok (.iload_n 3, 1) := by decide +kernel
theorem dX4_placeSum_15 : decode cX4_placeSum 15 = .ok (.iload 4, 2) := by decide +kernel
theorem dX4_placeSum_17 : decode cX4_placeSum 17 = .ok (.aload_n 0, 1) := by decide +kernel
theorem dX4_placeSum_18 : decode cX4_placeSum 18 = .ok (.aload_n 1, 1) := by decide +kernel
theorem dX4_placeSum_19 : decode cX4_placeSum 19 = .ok (.iload_n 2, 1) := by decide +kernel
theorem dX4_placeSum_20 : decode cX4_placeSum 20 = .ok (.iload 4, 2) := by decide +kernel
theorem dX4_placeSum_22 : decode cX4_placeSum 22 = .ok (.invokevirtual 54, 3) := by decide +kernel
theorem dX4_placeSum_25 : decode cX4_placeSum 25 = .ok (.imul, 1) := by decide +kernel
theorem dX4_placeSum_26 : decode cX4_placeSum 26 = .ok (.iadd, 1) := by decide +kernel
theorem dX4_placeSum_27 : decode cX4_placeSum 27 = .ok (.istore_n 3, 1) := by decide +kernel
theorem dX4_placeSum_28 : decode cX4_placeSum 28 = .ok (.iinc 4 1, 3) := by decide +kernel
theorem dX4_placeSum_31 : decode cX4_placeSum 31 = .ok (.goto (-26), 3) := by decide +kernel
theorem dX4_placeSum_34 : decode cX4_placeSum 34 = .ok (.iload_n 3, 1) := by decide +kernel
theorem dX4_placeSum_35 : decode cX4_placeSum 35 = .ok (.ireturn, 1) := by decide +kernel
theorem dX4_thatBeginWith_0 : decode cX4_thatBeginWith 0 = .ok (.iload_n 1, 1) := by decide +kernel
theorem dX4_thatBeginWith_1 : decode cX4_thatBeginWith 1 = .ok (.ifCond .lt 26, 3) := by decide +kernel
theorem dX4_thatBeginWith_4 : decode cX4_thatBeginWith 4 = .ok (.iload_n 1, 1) := by decide +kernel
theorem dX4_thatBeginWith_5 : decode cX4_thatBeginWith 5 = .ok (.sipush 256, 3) := by decide +kernel
theorem dX4_thatBeginWith_8 : decode cX4_thatBeginWith 8 = .ok (.if_icmp .ge 19, 3) := by decide +kernel
theorem dX4_thatBeginWith_11 : decode cX4_thatBeginWith 11 = .ok (.aload_n 0, 1) := by decide +kernel
theorem dX4_thatBeginWith_12 : decode cX4_thatBeginWith 12 = .ok (.getfield 9, 3) := by decide +kernel
theorem dX4_thatBeginWith_15 : decode cX4_thatBeginWith 15 = .ok (.iload_n 1, 1) := by decide +kernel
theorem dX4_thatBeginWith_16 : decode cX4_thatBeginWith 16 = .ok (.iaload, 1) := by decide +kernel
theorem dX4_thatBeginWith_17 : decode cX4_thatBeginWith 17 = .ok (.aload_n 0, 1) := by decide +kernel
theorem dX4_thatBeginWith_18 : decode cX4_thatBeginWith 18 = .ok (.getfield 15, 3) := by decide +kernel
theorem dX4_thatBeginWith_21 : decode cX4_thatBeginWith 21 = .ok (.iload_n 1, 1) := by decide +kernel
theorem dX4_thatBeginWith_22 : decode cX4_thatBeginWith 22 = .ok (.iaload, 1) := by decide +kernel
theorem dX4_thatBeginWith_23 : decode cX4_thatBeginWith 23 = .ok (.imul, 1) := by decide +kernel
theorem dX4_thatBeginWith_24 : decode cX4_thatBeginWith 24 = .ok (.goto 4, 3) := by decide +kernel
theorem dX4_thatBeginWith_27 : decode cX4_thatBeginWith 27 = .ok (.iconst 0, 1) := by decide +kernel
theorem dX4_thatBeginWith_28 : decode cX4_thatBeginWith 28 = .ok (.ireturn, 1) := by decide +kernel
theorem dX4_thingAt_0 : decode cX4_thingAt 0 = .ok (.iload_n 2, 1) := by decide +kernel
theorem dX4_thingAt_1 : decode cX4_thingAt 1 = .ok (.ifCond .lt 11, 3) := by decide +kernel
theorem dX4_thingAt_4 : decode cX4_thingAt 4 = .ok (.iload_n 2, 1) := by decide +kernel
theorem dX4_thingAt_5 : decode cX4_thingAt 5 = .ok (.aload_n 0, 1) := by decide +kernel
theorem dX4_thingAt_6 : decode cX4_thingAt 6 = .ok (.invokevirtual 31, 3) := by decide +kernel
theorem dX4_thingAt_9 : decode cX4_thingAt 9 = .ok (.if_icmp .lt 5, 3) := by decide +kernel
theorem dX4_thingAt_12 : decode cX4_thingAt 12 = .ok (.iconst (-1), 1) := by decide +kernel
theorem dX4_thingAt_13 : decode cX4_thingAt 13 = .ok (.ireturn, 1) := by decide +kernel
theorem dX4_thingAt_14 : decode cX4_thingAt 14 = .ok (.iload_n 2, 1) := by decide +kernel
theorem dX4_thingAt_15 : decode cX4_thingAt 15 = .ok (.istore 4, 2) := by decide +kernel
theorem dX4_thingAt_17 : decode cX4_thingAt 17 = .ok (.iconst 0, 1) := by decide +kernel
theorem dX4_thingAt_18 : decode cX4_thingAt 18 = .ok (.istore 5, 2) := by decide +kernel
theorem dX4_thingAt_20 : decode cX4_thingAt 20 = .ok (.iconst (-1), 1) := by decide +kernel
theorem dX4_thingAt_21 : decode cX4_thingAt 21 = .ok (.istore 6, 2) := by decide +kernel
theorem dX4_thingAt_23 : decode cX4_thingAt 23 = .ok (.iconst 0, 1) := by decide +kernel
theorem dX4_thingAt_24 : decode cX4_thingAt 24 = .ok (.istore 7, 2) := by decide +kernel
theorem dX4_thingAt_26 : decode cX4_thingAt 26 = .ok (.iload 7, 2) := by decide +kernel
theorem dX4_thingAt_28 : decode cX4_thingAt 28 = .ok (.iload_n 3, 1) := by decide +kernel
theorem dX4_thingAt_29 : decode cX4_thingAt 29 = .ok (.if_icmp .gt 73, 3) := by decide +kernel
theorem dX4_thingAt_32 : decode cX4_thingAt 32 = .ok (.iload 7, 2) := by decide +kernel
theorem dX4_thingAt_34 : decode cX4_thingAt 34 = .ok (.aload_n 1, 1) := by decide +kernel
theorem dX4_thingAt_35 : decode cX4_thingAt 35 = .ok (.invokevirtual 24, 3) := by decide +kernel
theorem dX4_thingAt_38 : decode cX4_thingAt 38 = .ok (.if_icmp .ge 64, 3) := by decide +kernel
theorem dX4_thingAt_41 : decode cX4_thingAt 41 = .ok (.iconst 0, 1) := by decide +kernel
theorem dX4_thingAt_42 : decode cX4_thingAt 42 = .ok (.istore 6, 2) := by decide +kernel
theorem dX4_thingAt_44 : decode cX4_thingAt 44 = .ok (.iload 6, 2) := by decide +kernel
theorem dX4_thingAt_46 : decode cX4_thingAt 46 = .ok (.aload_n 1, 1) := by decide +kernel
theorem dX4_thingAt_47 : decode cX4_thingAt 47 = .ok (.invokevirtual 24, 3) := by decide +kernel
theorem dX4_thingAt_50 : decode cX4_thingAt 50 = .ok (.if_icmp .ge 37, 3) := by decide +kernel
theorem dX4_thingAt_53 : decode cX4_thingAt 53 = .ok (.aload_n 0, 1) := by decide +kernel
theorem dX4_thingAt_54 : decode cX4_thingAt 54 = .ok (.aload_n 1, 1) := by decide +kernel
theorem dX4_thingAt_55 : decode cX4_thingAt 55 = .ok (.iload 5, 2) := by decide +kernel
theorem dX4_thingAt_57 : decode cX4_thingAt 57 = .ok (.iload 6, 2) := by decide +kernel
theorem dX4_thingAt_59 : decode cX4_thingAt 59 = .ok (.invokevirtual 34, 3) := by decide +kernel
theorem dX4_thingAt_62 : decode cX4_thingAt 62 = .ok (.istore 8, 2) := by decide +kernel
theorem dX4_thingAt_64 : decode cX4_thingAt 64 = .ok (.iload 4, 2) := by decide +kernel
theorem dX4_thingAt_66 : decode cX4_thingAt 66 = .ok (.iload 8, 2) := by decide +kernel
theorem dX4_thingAt_68 : decode cX4_thingAt 68 = .ok (.if_icmp .ge 6, 3) := by decide +kernel
theorem dX4_thingAt_71 : decode cX4_thingAt 71 = .ok (.goto 16, 3) := by decide +kernel
theorem dX4_thingAt_74 : decode cX4_thingAt 74 = .ok (.iload 4, 2) := by decide +kernel
theorem dX4_thingAt_76 : decode cX4_thingAt 76 = .ok (.iload 8, 2) := by decide +kernel
theorem dX4_thingAt_78 : decode cX4_thingAt 78 = .ok (.isub, 1) := by decide +kernel
theorem dX4_thingAt_79 : decode cX4_thingAt 79 = .ok (.istore 4, 2) := by decide +kernel
theorem dX4_thingAt_81 : decode cX4_thingAt 81 = .ok (.iinc 6 1, 3) := by decide +kernel
theorem dX4_thingAt_84 : decode cX4_thingAt 84 = .ok (.goto (-40), 3) := by decide +kernel
theorem dX4_thingAt_87 : decode cX4_thingAt 87 = .ok (.iload 5, 2) := by decide +kernel
theorem dX4_thingAt_89 : decode cX4_thingAt 89 = .ok (.iconst 1, 1) := by decide +kernel
theorem dX4_thingAt_90 : decode cX4_thingAt 90 = .ok (.iload 6, 2) := by decide +kernel
theorem dX4_thingAt_92 : decode cX4_thingAt 92 = .ok (.ishl, 1) := by decide +kernel
theorem dX4_thingAt_93 : decode cX4_thingAt 93 = .ok (.ior, 1) := by decide +kernel
theorem dX4_thingAt_94 : decode cX4_thingAt 94 = .ok (.istore 5, 2) := by decide +kernel
theorem dX4_thingAt_96 : decode cX4_thingAt 96 = .ok (.iinc 7 1, 3) := by decide +kernel
theorem dX4_thingAt_99 : decode cX4_thingAt 99 = .ok (.goto (-73), 3) := by decide +kernel
theorem dX4_thingAt_102 : decode cX4_thingAt 102 = .ok (.iload 6, 2) := by decide +kernel
theorem dX4_thingAt_104 : decode cX4_thingAt 104 = .ok (.ireturn, 1) := by decide +kernel
theorem dX4_total_0 : decode cX4_total 0 = .ok (.aload_n 0, 1) := by decide +kernel
theorem dX4_total_1 : decode cX4_total 1 = .ok (.getfield 15, 3) := by decide +kernel
theorem dX4_total_4 : decode cX4_total 4 = .ok (.iconst 0, 1) := by decide +kernel
theorem dX4_total_5 : decode cX4_total 5 = .ok (.iaload, 1) := by decide +kernel
theorem dX4_total_6 : decode cX4_total 6 = .ok (.ireturn, 1) := by decide +kernel
theorem dX4_waysWith_0 : decode cX4_waysWith 0 = .ok (.aload_n 1, 1) := by decide +kernel
theorem dX4_waysWith_1 : decode cX4_waysWith 1 = .ok (.iload_n 2, 1) := by decide +kernel
theorem dX4_waysWith_2 : decode cX4_waysWith 2 = .ok (.iload_n 3, 1) := by decide +kernel
theorem dX4_waysWith_3 : decode cX4_waysWith 3 = .ok (.invokevirtual 27, 3) := by decide +kernel
theorem dX4_waysWith_6 : decode cX4_waysWith 6 = .ok (.ifCond .eq 20, 3) := by decide +kernel
theorem dX4_waysWith_9 : decode cX4_waysWith 9 = .ok (.aload_n 0, 1) := by decide +kernel
theorem dX4_waysWith_10 : decode cX4_waysWith 10 = .ok (.getfield 15, 3) := by decide +kernel
theorem dX4_waysWith_13 : decode cX4_waysWith 13 = .ok (.iload_n 2, 1) := by decide +kernel
theorem dX4_waysWith_14 : decode cX4_waysWith 14 = .ok (.iconst 1, 1) := by decide +kernel
theorem dX4_waysWith_15 : decode cX4_waysWith 15 = .ok (.iload_n 3, 1) := by decide +kernel
theorem dX4_waysWith_16 : decode cX4_waysWith 16 = .ok (.ishl, 1) := by decide +kernel
theorem dX4_waysWith_17 : decode cX4_waysWith 17 = .ok (.ior, 1) := by decide +kernel
theorem dX4_waysWith_18 : decode cX4_waysWith 18 = .ok (.sipush 255, 3) := by decide +kernel
theorem dX4_waysWith_21 : decode cX4_waysWith 21 = .ok (.iand, 1) := by decide +kernel
theorem dX4_waysWith_22 : decode cX4_waysWith 22 = .ok (.iaload, 1) := by decide +kernel
theorem dX4_waysWith_23 : decode cX4_waysWith 23 = .ok (.goto 4, 3) := by decide +kernel
theorem dX4_waysWith_26 : decode cX4_waysWith 26 = .ok (.iconst 0, 1) := by decide +kernel
theorem dX4_waysWith_27 : decode cX4_waysWith 27 = .ok (.ireturn, 1) := by decide +kernel
theorem dX4_withFirstAhead_0 : decode cX4_withFirstAhead 0 = .ok (.iconst 0, 1) := by decide +kernel
theorem dX4_withFirstAhead_1 : decode cX4_withFirstAhead 1 = .ok (.istore 4, 2) := by decide +kernel
theorem dX4_withFirstAhead_3 : decode cX4_withFirstAhead 3 = .ok (.iconst 0, 1) := by decide +kernel
theorem dX4_withFirstAhead_4 : decode cX4_withFirstAhead 4 = .ok (.istore 5, 2) := by decide +kernel
theorem dX4_withFirstAhead_6 : decode cX4_withFirstAhead 6 = .ok (.iload 5, 2) := by decide +kernel
theorem dX4_withFirstAhead_8 : decode cX4_withFirstAhead 8 = .ok (.aload_n 1, 1) := by decide +kernel
theorem dX4_withFirstAhead_9 : decode cX4_withFirstAhead 9 = .ok (.invokevirtual 18, 3) := by decide +kernel
theorem dX4_withFirstAhead_12 : decode cX4_withFirstAhead 12 = .ok (.if_icmp .ge 40, 3) := by decide +kernel
theorem dX4_withFirstAhead_15 : decode cX4_withFirstAhead 15 = .ok (.iload 5, 2) := by decide +kernel
theorem dX4_withFirstAhead_17 : decode cX4_withFirstAhead 17 = .ok (.iload_n 2, 1) := by decide +kernel
theorem dX4_withFirstAhead_18 : decode cX4_withFirstAhead 18 = .ok (.ishr, 1) := by decide +kernel
theorem dX4_withFirstAhead_19 : decode cX4_withFirstAhead 19 = .ok (.iconst 1, 1) := by decide +kernel
theorem dX4_withFirstAhead_20 : decode cX4_withFirstAhead 20 = .ok (.iand, 1) := by decide +kernel
theorem dX4_withFirstAhead_21 : decode cX4_withFirstAhead 21 = .ok (.iconst 1, 1) := by decide +kernel
theorem dX4_withFirstAhead_22 : decode cX4_withFirstAhead 22 = .ok (.if_icmp .ne 24, 3) := by decide +kernel
theorem dX4_withFirstAhead_25 : decode cX4_withFirstAhead 25 = .ok (.iload 4, 2) := by decide +kernel
theorem dX4_withFirstAhead_27 : decode cX4_withFirstAhead 27 = .ok (.aload_n 0, 1) := by decide +kernel
theorem dX4_withFirstAhead_28 : decode cX4_withFirstAhead 28 = .ok (.getfield 9, 3) := by decide +kernel
theorem dX4_withFirstAhead_31 : decode cX4_withFirstAhead 31 = .ok (.iload 5, 2) := by decide +kernel
theorem dX4_withFirstAhead_33 : decode cX4_withFirstAhead 33 = .ok (.iaload, 1) := by decide +kernel
theorem dX4_withFirstAhead_34 : decode cX4_withFirstAhead 34 = .ok (.aload_n 0, 1) := by decide +kernel
theorem dX4_withFirstAhead_35 : decode cX4_withFirstAhead 35 = .ok (.aload_n 1, 1) := by decide +kernel
theorem dX4_withFirstAhead_36 : decode cX4_withFirstAhead 36 = .ok (.iload 5, 2) := by decide +kernel
theorem dX4_withFirstAhead_38 : decode cX4_withFirstAhead 38 = .ok (.iload_n 3, 1) := by decide +kernel
theorem dX4_withFirstAhead_39 : decode cX4_withFirstAhead 39 = .ok (.invokevirtual 34, 3) := by decide +kernel
theorem dX4_withFirstAhead_42 : decode cX4_withFirstAhead 42 = .ok (.imul, 1) := by decide +kernel
theorem dX4_withFirstAhead_43 : decode cX4_withFirstAhead 43 = .ok (.iadd, 1) := by decide +kernel
theorem dX4_withFirstAhead_44 : decode cX4_withFirstAhead 44 = .ok (.istore 4, 2) := by decide +kernel
theorem dX4_withFirstAhead_46 : decode cX4_withFirstAhead 46 = .ok (.iinc 5 1, 3) := by decide +kernel
theorem dX4_withFirstAhead_49 : decode cX4_withFirstAhead 49 = .ok (.goto (-43), 3) := by decide +kernel
theorem dX4_withFirstAhead_52 : decode cX4_withFirstAhead 52 = .ok (.iload 4, 2) := by decide +kernel
theorem dX4_withFirstAhead_54 : decode cX4_withFirstAhead 54 = .ok (.ireturn, 1) := by decide +kernel
theorem dX4_withThingAt_0 : decode cX4_withThingAt 0 = .ok (.iconst 0, 1) := by decide +kernel
theorem dX4_withThingAt_1 : decode cX4_withThingAt 1 = .ok (.istore 4, 2) := by decide +kernel
theorem dX4_withThingAt_3 : decode cX4_withThingAt 3 = .ok (.iconst 0, 1) := by decide +kernel
theorem dX4_withThingAt_4 : decode cX4_withThingAt 4 = .ok (.istore 5, 2) := by decide +kernel
theorem dX4_withThingAt_6 : decode cX4_withThingAt 6 = .ok (.iload 5, 2) := by decide +kernel
theorem dX4_withThingAt_8 : decode cX4_withThingAt 8 = .ok (.aload_n 1, 1) := by decide +kernel
theorem dX4_withThingAt_9 : decode cX4_withThingAt 9 = .ok (.invokevirtual 18, 3) := by decide +kernel
theorem dX4_withThingAt_12 : decode cX4_withThingAt 12 = .ok (.if_icmp .ge 39, 3) := by decide +kernel
theorem dX4_withThingAt_15 : decode cX4_withThingAt 15 = .ok (.iload 5, 2) := by decide +kernel
theorem dX4_withThingAt_17 : decode cX4_withThingAt 17 = .ok (.invokestatic 48, 3) := by decide +kernel
theorem dX4_withThingAt_20 : decode cX4_withThingAt 20 = .ok (.iload_n 3, 1) := by decide +kernel
theorem dX4_withThingAt_21 : decode cX4_withThingAt 21 = .ok (.if_icmp .ne 24, 3) := by decide +kernel
theorem dX4_withThingAt_24 : decode cX4_withThingAt 24 = .ok (.iload 4, 2) := by decide +kernel
theorem dX4_withThingAt_26 : decode cX4_withThingAt 26 = .ok (.aload_n 0, 1) := by decide +kernel
theorem dX4_withThingAt_27 : decode cX4_withThingAt 27 = .ok (.getfield 9, 3) := by decide +kernel
theorem dX4_withThingAt_30 : decode cX4_withThingAt 30 = .ok (.iload 5, 2) := by decide +kernel
theorem dX4_withThingAt_32 : decode cX4_withThingAt 32 = .ok (.iaload, 1) := by decide +kernel
theorem dX4_withThingAt_33 : decode cX4_withThingAt 33 = .ok (.aload_n 0, 1) := by decide +kernel
theorem dX4_withThingAt_34 : decode cX4_withThingAt 34 = .ok (.aload_n 1, 1) := by decide +kernel
theorem dX4_withThingAt_35 : decode cX4_withThingAt 35 = .ok (.iload 5, 2) := by decide +kernel
theorem dX4_withThingAt_37 : decode cX4_withThingAt 37 = .ok (.iload_n 2, 1) := by decide +kernel
theorem dX4_withThingAt_38 : decode cX4_withThingAt 38 = .ok (.invokevirtual 34, 3) := by decide +kernel
theorem dX4_withThingAt_41 : decode cX4_withThingAt 41 = .ok (.imul, 1) := by decide +kernel
theorem dX4_withThingAt_42 : decode cX4_withThingAt 42 = .ok (.iadd, 1) := by decide +kernel
theorem dX4_withThingAt_43 : decode cX4_withThingAt 43 = .ok (.istore 4, 2) := by decide +kernel
theorem dX4_withThingAt_45 : decode cX4_withThingAt 45 = .ok (.iinc 5 1, 3) := by decide +kernel
theorem dX4_withThingAt_48 : decode cX4_withThingAt 48 = .ok (.goto (-42), 3) := by decide +kernel
theorem dX4_withThingAt_51 : decode cX4_withThingAt 51 = .ok (.iload 4, 2) := by decide +kernel
theorem dX4_withThingAt_53 : decode cX4_withThingAt 53 = .ok (.ireturn, 1) := by decide +kernel
theorem dX5_aboveOf_0 : decode cX5_aboveOf 0 = .ok (.aload_n 0, 1) := by decide +kernel
theorem dX5_aboveOf_1 : decode cX5_aboveOf 1 = .ok (.iload_n 1, 1) := by decide +kernel
theorem dX5_aboveOf_2 : decode cX5_aboveOf 2 = .ok (.invokevirtual 46, 3) := by decide +kernel
theorem dX5_aboveOf_5 : decode cX5_aboveOf 5 = .ok (.ifCond .eq 12, 3) := by decide +kernel
theorem dX5_aboveOf_8 : decode cX5_aboveOf 8 = .ok (.aload_n 0, 1) := by decide +kernel
theorem dX5_aboveOf_9 : decode cX5_aboveOf 9 = .ok (.getfield 15, 3) := by decide +kernel
theorem dX5_aboveOf_12 : decode cX5_aboveOf 12 = .ok (.iload_n 1, 1) := by decide +kernel
theorem dX5_aboveOf_13 : decode cX5_aboveOf 13 = .ok (.iaload, 1) := by decide +kernel
theorem dX5_aboveOf_14 : decode cX5_aboveOf 14 = .ok (.goto 4, 3) := by decide +kernel
theorem dX5_aboveOf_17 : decode cX5_aboveOf 17 = .ok (.iconst 0, 1) := by decide +kernel
theorem dX5_aboveOf_18 : decode cX5_aboveOf 18 = .ok (.ireturn, 1) := by decide +kernel
theorem dX5_all_0 : decode cX5_all 0 = .ok (.iconst 1, 1) := by decide +kernel
theorem dX5_all_1 : decode cX5_all 1 = .ok (.aload_n 0, 1) := by decide +kernel
theorem dX5_all_2 : decode cX5_all 2 = .ok (.getfield 25, 3) := by decide +kernel
theorem dX5_all_5 : decode cX5_all 5 = .ok (.ishl, 1) := by decide +kernel
theorem dX5_all_6 : decode cX5_all 6 = .ok (.iconst 1, 1) := by decide +kernel
theorem dX5_all_7 : decode cX5_all 7 = .ok (.isub, 1) := by decide +kernel
theorem dX5_all_8 : decode cX5_all 8 = .ok (.ireturn, 1) := by decide +kernel
theorem dX5_allRowsAreLines_0 : decode cX5_allRowsAreLines 0 = .ok (.iconst 0, 1) := by decide +kernel
theorem dX5_allRowsAreLines_1 : decode cX5_allRowsAreLines 1 = .ok (.istore_n 1, 1) := by decide +kernel
theorem dX5_allRowsAreLines_2 : decode cX5_allRowsAreLines 2 = .ok (.iload_n 1, 1) := by decide +kernel
theorem dX5_allRowsAreLines_3 : decode cX5_allRowsAreLines 3 = .ok (.aload_n 0, 1) := by decide +kernel
theorem dX5_allRowsAreLines_4 : decode cX5_allRowsAreLines 4 = .ok (.getfield 21, 3) := by decide +kernel
theorem dX5_allRowsAreLines_7 : decode cX5_allRowsAreLines 7 = .ok (.invokevirtual 94, 3) := by decide +kernel
theorem dX5_allRowsAreLines_10 : decode cX5_allRowsAreLines 10 = .ok (.if_icmp .ge 57, 3) := by decide +kernel
theorem dX5_allRowsAreLines_13 : decode cX5_allRowsAreLines 13 = .ok (.iconst 0, 1) := by decide +kernel
theorem dX5_allRowsAreLines_14 : decode cX5_allRowsAreLines 14 = .ok (.istore_n 2, 1) := by decide +kernel
theorem dX5_allRowsAreLines_15 : decode cX5_allRowsAreLines 15 = .ok (.iconst 0, 1) := by decide +kernel
theorem dX5_allRowsAreLines_16 : decode cX5_allRowsAreLines 16 = .ok (.istore_n 3, 1) := by decide +kernel
theorem dX5_allRowsAreLines_17 : decode cX5_allRowsAreLines 17 = .ok (.iload_n 3, 1) := by decide +kernel
theorem dX5_allRowsAreLines_18 : decode cX5_allRowsAreLines 18 = .ok (.aload_n 0, 1) := by decide +kernel
theorem dX5_allRowsAreLines_19 : decode cX5_allRowsAreLines 19 = .ok (.getfield 25, 3) := by decide +kernel
theorem dX5_allRowsAreLines_22 : decode cX5_allRowsAreLines 22 = .ok (.if_icmp .ge 39, 3) := by decide +kernel
theorem dX5_allRowsAreLines_25 : decode cX5_allRowsAreLines 25 = .ok (.aload_n 0, 1) := by decide +kernel
theorem dX5_allRowsAreLines_26 : decode cX5_allRowsAreLines 26 = .ok (.getfield 21, 3) := by decide +kernel
theorem dX5_allRowsAreLines_29 : decode cX5_allRowsAreLines 29 = .ok (.iload_n 1, 1) := by decide +kernel
theorem dX5_allRowsAreLines_30 : decode cX5_allRowsAreLines 30 = .ok (.iload_n 3, 1) := by decide +kernel
theorem dX5_allRowsAreLines_31 : decode cX5_allRowsAreLines 31 = .ok (.invokevirtual 91, 3) := by decide +kernel
theorem dX5_allRowsAreLines_34 : decode cX5_allRowsAreLines 34 = .ok (.istore 4, 2) := by decide +kernel
theorem dX5_allRowsAreLines_36 : decode cX5_allRowsAreLines 36 = .ok (.aload_n 0, 1) := by decide +kernel
theorem dX5_allRowsAreLines_37 : decode cX5_allRowsAreLines 37 = .ok (.iload_n 2, 1) := by decide +kernel
theorem dX5_allRowsAreLines_38 : decode cX5_allRowsAreLines 38 = .ok (.iload 4, 2) := by decide +kernel
theorem dX5_allRowsAreLines_40 : decode cX5_allRowsAreLines 40 = .ok (.invokevirtual 96, 3) := by decide +kernel
theorem dX5_allRowsAreLines_43 : decode cX5_allRowsAreLines 43 = .ok (.ifCond .ne 5, 3) := by decide +kernel
theorem dX5_allRowsAreLines_46 : decode cX5_allRowsAreLines 46 = .ok (.iconst 0, 1) := by decide +kernel
theorem dX5_allRowsAreLines_47 : decode cX5_allRowsAreLines 47 = .ok (.ireturn, 1) := by decide +kernel
theorem dX5_allRowsAreLines_48 : decode cX5_allRowsAreLines 48 = .ok (.iload_n 2, 1) := by decide +kernel
theorem dX5_allRowsAreLines_49 : decode cX5_allRowsAreLines 49 = .ok (.iconst 1, 1) := by decide +kernel
theorem dX5_allRowsAreLines_50 : decode cX5_allRowsAreLines 50 = .ok (.iload 4, 2) := by decide +kernel
theorem dX5_allRowsAreLines_52 : decode cX5_allRowsAreLines 52 = .ok (.ishl, 1) := by decide +kernel
theorem dX5_allRowsAreLines_53 : decode cX5_allRowsAreLines 53 = .ok (.ior, 1) := by decide +kernel
theorem dX5_allRowsAreLines_54 : decode cX5_allRowsAreLines 54 = .ok (.istore_n 2, 1) := by decide +kernel
theorem dX5_allRowsAreLines_55 : decode cX5_allRowsAreLines 55 = .ok (.iinc 3 1, 3) := by decide +kernel
theorem dX5_allRowsAreLines_58 : decode cX5_allRowsAreLines 58 = .ok (.goto (-41), 3) := by decide +kernel
theorem dX5_allRowsAreLines_61 : decode cX5_allRowsAreLines 61 = .ok (.iinc 1 1, 3) := by decide +kernel
theorem dX5_allRowsAreLines_64 : decode cX5_allRowsAreLines 64 = .ok (.goto (-62), 3) := by decide +kernel
theorem dX5_allRowsAreLines_67 : decode cX5_allRowsAreLines 67 = .ok (.iconst 1, 1) := by decide +kernel
theorem dX5_allRowsAreLines_68 : decode cX5_allRowsAreLines 68 = .ok (.ireturn, 1) := by decide +kernel
theorem dX5_alwaysAheadOf_0 : decode cX5_alwaysAheadOf 0 = .ok (.aload_n 0, 1) := by decide +kernel
theorem dX5_alwaysAheadOf_1 : decode cX5_alwaysAheadOf 1 = .ok (.invokevirtual 50, 3) := by decide +kernel
theorem dX5_alwaysAheadOf_4 : decode cX5_alwaysAheadOf 4 = .ok (.iconst 1, 1) := by decide +kernel
theorem dX5_alwaysAheadOf_5 : decode cX5_alwaysAheadOf 5 = .ok (.iload_n 1, 1) := by decide +kernel
theorem dX5_alwaysAheadOf_6 : decode cX5_alwaysAheadOf 6 = .ok (.ishl, 1) := by decide +kernel
theorem dX5_alwaysAheadOf_7 : decode cX5_alwaysAheadOf 7 = .ok (.iconst (-1), 1) := by decide +kernel
theorem dX5_alwaysAheadOf_8 : decode cX5_alwaysAheadOf 8 = .ok (.ixor, 1) := by decide +kernel
theorem dX5_alwaysAheadOf_9 : decode cX5_alwaysAheadOf 9 = .ok (.iand, 1) := by decide +kernel
theorem dX5_alwaysAheadOf_10 : decode cX5_alwaysAheadOf 10 = .ok (.istore_n 2, 1) := by decide +kernel
theorem dX5_alwaysAheadOf_11 : decode cX5_alwaysAheadOf 11 = .ok (.iconst 0, 1) := by decide +kernel
theorem dX5_alwaysAheadOf_12 : decode cX5_alwaysAheadOf 12 = .ok (.istore_n 3, 1) := by decide +kernel
theorem dX5_alwaysAheadOf_13 : decode cX5_alwaysAheadOf 13 = .ok (.iload_n 3, 1) := by decide +kernel
theorem dX5_alwaysAheadOf_14 : decode cX5_alwaysAheadOf 14 = .ok (.aload_n 0, 1) := by decide +kernel
theorem dX5_alwaysAheadOf_15 : decode cX5_alwaysAheadOf 15 = .ok (.getfield 21, 3) := by decide +kernel
theorem dX5_alwaysAheadOf_18 : decode cX5_alwaysAheadOf 18 = .ok (.invokevirtual 94, 3) := by decide +kernel
theorem dX5_alwaysAheadOf_21 : decode cX5_alwaysAheadOf 21 = .ok (.if_icmp .ge 54, 3) := by decide +kernel
theorem dX5_alwaysAheadOf_24 : decode cX5_alwaysAheadOf 24 = .ok (.iconst 0, 1) := by decide +kernel
theorem dX5_alwaysAheadOf_25 : decode cX5_alwaysAheadOf 25 = .ok (.istore 4, 2) := by decide +kernel
theorem dX5_alwaysAheadOf_27 : decode cX5_alwaysAheadOf 27 = .ok (.iload 4, 2) := by decide +kernel
theorem dX5_alwaysAheadOf_29 : decode cX5_alwaysAheadOf 29 = .ok (.aload_n 0, 1) := by decide +kernel
theorem dX5_alwaysAheadOf_30 : decode cX5_alwaysAheadOf 30 = .ok (.getfield 25, 3) := by decide +kernel
theorem dX5_alwaysAheadOf_33 : decode cX5_alwaysAheadOf 33 = .ok (.if_icmp .ge 36, 3) := by decide +kernel
theorem dX5_alwaysAheadOf_36 : decode cX5_alwaysAheadOf 36 = .ok (.aload_n 0, 1) := by decide +kernel
theorem dX5_alwaysAheadOf_37 : decode cX5_alwaysAheadOf 37 = .ok (.getfield 21, 3) := by decide +kernel
theorem dX5_alwaysAheadOf_40 : decode cX5_alwaysAheadOf 40 = .ok (.iload_n 3, 1) := by decide +kernel
theorem dX5_alwaysAheadOf_41 : decode cX5_alwaysAheadOf 41 = .ok (.iload 4, 2) := by decide +kernel
theorem dX5_alwaysAheadOf_43 : decode cX5_alwaysAheadOf 43 = .ok (.iload_n 1, 1) := by decide +kernel
theorem dX5_alwaysAheadOf_44 : decode cX5_alwaysAheadOf 44 = .ok (.aload_n 0, 1) := by decide +kernel
theorem dX5_alwaysAheadOf_45 : decode cX5_alwaysAheadOf 45 = .ok (.getfield 25, 3) := by decide +kernel
theorem dX5_alwaysAheadOf_48 : decode cX5_alwaysAheadOf 48 = .ok (.invokevirtual 109, 3) := by decide +kernel
theorem dX5_alwaysAheadOf_51 : decode cX5_alwaysAheadOf 51 = .ok (.ifCond .ne 12, 3) := by decide +kernel
theorem dX5_alwaysAheadOf_54 : decode cX5_alwaysAheadOf 54 = .ok (.iload_n 2, 1) := by decide +kernel
theorem dX5_alwaysAheadOf_55 : decode cX5_alwaysAheadOf 55 = .ok (.iconst 1, 1) := by decide +kernel
theorem dX5_alwaysAheadOf_56 : decode cX5_alwaysAheadOf 56 = .ok (.iload 4, 2) := by decide +kernel
theorem dX5_alwaysAheadOf_58 : decode cX5_alwaysAheadOf 58 = .ok (.ishl, 1) := by decide +kernel
theorem dX5_alwaysAheadOf_59 : decode cX5_alwaysAheadOf 59 = .ok (.iconst (-1), 1) := by decide +kernel
theorem dX5_alwaysAheadOf_60 : decode cX5_alwaysAheadOf 60 = .ok (.ixor, 1) := by decide +kernel
theorem dX5_alwaysAheadOf_61 : decode cX5_alwaysAheadOf 61 = .ok (.iand, 1) := by decide +kernel
theorem dX5_alwaysAheadOf_62 : decode cX5_alwaysAheadOf 62 = .ok (.istore_n 2, 1) := by decide +kernel
theorem dX5_alwaysAheadOf_63 : decode cX5_alwaysAheadOf 63 = .ok (.iinc 4 1, 3) := by decide +kernel
theorem dX5_alwaysAheadOf_66 : decode cX5_alwaysAheadOf 66 = .ok (.goto (-39), 3) := by decide +kernel
theorem dX5_alwaysAheadOf_69 : decode cX5_alwaysAheadOf 69 = .ok (.iinc 3 1, 3) := by decide +kernel
theorem dX5_alwaysAheadOf_72 : decode cX5_alwaysAheadOf 72 = .ok (.goto (-59), 3) := by decide +kernel
theorem dX5_alwaysAheadOf_75 : decode cX5_alwaysAheadOf 75 = .ok (.iload_n 2, 1) := by decide +kernel
theorem dX5_alwaysAheadOf_76 : decode cX5_alwaysAheadOf 76 = .ok (.ireturn, 1) := by decide +kernel
theorem dX5_begin_0 : decode cX5_begin 0 = .ok (.aload_n 0, 1) := by decide +kernel
theorem dX5_begin_1 : decode cX5_begin 1 = .ok (.iload_n 1, 1) := by decide +kernel
theorem dX5_begin_2 : decode cX5_begin 2 = .ok (.ifCond .lt 13, 3) := by decide +kernel
theorem dX5_begin_5 : decode cX5_begin 5 = .ok (.iload_n 1, 1) := by decide +kernel
theorem dX5_begin_6 : decode cX5_begin 6 = .ok (.bipush 8, 2) := by decide +kernel
theorem dX5_begin_8 : decode cX5_begin 8 = .ok (.if_icmp .gt 7, 3) := by decide +kernel
theorem dX5_begin_11 : decode cX5_begin 11 = .ok (.iload_n 1, 1) := by decide +kernel
theorem dX5_begin_12 : decode cX5_begin 12 = .ok (.goto 4, 3) := by decide +kernel
theorem dX5_begin_15 : decode cX5_begin 15 = .ok (.iconst 0, 1) := by decide +kernel
theorem dX5_begin_16 : decode cX5_begin 16 = .ok (.putfield 25, 3) := by decide +kernel
theorem dX5_begin_19 : decode cX5_begin 19 = .ok (.aload_n 0, 1) := by decide +kernel
theorem dX5_begin_20 : decode cX5_begin 20 = .ok (.getfield 21, 3) := by decide +kernel
theorem dX5_begin_23 : decode cX5_begin 23 = .ok (.invokevirtual 29, 3) := by decide +kernel
theorem dX5_begin_26 : decode cX5_begin 26 = .ok (.iconst 0, 1) := by decide +kernel
theorem dX5_begin_27 : decode cX5_begin 27 = .ok (.istore_n 2, 1) := by decide +kernel
theorem dX5_begin_28 : decode cX5_begin 28 = .ok (.iload_n 2, 1) := by decide +kernel
theorem dX5_begin_29 : decode cX5_begin 29 = .ok (.bipush 8, 2) := by decide +kernel
theorem dX5_begin_31 : decode cX5_begin 31 = .ok (.if_icmp .ge 23, 3) := by decide +kernel
theorem dX5_begin_34 : decode cX5_begin 34 = .ok (.aload_n 0, 1) := by decide +kernel
theorem dX5_begin_35 : decode cX5_begin 35 = .ok (.getfield 9, 3) := by decide +kernel
theorem dX5_begin_38 : decode cX5_begin 38 = .ok (.iload_n 2, 1) := by decide +kernel
theorem dX5_begin_39 : decode cX5_begin 39 = .ok (.iconst 0, 1) := by decide +kernel
theorem dX5_begin_40 : decode cX5_begin 40 = .ok (.iastore, 1) := by decide +kernel
theorem dX5_begin_41 : decode cX5_begin 41 = .ok (.aload_n 0, 1) := by decide +kernel
theorem dX5_begin_42 : decode cX5_begin 42 = .ok (.getfield 15, 3) := by decide +kernel
theorem dX5_begin_45 : decode cX5_begin 45 = .ok (.iload_n 2, 1) := by decide +kernel
theorem dX5_begin_46 : decode cX5_begin 46 = .ok (.iconst 0, 1) := by decide +kernel
theorem dX5_begin_47 : decode cX5_begin 47 = .ok (.iastore, 1) := by decide +kernel
theorem dX5_begin_48 : decode cX5_begin 48 = .ok (.iinc 2 1, 3) := by decide +kernel
theorem dX5_begin_51 : decode cX5_begin 51 = .ok (.goto (-23), 3) := by decide +kernel
theorem dX5_begin_54 : decode cX5_begin 54 = .ok (.return_, 1) := by decide +kernel
theorem dX5_belowOf_0 : decode cX5_belowOf 0 = .ok (.aload_n 0, 1) := by decide +kernel
theorem dX5_belowOf_1 : decode cX5_belowOf 1 = .ok (.iload_n 1, 1) := by decide +kernel
theorem dX5_belowOf_2 : decode cX5_belowOf 2 = .ok (.invokevirtual 46, 3) := by decide +kernel
theorem dX5_belowOf_5 : decode cX5_belowOf 5 = .ok (.ifCond .eq 12, 3) := by decide +kernel
theorem dX5_belowOf_8 : decode cX5_belowOf 8 = .ok (.aload_n 0, 1) := by decide +kernel
theorem dX5_belowOf_9 : decode cX5_belowOf 9 = .ok (.getfield 9, 3) := by decide +kernel
theorem dX5_belowOf_12 : decode cX5_belowOf 12 = .ok (.iload_n 1, 1) := by decide +kernel
theorem dX5_belowOf_13 : decode cX5_belowOf 13 = .ok (.iaload, 1) := by decide +kernel
theorem dX5_belowOf_14 : decode cX5_belowOf 14 = .ok (.goto 4, 3) := by decide +kernel
theorem dX5_belowOf_17 : decode cX5_belowOf 17 = .ok (.iconst 0, 1) := by decide +kernel
theorem dX5_belowOf_18 : decode cX5_belowOf 18 = .ok (.ireturn, 1) := by decide +kernel
theorem dX5_canFollow_0 : decode cX5_canFollow 0 = .ok (.aload_n 0, 1) := by decide +kernel
theorem dX5_canFollow_1 : decode cX5_canFollow 1 = .ok (.iload_n 2, 1) := by decide +kernel
theorem dX5_canFollow_2 : decode cX5_canFollow 2 = .ok (.invokevirtual 46, 3) := by decide +kernel
theorem dX5_canFollow_5 : decode cX5_canFollow 5 = .ok (.ifCond .eq 28, 3) := by decide +kernel
theorem dX5_canFollow_8 : decode cX5_canFollow 8 = .ok (.iload_n 1, 1) := by decide +kernel
theorem dX5_canFollow_9 : decode cX5_canFollow 9 = .ok (.iload_n 2, 1) := by decide +kernel
theorem dX5_canFollow_10 : decode cX5_canFollow 10 = .ok (.ishr, 1) := by decide +kernel
theorem dX5_canFollow_11 : decode cX5_canFollow 11 = .ok (.iconst 1, 1) := by decide +kernel
theorem dX5_canFollow_12 : decode cX5_canFollow 12 = .ok (.iand, 1) := by decide +kernel
theorem dX5_canFollow_13 : decode cX5_canFollow 13 = .ok (.ifCond .ne 20, 3) := by decide +kernel
theorem dX5_canFollow_16 : decode cX5_canFollow 16 = .ok (.aload_n 0, 1) := by decide +kernel
theorem dX5_canFollow_17 : decode cX5_canFollow 17 = .ok (.getfield 9, 3) := by decide +kernel
theorem dX5_canFollow_20 : decode cX5_canFollow 20 = .ok (.iload_n 2, 1) := by decide +kernel
theorem dX5_canFollow_21 : decode cX5_canFollow 21 = .ok (.iaload, 1) := by decide +kernel
theorem dX5_canFollow_22 : decode cX5_canFollow 22 = .ok (.iload_n 1, 1) := by decide +kernel
theorem dX5_canFollow_23 : decode cX5_canFollow 23 = .ok (.iconst (-1), 1) := by decide +kernel
theorem dX5_canFollow_24 : decode cX5_canFollow 24 = .ok (.ixor, 1) := by decide +kernel
theorem dX5_canFollow_25 : decode cX5_canFollow 25 = .ok (.iand, 1) := by decide +kernel
theorem dX5_canFollow_26 : decode cX5_canFollow 26 = .ok (.ifCond .ne 7, 3) := by decide +kernel
theorem dX5_canFollow_29 : decode cX5_canFollow 29 = .ok (.iconst 1, 1) := by decide +kernel
theorem dX5_canFollow_30 : decode cX5_canFollow 30 = .ok (.goto 4, 3) := by decide +kernel
theorem dX5_canFollow_33 : decode cX5_canFollow 33 = .ok (.iconst 0, 1) := by decide +kernel
theorem dX5_canFollow_34 : decode cX5_canFollow 34 = .ok (.ireturn, 1) := by decide +kernel
theorem dX5_closeGap_0 : decode cX5_closeGap 0 = .ok (.iload_n 0, 1) := by decide +kernel
theorem dX5_closeGap_1 : decode cX5_closeGap 1 = .ok (.iconst 1, 1) := by decide +kernel
theorem dX5_closeGap_2 : decode cX5_closeGap 2 = .ok (.iload_n 1, 1) := by decide +kernel
theorem dX5_closeGap_3 : decode cX5_closeGap 3 = .ok (.ishl, 1) := by decide +kernel
theorem dX5_closeGap_4 : decode cX5_closeGap 4 = .ok (.iconst 1, 1) := by decide +kernel
theorem dX5_closeGap_5 : decode cX5_closeGap 5 = .ok (.isub, 1) := by decide +kernel
theorem dX5_closeGap_6 : decode cX5_closeGap 6 = .ok (.iand, 1) := by decide +kernel
theorem dX5_closeGap_7 : decode cX5_closeGap 7 = .ok (.istore_n 2, 1) := by decide +kernel
theorem dX5_closeGap_8 : decode cX5_closeGap 8 = .ok (.iload_n 2, 1) := by decide +kernel
theorem dX5_closeGap_9 : decode cX5_closeGap 9 = .ok (.iload_n 0, 1) := by decide +kernel
theorem dX5_closeGap_10 : decode cX5_closeGap 10 = .ok (.iload_n 1, 1) := by decide +kernel
theorem dX5_closeGap_11 : decode cX5_closeGap 11 = .ok (.iconst 1, 1) := by decide +kernel
theorem dX5_closeGap_12 : decode cX5_closeGap 12 = .ok (.iadd, 1) := by decide +kernel
theorem dX5_closeGap_13 : decode cX5_closeGap 13 = .ok (.ishr, 1) := by decide +kernel
theorem dX5_closeGap_14 : decode cX5_closeGap 14 = .ok (.iload_n 1, 1) := by decide +kernel
theorem dX5_closeGap_15 : decode cX5_closeGap 15 = .ok (.ishl, 1) := by decide +kernel
theorem dX5_closeGap_16 : decode cX5_closeGap 16 = .ok (.ior, 1) := by decide +kernel
theorem dX5_closeGap_17 : decode cX5_closeGap 17 = .ok (.ireturn, 1) := by decide +kernel
theorem dX5_copyFrom_0 : decode cX5_copyFrom 0 = .ok (.aload_n 0, 1) := by decide +kernel
theorem dX5_copyFrom_1 : decode cX5_copyFrom 1 = .ok (.aload_n 1, 1) := by decide +kernel
theorem dX5_copyFrom_2 : decode cX5_copyFrom 2 = .ok (.getfield 25, 3) := by decide +kernel
theorem dX5_copyFrom_5 : decode cX5_copyFrom 5 = .ok (.putfield 25, 3) := by decide +kernel
theorem dX5_copyFrom_8 : decode cX5_copyFrom 8 = .ok (.aload_n 1, 1) := by decide +kernel
theorem dX5_copyFrom_9 : decode cX5_copyFrom 9 = .ok (.getfield 9, 3) := by decide +kernel
theorem dX5_copyFrom_12 : decode cX5_copyFrom 12 = .ok (.iconst 0, 1) := by decide +kernel
theorem dX5_copyFrom_13 : decode cX5_copyFrom 13 = .ok (.aload_n 0, 1) := by decide +kernel
theorem dX5_copyFrom_14 : decode cX5_copyFrom 14 = .ok (.getfield 9, 3) := by decide +kernel
theorem dX5_copyFrom_17 : decode cX5_copyFrom 17 = .ok (.iconst 0, 1) := by decide +kernel
theorem dX5_copyFrom_18 : decode cX5_copyFrom 18 = .ok (.bipush 8, 2) := by decide +kernel
theorem dX5_copyFrom_20 : decode cX5_copyFrom 20 = .ok (.invokestatic 32, 3) := by decide +kernel
theorem dX5_copyFrom_23 : decode cX5_copyFrom 23 = .ok (.aload_n 1, 1) := by decide +kernel
theorem dX5_copyFrom_24 : decode cX5_copyFrom 24 = .ok (.getfield 15, 3) := by decide +kernel
theorem dX5_copyFrom_27 : decode cX5_copyFrom 27 = .ok (.iconst 0, 1) := by decide +kernel
theorem dX5_copyFrom_28 : decode cX5_copyFrom 28 = .ok (.aload_n 0, 1) := by decide +kernel
theorem dX5_copyFrom_29 : decode cX5_copyFrom 29 = .ok (.getfield 15, 3) := by decide +kernel
theorem dX5_copyFrom_32 : decode cX5_copyFrom 32 = .ok (.iconst 0, 1) := by decide +kernel
theorem dX5_copyFrom_33 : decode cX5_copyFrom 33 = .ok (.bipush 8, 2) := by decide +kernel
theorem dX5_copyFrom_35 : decode cX5_copyFrom 35 = .ok (.invokestatic 32, 3) := by decide +kernel
theorem dX5_copyFrom_38 : decode cX5_copyFrom 38 = .ok (.aload_n 0, 1) := by decide +kernel
theorem dX5_copyFrom_39 : decode cX5_copyFrom 39 = .ok (.getfield 21, 3) := by decide +kernel
theorem dX5_copyFrom_42 : decode cX5_copyFrom 42 = .ok (.aload_n 1, 1) := by decide +kernel
theorem dX5_copyFrom_43 : decode cX5_copyFrom 43 = .ok (.getfield 21, 3) := by decide +kernel
theorem dX5_copyFrom_46 : decode cX5_copyFrom 46 = .ok (.invokevirtual 38, 3) := by decide +kernel
theorem dX5_copyFrom_49 : decode cX5_copyFrom 49 = .ok (.return_, 1) := by decide +kernel
theorem dX5_coveredBy_0 : decode cX5_coveredBy 0 = .ok (.aload_n 0, 1) := by decide +kernel
theorem dX5_coveredBy_1 : decode cX5_coveredBy 1 = .ok (.iload_n 1, 1) := by decide +kernel
theorem dX5_coveredBy_2 : decode cX5_coveredBy 2 = .ok (.invokevirtual 54, 3) := by decide +kernel
theorem dX5_coveredBy_5 : decode cX5_coveredBy 5 = .ok (.istore_n 2, 1) := by decide +kernel
theorem dX5_coveredBy_6 : decode cX5_coveredBy 6 = .ok (.iconst 0, 1) := by decide +kernel
theorem dX5_coveredBy_7 : decode cX5_coveredBy 7 = .ok (.istore_n 3, 1) := by decide +kernel
theorem dX5_coveredBy_8 : decode cX5_coveredBy 8 = .ok (.iload_n 3, 1) := by decide +kernel
theorem dX5_coveredBy_9 : decode cX5_coveredBy 9 = .ok (.aload_n 0, 1) := by decide +kernel
theorem dX5_coveredBy_10 : decode cX5_coveredBy 10 = .ok (.getfield 25, 3) := by decide +kernel
theorem dX5_coveredBy_13 : decode cX5_coveredBy 13 = .ok (.if_icmp .ge 29, 3) := by decide +kernel
theorem dX5_coveredBy_16 : decode cX5_coveredBy 16 = .ok (.aload_n 0, 1) := by decide +kernel
theorem dX5_coveredBy_17 : decode cX5_coveredBy 17 = .ok (.iload_n 3, 1) := by decide +kernel
theorem dX5_coveredBy_18 : decode cX5_coveredBy 18 = .ok (.iload_n 1, 1) := by decide +kernel
theorem dX5_coveredBy_19 : decode cX5_coveredBy 19 = .ok (.invokevirtual 58, 3) := by decide +kernel
theorem dX5_coveredBy_22 : decode cX5_coveredBy 22 = .ok (.ifCond .eq 14, 3) := by decide +kernel
theorem dX5_coveredBy_25 : decode cX5_coveredBy 25 = .ok (.iload_n 2, 1) := by decide +kernel
theorem dX5_coveredBy_26 : decode cX5_coveredBy 26 = .ok (.aload_n 0, 1) := by decide +kernel
theorem dX5_coveredBy_27 : decode cX5_coveredBy 27 = .ok (.getfield 9, 3) := by decide +kernel
theorem dX5_coveredBy_30 : decode cX5_coveredBy 30 = .ok (.iload_n 3, 1) := by decide +kernel
theorem dX5_coveredBy_31 : decode cX5_coveredBy 31 = .ok (.iaload, 1) := by decide +kernel
theorem dX5_coveredBy_32 : decode cX5_coveredBy 32 = .ok (.iconst (-1), 1) := by decide +kernel
theorem dX5_coveredBy_33 : decode cX5_coveredBy 33 = .ok (.ixor, 1) := by decide +kernel
theorem dX5_coveredBy_34 : decode cX5_coveredBy 34 = .ok (.iand, 1) := by decide +kernel
theorem dX5_coveredBy_35 : decode cX5_coveredBy 35 = .ok (.istore_n 2, 1) := by decide +kernel
theorem dX5_coveredBy_36 : decode cX5_coveredBy 36 = .ok (.iinc 3 1, 3) := by decide +kernel
theorem dX5_coveredBy_39 : decode cX5_coveredBy 39 = .ok (.goto (-31), 3) := by decide +kernel
theorem dX5_coveredBy_42 : decode cX5_coveredBy 42 = .ok (.iload_n 2, 1) := by decide +kernel
theorem dX5_coveredBy_43 : decode cX5_coveredBy 43 = .ok (.ireturn, 1) := by decide +kernel
theorem dX5_covers_0 : decode cX5_covers 0 = .ok (.iconst 0, 1) := by decide +kernel
theorem dX5_covers_1 : decode cX5_covers 1 = .ok (.istore_n 1, 1) := by decide +kernel
theorem dX5_covers_2 : decode cX5_covers 2 = .ok (.iconst 0, 1) := by decide +kernel
theorem dX5_covers_3 : decode cX5_covers 3 = .ok (.istore_n 2, 1) := by decide +kernel
theorem dX5_covers_4 : decode cX5_covers 4 = .ok (.iload_n 2, 1) := by decide +kernel
theorem dX5_covers_5 : decode cX5_covers 5 = .ok (.aload_n 0, 1) := by decide +kernel
theorem dX5_covers_6 : decode cX5_covers 6 = .ok (.getfield 25, 3) := by decide +kernel
theorem dX5_covers_9 : decode cX5_covers 9 = .ok (.if_icmp .ge 20, 3) := by decide +kernel
theorem dX5_covers_12 : decode cX5_covers 12 = .ok (.iload_n 1, 1) := by decide +kernel
theorem dX5_covers_13 : decode cX5_covers 13 = .ok (.aload_n 0, 1) := by decide +kernel
theorem dX5_covers_14 : decode cX5_covers 14 = .ok (.iload_n 2, 1) := by decide +kernel
theorem dX5_covers_15 : decode cX5_covers 15 = .ok (.invokevirtual 73, 3) := by decide +kernel
theorem dX5_covers_18 : decode cX5_covers 18 = .ok (.invokestatic 65, 3) := by decide +kernel
theorem dX5_covers_21 : decode cX5_covers 21 = .ok (.iadd, 1) := by decide +kernel
theorem dX5_covers_22 : decode cX5_covers 22 = .ok (.istore_n 1, 1) := by decide +kernel
theorem dX5_covers_23 : decode cX5_covers 23 = .ok (.iinc 2 1, 3) := by decide +kernel
theorem dX5_covers_26 : decode cX5_covers 26 = .ok (.goto (-22), 3) := by decide +kernel
theorem dX5_covers_29 : decode cX5_covers 29 = .ok (.iload_n 1, 1) := by decide +kernel
theorem dX5_covers_30 : decode cX5_covers 30 = .ok (.ireturn, 1) := by decide +kernel
theorem dX5_coversOf_0 : decode cX5_coversOf 0 = .ok (.aload_n 0, 1) := by decide +kernel
theorem dX5_coversOf_1 : decode cX5_coversOf 1 = .ok (.iload_n 1, 1) := by decide +kernel
theorem dX5_coversOf_2 : decode cX5_coversOf 2 = .ok (.invokevirtual 62, 3) := by decide +kernel
theorem dX5_coversOf_5 : decode cX5_coversOf 5 = .ok (.istore_n 2, 1) := by decide +kernel
theorem dX5_coversOf_6 : decode cX5_coversOf 6 = .ok (.iconst 0, 1) := by decide +kernel
theorem dX5_coversOf_7 : decode cX5_coversOf 7 = .ok (.istore_n 3, 1) := by decide +kernel
theorem dX5_coversOf_8 : decode cX5_coversOf 8 = .ok (.iload_n 3, 1) := by decide +kernel
theorem dX5_coversOf_9 : decode cX5_coversOf 9 = .ok (.aload_n 0, 1) := by decide +kernel
theorem dX5_coversOf_10 : decode cX5_coversOf 10 = .ok (.getfield 25, 3) := by decide +kernel
theorem dX5_coversOf_13 : decode cX5_coversOf 13 = .ok (.if_icmp .ge 29, 3) := by decide +kernel
theorem dX5_coversOf_16 : decode cX5_coversOf 16 = .ok (.aload_n 0, 1) := by decide +kernel
theorem dX5_coversOf_17 : decode cX5_coversOf 17 = .ok (.iload_n 1, 1) := by decide +kernel
theorem dX5_coversOf_18 : decode cX5_coversOf 18 = .ok (.iload_n 3, 1) := by decide +kernel
theorem dX5_coversOf_19 : decode cX5_coversOf 19 = .ok (.invokevirtual 58, 3) := by decide +kernel
theorem dX5_coversOf_22 : decode cX5_coversOf 22 = .ok (.ifCond .eq 14, 3) := by decide +kernel
theorem dX5_coversOf_25 : decode cX5_coversOf 25 = .ok (.iload_n 2, 1) := by decide +kernel
theorem dX5_coversOf_26 : decode cX5_coversOf 26 = .ok (.aload_n 0, 1) := by decide +kernel
theorem dX5_coversOf_27 : decode cX5_coversOf 27 = .ok (.getfield 15, 3) := by decide +kernel
theorem dX5_coversOf_30 : decode cX5_coversOf 30 = .ok (.iload_n 3, 1) := by decide +kernel
theorem dX5_coversOf_31 : decode cX5_coversOf 31 = .ok (.iaload, 1) := by decide +kernel
theorem dX5_coversOf_32 : decode cX5_coversOf 32 = .ok (.iconst (-1), 1) := by decide +kernel
theorem dX5_coversOf_33 : decode cX5_coversOf 33 = .ok (.ixor, 1) := by decide +kernel
theorem dX5_coversOf_34 : decode cX5_coversOf 34 = .ok (.iand, 1) := by decide +kernel
theorem dX5_coversOf_35 : decode cX5_coversOf 35 = .ok (.istore_n 2, 1) := by decide +kernel
theorem dX5_coversOf_36 : decode cX5_coversOf 36 = .ok (.iinc 3 1, 3) := by decide +kernel
theorem dX5_coversOf_39 : decode cX5_coversOf 39 = .ok (.goto (-31), 3) := by decide +kernel
theorem dX5_coversOf_42 : decode cX5_coversOf 42 = .ok (.iload_n 2, 1) := by decide +kernel
theorem dX5_coversOf_43 : decode cX5_coversOf 43 = .ok (.ireturn, 1) := by decide +kernel
theorem dX5_freeOf_0 : decode cX5_freeOf 0 = .ok (.aload_n 0, 1) := by decide +kernel
theorem dX5_freeOf_1 : decode cX5_freeOf 1 = .ok (.iload_n 1, 1) := by decide +kernel
theorem dX5_freeOf_2 : decode cX5_freeOf 2 = .ok (.invokevirtual 46, 3) := by decide +kernel
theorem dX5_freeOf_5 : decode cX5_freeOf 5 = .ok (.ifCond .eq 30, 3) := by decide +kernel
theorem dX5_freeOf_8 : decode cX5_freeOf 8 = .ok (.aload_n 0, 1) := by decide +kernel
theorem dX5_freeOf_9 : decode cX5_freeOf 9 = .ok (.invokevirtual 50, 3) := by decide +kernel
theorem dX5_freeOf_12 : decode cX5_freeOf 12 = .ok (.aload_n 0, 1) := by decide +kernel
theorem dX5_freeOf_13 : decode cX5_freeOf 13 = .ok (.getfield 9, 3) := by decide +kernel
theorem dX5_freeOf_16 : decode cX5_freeOf 16 = .ok (.iload_n 1, 1) := by decide +kernel
theorem dX5_freeOf_17 : decode cX5_freeOf 17 = .ok (.iaload, 1) := by decide +kernel
theorem dX5_freeOf_18 : decode cX5_freeOf 18 = .ok (.aload_n 0, 1) := by decide +kernel
theorem dX5_freeOf_19 : decode cX5_freeOf 19 = .ok (.getfield 15, 3) := by decide +kernel
theorem dX5_freeOf_22 : decode cX5_freeOf 22 = .ok (.iload_n 1, 1) := by decide +kernel
theorem dX5_freeOf_23 : decode cX5_freeOf 23 = .ok (.iaload, 1) := by decide +kernel
theorem dX5_freeOf_24 : decode cX5_freeOf 24 = .ok (.ior, 1) := by decide +kernel
theorem dX5_freeOf_25 : decode cX5_freeOf 25 = .ok (.iconst 1, 1) := by decide +kernel
theorem dX5_freeOf_26 : decode cX5_freeOf 26 = .ok (.iload_n 1, 1) := by decide +kernel
theorem dX5_freeOf_27 : decode cX5_freeOf 27 = .ok (.ishl, 1) := by decide +kernel
theorem dX5_freeOf_28 : decode cX5_freeOf 28 = .ok (.ior, 1) := by decide +kernel
theorem dX5_freeOf_29 : decode cX5_freeOf 29 = .ok (.iconst (-1), 1) := by decide +kernel
theorem dX5_freeOf_30 : decode cX5_freeOf 30 = .ok (.ixor, 1) := by decide +kernel
theorem dX5_freeOf_31 : decode cX5_freeOf 31 = .ok (.iand, 1) := by decide +kernel
theorem dX5_freeOf_32 : decode cX5_freeOf 32 = .ok (.goto 4, 3) := by decide +kernel
theorem dX5_freeOf_35 : decode cX5_freeOf 35 = .ok (.iconst 0, 1) := by decide +kernel
theorem dX5_freeOf_36 : decode cX5_freeOf 36 = .ok (.ireturn, 1) := by decide +kernel
theorem dX5_freeTwos_0 : decode cX5_freeTwos 0 = .ok (.aload_n 0, 1) := by decide +kernel
theorem dX5_freeTwos_1 : decode cX5_freeTwos 1 = .ok (.getfield 25, 3) := by decide +kernel
theorem dX5_freeTwos_4 : decode cX5_freeTwos 4 = .ok (.aload_n 0, 1) := by decide +kernel
theorem dX5_freeTwos_5 : decode cX5_freeTwos 5 = .ok (.getfield 25, 3) := by decide +kernel
theorem dX5_freeTwos_8 : decode cX5_freeTwos 8 = .ok (.iconst 1, 1) := by decide +kernel
theorem dX5_freeTwos_9 : decode cX5_freeTwos 9 = .ok (.isub, 1) := by decide +kernel
theorem dX5_freeTwos_10 : decode cX5_freeTwos 10 = .ok (.imul, 1) := by decide +kernel
theorem dX5_freeTwos_11 : decode cX5_freeTwos 11 = .ok (.iconst 2, 1) := by decide +kernel
theorem dX5_freeTwos_12 : decode cX5_freeTwos 12 = .ok (.idiv, 1) := by decide +kernel
theorem dX5_freeTwos_13 : decode cX5_freeTwos 13 = .ok (.aload_n 0, 1) := by decide +kernel
theorem dX5_freeTwos_14 : decode cX5_freeTwos 14 = .ok (.invokevirtual 70, 3) := by decide +kernel
theorem dX5_freeTwos_17 : decode cX5_freeTwos 17 = .ok (.isub, 1) := by decide +kernel
theorem dX5_freeTwos_18 : decode cX5_freeTwos 18 = .ok (.ireturn, 1) := by decide +kernel
theorem dX5_has_0 : decode cX5_has 0 = .ok (.iload_n 1, 1) := by decide +kernel
theorem dX5_has_1 : decode cX5_has 1 = .ok (.ifCond .lt 15, 3) := by decide +kernel
theorem dX5_has_4 : decode cX5_has 4 = .ok (.iload_n 1, 1) := by decide +kernel
theorem dX5_has_5 : decode cX5_has 5 = .ok (.aload_n 0, 1) := by decide +kernel
theorem dX5_has_6 : decode cX5_has 6 = .ok (.getfield 25, 3) := by decide +kernel
theorem dX5_has_9 : decode cX5_has 9 = .ok (.if_icmp .ge 7, 3) := by decide +kernel
theorem dX5_has_12 : decode cX5_has 12 = .ok (.iconst 1, 1) := by decide +kernel
theorem dX5_has_13 : decode cX5_has 13 = .ok (.goto 4, 3) := by decide +kernel
theorem dX5_has_16 : decode cX5_has 16 = .ok (.iconst 0, 1) := by decide +kernel
theorem dX5_has_17 : decode cX5_has 17 = .ok (.ireturn, 1) := by decide +kernel
theorem dX5_init_0 : decode cX5_init 0 = .ok (.aload_n 0, 1) := by decide +kernel
theorem dX5_init_1 : decode cX5_init 1 = .ok (.invokespecial 3, 3) := by decide +kernel
theorem dX5_init_4 : decode cX5_init 4 = .ok (.aload_n 0, 1) := by decide +kernel
theorem dX5_init_5 : decode cX5_init 5 = .ok (.bipush 8, 2) := by decide +kernel
theorem dX5_init_7 : decode cX5_init 7 = .ok (.newarray .int, 2) := by decide +kernel
theorem dX5_init_9 : decode cX5_init 9 = .ok (.putfield 9, 3) := by decide +kernel
theorem dX5_init_12 : decode cX5_init 12 = .ok (.aload_n 0, 1) := by decide +kernel
theorem dX5_init_13 : decode cX5_init 13 = .ok (.bipush 8, 2) := by decide +kernel
theorem dX5_init_15 : decode cX5_init 15 = .ok (.newarray .int, 2) := by decide +kernel
theorem dX5_init_17 : decode cX5_init 17 = .ok (.putfield 15, 3) := by decide +kernel
theorem dX5_init_20 : decode cX5_init 20 = .ok (.aload_n 0, 1) := by decide +kernel
theorem dX5_init_21 : decode cX5_init 21 = .ok (.new 18, 3) := by decide +kernel
theorem dX5_init_24 : decode cX5_init 24 = .ok (.dup, 1) := by decide +kernel
theorem dX5_init_25 : decode cX5_init 25 = .ok (.invokespecial 20, 3) := by decide +kernel
theorem dX5_init_28 : decode cX5_init 28 = .ok (.putfield 21, 3) := by decide +kernel
theorem dX5_init_31 : decode cX5_init 31 = .ok (.return_, 1) := by decide +kernel
theorem dX5_isIdeal_0 : decode cX5_isIdeal 0 = .ok (.iconst 0, 1) := by decide +kernel
theorem dX5_isIdeal_1 : decode cX5_isIdeal 1 = .ok (.istore_n 2, 1) := by decide +kernel
theorem dX5_isIdeal_2 : decode cX5_isIdeal 2 = .ok (.iload_n 2, 1) := by decide +kernel
theorem dX5_isIdeal_3 : decode cX5_isIdeal 3 = .ok (.aload_n 0, 1) := by decide +kernel
theorem dX5_isIdeal_4 : decode cX5_isIdeal 4 = .ok (.getfield 25, 3) := by decide +kernel
theorem dX5_isIdeal_7 : decode cX5_isIdeal 7 = .ok (.if_icmp .ge 33, 3) := by decide +kernel
theorem dX5_isIdeal_10 : decode cX5_isIdeal 10 = .ok (.iload_n 1, 1) := by decide +kernel
theorem dX5_isIdeal_11 : decode cX5_isIdeal 11 = .ok (.iload_n 2, 1) := by decide +kernel
theorem dX5_isIdeal_12 : decode cX5_isIdeal 12 = .ok (.ishr, 1) := by decide +kernel
theorem dX5_isIdeal_13 : decode cX5_isIdeal 13 = .ok (.iconst 1, 1) := by decide +kernel
theorem dX5_isIdeal_14 : decode cX5_isIdeal 14 = .ok (.iand, 1) := by decide +kernel
theorem dX5_isIdeal_15 : decode cX5_isIdeal 15 = .ok (.iconst 1, 1) := by decide +kernel
theorem dX5_isIdeal_16 : decode cX5_isIdeal 16 = .ok (.if_icmp .ne 18, 3) := by decide +kernel
theorem dX5_isIdeal_19 : decode cX5_isIdeal 19 = .ok (.aload_n 0, 1) := by decide +kernel
theorem dX5_isIdeal_20 : decode cX5_isIdeal 20 = .ok (.getfield 9, 3) := by decide +kernel
theorem dX5_isIdeal_23 : decode cX5_isIdeal 23 = .ok (.iload_n 2, 1) := by decide +kernel
theorem dX5_isIdeal_24 : decode cX5_isIdeal 24 = .ok (.iaload, 1) := by decide +kernel
theorem dX5_isIdeal_25 : decode cX5_isIdeal 25 = .ok (.iload_n 1, 1) := by decide +kernel
theorem dX5_isIdeal_26 : decode cX5_isIdeal 26 = .ok (.iconst (-1), 1) := by decide +kernel
theorem dX5_isIdeal_27 : decode cX5_isIdeal 27 = .ok (.ixor, 1) := by decide +kernel
theorem dX5_isIdeal_28 : decode cX5_isIdeal 28 = .ok (.iand, 1) := by decide +kernel
theorem dX5_isIdeal_29 : decode cX5_isIdeal 29 = .ok (.ifCond .eq 5, 3) := by decide +kernel
theorem dX5_isIdeal_32 : decode cX5_isIdeal 32 = .ok (.iconst 0, 1) := by decide +kernel
theorem dX5_isIdeal_33 : decode cX5_isIdeal 33 = .ok (.ireturn, 1) := by decide +kernel
theorem dX5_isIdeal_34 : decode cX5_isIdeal 34 = .ok (.iinc 2 1, 3) := by decide +kernel
theorem dX5_isIdeal_37 : decode cX5_isIdeal 37 = .ok (.goto (-35), 3) := by decide +kernel
theorem dX5_isIdeal_40 : decode cX5_isIdeal 40 = .ok (.iconst 1, 1) := by decide +kernel
theorem dX5_isIdeal_41 : decode cX5_isIdeal 41 = .ok (.ireturn, 1) := by decide +kernel
theorem dX5_jumpsIn_0 : decode cX5_jumpsIn 0 = .ok (.iconst 0, 1) := by decide +kernel
theorem dX5_jumpsIn_1 : decode cX5_jumpsIn 1 = .ok (.istore_n 2, 1) := by decide +kernel
theorem dX5_jumpsIn_2 : decode cX5_jumpsIn 2 = .ok (.iconst 1, 1) := by decide +kernel
theorem dX5_jumpsIn_3 : decode cX5_jumpsIn 3 = .ok (.istore_n 3, 1) := by decide +kernel
theorem dX5_jumpsIn_4 : decode cX5_jumpsIn 4 = .ok (.iload_n 3, 1) := by decide +kernel
theorem dX5_jumpsIn_5 : decode cX5_jumpsIn 5 = .ok (.aload_n 0, 1) := by decide +kernel
theorem dX5_jumpsIn_6 : decode cX5_jumpsIn 6 = .ok (.getfield 25, 3) := by decide +kernel
theorem dX5_jumpsIn_9 : decode cX5_jumpsIn 9 = .ok (.if_icmp .ge 39, 3) := by decide +kernel
theorem dX5_jumpsIn_12 : decode cX5_jumpsIn 12 = .ok (.aload_n 0, 1) := by decide +kernel
theorem dX5_jumpsIn_13 : decode cX5_jumpsIn 13 = .ok (.aload_n 0, 1) := by decide +kernel
theorem dX5_jumpsIn_14 : decode cX5_jumpsIn 14 = .ok (.getfield 21, 3) := by decide +kernel
theorem dX5_jumpsIn_17 : decode cX5_jumpsIn 17 = .ok (.iload_n 1, 1) := by decide +kernel
theorem dX5_jumpsIn_18 : decode cX5_jumpsIn 18 = .ok (.iload_n 3, 1) := by decide +kernel
theorem dX5_jumpsIn_19 : decode cX5_jumpsIn 19 = .ok (.iconst 1, 1) := by decide +kernel
theorem dX5_jumpsIn_20 : decode cX5_jumpsIn 20 = .ok (.isub, 1) := by decide +kernel
theorem dX5_jumpsIn_21 : decode cX5_jumpsIn 21 = .ok (.invokevirtual 91, 3) := by decide +kernel
theorem dX5_jumpsIn_24 : decode cX5_jumpsIn 24 = .ok (.aload_n 0, 1) := by decide +kernel
theorem dX5_jumpsIn_25 : decode cX5_jumpsIn 25 = .ok (.getfield 21, 3) := by decide +kernel
theorem dX5_jumpsIn_28 : decode cX5_jumpsIn 28 = .ok (.iload_n 1, 1) := by decide +kernel
theorem dX5_jumpsIn_29 : decode cX5_jumpsIn 29 = .ok (.iload_n 3, 1) := by decide +kernel
theorem dX5_jumpsIn_30 : decode cX5_jumpsIn 30 = .ok (.invokevirtual 91, 3) := by decide +kernel
theorem dX5_jumpsIn_33 : decode cX5_jumpsIn 33 = .ok (.invokevirtual 58, 3) := by decide +kernel
theorem dX5_jumpsIn_36 : decode cX5_jumpsIn 36 = .ok (.ifCond .ne 6, 3) := by decide +kernel
theorem dX5_jumpsIn_39 : decode cX5_jumpsIn 39 = .ok (.iinc 2 1, 3) := by decide +kernel
theorem dX5_jumpsIn_42 : decode cX5_jumpsIn 42 = .ok (.iinc 3 1, 3) := by decide +kernel
theorem dX5_jumpsIn_45 : decode cX5_jumpsIn 45 = .ok (.goto (-41), 3) := by decide +kernel
theorem dX5_jumpsIn_48 : decode cX5_jumpsIn 48 = .ok (.iload_n 2, 1) := by decide +kernel
theorem dX5_jumpsIn_49 : decode cX5_jumpsIn 49 = .ok (.ireturn, 1) := by decide +kernel
theorem dX5_leaveOut_0 : decode cX5_leaveOut 0 = .ok (.aload_n 0, 1) := by decide +kernel
theorem dX5_leaveOut_1 : decode cX5_leaveOut 1 = .ok (.iload_n 1, 1) := by decide +kernel
theorem dX5_leaveOut_2 : decode cX5_leaveOut 2 = .ok (.invokevirtual 46, 3) := by decide +kernel
theorem dX5_leaveOut_5 : decode cX5_leaveOut 5 = .ok (.ifCond .ne 4, 3) := by decide +kernel
theorem dX5_leaveOut_8 : decode cX5_leaveOut 8 = .ok (.return_, 1) := by decide +kernel
theorem dX5_leaveOut_9 : decode cX5_leaveOut 9 = .ok (.aload_n 0, 1) := by decide +kernel
theorem dX5_leaveOut_10 : decode cX5_leaveOut 10 = .ok (.getfield 21, 3) := by decide +kernel
theorem dX5_leaveOut_13 : decode cX5_leaveOut 13 = .ok (.iload_n 1, 1) := by decide +kernel
theorem dX5_leaveOut_14 : decode cX5_leaveOut 14 = .ok (.aload_n 0, 1) := by decide +kernel
theorem dX5_leaveOut_15 : decode cX5_leaveOut 15 = .ok (.getfield 25, 3) := by decide +kernel
theorem dX5_leaveOut_18 : decode cX5_leaveOut 18 = .ok (.invokevirtual 80, 3) := by decide +kernel
theorem dX5_leaveOut_21 : decode cX5_leaveOut 21 = .ok (.iconst 0, 1) := by decide +kernel
theorem dX5_leaveOut_22 : decode cX5_leaveOut 22 = .ok (.istore_n 2, 1) := by decide +kernel
theorem dX5_leaveOut_23 : decode cX5_leaveOut 23 = .ok (.iload_n 2, 1) := by decide +kernel
theorem dX5_leaveOut_24 : decode cX5_leaveOut 24 = .ok (.aload_n 0, 1) := by decide +kernel
theorem dX5_leaveOut_25 : decode cX5_leaveOut 25 = .ok (.getfield 25, 3) := by decide +kernel
theorem dX5_leaveOut_28 : decode cX5_leaveOut 28 = .ok (.if_icmp .ge 59, 3) := by decide +kernel
theorem dX5_leaveOut_31 : decode cX5_leaveOut 31 = .ok (.iload_n 2, 1) := by decide +kernel
theorem dX5_leaveOut_32 : decode cX5_leaveOut 32 = .ok (.iload_n 1, 1) := by decide +kernel
theorem dX5_leaveOut_33 : decode cX5_leaveOut 33 = .ok (.if_icmp .le 9, 3) := by decide +kernel
theorem dX5_leaveOut_36 : decode cX5_leaveOut 36 = .ok (.iload_n 2, 1) := by decide +kernel
theorem dX5_leaveOut_37 : decode cX5_leaveOut 37 = .ok (.iconst 1, 1) := by decide +kernel
theorem dX5_leaveOut_38 : decode cX5_leaveOut 38 = .ok (.isub, 1) := by decide +kernel
theorem dX5_leaveOut_39 : decode cX5_leaveOut 39 = .ok (.goto 4, 3) := by decide +kernel
theorem dX5_leaveOut_42 : decode cX5_leaveOut 42 = .ok (.iload_n 2, 1) := by decide +kernel
theorem dX5_leaveOut_43 : decode cX5_leaveOut 43 = .ok (.istore_n 3, 1) := by decide +kernel
theorem dX5_leaveOut_44 : decode cX5_leaveOut 44 = .ok (.iload_n 2, 1) := by decide +kernel
theorem dX5_leaveOut_45 : decode cX5_leaveOut 45 = .ok (.iload_n 1, 1) := by decide +kernel
theorem dX5_leaveOut_46 : decode cX5_leaveOut 46 = .ok (.if_icmp .eq 35, 3) := by decide +kernel
theorem dX5_leaveOut_49 : decode cX5_leaveOut 49 = .ok (.aload_n 0, 1) := by decide +kernel
theorem dX5_leaveOut_50 : decode cX5_leaveOut 50 = .ok (.getfield 9, 3) := by decide +kernel
theorem dX5_leaveOut_53 : decode cX5_leaveOut 53 = .ok (.iload_n 3, 1) := by decide +kernel
theorem dX5_leaveOut_54 : decode cX5_leaveOut 54 = .ok (.aload_n 0, 1) := by decide +kernel
theorem dX5_leaveOut_55 : decode cX5_leaveOut 55 = .ok (.getfield 9, 3) := by decide +kernel
theorem dX5_leaveOut_58 : decode cX5_leaveOut 58 = .ok (.iload_n 2, 1) := by decide +kernel
theorem dX5_leaveOut_59 : decode cX5_leaveOut 59 = .ok (.iaload, 1) := by decide +kernel
theorem dX5_leaveOut_60 : decode cX5_leaveOut 60 = .ok (.iload_n 1, 1) := by decide +kernel
theorem dX5_leaveOut_61 : decode cX5_leaveOut 61 = .ok (.invokestatic 84, 3) := by decide +kernel
theorem dX5_leaveOut_64 : decode cX5_leaveOut 64 = .ok (.iastore, 1) := by decide +kernel
theorem dX5_leaveOut_65 : decode cX5_leaveOut 65 = .ok (.aload_n 0, 1) := by decide +kernel
theorem dX5_leaveOut_66 : decode cX5_leaveOut 66 = .ok (.getfield 15, 3) := by decide +kernel
theorem dX5_leaveOut_69 : decode cX5_leaveOut 69 = .ok (.iload_n 3, 1) := by decide +kernel
theorem dX5_leaveOut_70 : decode cX5_leaveOut 70 = .ok (.aload_n 0, 1) := by decide +kernel
theorem dX5_leaveOut_71 : decode cX5_leaveOut 71 = .ok (.getfield 15, 3) := by decide +kernel
theorem dX5_leaveOut_74 : decode cX5_leaveOut 74 = .ok (.iload_n 2, 1) := by decide +kernel
theorem dX5_leaveOut_75 : decode cX5_leaveOut 75 = .ok (.iaload, 1) := by decide +kernel
theorem dX5_leaveOut_76 : decode cX5_leaveOut 76 = .ok (.iload_n 1, 1) := by decide +kernel
theorem dX5_leaveOut_77 : decode cX5_leaveOut 77 = .ok (.invokestatic 84, 3) := by decide +kernel
theorem dX5_leaveOut_80 : decode cX5_leaveOut 80 = .ok (.iastore, 1) := by decide +kernel
theorem dX5_leaveOut_81 : decode cX5_leaveOut 81 = .ok (.iinc 2 1, 3) := by decide +kernel
theorem dX5_leaveOut_84 : decode cX5_leaveOut 84 = .ok (.goto (-61), 3) := by decide +kernel
theorem dX5_leaveOut_87 : decode cX5_leaveOut 87 = .ok (.aload_n 0, 1) := by decide +kernel
theorem dX5_leaveOut_88 : decode cX5_leaveOut 88 = .ok (.dup, 1) := by decide +kernel
theorem dX5_leaveOut_89 : decode cX5_leaveOut 89 = .ok (.getfield 25, 3) := by decide +kernel
theorem dX5_leaveOut_92 : decode cX5_leaveOut 92 = .ok (.iconst 1, 1) := by decide +kernel
theorem dX5_leaveOut_93 : decode cX5_leaveOut 93 = .ok (.isub, 1) := by decide +kernel
theorem dX5_leaveOut_94 : decode cX5_leaveOut 94 = .ok (.putfield 25, 3) := by decide +kernel
theorem dX5_leaveOut_97 : decode cX5_leaveOut 97 = .ok (.return_, 1) := by decide +kernel
theorem dX5_link_0 : decode cX5_link 0 = .ok (.aload_n 0, 1) := by decide +kernel
theorem dX5_link_1 : decode cX5_link 1 = .ok (.iload_n 1, 1) := by decide +kernel
theorem dX5_link_2 : decode cX5_link 2 = .ok (.invokevirtual 46, 3) := by decide +kernel
theorem dX5_link_5 : decode cX5_link 5 = .ok (.ifCond .eq 11, 3) := by decide +kernel
theorem dX5_link_8 : decode cX5_link 8 = .ok (.aload_n 0, 1) := by decide +kernel
theorem dX5_link_9 : decode cX5_link 9 = .ok (.iload_n 2, 1) := by decide +kernel
theorem dX5_link_10 : decode cX5_link 10 = .ok (.invokevirtual 46, 3) := by decide +kernel
theorem dX5_link_13 : decode cX5_link 13 = .ok (.ifCond .ne 5, 3) := by decide +kernel
theorem dX5_link_16 : decode cX5_link 16 = .ok (.iconst 0, 1) := by decide +kernel
theorem dX5_link_17 : decode cX5_link 17 = .ok (.ireturn, 1) := by decide +kernel
theorem dX5_link_18 : decode cX5_link 18 = .ok (.aload_n 0, 1) := by decide +kernel
theorem dX5_link_19 : decode cX5_link 19 = .ok (.invokevirtual 70, 3) := by decide +kernel
theorem dX5_link_22 : decode cX5_link 22 = .ok (.istore_n 3, 1) := by decide +kernel
theorem dX5_link_23 : decode cX5_link 23 = .ok (.aload_n 0, 1) := by decide +kernel
theorem dX5_link_24 : decode cX5_link 24 = .ok (.getfield 9, 3) := by decide +kernel
theorem dX5_link_27 : decode cX5_link 27 = .ok (.iload_n 1, 1) := by decide +kernel
theorem dX5_link_28 : decode cX5_link 28 = .ok (.iaload, 1) := by decide +kernel
theorem dX5_link_29 : decode cX5_link 29 = .ok (.iconst 1, 1) := by decide +kernel
theorem dX5_link_30 : decode cX5_link 30 = .ok (.iload_n 1, 1) := by decide +kernel
theorem dX5_link_31 : decode cX5_link 31 = .ok (.ishl, 1) := by decide +kernel
theorem dX5_link_32 : decode cX5_link 32 = .ok (.ior, 1) := by decide +kernel
theorem dX5_link_33 : decode cX5_link 33 = .ok (.istore 4, 2) := by decide +kernel
theorem dX5_link_35 : decode cX5_link 35 = .ok (.aload_n 0, 1) := by decide +kernel
theorem dX5_link_36 : decode cX5_link 36 = .ok (.getfield 15, 3) := by decide +kernel
theorem dX5_link_39 : decode cX5_link 39 = .ok (.iload_n 2, 1) := by decide +kernel
theorem dX5_link_40 : decode cX5_link 40 = .ok (.iaload, 1) := by decide +kernel
theorem dX5_link_41 : decode cX5_link 41 = .ok (.iconst 1, 1) := by decide +kernel
theorem dX5_link_42 : decode cX5_link 42 = .ok (.iload_n 2, 1) := by decide +kernel
theorem dX5_link_43 : decode cX5_link 43 = .ok (.ishl, 1) := by decide +kernel
theorem dX5_link_44 : decode cX5_link 44 = .ok (.ior, 1) := by decide +kernel
theorem dX5_link_45 : decode cX5_link 45 = .ok (.istore 5, 2) := by decide +kernel
theorem dX5_link_47 : decode cX5_link 47 = .ok (.iconst 0, 1) := by decide +kernel
theorem dX5_link_48 : decode cX5_link 48 = .ok (.istore 6, 2) := by decide +kernel
theorem dX5_link_50 : decode cX5_link 50 = .ok (.iload 6, 2) := by decide +kernel
theorem dX5_link_52 : decode cX5_link 52 = .ok (.aload_n 0, 1) := by decide +kernel
theorem dX5_link_53 : decode cX5_link 53 = .ok (.getfield 25, 3) := by decide +kernel
theorem dX5_link_56 : decode cX5_link 56 = .ok (.if_icmp .ge 55, 3) := by decide +kernel
theorem dX5_link_59 : decode cX5_link 59 = .ok (.iload 4, 2) := by decide +kernel
theorem dX5_link_61 : decode cX5_link 61 = .ok (.iload 6, 2) := by decide +kernel
theorem dX5_link_63 : decode cX5_link 63 = .ok (.ishr, 1) := by decide +kernel
theorem dX5_link_64 : decode cX5_link 64 = .ok (.iconst 1, 1) := by decide +kernel
theorem dX5_link_65 : decode cX5_link 65 = .ok (.iand, 1) := by decide +kernel
theorem dX5_link_66 : decode cX5_link 66 = .ok (.iconst 1, 1) := by decide +kernel
theorem dX5_link_67 : decode cX5_link 67 = .ok (.if_icmp .ne 15, 3) := by decide +kernel
theorem dX5_link_70 : decode cX5_link 70 = .ok (.aload_n 0, 1) := by decide +kernel
theorem dX5_link_71 : decode cX5_link 71 = .ok (.getfield 15, 3) := by decide +kernel
theorem dX5_link_74 : decode cX5_link 74 = .ok (.iload 6, 2) := by decide +kernel
theorem dX5_link_76 : decode cX5_link 76 = .ok (.dup2, 1) := by decide +kernel
theorem dX5_link_77 : decode cX5_link 77 = .ok (.iaload, 1) := by decide +kernel
theorem dX5_link_78 : decode cX5_link 78 = .ok (.iload 5, 2) := by decide +kernel
theorem dX5_link_80 : decode cX5_link 80 = .ok (.ior, 1) := by decide +kernel
theorem dX5_link_81 : decode cX5_link 81 = .ok (.iastore, 1) := by decide +kernel
theorem dX5_link_82 : decode cX5_link 82 = .ok (.iload 5, 2) := by decide +kernel
theorem dX5_link_84 : decode cX5_link 84 = .ok (.iload 6, 2) := by decide +kernel
theorem dX5_link_86 : decode cX5_link 86 = .ok (.ishr, 1) := by decide +kernel
theorem dX5_link_87 : decode cX5_link 87 = .ok (.iconst 1, 1) := by decide +kernel
theorem dX5_link_88 : decode cX5_link 88 = .ok (.iand, 1) := by decide +kernel
theorem dX5_link_89 : decode cX5_link 89 = .ok (.iconst 1, 1) := by decide +kernel
theorem dX5_link_90 : decode cX5_link 90 = .ok (.if_icmp .ne 15, 3) := by decide +kernel
theorem dX5_link_93 : decode cX5_link 93 = .ok (.aload_n 0, 1) := by decide +kernel
theorem dX5_link_94 : decode cX5_link 94 = .ok (.getfield 9, 3) := by decide +kernel
theorem dX5_link_97 : decode cX5_link 97 = .ok (.iload 6, 2) := by decide +kernel
theorem dX5_link_99 : decode cX5_link 99 = .ok (.dup2, 1) := by decide +kernel
theorem dX5_link_100 : decode cX5_link 100 = .ok (.iaload, 1) := by decide +kernel
theorem dX5_link_101 : decode cX5_link 101 = .ok (.iload 4, 2) := by decide +kernel
theorem dX5_link_103 : decode cX5_link 103 = .ok (.ior, 1) := by decide +kernel
theorem dX5_link_104 : decode cX5_link 104 = .ok (.iastore, 1) := by decide +kernel
theorem dX5_link_105 : decode cX5_link 105 = .ok (.iinc 6 1, 3) := by decide +kernel
theorem dX5_link_108 : decode cX5_link 108 = .ok (.goto (-58), 3) := by decide +kernel
theorem dX5_link_111 : decode cX5_link 111 = .ok (.aload_n 0, 1) := by decide +kernel
theorem dX5_link_112 : decode cX5_link 112 = .ok (.invokevirtual 70, 3) := by decide +kernel
theorem dX5_link_115 : decode cX5_link 115 = .ok (.iload_n 3, 1) := by decide +kernel
theorem dX5_link_116 : decode cX5_link 116 = .ok (.isub, 1) := by decide +kernel
theorem dX5_link_117 : decode cX5_link 117 = .ok (.ireturn, 1) := by decide +kernel
theorem dX5_rows_0 : decode cX5_rows 0 = .ok (.aload_n 0, 1) := by decide +kernel
theorem dX5_rows_1 : decode cX5_rows 1 = .ok (.getfield 21, 3) := by decide +kernel
theorem dX5_rows_4 : decode cX5_rows 4 = .ok (.areturn, 1) := by decide +kernel
theorem dX5_rowsRealize_0 : decode cX5_rowsRealize 0 = .ok (.aload_n 0, 1) := by decide +kernel
theorem dX5_rowsRealize_1 : decode cX5_rowsRealize 1 = .ok (.getfield 21, 3) := by decide +kernel
theorem dX5_rowsRealize_4 : decode cX5_rowsRealize 4 = .ok (.invokevirtual 94, 3) := by decide +kernel
theorem dX5_rowsRealize_7 : decode cX5_rowsRealize 7 = .ok (.ifCond .eq 10, 3) := by decide +kernel
theorem dX5_rowsRealize_10 : decode cX5_rowsRealize 10 = .ok (.aload_n 0, 1) := by decide +kernel
theorem dX5_rowsRealize_11 : decode cX5_rowsRealize 11 = .ok (.invokevirtual 99, 3) := by decide +kernel
theorem dX5_rowsRealize_14 : decode cX5_rowsRealize 14 = .ok (.ifCond .ne 5, 3) := by decide +kernel
theorem dX5_rowsRealize_17 : decode cX5_rowsRealize 17 = .ok (.iconst 0, 1) := by decide +kernel
theorem dX5_rowsRealize_18 : decode cX5_rowsRealize 18 = .ok (.ireturn, 1) := by decide +kernel
theorem dX5_rowsRealize_19 : decode cX5_rowsRealize 19 = .ok (.iconst 0, 1) := by decide +kernel
theorem dX5_rowsRealize_20 : decode cX5_rowsRealize 20 = .ok (.istore_n 1, 1) := by decide +kernel
theorem dX5_rowsRealize_21 : decode cX5_rowsRealize 21 = .ok (.iload_n 1, 1) := by decide +kernel
theorem dX5_rowsRealize_22 : decode cX5_rowsRealize 22 = .ok (.aload_n 0, 1) := by decide +kernel
theorem dX5_rowsRealize_23 : decode cX5_rowsRealize 23 = .ok (.getfield 25, 3) := by decide +kernel
theorem dX5_rowsRealize_26 : decode cX5_rowsRealize 26 = .ok (.if_icmp .ge 25, 3) := by decide +kernel
theorem dX5_rowsRealize_29 : decode cX5_rowsRealize 29 = .ok (.aload_n 0, 1) := by decide +kernel
theorem dX5_rowsRealize_30 : decode cX5_rowsRealize 30 = .ok (.iload_n 1, 1) := by decide +kernel
theorem dX5_rowsRealize_31 : decode cX5_rowsRealize 31 = .ok (.invokevirtual 103, 3) := by decide +kernel
theorem dX5_rowsRealize_34 : decode cX5_rowsRealize 34 = .ok (.aload_n 0, 1) := by decide +kernel
theorem dX5_rowsRealize_35 : decode cX5_rowsRealize 35 = .ok (.iload_n 1, 1) := by decide +kernel
theorem dX5_rowsRealize_36 : decode cX5_rowsRealize 36 = .ok (.invokevirtual 106, 3) := by decide +kernel
theorem dX5_rowsRealize_39 : decode cX5_rowsRealize 39 = .ok (.iand, 1) := by decide +kernel
theorem dX5_rowsRealize_40 : decode cX5_rowsRealize 40 = .ok (.ifCond .eq 5, 3) := by decide +kernel
theorem dX5_rowsRealize_43 : decode cX5_rowsRealize 43 = .ok (.iconst 0, 1) := by decide +kernel
theorem dX5_rowsRealize_44 : decode cX5_rowsRealize 44 = .ok (.ireturn, 1) := by decide +kernel
theorem dX5_rowsRealize_45 : decode cX5_rowsRealize 45 = .ok (.iinc 1 1, 3) := by decide +kernel
theorem dX5_rowsRealize_48 : decode cX5_rowsRealize 48 = .ok (.goto (-27), 3) := by decide +kernel
theorem dX5_rowsRealize_51 : decode cX5_rowsRealize 51 = .ok (.iconst 1, 1) := by decide +kernel
theorem dX5_rowsRealize_52 : decode cX5_rowsRealize 52 = .ok (.ireturn, 1) := by decide +kernel
theorem dX5_sameAs_0 : decode cX5_sameAs 0 = .ok (.aload_n 0, 1) := by decide +kernel
theorem dX5_sameAs_1 : decode cX5_sameAs 1 = .ok (.getfield 25, 3) := by decide +kernel
theorem dX5_sameAs_4 : decode cX5_sameAs 4 = .ok (.aload_n 1, 1) := by decide +kernel
theorem dX5_sameAs_5 : decode cX5_sameAs 5 = .ok (.getfield 25, 3) := by decide +kernel
theorem dX5_sameAs_8 : decode cX5_sameAs 8 = .ok (.if_icmp .eq 5, 3) := by decide +kernel
theorem dX5_sameAs_11 : decode cX5_sameAs 11 = .ok (.iconst 0, 1) := by decide +kernel
theorem dX5_sameAs_12 : decode cX5_sameAs 12 = .ok (.ireturn, 1) := by decide +kernel
theorem dX5_sameAs_13 : decode cX5_sameAs 13 = .ok (.iconst 0, 1) := by decide +kernel
theorem dX5_sameAs_14 : decode cX5_sameAs 14 = .ok (.istore_n 2, 1) := by decide +kernel
theorem dX5_sameAs_15 : decode cX5_sameAs 15 = .ok (.iload_n 2, 1) := by decide +kernel
theorem dX5_sameAs_16 : decode cX5_sameAs 16 = .ok (.aload_n 0, 1) := by decide +kernel
theorem dX5_sameAs_17 : decode cX5_sameAs 17 = .ok (.getfield 25, 3) := by decide +kernel
theorem dX5_sameAs_20 : decode cX5_sameAs 20 = .ok (.if_icmp .ge 26, 3) := by decide +kernel
theorem dX5_sameAs_23 : decode cX5_sameAs 23 = .ok (.aload_n 0, 1) := by decide +kernel
theorem dX5_sameAs_24 : decode cX5_sameAs 24 = .ok (.getfield 9, 3) := by decide +kernel
theorem dX5_sameAs_27 : decode cX5_sameAs 27 = .ok (.iload_n 2, 1) := by decide +kernel
theorem dX5_sameAs_28 : decode cX5_sameAs 28 = .ok (.iaload, 1) := by decide +kernel
theorem dX5_sameAs_29 : decode cX5_sameAs 29 = .ok (.aload_n 1, 1) := by decide +kernel
theorem dX5_sameAs_30 : decode cX5_sameAs 30 = .ok (.getfield 9, 3) := by decide +kernel
theorem dX5_sameAs_33 : decode cX5_sameAs 33 = .ok (.iload_n 2, 1) := by decide +kernel
theorem dX5_sameAs_34 : decode cX5_sameAs 34 = .ok (.iaload, 1) := by decide +kernel
theorem dX5_sameAs_35 : decode cX5_sameAs 35 = .ok (.if_icmp .eq 5, 3) := by decide +kernel
theorem dX5_sameAs_38 : decode cX5_sameAs 38 = .ok (.iconst 0, 1) := by decide +kernel
theorem dX5_sameAs_39 : decode cX5_sameAs 39 = .ok (.ireturn, 1) := by decide +kernel
theorem dX5_sameAs_40 : decode cX5_sameAs 40 = .ok (.iinc 2 1, 3) := by decide +kernel
theorem dX5_sameAs_43 : decode cX5_sameAs 43 = .ok (.goto (-28), 3) := by decide +kernel
theorem dX5_sameAs_46 : decode cX5_sameAs 46 = .ok (.aload_n 0, 1) := by decide +kernel
theorem dX5_sameAs_47 : decode cX5_sameAs 47 = .ok (.getfield 21, 3) := by decide +kernel
theorem dX5_sameAs_50 : decode cX5_sameAs 50 = .ok (.aload_n 1, 1) := by decide +kernel
theorem dX5_sameAs_51 : decode cX5_sameAs 51 = .ok (.getfield 21, 3) := by decide +kernel
theorem dX5_sameAs_54 : decode cX5_sameAs 54 = .ok (.aload_n 0, 1) := by decide +kernel
theorem dX5_sameAs_55 : decode cX5_sameAs 55 = .ok (.getfield 25, 3) := by decide +kernel
theorem dX5_sameAs_58 : decode cX5_sameAs 58 = .ok (.invokevirtual 42, 3) := by decide +kernel
theorem dX5_sameAs_61 : decode cX5_sameAs 61 = .ok (.ireturn, 1) := by decide +kernel
theorem dX5_size_0 : decode cX5_size 0 = .ok (.aload_n 0, 1) := by decide +kernel
theorem dX5_size_1 : decode cX5_size 1 = .ok (.getfield 25, 3) := by decide +kernel
theorem dX5_size_4 : decode cX5_size 4 = .ok (.ireturn, 1) := by decide +kernel
theorem dX5_turnOver_0 : decode cX5_turnOver 0 = .ok (.iconst 0, 1) := by decide +kernel
theorem dX5_turnOver_1 : decode cX5_turnOver 1 = .ok (.istore_n 1, 1) := by decide +kernel
theorem dX5_turnOver_2 : decode cX5_turnOver 2 = .ok (.iload_n 1, 1) := by decide +kernel
theorem dX5_turnOver_3 : decode cX5_turnOver 3 = .ok (.aload_n 0, 1) := by decide +kernel
theorem dX5_turnOver_4 : decode cX5_turnOver 4 = .ok (.getfield 25, 3) := by decide +kernel
theorem dX5_turnOver_7 : decode cX5_turnOver 7 = .ok (.if_icmp .ge 35, 3) := by decide +kernel
theorem dX5_turnOver_10 : decode cX5_turnOver 10 = .ok (.aload_n 0, 1) := by decide +kernel
theorem dX5_turnOver_11 : decode cX5_turnOver 11 = .ok (.getfield 9, 3) := by decide +kernel
theorem dX5_turnOver_14 : decode cX5_turnOver 14 = .ok (.iload_n 1, 1) := by decide +kernel
theorem dX5_turnOver_15 : decode cX5_turnOver 15 = .ok (.iaload, 1) := by decide +kernel
theorem dX5_turnOver_16 : decode cX5_turnOver 16 = .ok (.istore_n 2, 1) := by decide +kernel
theorem dX5_turnOver_17 : decode cX5_turnOver 17 = .ok (.aload_n 0, 1) := by decide +kernel
theorem dX5_turnOver_18 : decode cX5_turnOver 18 = .ok (.getfield 9, 3) := by decide +kernel
theorem dX5_turnOver_21 : decode cX5_turnOver 21 = .ok (.iload_n 1, 1) := by decide +kernel
theorem dX5_turnOver_22 : decode cX5_turnOver 22 = .ok (.aload_n 0, 1) := by decide +kernel
theorem dX5_turnOver_23 : decode cX5_turnOver 23 = .ok (.getfield 15, 3) := by decide +kernel
theorem dX5_turnOver_26 : decode cX5_turnOver 26 = .ok (.iload_n 1, 1) := by decide +kernel
theorem dX5_turnOver_27 : decode cX5_turnOver 27 = .ok (.iaload, 1) := by decide +kernel
theorem dX5_turnOver_28 : decode cX5_turnOver 28 = .ok (.iastore, 1) := by decide +kernel
theorem dX5_turnOver_29 : decode cX5_turnOver 29 = .ok (.aload_n 0, 1) := by decide +kernel
theorem dX5_turnOver_30 : decode cX5_turnOver 30 = .ok (.getfield 15, 3) := by decide +kernel
theorem dX5_turnOver_33 : decode cX5_turnOver 33 = .ok (.iload_n 1, 1) := by decide +kernel
theorem dX5_turnOver_34 : decode cX5_turnOver 34 = .ok (.iload_n 2, 1) := by decide +kernel
theorem dX5_turnOver_35 : decode cX5_turnOver 35 = .ok (.iastore, 1) := by decide +kernel
theorem dX5_turnOver_36 : decode cX5_turnOver 36 = .ok (.iinc 1 1, 3) := by decide +kernel
theorem dX5_turnOver_39 : decode cX5_turnOver 39 = .ok (.goto (-37), 3) := by decide +kernel
theorem dX5_turnOver_42 : decode cX5_turnOver 42 = .ok (.aload_n 0, 1) := by decide +kernel
theorem dX5_turnOver_43 : decode cX5_turnOver 43 = .ok (.getfield 21, 3) := by decide +kernel
theorem dX5_turnOver_46 : decode cX5_turnOver 46 = .ok (.aload_n 0, 1) := by decide +kernel
theorem dX5_turnOver_47 : decode cX5_turnOver 47 = .ok (.getfield 25, 3) := by decide +kernel
theorem dX5_turnOver_50 : decode cX5_turnOver 50 = .ok (.invokevirtual 76, 3) := by decide +kernel
theorem dX5_turnOver_53 : decode cX5_turnOver 53 = .ok (.return_, 1) := by decide +kernel
theorem dX5_twos_0 : decode cX5_twos 0 = .ok (.iconst 0, 1) := by decide +kernel
theorem dX5_twos_1 : decode cX5_twos 1 = .ok (.istore_n 1, 1) := by decide +kernel
theorem dX5_twos_2 : decode cX5_twos 2 = .ok (.iconst 0, 1) := by decide +kernel
theorem dX5_twos_3 : decode cX5_twos 3 = .ok (.istore_n 2, 1) := by decide +kernel
theorem dX5_twos_4 : decode cX5_twos 4 = .ok (.iload_n 2, 1) := by decide +kernel
theorem dX5_twos_5 : decode cX5_twos 5 = .ok (.aload_n 0, 1) := by decide +kernel
theorem dX5_twos_6 : decode cX5_twos 6 = .ok (.getfield 25, 3) := by decide +kernel
theorem dX5_twos_9 : decode cX5_twos 9 = .ok (.if_icmp .ge 21, 3) := by decide +kernel
theorem dX5_twos_12 : decode cX5_twos 12 = .ok (.iload_n 1, 1) := by decide +kernel
theorem dX5_twos_13 : decode cX5_twos 13 = .ok (.aload_n 0, 1) := by decide +kernel
theorem dX5_twos_14 : decode cX5_twos 14 = .ok (.getfield 9, 3) := by decide +kernel
theorem dX5_twos_17 : decode cX5_twos 17 = .ok (.iload_n 2, 1) := by decide +kernel
theorem dX5_twos_18 : decode cX5_twos 18 = .ok (.iaload, 1) := by decide +kernel
theorem dX5_twos_19 : decode cX5_twos 19 = .ok (.invokestatic 65, 3) := by decide +kernel
theorem dX5_twos_22 : decode cX5_twos 22 = .ok (.iadd, 1) := by decide +kernel
theorem dX5_twos_23 : decode cX5_twos 23 = .ok (.istore_n 1, 1) := by decide +kernel
theorem dX5_twos_24 : decode cX5_twos 24 = .ok (.iinc 2 1, 3) := by decide +kernel
theorem dX5_twos_27 : decode cX5_twos 27 = .ok (.goto (-23), 3) := by decide +kernel
theorem dX5_twos_30 : decode cX5_twos 30 = .ok (.iload_n 1, 1) := by decide +kernel
theorem dX5_twos_31 : decode cX5_twos 31 = .ok (.ireturn, 1) := by decide +kernel
theorem dX5_under_0 : decode cX5_under 0 = .ok (.aload_n 0, 1) := by decide +kernel
theorem dX5_under_1 : decode cX5_under 1 = .ok (.iload_n 1, 1) := by decide +kernel
theorem dX5_under_2 : decode cX5_under 2 = .ok (.invokevirtual 46, 3) := by decide +kernel
theorem dX5_under_5 : decode cX5_under 5 = .ok (.ifCond .eq 29, 3) := by decide +kernel
theorem dX5_under_8 : decode cX5_under 8 = .ok (.aload_n 0, 1) := by decide +kernel
theorem dX5_under_9 : decode cX5_under 9 = .ok (.iload_n 2, 1) := by decide +kernel
theorem dX5_under_10 : decode cX5_under 10 = .ok (.invokevirtual 46, 3) := by decide +kernel
theorem dX5_under_13 : decode cX5_under 13 = .ok (.ifCond .eq 21, 3) := by decide +kernel
theorem dX5_under_16 : decode cX5_under 16 = .ok (.aload_n 0, 1) := by decide +kernel
theorem dX5_under_17 : decode cX5_under 17 = .ok (.getfield 9, 3) := by decide +kernel
theorem dX5_under_20 : decode cX5_under 20 = .ok (.iload_n 2, 1) := by decide +kernel
theorem dX5_under_21 : decode cX5_under 21 = .ok (.iaload, 1) := by decide +kernel
theorem dX5_under_22 : decode cX5_under 22 = .ok (.iload_n 1, 1) := by decide +kernel
theorem dX5_under_23 : decode cX5_under 23 = .ok (.ishr, 1) := by decide +kernel
theorem dX5_under_24 : decode cX5_under 24 = .ok (.iconst 1, 1) := by decide +kernel
theorem dX5_under_25 : decode cX5_under 25 = .ok (.iand, 1) := by decide +kernel
theorem dX5_under_26 : decode cX5_under 26 = .ok (.iconst 1, 1) := by decide +kernel
theorem dX5_under_27 : decode cX5_under 27 = .ok (.if_icmp .ne 7, 3) := by decide +kernel
theorem dX5_under_30 : decode cX5_under 30 = .ok (.iconst 1, 1) := by decide +kernel
theorem dX5_under_31 : decode cX5_under 31 = .ok (.goto 4, 3) := by decide +kernel
theorem dX5_under_34 : decode cX5_under 34 = .ok (.iconst 0, 1) := by decide +kernel
theorem dX5_under_35 : decode cX5_under 35 = .ok (.ireturn, 1) := by decide +kernel
theorem dX5_unite_0 : decode cX5_unite 0 = .ok (.aload_n 1, 1) := by decide +kernel
theorem dX5_unite_1 : decode cX5_unite 1 = .ok (.getfield 25, 3) := by decide +kernel
theorem dX5_unite_4 : decode cX5_unite 4 = .ok (.istore 4, 2) := by decide +kernel
theorem dX5_unite_6 : decode cX5_unite 6 = .ok (.aload_n 0, 1) := by decide +kernel
theorem dX5_unite_7 : decode cX5_unite 7 = .ok (.iload 4, 2) := by decide +kernel
theorem dX5_unite_9 : decode cX5_unite 9 = .ok (.aload_n 2, 1) := by decide +kernel
theorem dX5_unite_10 : decode cX5_unite 10 = .ok (.getfield 25, 3) := by decide +kernel
theorem dX5_unite_13 : decode cX5_unite 13 = .ok (.iadd, 1) := by decide +kernel
theorem dX5_unite_14 : decode cX5_unite 14 = .ok (.invokevirtual 88, 3) := by decide +kernel
theorem dX5_unite_17 : decode cX5_unite 17 = .ok (.iconst 0, 1) := by decide +kernel
theorem dX5_unite_18 : decode cX5_unite 18 = .ok (.istore 5, 2) := by decide +kernel
theorem dX5_unite_20 : decode cX5_unite 20 = .ok (.iload 5, 2) := by decide +kernel
theorem dX5_unite_22 : decode cX5_unite 22 = .ok (.aload_n 0, 1) := by decide +kernel
theorem dX5_unite_23 : decode cX5_unite 23 = .ok (.getfield 25, 3) := by decide +kernel
theorem dX5_unite_26 : decode cX5_unite 26 = .ok (.if_icmp .ge 112, 3) := by decide +kernel
theorem dX5_unite_29 : decode cX5_unite 29 = .ok (.iload 5, 2) := by decide +kernel
theorem dX5_unite_31 : decode cX5_unite 31 = .ok (.iload 4, 2) := by decide +kernel
theorem dX5_unite_33 : decode cX5_unite 33 = .ok (.if_icmp .ge 48, 3) := by decide +kernel
theorem dX5_unite_36 : decode cX5_unite 36 = .ok (.aload_n 0, 1) := by decide +kernel
theorem dX5_unite_37 : decode cX5_unite 37 = .ok (.getfield 9, 3) := by decide +kernel
theorem dX5_unite_40 : decode cX5_unite 40 = .ok (.iload 5, 2) := by decide +kernel
theorem dX5_unite_42 : decode cX5_unite 42 = .ok (.aload_n 1, 1) := by decide +kernel
theorem dX5_unite_43 : decode cX5_unite 43 = .ok (.iload 5, 2) := by decide +kernel
theorem dX5_unite_45 : decode cX5_unite 45 = .ok (.invokevirtual 54, 3) := by decide +kernel
theorem dX5_unite_48 : decode cX5_unite 48 = .ok (.iastore, 1) := by decide +kernel
theorem dX5_unite_49 : decode cX5_unite 49 = .ok (.aload_n 0, 1) := by decide +kernel
theorem dX5_unite_50 : decode cX5_unite 50 = .ok (.getfield 15, 3) := by decide +kernel
theorem dX5_unite_53 : decode cX5_unite 53 = .ok (.iload 5, 2) := by decide +kernel
theorem dX5_unite_55 : decode cX5_unite 55 = .ok (.aload_n 1, 1) := by decide +kernel
theorem dX5_unite_56 : decode cX5_unite 56 = .ok (.iload 5, 2) := by decide +kernel
theorem dX5_unite_58 : decode cX5_unite 58 = .ok (.invokevirtual 62, 3) := by decide +kernel
theorem dX5_unite_61 : decode cX5_unite 61 = .ok (.iload_n 3, 1) := by decide +kernel
theorem dX5_unite_62 : decode cX5_unite 62 = .ok (.ifCond .eq 13, 3) := by decide +kernel
theorem dX5_unite_65 : decode cX5_unite 65 = .ok (.aload_n 2, 1) := by decide +kernel
theorem dX5_unite_66 : decode cX5_unite 66 = .ok (.invokevirtual 50, 3) := by decide +kernel
theorem dX5_unite_69 : decode cX5_unite 69 = .ok (.iload 4, 2) := by decide +kernel
theorem dX5_unite_71 : decode cX5_unite 71 = .ok (.ishl, 1) := by decide +kernel
theorem dX5_unite_72 : decode cX5_unite 72 = .ok (.goto 4, 3) := by decide +kernel
theorem dX5_unite_75 : decode cX5_unite 75 = .ok (.iconst 0, 1) := by decide +kernel
theorem dX5_unite_76 : decode cX5_unite 76 = .ok (.ior, 1) := by decide +kernel
theorem dX5_unite_77 : decode cX5_unite 77 = .ok (.iastore, 1) := by decide +kernel
theorem dX5_unite_78 : decode cX5_unite 78 = .ok (.goto 54, 3) := by decide +kernel
theorem dX5_unite_81 : decode cX5_unite 81 = .ok (.aload_n 0, 1) := by decide +kernel
theorem dX5_unite_82 : decode cX5_unite 82 = .ok (.getfield 9, 3) := by decide +kernel
theorem dX5_unite_85 : decode cX5_unite 85 = .ok (.iload 5, 2) := by decide +kernel
theorem dX5_unite_87 : decode cX5_unite 87 = .ok (.aload_n 2, 1) := by decide +kernel
theorem dX5_unite_88 : decode cX5_unite 88 = .ok (.iload 5, 2) := by decide +kernel
theorem dX5_unite_90 : decode cX5_unite 90 = .ok (.iload 4, 2) := by decide +kernel
theorem dX5_unite_92 : decode cX5_unite 92 = .ok (.isub, 1) := by decide +kernel
theorem dX5_unite_93 : decode cX5_unite 93 = .ok (.invokevirtual 54, 3) := by decide +kernel
theorem dX5_unite_96 : decode cX5_unite 96 = .ok (.iload 4, 2) := by decide +kernel
theorem dX5_unite_98 : decode cX5_unite 98 = .ok (.ishl, 1) := by decide +kernel
theorem dX5_unite_99 : decode cX5_unite 99 = .ok (.iload_n 3, 1) := by decide +kernel
theorem dX5_unite_100 : decode cX5_unite 100 = .ok (.ifCond .eq 10, 3) := by decide +kernel
theorem dX5_unite_103 : decode cX5_unite 103 = .ok (.aload_n 1, 1) := by decide +kernel
theorem dX5_unite_104 : decode cX5_unite 104 = .ok (.invokevirtual 50, 3) := by decide +kernel
theorem dX5_unite_107 : decode cX5_unite 107 = .ok (.goto 4, 3) := by decide +kernel
theorem dX5_unite_110 : decode cX5_unite 110 = .ok (.iconst 0, 1) := by decide +kernel
theorem dX5_unite_111 : decode cX5_unite 111 = .ok (.ior, 1) := by decide +kernel
theorem dX5_unite_112 : decode cX5_unite 112 = .ok (.iastore, 1) := by decide +kernel
theorem dX5_unite_113 : decode cX5_unite 113 = .ok (.aload_n 0, 1) := by decide +kernel
theorem dX5_unite_114 : decode cX5_unite 114 = .ok (.getfield 15, 3) := by decide +kernel
theorem dX5_unite_117 : decode cX5_unite 117 = .ok (.iload 5, 2) := by decide +kernel
theorem dX5_unite_119 : decode cX5_unite 119 = .ok (.aload_n 2, 1) := by decide +kernel
theorem dX5_unite_120 : decode cX5_unite 120 = .ok (.iload 5, 2) := by decide +kernel
theorem dX5_unite_122 : decode cX5_unite 122 = .ok (.iload 4, 2) := by decide +kernel
theorem dX5_unite_124 : decode cX5_unite 124 = .ok (.isub, 1) := by decide +kernel
theorem dX5_unite_125 : decode cX5_unite 125 = .ok (.invokevirtual 62, 3) := by decide +kernel
theorem dX5_unite_128 : decode cX5_unite 128 = .ok (.iload 4, 2) := by decide +kernel
theorem dX5_unite_130 : decode cX5_unite 130 = .ok (.ishl, 1) := by decide +kernel
theorem dX5_unite_131 : decode cX5_unite 131 = .ok (.iastore, 1) := by decide +kernel
theorem dX5_unite_132 : decode cX5_unite 132 = .ok (.iinc 5 1, 3) := by decide +kernel
theorem dX5_unite_135 : decode cX5_unite 135 = .ok (.goto (-115), 3) := by decide +kernel
theorem dX5_unite_138 : decode cX5_unite 138 = .ok (.return_, 1) := by decide +kernel
