theorem dX5_unlink_0 : decode cX5_unlink 0 = .ok (.aload_n 0, 1) := by decide +kernel
theorem dX5_unlink_1 : decode cX5_unlink 1 = .ok (.iload_n 1, 1) := by decide +kernel
theorem dX5_unlink_2 : decode cX5_unlink 2 = .ok (.invokevirtual 46, 3) := by decide +kernel
theorem dX5_unlink_5 : decode cX5_unlink 5 = .ok (.ifCond .eq 39, 3) := by decide +kernel
theorem dX5_unlink_8 : decode cX5_unlink 8 = .ok (.aload_n 0, 1) := by decide +kernel
theorem dX5_unlink_9 : decode cX5_unlink 9 = .ok (.iload_n 2, 1) := by decide +kernel
theorem dX5_unlink_10 : decode cX5_unlink 10 = .ok (.invokevirtual 46, 3) := by decide +kernel
theorem dX5_unlink_13 : decode cX5_unlink 13 = .ok (.ifCond .eq 31, 3) := by decide +kernel
theorem dX5_unlink_16 : decode cX5_unlink 16 = .ok (.aload_n 0, 1) := by decide +kernel
theorem dX5_unlink_17 : decode cX5_unlink 17 = .ok (.getfield 9, 3) := by decide +kernel
theorem dX5_unlink_20 : decode cX5_unlink 20 = .ok (.iload_n 2, 1) := by decide +kernel
theorem dX5_unlink_21 : decode cX5_unlink 21 = .ok (.dup2, 1) := by decide +kernel
theorem dX5_unlink_22 : decode cX5_unlink 22 = .ok (.iaload, 1) := by decide +kernel
theorem dX5_unlink_23 : decode cX5_unlink 23 = .ok (.iconst 1, 1) := by decide +kernel
theorem dX5_unlink_24 : decode cX5_unlink 24 = .ok (.iload_n 1, 1) := by decide +kernel
theorem dX5_unlink_25 : decode cX5_unlink 25 = .ok (.ishl, 1) := by decide +kernel
theorem dX5_unlink_26 : decode cX5_unlink 26 = .ok (.iconst (-1), 1) := by decide +kernel
theorem dX5_unlink_27 : decode cX5_unlink 27 = .ok (.ixor, 1) := by decide +kernel
theorem dX5_unlink_28 : decode cX5_unlink 28 = .ok (.iand, 1) := by decide +kernel
theorem dX5_unlink_29 : decode cX5_unlink 29 = .ok (.iastore, 1) := by decide +kernel
theorem dX5_unlink_30 : decode cX5_unlink 30 = .ok (.aload_n 0, 1) := by decide +kernel
theorem dX5_unlink_31 : decode cX5_unlink 31 = .ok (.getfield 15, 3) := by decide +kernel
theorem dX5_unlink_34 : decode cX5_unlink 34 = .ok (.iload_n 1, 1) := by decide +kernel
theorem dX5_unlink_35 : decode cX5_unlink 35 = .ok (.dup2, 1) := by decide +kernel
theorem dX5_unlink_36 : decode cX5_unlink 36 = .ok (.iaload, 1) := by decide +kernel
theorem dX5_unlink_37 : decode cX5_unlink 37 = .ok (.iconst 1, 1) := by decide +kernel
theorem dX5_unlink_38 : decode cX5_unlink 38 = .ok (.iload_n 2, 1) := by decide +kernel
theorem dX5_unlink_39 : decode cX5_unlink 39 = .ok (.ishl, 1) := by decide +kernel
theorem dX5_unlink_40 : decode cX5_unlink 40 = .ok (.iconst (-1), 1) := by decide +kernel
theorem dX5_unlink_41 : decode cX5_unlink 41 = .ok (.ixor, 1) := by decide +kernel
theorem dX5_unlink_42 : decode cX5_unlink 42 = .ok (.iand, 1) := by decide +kernel
theorem dX5_unlink_43 : decode cX5_unlink 43 = .ok (.iastore, 1) := by decide +kernel
theorem dX5_unlink_44 : decode cX5_unlink 44 = .ok (.return_, 1) := by decide +kernel
theorem dX5_writeRows_0 : decode cX5_writeRows 0 = .ok (.iconst 0, 1) := by decide +kernel
theorem dX5_writeRows_1 : decode cX5_writeRows 1 = .ok (.istore_n 2, 1) := by decide +kernel
theorem dX5_writeRows_2 : decode cX5_writeRows 2 = .ok (.iload_n 2, 1) := by decide +kernel
theorem dX5_writeRows_3 : decode cX5_writeRows 3 = .ok (.aload_n 0, 1) := by decide +kernel
theorem dX5_writeRows_4 : decode cX5_writeRows 4 = .ok (.getfield 21, 3) := by decide +kernel
theorem dX5_writeRows_7 : decode cX5_writeRows 7 = .ok (.invokevirtual 94, 3) := by decide +kernel
theorem dX5_writeRows_10 : decode cX5_writeRows 10 = .ok (.if_icmp .ge 50, 3) := by decide +kernel
theorem dX5_writeRows_13 : decode cX5_writeRows 13 = .ok (.aload_n 1, 1) := by decide +kernel
theorem dX5_writeRows_14 : decode cX5_writeRows 14 = .ok (.ldc 134, 2) := by decide +kernel
theorem dX5_writeRows_16 : decode cX5_writeRows 16 = .ok (.invokevirtual 115, 3) := by decide +kernel
theorem dX5_writeRows_19 : decode cX5_writeRows 19 = .ok (.iconst 0, 1) := by decide +kernel
theorem dX5_writeRows_20 : decode cX5_writeRows 20 = .ok (.istore_n 3, 1) := by decide +kernel
theorem dX5_writeRows_21 : decode cX5_writeRows 21 = .ok (.iload_n 3, 1) := by decide +kernel
theorem dX5_writeRows_22 : decode cX5_writeRows 22 = .ok (.aload_n 0, 1) := by decide +kernel
theorem dX5_writeRows_23 : decode cX5_writeRows 23 = .ok (.getfield 25, 3) := by decide +kernel
theorem dX5_writeRows_26 : decode cX5_writeRows 26 = .ok (.if_icmp .ge 22, 3) := by decide +kernel
theorem dX5_writeRows_29 : decode cX5_writeRows 29 = .ok (.aload_n 1, 1) := by decide +kernel
theorem dX5_writeRows_30 : decode cX5_writeRows 30 = .ok (.aload_n 0, 1) := by decide +kernel
theorem dX5_writeRows_31 : decode cX5_writeRows 31 = .ok (.getfield 21, 3) := by decide +kernel
theorem dX5_writeRows_34 : decode cX5_writeRows 34 = .ok (.iload_n 2, 1) := by decide +kernel
theorem dX5_writeRows_35 : decode cX5_writeRows 35 = .ok (.iload_n 3, 1) := by decide +kernel
theorem dX5_writeRows_36 : decode cX5_writeRows 36 = .ok (.invokevirtual 91, 3) := by decide +kernel
theorem dX5_writeRows_39 : decode cX5_writeRows 39 = .ok (.invokevirtual 121, 3) := by decide +kernel
theorem dX5_writeRows_42 : decode cX5_writeRows 42 = .ok (.iinc 3 1, 3) := by decide +kernel
theorem dX5_writeRows_45 : decode cX5_writeRows 45 = .ok (.goto (-24), 3) := by decide +kernel
theorem dX5_writeRows_48 : decode cX5_writeRows 48 = .ok (.aload_n 1, 1) := by decide +kernel
theorem dX5_writeRows_49 : decode cX5_writeRows 49 = .ok (.bipush 59, 2) := by decide +kernel
theorem dX5_writeRows_51 : decode cX5_writeRows 51 = .ok (.invokevirtual 127, 3) := by decide +kernel
theorem dX5_writeRows_54 : decode cX5_writeRows 54 = .ok (.iinc 2 1, 3) := by decide +kernel
theorem dX5_writeRows_57 : decode cX5_writeRows 57 = .ok (.goto (-55), 3) := by decide +kernel
theorem dX5_writeRows_60 : decode cX5_writeRows 60 = .ok (.return_, 1) := by decide +kernel
theorem dX5_writeTo_0 : decode cX5_writeTo 0 = .ok (.aload_n 1, 1) := by decide +kernel
theorem dX5_writeTo_1 : decode cX5_writeTo 1 = .ok (.ldc 113, 2) := by decide +kernel
theorem dX5_writeTo_3 : decode cX5_writeTo 3 = .ok (.invokevirtual 115, 3) := by decide +kernel
theorem dX5_writeTo_6 : decode cX5_writeTo 6 = .ok (.aload_n 1, 1) := by decide +kernel
theorem dX5_writeTo_7 : decode cX5_writeTo 7 = .ok (.aload_n 0, 1) := by decide +kernel
theorem dX5_writeTo_8 : decode cX5_writeTo 8 = .ok (.getfield 25, 3) := by decide +kernel
theorem dX5_writeTo_11 : decode cX5_writeTo 11 = .ok (.invokevirtual 121, 3) := by decide +kernel
theorem dX5_writeTo_14 : decode cX5_writeTo 14 = .ok (.iconst 1, 1) := by decide +kernel
theorem dX5_writeTo_15 : decode cX5_writeTo 15 = .ok (.istore_n 2, 1) := by decide +kernel
theorem dX5_writeTo_16 : decode cX5_writeTo 16 = .ok (.iconst 0, 1) := by decide +kernel
theorem dX5_writeTo_17 : decode cX5_writeTo 17 = .ok (.istore_n 3, 1) := by decide +kernel
theorem dX5_writeTo_18 : decode cX5_writeTo 18 = .ok (.iload_n 3, 1) := by decide +kernel
theorem dX5_writeTo_19 : decode cX5_writeTo 19 = .ok (.aload_n 0, 1) := by decide +kernel
theorem dX5_writeTo_20 : decode cX5_writeTo 20 = .ok (.getfield 25, 3) := by decide +kernel
theorem dX5_writeTo_23 : decode cX5_writeTo 23 = .ok (.if_icmp .ge 79, 3) := by decide +kernel
theorem dX5_writeTo_26 : decode cX5_writeTo 26 = .ok (.aload_n 0, 1) := by decide +kernel
theorem dX5_writeTo_27 : decode cX5_writeTo 27 = .ok (.iload_n 3, 1) := by decide +kernel
theorem dX5_writeTo_28 : decode cX5_writeTo 28 = .ok (.invokevirtual 124, 3) := by decide +kernel
theorem dX5_writeTo_31 : decode cX5_writeTo 31 = .ok (.istore 4, 2) := by decide +kernel
theorem dX5_writeTo_33 : decode cX5_writeTo 33 = .ok (.iconst 0, 1) := by decide +kernel
theorem dX5_writeTo_34 : decode cX5_writeTo 34 = .ok (.istore 5, 2) := by decide +kernel
theorem dX5_writeTo_36 : decode cX5_writeTo 36 = .ok (.iload 5, 2) := by decide +kernel
theorem dX5_writeTo_38 : decode cX5_writeTo 38 = .ok (.aload_n 0, 1) := by decide +kernel
theorem dX5_writeTo_39 : decode cX5_writeTo 39 = .ok (.getfield 25, 3) := by decide +kernel
theorem dX5_writeTo_42 : decode cX5_writeTo 42 = .ok (.if_icmp .ge 54, 3) := by decide +kernel
theorem dX5_writeTo_45 : decode cX5_writeTo 45 = .ok (.iload 4, 2) := by decide +kernel
theorem dX5_writeTo_47 : decode cX5_writeTo 47 = .ok (.iload 5, 2) := by decide +kernel
theorem dX5_writeTo_49 : decode cX5_writeTo 49 = .ok (.ishr, 1) := by decide +kernel
theorem dX5_writeTo_50 : decode cX5_writeTo 50 = .ok (.iconst 1, 1) := by decide +kernel
theorem dX5_writeTo_51 : decode cX5_writeTo 51 = .ok (.iand, 1) := by decide +kernel
theorem dX5_writeTo_52 : decode cX5_writeTo 52 = .ok (.iconst 1, 1) := by decide +kernel
theorem dX5_writeTo_53 : decode cX5_writeTo 53 = .ok (.if_icmp .ne 37, 3) := by decide +kernel
theorem dX5_writeTo_56 : decode cX5_writeTo 56 = .ok (.aload_n 1, 1) := by decide +kernel
theorem dX5_writeTo_57 : decode cX5_writeTo 57 = .ok (.iload_n 2, 1) := by decide +kernel
theorem dX5_writeTo_58 : decode cX5_writeTo 58 = .ok (.ifCond .eq 8, 3) := by decide +kernel
theorem dX5_writeTo_61 : decode cX5_writeTo 61 = .ok (.bipush 58, 2) := by decide +kernel
theorem dX5_writeTo_63 : decode cX5_writeTo 63 = .ok (.goto 5, 3) := by decide +kernel
theorem dX5_writeTo_66 : decode cX5_writeTo 66 = .ok (.bipush 44, 2) := by decide +kernel
theorem dX5_writeTo_68 : decode cX5_writeTo 68 = .ok (.invokevirtual 127, 3) := by decide +kernel
theorem dX5_writeTo_71 : decode cX5_writeTo 71 = .ok (.aload_n 1, 1) := by decide +kernel
theorem dX5_writeTo_72 : decode cX5_writeTo 72 = .ok (.iload_n 3, 1) := by decide +kernel
theorem dX5_writeTo_73 : decode cX5_writeTo 73 = .ok (.invokevirtual 121, 3) := by decide +kernel
theorem dX5_writeTo_76 : decode cX5_writeTo 76 = .ok (.aload_n 1, 1) := by decide +kernel
theorem dX5_writeTo_77 : decode cX5_writeTo 77 = .ok (.bipush 60, 2) := by decide +kernel
theorem dX5_writeTo_79 : decode cX5_writeTo 79 = .ok (.invokevirtual 127, 3) := by decide +kernel
theorem dX5_writeTo_82 : decode cX5_writeTo 82 = .ok (.aload_n 1, 1) := by decide +kernel
theorem dX5_writeTo_83 : decode cX5_writeTo 83 = .ok (.iload 5, 2) := by decide +kernel
theorem dX5_writeTo_85 : decode cX5_writeTo 85 = .ok (.invokevirtual 121, 3) := by decide +kernel
theorem dX5_writeTo_88 : decode cX5_writeTo 88 = .ok (.iconst 0, 1) := by decide +kernel
theorem dX5_writeTo_89 : decode cX5_writeTo 89 = .ok (.istore_n 2, 1) := by decide +kernel
theorem dX5_writeTo_90 : decode cX5_writeTo 90 = .ok (.iinc 5 1, 3) := by decide +kernel
theorem dX5_writeTo_93 : decode cX5_writeTo 93 = .ok (.goto (-57), 3) := by decide +kernel
theorem dX5_writeTo_96 : decode cX5_writeTo 96 = .ok (.iinc 3 1, 3) := by decide +kernel
theorem dX5_writeTo_99 : decode cX5_writeTo 99 = .ok (.goto (-81), 3) := by decide +kernel
theorem dX5_writeTo_102 : decode cX5_writeTo 102 = .ok (.aload_n 1, 1) := by decide +kernel
theorem dX5_writeTo_103 : decode cX5_writeTo 103 = .ok (.bipush 59, 2) := by decide +kernel
theorem dX5_writeTo_105 : decode cX5_writeTo 105 = .ok (.invokevirtual 127, 3) := by decide +kernel
theorem dX5_writeTo_108 : decode cX5_writeTo 108 = .ok (.aload_n 0, 1) := by decide +kernel
theorem dX5_writeTo_109 : decode cX5_writeTo 109 = .ok (.aload_n 1, 1) := by decide +kernel
theorem dX5_writeTo_110 : decode cX5_writeTo 110 = .ok (.invokevirtual 130, 3) := by decide +kernel
theorem dX5_writeTo_113 : decode cX5_writeTo 113 = .ok (.return_, 1) := by decide +kernel
theorem dX6_giveBack_0 : decode cX6_giveBack 0 = .ok (.aload_n 0, 1) := by decide +kernel
theorem dX6_giveBack_1 : decode cX6_giveBack 1 = .ok (.getfield 22, 3) := by decide +kernel
theorem dX6_giveBack_4 : decode cX6_giveBack 4 = .ok (.ifCond .le 34, 3) := by decide +kernel
theorem dX6_giveBack_7 : decode cX6_giveBack 7 = .ok (.aload_n 0, 1) := by decide +kernel
theorem dX6_giveBack_8 : decode cX6_giveBack 8 = .ok (.aload_n 0, 1) := by decide +kernel
theorem dX6_giveBack_9 : decode cX6_giveBack 9 = .ok (.invokevirtual 39, 3) := by decide +kernel
theorem dX6_giveBack_12 : decode cX6_giveBack 12 = .ok (.putfield 26, 3) := by decide +kernel
theorem dX6_giveBack_15 : decode cX6_giveBack 15 = .ok (.aload_n 1, 1) := by decide +kernel
theorem dX6_giveBack_16 : decode cX6_giveBack 16 = .ok (.aload_n 0, 1) := by decide +kernel
theorem dX6_giveBack_17 : decode cX6_giveBack 17 = .ok (.getfield 11, 3) := by decide +kernel
theorem dX6_giveBack_20 : decode cX6_giveBack 20 = .ok (.aload_n 0, 1) := by decide +kernel
theorem dX6_giveBack_21 : decode cX6_giveBack 21 = .ok (.getfield 26, 3) := by decide +kernel
theorem dX6_giveBack_24 : decode cX6_giveBack 24 = .ok (.aaload, 1) := by decide +kernel
theorem dX6_giveBack_25 : decode cX6_giveBack 25 = .ok (.invokevirtual 29, 3) := by decide +kernel
theorem dX6_giveBack_28 : decode cX6_giveBack 28 = .ok (.aload_n 0, 1) := by decide +kernel
theorem dX6_giveBack_29 : decode cX6_giveBack 29 = .ok (.dup, 1) := by decide +kernel
theorem dX6_giveBack_30 : decode cX6_giveBack 30 = .ok (.getfield 22, 3) := by decide +kernel
theorem dX6_giveBack_33 : decode cX6_giveBack 33 = .ok (.iconst 1, 1) := by decide +kernel
theorem dX6_giveBack_34 : decode cX6_giveBack 34 = .ok (.isub, 1) := by decide +kernel
theorem dX6_giveBack_35 : decode cX6_giveBack 35 = .ok (.putfield 22, 3) := by decide +kernel
theorem dX6_giveBack_38 : decode cX6_giveBack 38 = .ok (.return_, 1) := by decide +kernel
theorem dX6_init_0 : decode cX6_init 0 = .ok (.aload_n 0, 1) := by decide +kernel
theorem dX6_init_1 : decode cX6_init 1 = .ok (.invokespecial 3, 3) := by decide +kernel
theorem dX6_init_4 : decode cX6_init 4 = .ok (.aload_n 0, 1) := by decide +kernel
theorem dX6_init_5 : decode cX6_init 5 = .ok (.bipush 10, 2) := by decide +kernel
theorem dX6_init_7 : decode cX6_init 7 = .ok (.anewarray 9, 3) := by decide +kernel
theorem dX6_init_10 : decode cX6_init 10 = .ok (.putfield 11, 3) := by decide +kernel
theorem dX6_init_13 : decode cX6_init 13 = .ok (.aload_n 0, 1) := by decide +kernel
theorem dX6_init_14 : decode cX6_init 14 = .ok (.bipush 10, 2) := by decide +kernel
theorem dX6_init_16 : decode cX6_init 16 = .ok (.newarray .int, 2) := by decide +kernel
theorem dX6_init_18 : decode cX6_init 18 = .ok (.putfield 17, 3) := by decide +kernel
theorem dX6_init_21 : decode cX6_init 21 = .ok (.iconst 0, 1) := by decide +kernel
theorem dX6_init_22 : decode cX6_init 22 = .ok (.istore_n 1, 1) := by decide +kernel
theorem dX6_init_23 : decode cX6_init 23 = .ok (.iload_n 1, 1) := by decide +kernel
theorem dX6_init_24 : decode cX6_init 24 = .ok (.bipush 10, 2) := by decide +kernel
theorem dX6_init_26 : decode cX6_init 26 = .ok (.if_icmp .ge 22, 3) := by decide +kernel
theorem dX6_init_29 : decode cX6_init 29 = .ok (.aload_n 0, 1) := by decide +kernel
theorem dX6_init_30 : decode cX6_init 30 = .ok (.getfield 11, 3) := by decide +kernel
theorem dX6_init_33 : decode cX6_init 33 = .ok (.iload_n 1, 1) := by decide +kernel
theorem dX6_init_34 : decode cX6_init 34 = .ok (.new 9, 3) := by decide +kernel
theorem dX6_init_37 : decode cX6_init 37 = .ok (.dup, 1) := by decide +kernel
theorem dX6_init_38 : decode cX6_init 38 = .ok (.invokespecial 21, 3) := by decide +kernel
theorem dX6_init_41 : decode cX6_init 41 = .ok (.aastore, 1) := by decide +kernel
theorem dX6_init_42 : decode cX6_init 42 = .ok (.iinc 1 1, 3) := by decide +kernel
theorem dX6_init_45 : decode cX6_init 45 = .ok (.goto (-22), 3) := by decide +kernel
theorem dX6_init_48 : decode cX6_init 48 = .ok (.return_, 1) := by decide +kernel
theorem dX6_keep_0 : decode cX6_keep 0 = .ok (.aload_n 0, 1) := by decide +kernel
theorem dX6_keep_1 : decode cX6_keep 1 = .ok (.getfield 11, 3) := by decide +kernel
theorem dX6_keep_4 : decode cX6_keep 4 = .ok (.aload_n 0, 1) := by decide +kernel
theorem dX6_keep_5 : decode cX6_keep 5 = .ok (.getfield 26, 3) := by decide +kernel
theorem dX6_keep_8 : decode cX6_keep 8 = .ok (.aaload, 1) := by decide +kernel
theorem dX6_keep_9 : decode cX6_keep 9 = .ok (.aload_n 2, 1) := by decide +kernel
theorem dX6_keep_10 : decode cX6_keep 10 = .ok (.invokevirtual 29, 3) := by decide +kernel
theorem dX6_keep_13 : decode cX6_keep 13 = .ok (.aload_n 0, 1) := by decide +kernel
theorem dX6_keep_14 : decode cX6_keep 14 = .ok (.getfield 17, 3) := by decide +kernel
theorem dX6_keep_17 : decode cX6_keep 17 = .ok (.aload_n 0, 1) := by decide +kernel
theorem dX6_keep_18 : decode cX6_keep 18 = .ok (.getfield 26, 3) := by decide +kernel
theorem dX6_keep_21 : decode cX6_keep 21 = .ok (.iload_n 1, 1) := by decide +kernel
theorem dX6_keep_22 : decode cX6_keep 22 = .ok (.iastore, 1) := by decide +kernel
theorem dX6_keep_23 : decode cX6_keep 23 = .ok (.aload_n 0, 1) := by decide +kernel
theorem dX6_keep_24 : decode cX6_keep 24 = .ok (.aload_n 0, 1) := by decide +kernel
theorem dX6_keep_25 : decode cX6_keep 25 = .ok (.getfield 26, 3) := by decide +kernel
theorem dX6_keep_28 : decode cX6_keep 28 = .ok (.iconst 1, 1) := by decide +kernel
theorem dX6_keep_29 : decode cX6_keep 29 = .ok (.iadd, 1) := by decide +kernel
theorem dX6_keep_30 : decode cX6_keep 30 = .ok (.bipush 10, 2) := by decide +kernel
theorem dX6_keep_32 : decode cX6_keep 32 = .ok (.if_icmp .ge 12, 3) := by decide +kernel
theorem dX6_keep_35 : decode cX6_keep 35 = .ok (.aload_n 0, 1) := by decide +kernel
theorem dX6_keep_36 : decode cX6_keep 36 = .ok (.getfield 26, 3) := by decide +kernel
theorem dX6_keep_39 : decode cX6_keep 39 = .ok (.iconst 1, 1) := by decide +kernel
theorem dX6_keep_40 : decode cX6_keep 40 = .ok (.iadd, 1) := by decide +kernel
theorem dX6_keep_41 : decode cX6_keep 41 = .ok (.goto 4, 3) := by decide +kernel
theorem dX6_keep_44 : decode cX6_keep 44 = .ok (.iconst 0, 1) := by decide +kernel
theorem dX6_keep_45 : decode cX6_keep 45 = .ok (.putfield 26, 3) := by decide +kernel
theorem dX6_keep_48 : decode cX6_keep 48 = .ok (.aload_n 0, 1) := by decide +kernel
theorem dX6_keep_49 : decode cX6_keep 49 = .ok (.aload_n 0, 1) := by decide +kernel
theorem dX6_keep_50 : decode cX6_keep 50 = .ok (.getfield 22, 3) := by decide +kernel
theorem dX6_keep_53 : decode cX6_keep 53 = .ok (.iconst 1, 1) := by decide +kernel
theorem dX6_keep_54 : decode cX6_keep 54 = .ok (.iadd, 1) := by decide +kernel
theorem dX6_keep_55 : decode cX6_keep 55 = .ok (.bipush 10, 2) := by decide +kernel
theorem dX6_keep_57 : decode cX6_keep 57 = .ok (.invokestatic 33, 3) := by decide +kernel
theorem dX6_keep_60 : decode cX6_keep 60 = .ok (.putfield 22, 3) := by decide +kernel
theorem dX6_keep_63 : decode cX6_keep 63 = .ok (.return_, 1) := by decide +kernel
theorem dX6_latest_0 : decode cX6_latest 0 = .ok (.aload_n 0, 1) := by decide +kernel
theorem dX6_latest_1 : decode cX6_latest 1 = .ok (.getfield 26, 3) := by decide +kernel
theorem dX6_latest_4 : decode cX6_latest 4 = .ok (.ifCond .ne 8, 3) := by decide +kernel
theorem dX6_latest_7 : decode cX6_latest 7 = .ok (.bipush 9, 2) := by decide +kernel
theorem dX6_latest_9 : decode cX6_latest 9 = .ok (.goto 9, 3) := by decide +kernel
theorem dX6_latest_12 : decode cX6_latest 12 = .ok (.aload_n 0, 1) := by decide +kernel
theorem dX6_latest_13 : decode cX6_latest 13 = .ok (.getfield 26, 3) := by decide +kernel
theorem dX6_latest_16 : decode cX6_latest 16 = .ok (.iconst 1, 1) := by decide +kernel
theorem dX6_latest_17 : decode cX6_latest 17 = .ok (.isub, 1) := by decide +kernel
theorem dX6_latest_18 : decode cX6_latest 18 = .ok (.ireturn, 1) := by decide +kernel
theorem dX6_latestSlot_0 : decode cX6_latestSlot 0 = .ok (.aload_n 0, 1) := by decide +kernel
theorem dX6_latestSlot_1 : decode cX6_latestSlot 1 = .ok (.getfield 22, 3) := by decide +kernel
theorem dX6_latestSlot_4 : decode cX6_latestSlot 4 = .ok (.ifCond .ne 7, 3) := by decide +kernel
theorem dX6_latestSlot_7 : decode cX6_latestSlot 7 = .ok (.iconst (-1), 1) := by decide +kernel
theorem dX6_latestSlot_8 : decode cX6_latestSlot 8 = .ok (.goto 12, 3) := by decide +kernel
theorem dX6_latestSlot_11 : decode cX6_latestSlot 11 = .ok (.aload_n 0, 1) := by decide +kernel
theorem dX6_latestSlot_12 : decode cX6_latestSlot 12 = .ok (.getfield 17, 3) := by decide +kernel
theorem dX6_latestSlot_15 : decode cX6_latestSlot 15 = .ok (.aload_n 0, 1) := by decide +kernel
theorem dX6_latestSlot_16 : decode cX6_latestSlot 16 = .ok (.invokevirtual 39, 3) := by decide +kernel
theorem dX6_latestSlot_19 : decode cX6_latestSlot 19 = .ok (.iaload, 1) := by decide +kernel
theorem dX6_latestSlot_20 : decode cX6_latestSlot 20 = .ok (.ireturn, 1) := by decide +kernel
theorem dX6_size_0 : decode cX6_size 0 = .ok (.aload_n 0, 1) := by decide +kernel
theorem dX6_size_1 : decode cX6_size 1 = .ok (.getfield 22, 3) := by decide +kernel
theorem dX6_size_4 : decode cX6_size 4 = .ok (.ireturn, 1) := by decide +kernel
theorem dX7_advance_0 : decode cX7_advance 0 = .ok (.aload_n 0, 1) := by decide +kernel
theorem dX7_advance_1 : decode cX7_advance 1 = .ok (.aload_n 0, 1) := by decide +kernel
theorem dX7_advance_2 : decode cX7_advance 2 = .ok (.getfield 22, 3) := by decide +kernel
theorem dX7_advance_5 : decode cX7_advance 5 = .ok (.putfield 101, 3) := by decide +kernel
theorem dX7_advance_8 : decode cX7_advance 8 = .ok (.aload_n 0, 1) := by decide +kernel
theorem dX7_advance_9 : decode cX7_advance 9 = .ok (.getfield 101, 3) := by decide +kernel
theorem dX7_advance_12 : decode cX7_advance 12 = .ok (.aload_n 0, 1) := by decide +kernel
theorem dX7_advance_13 : decode cX7_advance 13 = .ok (.getfield 15, 3) := by decide +kernel
theorem dX7_advance_16 : decode cX7_advance 16 = .ok (.invokevirtual 121, 3) := by decide +kernel
theorem dX7_advance_19 : decode cX7_advance 19 = .ok (.if_icmp .ge 33, 3) := by decide +kernel
theorem dX7_advance_22 : decode cX7_advance 22 = .ok (.aload_n 0, 1) := by decide +kernel
theorem dX7_advance_23 : decode cX7_advance 23 = .ok (.getfield 15, 3) := by decide +kernel
theorem dX7_advance_26 : decode cX7_advance 26 = .ok (.aload_n 0, 1) := by decide +kernel
theorem dX7_advance_27 : decode cX7_advance 27 = .ok (.getfield 101, 3) := by decide +kernel
theorem dX7_advance_30 : decode cX7_advance 30 = .ok (.invokevirtual 105, 3) := by decide +kernel
theorem dX7_advance_33 : decode cX7_advance 33 = .ok (.invokestatic 122, 3) := by decide +kernel
theorem dX7_advance_36 : decode cX7_advance 36 = .ok (.ifCond .eq 16, 3) := by decide +kernel
theorem dX7_advance_39 : decode cX7_advance 39 = .ok (.aload_n 0, 1) := by decide +kernel
theorem dX7_advance_40 : decode cX7_advance 40 = .ok (.dup, 1) := by decide +kernel
theorem dX7_advance_41 : decode cX7_advance 41 = .ok (.getfield 101, 3) := by decide +kernel
theorem dX7_advance_44 : decode cX7_advance 44 = .ok (.iconst 1, 1) := by decide +kernel
theorem dX7_advance_45 : decode cX7_advance 45 = .ok (.iadd, 1) := by decide +kernel
theorem dX7_advance_46 : decode cX7_advance 46 = .ok (.putfield 101, 3) := by decide +kernel
theorem dX7_advance_49 : decode cX7_advance 49 = .ok (.goto (-41), 3) := by decide +kernel
theorem dX7_advance_52 : decode cX7_advance 52 = .ok (.aload_n 0, 1) := by decide +kernel
theorem dX7_advance_53 : decode cX7_advance 53 = .ok (.getfield 15, 3) := by decide +kernel
theorem dX7_advance_56 : decode cX7_advance 56 = .ok (.aload_n 0, 1) := by decide +kernel
theorem dX7_advance_57 : decode cX7_advance 57 = .ok (.getfield 101, 3) := by decide +kernel
theorem dX7_advance_60 : decode cX7_advance 60 = .ok (.invokevirtual 105, 3) := by decide +kernel
theorem dX7_advance_63 : decode cX7_advance 63 = .ok (.istore_n 1, 1) := by decide +kernel
theorem dX7_advance_64 : decode cX7_advance 64 = .ok (.iload_n 1, 1) := by decide +kernel
theorem dX7_advance_65 : decode cX7_advance 65 = .ok (.iconst (-1), 1) := by decide +kernel
theorem dX7_advance_66 : decode cX7_advance 66 = .ok (.if_icmp .ne 19, 3) := by decide +kernel
theorem dX7_advance_69 : decode cX7_advance 69 = .ok (.aload_n 0, 1) := by decide +kernel
theorem dX7_advance_70 : decode cX7_advance 70 = .ok (.iconst 0, 1) := by decide +kernel
theorem dX7_advance_71 : decode cX7_advance 71 = .ok (.putfield 48, 3) := by decide +kernel
theorem dX7_advance_74 : decode cX7_advance 74 = .ok (.aload_n 0, 1) := by decide +kernel
theorem dX7_advance_75 : decode cX7_advance 75 = .ok (.aload_n 0, 1) := by decide +kernel
theorem dX7_advance_76 : decode cX7_advance 76 = .ok (.getfield 101, 3) := by decide +kernel
theorem dX7_advance_79 : decode cX7_advance 79 = .ok (.putfield 22, 3) := by decide +kernel
theorem dX7_advance_82 : decode cX7_advance 82 = .ok (.goto 82, 3) := by decide +kernel
theorem dX7_advance_85 : decode cX7_advance 85 = .ok (.iload_n 1, 1) := by decide +kernel
theorem dX7_advance_86 : decode cX7_advance 86 = .ok (.bipush 97, 2) := by decide +kernel
theorem dX7_advance_88 : decode cX7_advance 88 = .ok (.if_icmp .lt 29, 3) := by decide +kernel
theorem dX7_advance_91 : decode cX7_advance 91 = .ok (.iload_n 1, 1) := by decide +kernel
theorem dX7_advance_92 : decode cX7_advance 92 = .ok (.bipush 122, 2) := by decide +kernel
theorem dX7_advance_94 : decode cX7_advance 94 = .ok (.if_icmp .gt 23, 3) := by decide +kernel
theorem dX7_advance_97 : decode cX7_advance 97 = .ok (.aload_n 0, 1) := by decide +kernel
theorem dX7_advance_98 : decode cX7_advance 98 = .ok (.iconst 1, 1) := by decide +kernel
theorem dX7_advance_99 : decode cX7_advance 99 = .ok (.putfield 48, 3) := by decide +kernel
theorem dX7_advance_102 : decode cX7_advance 102 = .ok (.aload_n 0, 1) := by decide +kernel
theorem dX7_advance_103 : decode cX7_advance 103 = .ok (.aload_n 0, 1) := by decide +kernel
theorem dX7_advance_104 : decode cX7_advance 104 = .ok (.bipush 97, 2) := by decide +kernel
theorem dX7_advance_106 : decode cX7_advance 106 = .ok (.bipush 122, 2) := by decide +kernel
theorem dX7_advance_108 : decode cX7_advance 108 = .ok (.invokevirtual 125, 3) := by decide +kernel
theorem dX7_advance_111 : decode cX7_advance 111 = .ok (.putfield 22, 3) := by decide +kernel
theorem dX7_advance_114 : decode cX7_advance 114 = .ok (.goto 50, 3) := by decide +kernel
theorem dX7_advance_117 : decode cX7_advance 117 = .ok (.iload_n 1, 1) := by decide +kernel
theorem dX7_advance_118 : decode cX7_advance 118 = .ok (.bipush 48, 2) := by decide +kernel
theorem dX7_advance_120 : decode cX7_advance 120 = .ok (.if_icmp .lt 29, 3) := by decide +kernel
theorem dX7_advance_123 : decode cX7_advance 123 = .ok (.iload_n 1, 1) := by decide +kernel
theorem dX7_advance_124 : decode cX7_advance 124 = .ok (.bipush 57, 2) := by decide +kernel
theorem dX7_advance_126 : decode cX7_advance 126 = .ok (.if_icmp .gt 23, 3) := by decide +kernel
theorem dX7_advance_129 : decode cX7_advance 129 = .ok (.aload_n 0, 1) := by decide +kernel
theorem dX7_advance_130 : decode cX7_advance 130 = .ok (.iconst 2, 1) := by decide +kernel
theorem dX7_advance_131 : decode cX7_advance 131 = .ok (.putfield 48, 3) := by decide +kernel
theorem dX7_advance_134 : decode cX7_advance 134 = .ok (.aload_n 0, 1) := by decide +kernel
theorem dX7_advance_135 : decode cX7_advance 135 = .ok (.aload_n 0, 1) := by decide +kernel
theorem dX7_advance_136 : decode cX7_advance 136 = .ok (.bipush 48, 2) := by decide +kernel
theorem dX7_advance_138 : decode cX7_advance 138 = .ok (.bipush 57, 2) := by decide +kernel
theorem dX7_advance_140 : decode cX7_advance 140 = .ok (.invokevirtual 125, 3) := by decide +kernel
theorem dX7_advance_143 : decode cX7_advance 143 = .ok (.putfield 22, 3) := by decide +kernel
theorem dX7_advance_146 : decode cX7_advance 146 = .ok (.goto 18, 3) := by decide +kernel
theorem dX7_advance_149 : decode cX7_advance 149 = .ok (.aload_n 0, 1) := by decide +kernel
theorem dX7_advance_150 : decode cX7_advance 150 = .ok (.iconst 3, 1) := by decide +kernel
theorem dX7_advance_151 : decode cX7_advance 151 = .ok (.putfield 48, 3) := by decide +kernel
theorem dX7_advance_154 : decode cX7_advance 154 = .ok (.aload_n 0, 1) := by decide +kernel
theorem dX7_advance_155 : decode cX7_advance 155 = .ok (.aload_n 0, 1) := by decide +kernel
theorem dX7_advance_156 : decode cX7_advance 156 = .ok (.getfield 101, 3) := by decide +kernel
theorem dX7_advance_159 : decode cX7_advance 159 = .ok (.iconst 1, 1) := by decide +kernel
theorem dX7_advance_160 : decode cX7_advance 160 = .ok (.iadd, 1) := by decide +kernel
theorem dX7_advance_161 : decode cX7_advance 161 = .ok (.putfield 22, 3) := by decide +kernel
theorem dX7_advance_164 : decode cX7_advance 164 = .ok (.return_, 1) := by decide +kernel
theorem dX7_faultKind_0 : decode cX7_faultKind 0 = .ok (.aload_n 0, 1) := by decide +kernel
theorem dX7_faultKind_1 : decode cX7_faultKind 1 = .ok (.getfield 19, 3) := by decide +kernel
theorem dX7_faultKind_4 : decode cX7_faultKind 4 = .ok (.ireturn, 1) := by decide +kernel
theorem dX7_faultPlace_0 : decode cX7_faultPlace 0 = .ok (.aload_n 0, 1) := by decide +kernel
theorem dX7_faultPlace_1 : decode cX7_faultPlace 1 = .ok (.getfield 9, 3) := by decide +kernel
theorem dX7_faultPlace_4 : decode cX7_faultPlace 4 = .ok (.ireturn, 1) := by decide +kernel
theorem dX7_init_0 : decode cX7_init 0 = .ok (.aload_n 0, 1) := by decide +kernel
theorem dX7_init_1 : decode cX7_init 1 = .ok (.invokespecial 3, 3) := by decide +kernel
theorem dX7_init_4 : decode cX7_init 4 = .ok (.aload_n 0, 1) := by decide +kernel
theorem dX7_init_5 : decode cX7_init 5 = .ok (.iconst (-1), 1) := by decide +kernel
theorem dX7_init_6 : decode cX7_init 6 = .ok (.putfield 9, 3) := by decide +kernel
theorem dX7_init_9 : decode cX7_init 9 = .ok (.aload_n 0, 1) := by decide +kernel
theorem dX7_init_10 : decode cX7_init 10 = .ok (.aload_n 1, 1) := by decide +kernel
theorem dX7_init_11 : decode cX7_init 11 = .ok (.putfield 15, 3) := by decide +kernel
theorem dX7_init_14 : decode cX7_init 14 = .ok (.return_, 1) := by decide +kernel
theorem dX7_isBlank_0 : decode cX7_isBlank 0 = .ok (.iload_n 0, 1) := by decide +kernel
theorem dX7_isBlank_1 : decode cX7_isBlank 1 = .ok (.bipush 32, 2) := by decide +kernel
theorem dX7_isBlank_3 : decode cX7_isBlank 3 = .ok (.if_icmp .eq 9, 3) := by decide +kernel
theorem dX7_isBlank_6 : decode cX7_isBlank 6 = .ok (.iload_n 0, 1) := by decide +kernel
theorem dX7_isBlank_7 : decode cX7_isBlank 7 = .ok (.bipush 10, 2) := by decide +kernel
theorem dX7_isBlank_9 : decode cX7_isBlank 9 = .ok (.if_icmp .ne 7, 3) := by decide +kernel
theorem dX7_isBlank_12 : decode cX7_isBlank 12 = .ok (.iconst 1, 1) := by decide +kernel
theorem dX7_isBlank_13 : decode cX7_isBlank 13 = .ok (.goto 4, 3) := by decide +kernel
theorem dX7_isBlank_16 : decode cX7_isBlank 16 = .ok (.iconst 0, 1) := by decide +kernel
theorem dX7_isBlank_17 : decode cX7_isBlank 17 = .ok (.ireturn, 1) := by decide +kernel
theorem dX7_isRowOf_0 : decode cX7_isRowOf 0 = .ok (.aload_n 0, 1) := by decide +kernel
theorem dX7_isRowOf_1 : decode cX7_isRowOf 1 = .ok (.getfield 22, 3) := by decide +kernel
theorem dX7_isRowOf_4 : decode cX7_isRowOf 4 = .ok (.aload_n 0, 1) := by decide +kernel
theorem dX7_isRowOf_5 : decode cX7_isRowOf 5 = .ok (.getfield 101, 3) := by decide +kernel
theorem dX7_isRowOf_8 : decode cX7_isRowOf 8 = .ok (.isub, 1) := by decide +kernel
theorem dX7_isRowOf_9 : decode cX7_isRowOf 9 = .ok (.aload_n 1, 1) := by decide +kernel
theorem dX7_isRowOf_10 : decode cX7_isRowOf 10 = .ok (.invokevirtual 104, 3) := by decide +kernel
theorem dX7_isRowOf_13 : decode cX7_isRowOf 13 = .ok (.if_icmp .eq 5, 3) := by decide +kernel
theorem dX7_isRowOf_16 : decode cX7_isRowOf 16 = .ok (.iconst 0, 1) := by decide +kernel
theorem dX7_isRowOf_17 : decode cX7_isRowOf 17 = .ok (.ireturn, 1) := by decide +kernel
theorem dX7_isRowOf_18 : decode cX7_isRowOf 18 = .ok (.iconst 0, 1) := by decide +kernel
theorem dX7_isRowOf_19 : decode cX7_isRowOf 19 = .ok (.istore_n 2, 1) := by decide +kernel
theorem dX7_isRowOf_20 : decode cX7_isRowOf 20 = .ok (.aload_n 0, 1) := by decide +kernel
theorem dX7_isRowOf_21 : decode cX7_isRowOf 21 = .ok (.getfield 101, 3) := by decide +kernel
theorem dX7_isRowOf_24 : decode cX7_isRowOf 24 = .ok (.istore_n 3, 1) := by decide +kernel
theorem dX7_isRowOf_25 : decode cX7_isRowOf 25 = .ok (.iload_n 3, 1) := by decide +kernel
theorem dX7_isRowOf_26 : decode cX7_isRowOf 26 = .ok (.aload_n 0, 1) := by decide +kernel
theorem dX7_isRowOf_27 : decode cX7_isRowOf 27 = .ok (.getfield 22, 3) := by decide +kernel
theorem dX7_isRowOf_30 : decode cX7_isRowOf 30 = .ok (.if_icmp .ge 50, 3) := by decide +kernel
theorem dX7_isRowOf_33 : decode cX7_isRowOf 33 = .ok (.aload_n 0, 1) := by decide +kernel
theorem dX7_isRowOf_34 : decode cX7_isRowOf 34 = .ok (.getfield 15, 3) := by decide +kernel
theorem dX7_isRowOf_37 : decode cX7_isRowOf 37 = .ok (.iload_n 3, 1) := by decide +kernel
theorem dX7_isRowOf_38 : decode cX7_isRowOf 38 = .ok (.invokevirtual 105, 3) := by decide +kernel
theorem dX7_isRowOf_41 : decode cX7_isRowOf 41 = .ok (.bipush 48, 2) := by decide +kernel
theorem dX7_isRowOf_43 : decode cX7_isRowOf 43 = .ok (.isub, 1) := by decide +kernel
theorem dX7_isRowOf_44 : decode cX7_isRowOf 44 = .ok (.istore 4, 2) := by decide +kernel
theorem dX7_isRowOf_46 : decode cX7_isRowOf 46 = .ok (.aload_n 1, 1) := by decide +kernel
theorem dX7_isRowOf_47 : decode cX7_isRowOf 47 = .ok (.iload 4, 2) := by decide +kernel
theorem dX7_isRowOf_49 : decode cX7_isRowOf 49 = .ok (.invokevirtual 111, 3) := by decide +kernel
theorem dX7_isRowOf_52 : decode cX7_isRowOf 52 = .ok (.ifCond .eq 13, 3) := by decide +kernel
theorem dX7_isRowOf_55 : decode cX7_isRowOf 55 = .ok (.iload_n 2, 1) := by decide +kernel
theorem dX7_isRowOf_56 : decode cX7_isRowOf 56 = .ok (.iload 4, 2) := by decide +kernel
theorem dX7_isRowOf_58 : decode cX7_isRowOf 58 = .ok (.ishr, 1) := by decide +kernel
theorem dX7_isRowOf_59 : decode cX7_isRowOf 59 = .ok (.iconst 1, 1) := by decide +kernel
theorem dX7_isRowOf_60 : decode cX7_isRowOf 60 = .ok (.iand, 1) := by decide +kernel
theorem dX7_isRowOf_61 : decode cX7_isRowOf 61 = .ok (.iconst 1, 1) := by decide +kernel
theorem dX7_isRowOf_62 : decode cX7_isRowOf 62 = .ok (.if_icmp .ne 5, 3) := by decide +kernel
theorem dX7_isRowOf_65 : decode cX7_isRowOf 65 = .ok (.iconst 0, 1) := by decide +kernel
theorem dX7_isRowOf_66 : decode cX7_isRowOf 66 = .ok (.ireturn, 1) := by decide +kernel
theorem dX7_isRowOf_67 : decode cX7_isRowOf 67 = .ok (.iload_n 2, 1) := by decide +kernel
theorem dX7_isRowOf_68 : decode cX7_isRowOf 68 = .ok (.iconst 1, 1) := by decide +kernel
theorem dX7_isRowOf_69 : decode cX7_isRowOf 69 = .ok (.iload 4, 2) := by decide +kernel
theorem dX7_isRowOf_71 : decode cX7_isRowOf 71 = .ok (.ishl, 1) := by decide +kernel
theorem dX7_isRowOf_72 : decode cX7_isRowOf 72 = .ok (.ior, 1) := by decide +kernel
theorem dX7_isRowOf_73 : decode cX7_isRowOf 73 = .ok (.istore_n 2, 1) := by decide +kernel
theorem dX7_isRowOf_74 : decode cX7_isRowOf 74 = .ok (.iinc 3 1, 3) := by decide +kernel
theorem dX7_isRowOf_77 : decode cX7_isRowOf 77 = .ok (.goto (-52), 3) := by decide +kernel
theorem dX7_isRowOf_80 : decode cX7_isRowOf 80 = .ok (.iconst 1, 1) := by decide +kernel
theorem dX7_isRowOf_81 : decode cX7_isRowOf 81 = .ok (.ireturn, 1) := by decide +kernel
theorem dX7_isSign_0 : decode cX7_isSign 0 = .ok (.aload_n 0, 1) := by decide +kernel
theorem dX7_isSign_1 : decode cX7_isSign 1 = .ok (.getfield 48, 3) := by decide +kernel
theorem dX7_isSign_4 : decode cX7_isSign 4 = .ok (.iconst 3, 1) := by decide +kernel
theorem dX7_isSign_5 : decode cX7_isSign 5 = .ok (.if_icmp .ne 22, 3) := by decide +kernel
theorem dX7_isSign_8 : decode cX7_isSign 8 = .ok (.aload_n 0, 1) := by decide +kernel
theorem dX7_isSign_9 : decode cX7_isSign 9 = .ok (.getfield 15, 3) := by decide +kernel
theorem dX7_isSign_12 : decode cX7_isSign 12 = .ok (.aload_n 0, 1) := by decide +kernel
theorem dX7_isSign_13 : decode cX7_isSign 13 = .ok (.getfield 101, 3) := by decide +kernel
theorem dX7_isSign_16 : decode cX7_isSign 16 = .ok (.invokevirtual 105, 3) := by decide +kernel
theorem dX7_isSign_19 : decode cX7_isSign 19 = .ok (.iload_n 1, 1) := by decide +kernel
theorem dX7_isSign_20 : decode cX7_isSign 20 = .ok (.if_icmp .ne 7, 3) := by decide +kernel
theorem dX7_isSign_23 : decode cX7_isSign 23 = .ok (.iconst 1, 1) := by decide +kernel
theorem dX7_isSign_24 : decode cX7_isSign 24 = .ok (.goto 4, 3) := by decide +kernel
theorem dX7_isSign_27 : decode cX7_isSign 27 = .ok (.iconst 0, 1) := by decide +kernel
theorem dX7_isSign_28 : decode cX7_isSign 28 = .ok (.ireturn, 1) := by decide +kernel
theorem dX7_isWord_0 : decode cX7_isWord 0 = .ok (.aload_n 0, 1) := by decide +kernel
theorem dX7_isWord_1 : decode cX7_isWord 1 = .ok (.getfield 48, 3) := by decide +kernel
theorem dX7_isWord_4 : decode cX7_isWord 4 = .ok (.iconst 1, 1) := by decide +kernel
theorem dX7_isWord_5 : decode cX7_isWord 5 = .ok (.if_icmp .ne 19, 3) := by decide +kernel
theorem dX7_isWord_8 : decode cX7_isWord 8 = .ok (.aload_n 0, 1) := by decide +kernel
theorem dX7_isWord_9 : decode cX7_isWord 9 = .ok (.getfield 22, 3) := by decide +kernel
theorem dX7_isWord_12 : decode cX7_isWord 12 = .ok (.aload_n 0, 1) := by decide +kernel
theorem dX7_isWord_13 : decode cX7_isWord 13 = .ok (.getfield 101, 3) := by decide +kernel
theorem dX7_isWord_16 : decode cX7_isWord 16 = .ok (.isub, 1) := by decide +kernel
theorem dX7_isWord_17 : decode cX7_isWord 17 = .ok (.aload_n 1, 1) := by decide +kernel
theorem dX7_isWord_18 : decode cX7_isWord 18 = .ok (.invokevirtual 128, 3) := by decide +kernel
theorem dX7_isWord_21 : decode cX7_isWord 21 = .ok (.if_icmp .eq 5, 3) := by decide +kernel
theorem dX7_isWord_24 : decode cX7_isWord 24 = .ok (.iconst 0, 1) := by decide +kernel
theorem dX7_isWord_25 : decode cX7_isWord 25 = .ok (.ireturn, 1) := by decide +kernel
theorem dX7_isWord_26 : decode cX7_isWord 26 = .ok (.iconst 0, 1) := by decide +kernel
theorem dX7_isWord_27 : decode cX7_isWord 27 = .ok (.istore_n 2, 1) := by decide +kernel
theorem dX7_isWord_28 : decode cX7_isWord 28 = .ok (.iload_n 2, 1) := by decide +kernel
theorem dX7_isWord_29 : decode cX7_isWord 29 = .ok (.aload_n 1, 1) := by decide +kernel
theorem dX7_isWord_30 : decode cX7_isWord 30 = .ok (.invokevirtual 128, 3) := by decide +kernel
theorem dX7_isWord_33 : decode cX7_isWord 33 = .ok (.if_icmp .ge 32, 3) := by decide +kernel
theorem dX7_isWord_36 : decode cX7_isWord 36 = .ok (.aload_n 0, 1) := by decide +kernel
theorem dX7_isWord_37 : decode cX7_isWord 37 = .ok (.getfield 15, 3) := by decide +kernel
theorem dX7_isWord_40 : decode cX7_isWord 40 = .ok (.aload_n 0, 1) := by decide +kernel
theorem dX7_isWord_41 : decode cX7_isWord 41 = .ok (.getfield 101, 3) := by decide +kernel
theorem dX7_isWord_44 : decode cX7_isWord 44 = .ok (.iload_n 2, 1) := by decide +kernel
theorem dX7_isWord_45 : decode cX7_isWord 45 = .ok (.iadd, 1) := by decide +kernel
theorem dX7_isWord_46 : decode cX7_isWord 46 = .ok (.invokevirtual 105, 3) := by decide +kernel
theorem dX7_isWord_49 : decode cX7_isWord 49 = .ok (.aload_n 1, 1) := by decide +kernel
theorem dX7_isWord_50 : decode cX7_isWord 50 = .ok (.iload_n 2, 1) := by decide +kernel
theorem dX7_isWord_51 : decode cX7_isWord 51 = .ok (.invokevirtual 133, 3) := by decide +kernel
theorem dX7_isWord_54 : decode cX7_isWord 54 = .ok (.if_icmp .eq 5, 3) := by decide +kernel
theorem dX7_isWord_57 : decode cX7_isWord 57 = .ok (.iconst 0, 1) := by decide +kernel
theorem dX7_isWord_58 : decode cX7_isWord 58 = .ok (.ireturn, 1) := by decide +kernel
theorem dX7_isWord_59 : decode cX7_isWord 59 = .ok (.iinc 2 1, 3) := by decide +kernel
theorem dX7_isWord_62 : decode cX7_isWord 62 = .ok (.goto (-34), 3) := by decide +kernel
theorem dX7_isWord_65 : decode cX7_isWord 65 = .ok (.iconst 1, 1) := by decide +kernel
theorem dX7_isWord_66 : decode cX7_isWord 66 = .ok (.ireturn, 1) := by decide +kernel
theorem dX7_number_0 : decode cX7_number 0 = .ok (.iconst 0, 1) := by decide +kernel
theorem dX7_number_1 : decode cX7_number 1 = .ok (.istore_n 1, 1) := by decide +kernel
theorem dX7_number_2 : decode cX7_number 2 = .ok (.aload_n 0, 1) := by decide +kernel
theorem dX7_number_3 : decode cX7_number 3 = .ok (.getfield 101, 3) := by decide +kernel
theorem dX7_number_6 : decode cX7_number 6 = .ok (.istore_n 2, 1) := by decide +kernel
theorem dX7_number_7 : decode cX7_number 7 = .ok (.iload_n 2, 1) := by decide +kernel
theorem dX7_number_8 : decode cX7_number 8 = .ok (.aload_n 0, 1) := by decide +kernel
theorem dX7_number_9 : decode cX7_number 9 = .ok (.getfield 22, 3) := by decide +kernel
theorem dX7_number_12 : decode cX7_number 12 = .ok (.if_icmp .ge 32, 3) := by decide +kernel
theorem dX7_number_15 : decode cX7_number 15 = .ok (.iload_n 1, 1) := by decide +kernel
theorem dX7_number_16 : decode cX7_number 16 = .ok (.bipush 10, 2) := by decide +kernel
theorem dX7_number_18 : decode cX7_number 18 = .ok (.imul, 1) := by decide +kernel
theorem dX7_number_19 : decode cX7_number 19 = .ok (.aload_n 0, 1) := by decide +kernel
theorem dX7_number_20 : decode cX7_number 20 = .ok (.getfield 15, 3) := by decide +kernel
theorem dX7_number_23 : decode cX7_number 23 = .ok (.iload_n 2, 1) := by decide +kernel
theorem dX7_number_24 : decode cX7_number 24 = .ok (.invokevirtual 105, 3) := by decide +kernel
theorem dX7_number_27 : decode cX7_number 27 = .ok (.iadd, 1) := by decide +kernel
theorem dX7_number_28 : decode cX7_number 28 = .ok (.bipush 48, 2) := by decide +kernel
theorem dX7_number_30 : decode cX7_number 30 = .ok (.isub, 1) := by decide +kernel
theorem dX7_number_31 : decode cX7_number 31 = .ok (.sipush 1000, 3) := by decide +kernel
theorem dX7_number_34 : decode cX7_number 34 = .ok (.invokestatic 137, 3) := by decide +kernel
theorem dX7_number_37 : decode cX7_number 37 = .ok (.istore_n 1, 1) := by decide +kernel
theorem dX7_number_38 : decode cX7_number 38 = .ok (.iinc 2 1, 3) := by decide +kernel
theorem dX7_number_41 : decode cX7_number 41 = .ok (.goto (-34), 3) := by decide +kernel
theorem dX7_number_44 : decode cX7_number 44 = .ok (.iload_n 1, 1) := by decide +kernel
theorem dX7_number_45 : decode cX7_number 45 = .ok (.ireturn, 1) := by decide +kernel
theorem dX7_passSemicolon_0 : decode cX7_passSemicolon 0 = .ok (.aload_n 0, 1) := by decide +kernel
theorem dX7_passSemicolon_1 : decode cX7_passSemicolon 1 = .ok (.bipush 59, 2) := by decide +kernel
theorem dX7_passSemicolon_3 : decode cX7_passSemicolon 3 = .ok (.invokevirtual 61, 3) := by decide +kernel
theorem dX7_passSemicolon_6 : decode cX7_passSemicolon 6 = .ok (.ifCond .ne 9, 3) := by decide +kernel
theorem dX7_passSemicolon_9 : decode cX7_passSemicolon 9 = .ok (.aload_n 0, 1) := by decide +kernel
theorem dX7_passSemicolon_10 : decode cX7_passSemicolon 10 = .ok (.iconst 1, 1) := by decide +kernel
theorem dX7_passSemicolon_11 : decode cX7_passSemicolon 11 = .ok (.invokevirtual 44, 3) := by decide +kernel
theorem dX7_passSemicolon_14 : decode cX7_passSemicolon 14 = .ok (.ireturn, 1) := by decide +kernel
theorem dX7_passSemicolon_15 : decode cX7_passSemicolon 15 = .ok (.aload_n 0, 1) := by decide +kernel
theorem dX7_passSemicolon_16 : decode cX7_passSemicolon 16 = .ok (.invokevirtual 25, 3) := by decide +kernel
theorem dX7_passSemicolon_19 : decode cX7_passSemicolon 19 = .ok (.iconst 1, 1) := by decide +kernel
theorem dX7_passSemicolon_20 : decode cX7_passSemicolon 20 = .ok (.ireturn, 1) := by decide +kernel
theorem dX7_read_0 : decode cX7_read 0 = .ok (.aload_n 0, 1) := by decide +kernel
theorem dX7_read_1 : decode cX7_read 1 = .ok (.iconst 0, 1) := by decide +kernel
theorem dX7_read_2 : decode cX7_read 2 = .ok (.putfield 22, 3) := by decide +kernel
theorem dX7_read_5 : decode cX7_read 5 = .ok (.aload_n 0, 1) := by decide +kernel
theorem dX7_read_6 : decode cX7_read 6 = .ok (.iconst 0, 1) := by decide +kernel
theorem dX7_read_7 : decode cX7_read 7 = .ok (.putfield 19, 3) := by decide +kernel
theorem dX7_read_10 : decode cX7_read 10 = .ok (.aload_n 0, 1) := by decide +kernel
theorem dX7_read_11 : decode cX7_read 11 = .ok (.iconst (-1), 1) := by decide +kernel
theorem dX7_read_12 : decode cX7_read 12 = .ok (.putfield 9, 3) := by decide +kernel
theorem dX7_read_15 : decode cX7_read 15 = .ok (.aload_n 0, 1) := by decide +kernel
theorem dX7_read_16 : decode cX7_read 16 = .ok (.invokevirtual 25, 3) := by decide +kernel
theorem dX7_read_19 : decode cX7_read 19 = .ok (.aload_n 0, 1) := by decide +kernel
theorem dX7_read_20 : decode cX7_read 20 = .ok (.aload_n 1, 1) := by decide +kernel
theorem dX7_read_21 : decode cX7_read 21 = .ok (.invokevirtual 28, 3) := by decide +kernel
theorem dX7_read_24 : decode cX7_read 24 = .ok (.ifCond .eq 23, 3) := by decide +kernel
theorem dX7_read_27 : decode cX7_read 27 = .ok (.aload_n 0, 1) := by decide +kernel
theorem dX7_read_28 : decode cX7_read 28 = .ok (.aload_n 1, 1) := by decide +kernel
theorem dX7_read_29 : decode cX7_read 29 = .ok (.invokevirtual 32, 3) := by decide +kernel
theorem dX7_read_32 : decode cX7_read 32 = .ok (.ifCond .eq 15, 3) := by decide +kernel
theorem dX7_read_35 : decode cX7_read 35 = .ok (.aload_n 0, 1) := by decide +kernel
theorem dX7_read_36 : decode cX7_read 36 = .ok (.aload_n 1, 1) := by decide +kernel
theorem dX7_read_37 : decode cX7_read 37 = .ok (.invokevirtual 35, 3) := by decide +kernel
theorem dX7_read_40 : decode cX7_read 40 = .ok (.ifCond .eq 7, 3) := by decide +kernel
theorem dX7_read_43 : decode cX7_read 43 = .ok (.iconst 1, 1) := by decide +kernel
theorem dX7_read_44 : decode cX7_read 44 = .ok (.goto 4, 3) := by decide +kernel
theorem dX7_read_47 : decode cX7_read 47 = .ok (.iconst 0, 1) := by decide +kernel
theorem dX7_read_48 : decode cX7_read 48 = .ok (.ireturn, 1) := by decide +kernel
theorem dX7_readClimb_0 : decode cX7_readClimb 0 = .ok (.aload_n 0, 1) := by decide +kernel
theorem dX7_readClimb_1 : decode cX7_readClimb 1 = .ok (.aload_n 1, 1) := by decide +kernel
theorem dX7_readClimb_2 : decode cX7_readClimb 2 = .ok (.invokevirtual 71, 3) := by decide +kernel
theorem dX7_readClimb_5 : decode cX7_readClimb 5 = .ok (.istore_n 2, 1) := by decide +kernel
theorem dX7_readClimb_6 : decode cX7_readClimb 6 = .ok (.iload_n 2, 1) := by decide +kernel
theorem dX7_readClimb_7 : decode cX7_readClimb 7 = .ok (.iconst (-1), 1) := by decide +kernel
theorem dX7_readClimb_8 : decode cX7_readClimb 8 = .ok (.if_icmp .ne 5, 3) := by decide +kernel
theorem dX7_readClimb_11 : decode cX7_readClimb 11 = .ok (.iconst 0, 1) := by decide +kernel
theorem dX7_readClimb_12 : decode cX7_readClimb 12 = .ok (.ireturn, 1) := by decide +kernel
theorem dX7_readClimb_13 : decode cX7_readClimb 13 = .ok (.aload_n 0, 1) := by decide +kernel
theorem dX7_readClimb_14 : decode cX7_readClimb 14 = .ok (.invokevirtual 25, 3) := by decide +kernel
theorem dX7_readClimb_17 : decode cX7_readClimb 17 = .ok (.aload_n 0, 1) := by decide +kernel
theorem dX7_readClimb_18 : decode cX7_readClimb 18 = .ok (.bipush 60, 2) := by decide +kernel
theorem dX7_readClimb_20 : decode cX7_readClimb 20 = .ok (.invokevirtual 61, 3) := by decide +kernel
theorem dX7_readClimb_23 : decode cX7_readClimb 23 = .ok (.ifCond .ne 9, 3) := by decide +kernel
theorem dX7_readClimb_26 : decode cX7_readClimb 26 = .ok (.aload_n 0, 1) := by decide +kernel
theorem dX7_readClimb_27 : decode cX7_readClimb 27 = .ok (.iconst 1, 1) := by decide +kernel
theorem dX7_readClimb_28 : decode cX7_readClimb 28 = .ok (.invokevirtual 44, 3) := by decide +kernel
theorem dX7_readClimb_31 : decode cX7_readClimb 31 = .ok (.ireturn, 1) := by decide +kernel
theorem dX7_readClimb_32 : decode cX7_readClimb 32 = .ok (.iconst 0, 1) := by decide +kernel
theorem dX7_readClimb_33 : decode cX7_readClimb 33 = .ok (.istore_n 3, 1) := by decide +kernel
theorem dX7_readClimb_34 : decode cX7_readClimb 34 = .ok (.aload_n 0, 1) := by decide +kernel
theorem dX7_readClimb_35 : decode cX7_readClimb 35 = .ok (.bipush 60, 2) := by decide +kernel
theorem dX7_readClimb_37 : decode cX7_readClimb 37 = .ok (.invokevirtual 61, 3) := by decide +kernel
theorem dX7_readClimb_40 : decode cX7_readClimb 40 = .ok (.ifCond .eq 72, 3) := by decide +kernel
theorem dX7_readClimb_43 : decode cX7_readClimb 43 = .ok (.iload_n 3, 1) := by decide +kernel
theorem dX7_readClimb_44 : decode cX7_readClimb 44 = .ok (.sipush 400, 3) := by decide +kernel
theorem dX7_readClimb_47 : decode cX7_readClimb 47 = .ok (.if_icmp .ge 65, 3) := by decide +kernel
theorem dX7_readClimb_50 : decode cX7_readClimb 50 = .ok (.aload_n 0, 1) := by decide +kernel
theorem dX7_readClimb_51 : decode cX7_readClimb 51 = .ok (.invokevirtual 25, 3) := by decide +kernel
theorem dX7_readClimb_54 : decode cX7_readClimb 54 = .ok (.aload_n 0, 1) := by decide +kernel
theorem dX7_readClimb_55 : decode cX7_readClimb 55 = .ok (.aload_n 1, 1) := by decide +kernel
theorem dX7_readClimb_56 : decode cX7_readClimb 56 = .ok (.invokevirtual 71, 3) := by decide +kernel
theorem dX7_readClimb_59 : decode cX7_readClimb 59 = .ok (.istore 4, 2) := by decide +kernel
theorem dX7_readClimb_61 : decode cX7_readClimb 61 = .ok (.iload 4, 2) := by decide +kernel
theorem dX7_readClimb_63 : decode cX7_readClimb 63 = .ok (.iconst (-1), 1) := by decide +kernel
theorem dX7_readClimb_64 : decode cX7_readClimb 64 = .ok (.if_icmp .ne 5, 3) := by decide +kernel
theorem dX7_readClimb_67 : decode cX7_readClimb 67 = .ok (.iconst 0, 1) := by decide +kernel
theorem dX7_readClimb_68 : decode cX7_readClimb 68 = .ok (.ireturn, 1) := by decide +kernel
theorem dX7_readClimb_69 : decode cX7_readClimb 69 = .ok (.iload 4, 2) := by decide +kernel
theorem dX7_readClimb_71 : decode cX7_readClimb 71 = .ok (.iload_n 2, 1) := by decide +kernel
theorem dX7_readClimb_72 : decode cX7_readClimb 72 = .ok (.if_icmp .eq 13, 3) := by decide +kernel
theorem dX7_readClimb_75 : decode cX7_readClimb 75 = .ok (.aload_n 1, 1) := by decide +kernel
theorem dX7_readClimb_76 : decode cX7_readClimb 76 = .ok (.iload 4, 2) := by decide +kernel
theorem dX7_readClimb_78 : decode cX7_readClimb 78 = .ok (.iload_n 2, 1) := by decide +kernel
theorem dX7_readClimb_79 : decode cX7_readClimb 79 = .ok (.invokevirtual 75, 3) := by decide +kernel
theorem dX7_readClimb_82 : decode cX7_readClimb 82 = .ok (.ifCond .eq 9, 3) := by decide +kernel
theorem dX7_readClimb_85 : decode cX7_readClimb 85 = .ok (.aload_n 0, 1) := by decide +kernel
theorem dX7_readClimb_86 : decode cX7_readClimb 86 = .ok (.iconst 3, 1) := by decide +kernel
theorem dX7_readClimb_87 : decode cX7_readClimb 87 = .ok (.invokevirtual 44, 3) := by decide +kernel
theorem dX7_readClimb_90 : decode cX7_readClimb 90 = .ok (.ireturn, 1) := by decide +kernel
theorem dX7_readClimb_91 : decode cX7_readClimb 91 = .ok (.aload_n 1, 1) := by decide +kernel
theorem dX7_readClimb_92 : decode cX7_readClimb 92 = .ok (.iload_n 2, 1) := by decide +kernel
theorem dX7_readClimb_93 : decode cX7_readClimb 93 = .ok (.iload 4, 2) := by decide +kernel
theorem dX7_readClimb_95 : decode cX7_readClimb 95 = .ok (.invokevirtual 79, 3) := by decide +kernel
theorem dX7_readClimb_98 : decode cX7_readClimb 98 = .ok (.pop, 1) := by decide +kernel
theorem dX7_readClimb_99 : decode cX7_readClimb 99 = .ok (.iload 4, 2) := by decide +kernel
theorem dX7_readClimb_101 : decode cX7_readClimb 101 = .ok (.istore_n 2, 1) := by decide +kernel
theorem dX7_readClimb_102 : decode cX7_readClimb 102 = .ok (.aload_n 0, 1) := by decide +kernel
theorem dX7_readClimb_103 : decode cX7_readClimb 103 = .ok (.invokevirtual 25, 3) := by decide +kernel
theorem dX7_readClimb_106 : decode cX7_readClimb 106 = .ok (.iinc 3 1, 3) := by decide +kernel
theorem dX7_readClimb_109 : decode cX7_readClimb 109 = .ok (.goto (-75), 3) := by decide +kernel
theorem dX7_readClimb_112 : decode cX7_readClimb 112 = .ok (.iconst 1, 1) := by decide +kernel
theorem dX7_readClimb_113 : decode cX7_readClimb 113 = .ok (.ireturn, 1) := by decide +kernel
theorem dX7_readHead_0 : decode cX7_readHead 0 = .ok (.aload_n 0, 1) := by decide +kernel
theorem dX7_readHead_1 : decode cX7_readHead 1 = .ok (.ldc 38, 2) := by decide +kernel
theorem dX7_readHead_3 : decode cX7_readHead 3 = .ok (.invokevirtual 40, 3) := by decide +kernel
theorem dX7_readHead_6 : decode cX7_readHead 6 = .ok (.ifCond .ne 9, 3) := by decide +kernel
theorem dX7_readHead_9 : decode cX7_readHead 9 = .ok (.aload_n 0, 1) := by decide +kernel
theorem dX7_readHead_10 : decode cX7_readHead 10 = .ok (.iconst 1, 1) := by decide +kernel
theorem dX7_readHead_11 : decode cX7_readHead 11 = .ok (.invokevirtual 44, 3) := by decide +kernel
theorem dX7_readHead_14 : decode cX7_readHead 14 = .ok (.ireturn, 1) := by decide +kernel
theorem dX7_readHead_15 : decode cX7_readHead 15 = .ok (.aload_n 0, 1) := by decide +kernel
theorem dX7_readHead_16 : decode cX7_readHead 16 = .ok (.invokevirtual 25, 3) := by decide +kernel
theorem dX7_readHead_19 : decode cX7_readHead 19 = .ok (.aload_n 0, 1) := by decide +kernel
theorem dX7_readHead_20 : decode cX7_readHead 20 = .ok (.getfield 48, 3) := by decide +kernel
theorem dX7_readHead_23 : decode cX7_readHead 23 = .ok (.iconst 2, 1) := by decide +kernel
theorem dX7_readHead_24 : decode cX7_readHead 24 = .ok (.if_icmp .eq 9, 3) := by decide +kernel
theorem dX7_readHead_27 : decode cX7_readHead 27 = .ok (.aload_n 0, 1) := by decide +kernel
theorem dX7_readHead_28 : decode cX7_readHead 28 = .ok (.iconst 1, 1) := by decide +kernel
theorem dX7_readHead_29 : decode cX7_readHead 29 = .ok (.invokevirtual 44, 3) := by decide +kernel
theorem dX7_readHead_32 : decode cX7_readHead 32 = .ok (.ireturn, 1) := by decide +kernel
theorem dX7_readHead_33 : decode cX7_readHead 33 = .ok (.aload_n 0, 1) := by decide +kernel
theorem dX7_readHead_34 : decode cX7_readHead 34 = .ok (.invokevirtual 51, 3) := by decide +kernel
theorem dX7_readHead_37 : decode cX7_readHead 37 = .ok (.istore_n 2, 1) := by decide +kernel
theorem dX7_readHead_38 : decode cX7_readHead 38 = .ok (.iload_n 2, 1) := by decide +kernel
theorem dX7_readHead_39 : decode cX7_readHead 39 = .ok (.iconst 1, 1) := by decide +kernel
theorem dX7_readHead_40 : decode cX7_readHead 40 = .ok (.if_icmp .lt 9, 3) := by decide +kernel
theorem dX7_readHead_43 : decode cX7_readHead 43 = .ok (.iload_n 2, 1) := by decide +kernel
theorem dX7_readHead_44 : decode cX7_readHead 44 = .ok (.bipush 8, 2) := by decide +kernel
theorem dX7_readHead_46 : decode cX7_readHead 46 = .ok (.if_icmp .le 9, 3) := by decide +kernel
theorem dX7_readHead_49 : decode cX7_readHead 49 = .ok (.aload_n 0, 1) := by decide +kernel
theorem dX7_readHead_50 : decode cX7_readHead 50 = .ok (.iconst 2, 1) := by decide +kernel
theorem dX7_readHead_51 : decode cX7_readHead 51 = .ok (.invokevirtual 44, 3) := by decide +kernel
theorem dX7_readHead_54 : decode cX7_readHead 54 = .ok (.ireturn, 1) := by decide +kernel
theorem dX7_readHead_55 : decode cX7_readHead 55 = .ok (.aload_n 1, 1) := by decide +kernel
theorem dX7_readHead_56 : decode cX7_readHead 56 = .ok (.iload_n 2, 1) := by decide +kernel
theorem dX7_readHead_57 : decode cX7_readHead 57 = .ok (.invokevirtual 55, 3) := by decide +kernel
theorem dX7_readHead_60 : decode cX7_readHead 60 = .ok (.aload_n 0, 1) := by decide +kernel
theorem dX7_readHead_61 : decode cX7_readHead 61 = .ok (.invokevirtual 25, 3) := by decide +kernel
theorem dX7_readHead_64 : decode cX7_readHead 64 = .ok (.iconst 1, 1) := by decide +kernel
theorem dX7_readHead_65 : decode cX7_readHead 65 = .ok (.ireturn, 1) := by decide +kernel
theorem dX7_readRows_0 : decode cX7_readRows 0 = .ok (.iconst 0, 1) := by decide +kernel
theorem dX7_readRows_1 : decode cX7_readRows 1 = .ok (.istore_n 2, 1) := by decide +kernel
theorem dX7_readRows_2 : decode cX7_readRows 2 = .ok (.aload_n 0, 1) := by decide +kernel
theorem dX7_readRows_3 : decode cX7_readRows 3 = .ok (.getfield 48, 3) := by decide +kernel
theorem dX7_readRows_6 : decode cX7_readRows 6 = .ok (.ifCond .eq 99, 3) := by decide +kernel
theorem dX7_readRows_9 : decode cX7_readRows 9 = .ok (.iload_n 2, 1) := by decide +kernel
theorem dX7_readRows_10 : decode cX7_readRows 10 = .ok (.sipush 400, 3) := by decide +kernel
theorem dX7_readRows_13 : decode cX7_readRows 13 = .ok (.if_icmp .ge 92, 3) := by decide +kernel
theorem dX7_readRows_16 : decode cX7_readRows 16 = .ok (.aload_n 0, 1) := by decide +kernel
theorem dX7_readRows_17 : decode cX7_readRows 17 = .ok (.ldc 83, 2) := by decide +kernel
theorem dX7_readRows_19 : decode cX7_readRows 19 = .ok (.invokevirtual 40, 3) := by decide +kernel
theorem dX7_readRows_22 : decode cX7_readRows 22 = .ok (.ifCond .ne 9, 3) := by decide +kernel
theorem dX7_readRows_25 : decode cX7_readRows 25 = .ok (.aload_n 0, 1) := by decide +kernel
theorem dX7_readRows_26 : decode cX7_readRows 26 = .ok (.iconst 1, 1) := by decide +kernel
theorem dX7_readRows_27 : decode cX7_readRows 27 = .ok (.invokevirtual 44, 3) := by decide +kernel
theorem dX7_readRows_30 : decode cX7_readRows 30 = .ok (.ireturn, 1) := by decide +kernel
theorem dX7_readRows_31 : decode cX7_readRows 31 = .ok (.aload_n 1, 1) := by decide +kernel
theorem dX7_readRows_32 : decode cX7_readRows 32 = .ok (.invokevirtual 85, 3) := by decide +kernel
theorem dX7_readRows_35 : decode cX7_readRows 35 = .ok (.invokevirtual 89, 3) := by decide +kernel
theorem dX7_readRows_38 : decode cX7_readRows 38 = .ok (.bipush 6, 2) := by decide +kernel
theorem dX7_readRows_40 : decode cX7_readRows 40 = .ok (.if_icmp .lt 9, 3) := by decide +kernel
theorem dX7_readRows_43 : decode cX7_readRows 43 = .ok (.aload_n 0, 1) := by decide +kernel
theorem dX7_readRows_44 : decode cX7_readRows 44 = .ok (.iconst 5, 1) := by decide +kernel
theorem dX7_readRows_45 : decode cX7_readRows 45 = .ok (.invokevirtual 44, 3) := by decide +kernel
theorem dX7_readRows_48 : decode cX7_readRows 48 = .ok (.ireturn, 1) := by decide +kernel
theorem dX7_readRows_49 : decode cX7_readRows 49 = .ok (.aload_n 0, 1) := by decide +kernel
theorem dX7_readRows_50 : decode cX7_readRows 50 = .ok (.invokevirtual 25, 3) := by decide +kernel
theorem dX7_readRows_53 : decode cX7_readRows 53 = .ok (.aload_n 0, 1) := by decide +kernel
theorem dX7_readRows_54 : decode cX7_readRows 54 = .ok (.getfield 48, 3) := by decide +kernel
theorem dX7_readRows_57 : decode cX7_readRows 57 = .ok (.iconst 2, 1) := by decide +kernel
theorem dX7_readRows_58 : decode cX7_readRows 58 = .ok (.if_icmp .eq 9, 3) := by decide +kernel
theorem dX7_readRows_61 : decode cX7_readRows 61 = .ok (.aload_n 0, 1) := by decide +kernel
theorem dX7_readRows_62 : decode cX7_readRows 62 = .ok (.iconst 1, 1) := by decide +kernel
theorem dX7_readRows_63 : decode cX7_readRows 63 = .ok (.invokevirtual 44, 3) := by decide +kernel
theorem dX7_readRows_66 : decode cX7_readRows 66 = .ok (.ireturn, 1) := by decide +kernel
theorem dX7_readRows_67 : decode cX7_readRows 67 = .ok (.aload_n 0, 1) := by decide +kernel
theorem dX7_readRows_68 : decode cX7_readRows 68 = .ok (.aload_n 1, 1) := by decide +kernel
theorem dX7_readRows_69 : decode cX7_readRows 69 = .ok (.invokevirtual 94, 3) := by decide +kernel
theorem dX7_readRows_72 : decode cX7_readRows 72 = .ok (.ifCond .ne 9, 3) := by decide +kernel
theorem dX7_readRows_75 : decode cX7_readRows 75 = .ok (.aload_n 0, 1) := by decide +kernel
theorem dX7_readRows_76 : decode cX7_readRows 76 = .ok (.iconst 4, 1) := by decide +kernel
theorem dX7_readRows_77 : decode cX7_readRows 77 = .ok (.invokevirtual 44, 3) := by decide +kernel
theorem dX7_readRows_80 : decode cX7_readRows 80 = .ok (.ireturn, 1) := by decide +kernel
theorem dX7_readRows_81 : decode cX7_readRows 81 = .ok (.aload_n 0, 1) := by decide +kernel
theorem dX7_readRows_82 : decode cX7_readRows 82 = .ok (.aload_n 1, 1) := by decide +kernel
theorem dX7_readRows_83 : decode cX7_readRows 83 = .ok (.invokevirtual 97, 3) := by decide +kernel
theorem dX7_readRows_86 : decode cX7_readRows 86 = .ok (.aload_n 0, 1) := by decide +kernel
theorem dX7_readRows_87 : decode cX7_readRows 87 = .ok (.invokevirtual 25, 3) := by decide +kernel
theorem dX7_readRows_90 : decode cX7_readRows 90 = .ok (.aload_n 0, 1) := by decide +kernel
theorem dX7_readRows_91 : decode cX7_readRows 91 = .ok (.invokevirtual 67, 3) := by decide +kernel
theorem dX7_readRows_94 : decode cX7_readRows 94 = .ok (.ifCond .ne 5, 3) := by decide +kernel
theorem dX7_readRows_97 : decode cX7_readRows 97 = .ok (.iconst 0, 1) := by decide +kernel
theorem dX7_readRows_98 : decode cX7_readRows 98 = .ok (.ireturn, 1) := by decide +kernel
theorem dX7_readRows_99 : decode cX7_readRows 99 = .ok (.iinc 2 1, 3) := by decide +kernel
theorem dX7_readRows_102 : decode cX7_readRows 102 = .ok (.goto (-100), 3) := by decide +kernel
theorem dX7_readRows_105 : decode cX7_readRows 105 = .ok (.iconst 1, 1) := by decide +kernel
theorem dX7_readRows_106 : decode cX7_readRows 106 = .ok (.ireturn, 1) := by decide +kernel
theorem dX7_readTwos_0 : decode cX7_readTwos 0 = .ok (.aload_n 0, 1) := by decide +kernel
theorem dX7_readTwos_1 : decode cX7_readTwos 1 = .ok (.bipush 58, 2) := by decide +kernel
theorem dX7_readTwos_3 : decode cX7_readTwos 3 = .ok (.invokevirtual 61, 3) := by decide +kernel
theorem dX7_readTwos_6 : decode cX7_readTwos 6 = .ok (.istore_n 2, 1) := by decide +kernel
theorem dX7_readTwos_7 : decode cX7_readTwos 7 = .ok (.iconst 0, 1) := by decide +kernel
theorem dX7_readTwos_8 : decode cX7_readTwos 8 = .ok (.istore_n 3, 1) := by decide +kernel
theorem dX7_readTwos_9 : decode cX7_readTwos 9 = .ok (.iload_n 2, 1) := by decide +kernel
theorem dX7_readTwos_10 : decode cX7_readTwos 10 = .ok (.ifCond .eq 37, 3) := by decide +kernel
theorem dX7_readTwos_13 : decode cX7_readTwos 13 = .ok (.iload_n 3, 1) := by decide +kernel
theorem dX7_readTwos_14 : decode cX7_readTwos 14 = .ok (.sipush 400, 3) := by decide +kernel
theorem dX7_readTwos_17 : decode cX7_readTwos 17 = .ok (.if_icmp .ge 30, 3) := by decide +kernel
theorem dX7_readTwos_20 : decode cX7_readTwos 20 = .ok (.aload_n 0, 1) := by decide +kernel
theorem dX7_readTwos_21 : decode cX7_readTwos 21 = .ok (.invokevirtual 25, 3) := by decide +kernel
theorem dX7_readTwos_24 : decode cX7_readTwos 24 = .ok (.aload_n 0, 1) := by decide +kernel
theorem dX7_readTwos_25 : decode cX7_readTwos 25 = .ok (.aload_n 1, 1) := by decide +kernel
theorem dX7_readTwos_26 : decode cX7_readTwos 26 = .ok (.invokevirtual 64, 3) := by decide +kernel
theorem dX7_readTwos_29 : decode cX7_readTwos 29 = .ok (.ifCond .ne 5, 3) := by decide +kernel
theorem dX7_readTwos_32 : decode cX7_readTwos 32 = .ok (.iconst 0, 1) := by decide +kernel
theorem dX7_readTwos_33 : decode cX7_readTwos 33 = .ok (.ireturn, 1) := by decide +kernel
theorem dX7_readTwos_34 : decode cX7_readTwos 34 = .ok (.aload_n 0, 1) := by decide +kernel
theorem dX7_readTwos_35 : decode cX7_readTwos 35 = .ok (.bipush 44, 2) := by decide +kernel
theorem dX7_readTwos_37 : decode cX7_readTwos 37 = .ok (.invokevirtual 61, 3) := by decide +kernel
theorem dX7_readTwos_40 : decode cX7_readTwos 40 = .ok (.istore_n 2, 1) := by decide +kernel
theorem dX7_readTwos_41 : decode cX7_readTwos 41 = .ok (.iinc 3 1, 3) := by decide +kernel
theorem dX7_readTwos_44 : decode cX7_readTwos 44 = .ok (.goto (-35), 3) := by decide +kernel
theorem dX7_readTwos_47 : decode cX7_readTwos 47 = .ok (.aload_n 0, 1) := by decide +kernel
theorem dX7_readTwos_48 : decode cX7_readTwos 48 = .ok (.invokevirtual 67, 3) := by decide +kernel
theorem dX7_readTwos_51 : decode cX7_readTwos 51 = .ok (.ireturn, 1) := by decide +kernel
theorem dX7_refuse_0 : decode cX7_refuse 0 = .ok (.aload_n 0, 1) := by decide +kernel
theorem dX7_refuse_1 : decode cX7_refuse 1 = .ok (.iload_n 1, 1) := by decide +kernel
theorem dX7_refuse_2 : decode cX7_refuse 2 = .ok (.putfield 19, 3) := by decide +kernel
theorem dX7_refuse_5 : decode cX7_refuse 5 = .ok (.aload_n 0, 1) := by decide +kernel
theorem dX7_refuse_6 : decode cX7_refuse 6 = .ok (.aload_n 0, 1) := by decide +kernel
theorem dX7_refuse_7 : decode cX7_refuse 7 = .ok (.getfield 101, 3) := by decide +kernel
theorem dX7_refuse_10 : decode cX7_refuse 10 = .ok (.putfield 9, 3) := by decide +kernel
theorem dX7_refuse_13 : decode cX7_refuse 13 = .ok (.iconst 0, 1) := by decide +kernel
theorem dX7_refuse_14 : decode cX7_refuse 14 = .ok (.ireturn, 1) := by decide +kernel
theorem dX7_runEnd_0 : decode cX7_runEnd 0 = .ok (.aload_n 0, 1) := by decide +kernel
theorem dX7_runEnd_1 : decode cX7_runEnd 1 = .ok (.getfield 101, 3) := by decide +kernel
theorem dX7_runEnd_4 : decode cX7_runEnd 4 = .ok (.istore_n 3, 1) := by decide +kernel
theorem dX7_runEnd_5 : decode cX7_runEnd 5 = .ok (.iload_n 3, 1) := by decide +kernel
theorem dX7_runEnd_6 : decode cX7_runEnd 6 = .ok (.aload_n 0, 1) := by decide +kernel
theorem dX7_runEnd_7 : decode cX7_runEnd 7 = .ok (.getfield 15, 3) := by decide +kernel
theorem dX7_runEnd_10 : decode cX7_runEnd 10 = .ok (.invokevirtual 121, 3) := by decide +kernel
theorem dX7_runEnd_13 : decode cX7_runEnd 13 = .ok (.if_icmp .ge 33, 3) := by decide +kernel
theorem dX7_runEnd_16 : decode cX7_runEnd 16 = .ok (.aload_n 0, 1) := by decide +kernel
theorem dX7_runEnd_17 : decode cX7_runEnd 17 = .ok (.getfield 15, 3) := by decide +kernel
theorem dX7_runEnd_20 : decode cX7_runEnd 20 = .ok (.iload_n 3, 1) := by decide +kernel
theorem dX7_runEnd_21 : decode cX7_runEnd 21 = .ok (.invokevirtual 105, 3) := by decide +kernel
theorem dX7_runEnd_24 : decode cX7_runEnd 24 = .ok (.iload_n 1, 1) := by decide +kernel
theorem dX7_runEnd_25 : decode cX7_runEnd 25 = .ok (.if_icmp .lt 21, 3) := by decide +kernel
theorem dX7_runEnd_28 : decode cX7_runEnd 28 = .ok (.aload_n 0, 1) := by decide +kernel
theorem dX7_runEnd_29 : decode cX7_runEnd 29 = .ok (.getfield 15, 3) := by decide +kernel
theorem dX7_runEnd_32 : decode cX7_runEnd 32 = .ok (.iload_n 3, 1) := by decide +kernel
theorem dX7_runEnd_33 : decode cX7_runEnd 33 = .ok (.invokevirtual 105, 3) := by decide +kernel
theorem dX7_runEnd_36 : decode cX7_runEnd 36 = .ok (.iload_n 2, 1) := by decide +kernel
theorem dX7_runEnd_37 : decode cX7_runEnd 37 = .ok (.if_icmp .gt 9, 3) := by decide +kernel
theorem dX7_runEnd_40 : decode cX7_runEnd 40 = .ok (.iinc 3 1, 3) := by decide +kernel
theorem dX7_runEnd_43 : decode cX7_runEnd 43 = .ok (.goto (-38), 3) := by decide +kernel
theorem dX7_runEnd_46 : decode cX7_runEnd 46 = .ok (.iload_n 3, 1) := by decide +kernel
theorem dX7_runEnd_47 : decode cX7_runEnd 47 = .ok (.ireturn, 1) := by decide +kernel
theorem dX7_takeRow_0 : decode cX7_takeRow 0 = .ok (.aload_n 1, 1) := by decide +kernel
theorem dX7_takeRow_1 : decode cX7_takeRow 1 = .ok (.invokevirtual 85, 3) := by decide +kernel
theorem dX7_takeRow_4 : decode cX7_takeRow 4 = .ok (.invokevirtual 114, 3) := by decide +kernel
theorem dX7_takeRow_7 : decode cX7_takeRow 7 = .ok (.istore_n 2, 1) := by decide +kernel
theorem dX7_takeRow_8 : decode cX7_takeRow 8 = .ok (.aload_n 0, 1) := by decide +kernel
theorem dX7_takeRow_9 : decode cX7_takeRow 9 = .ok (.getfield 101, 3) := by decide +kernel
theorem dX7_takeRow_12 : decode cX7_takeRow 12 = .ok (.istore_n 3, 1) := by decide +kernel
theorem dX7_takeRow_13 : decode cX7_takeRow 13 = .ok (.iload_n 3, 1) := by decide +kernel
theorem dX7_takeRow_14 : decode cX7_takeRow 14 = .ok (.aload_n 0, 1) := by decide +kernel
theorem dX7_takeRow_15 : decode cX7_takeRow 15 = .ok (.getfield 22, 3) := by decide +kernel
theorem dX7_takeRow_18 : decode cX7_takeRow 18 = .ok (.if_icmp .ge 34, 3) := by decide +kernel
theorem dX7_takeRow_21 : decode cX7_takeRow 21 = .ok (.aload_n 1, 1) := by decide +kernel
theorem dX7_takeRow_22 : decode cX7_takeRow 22 = .ok (.invokevirtual 85, 3) := by decide +kernel
theorem dX7_takeRow_25 : decode cX7_takeRow 25 = .ok (.iload_n 2, 1) := by decide +kernel
theorem dX7_takeRow_26 : decode cX7_takeRow 26 = .ok (.iload_n 3, 1) := by decide +kernel
theorem dX7_takeRow_27 : decode cX7_takeRow 27 = .ok (.aload_n 0, 1) := by decide +kernel
theorem dX7_takeRow_28 : decode cX7_takeRow 28 = .ok (.getfield 101, 3) := by decide +kernel
theorem dX7_takeRow_31 : decode cX7_takeRow 31 = .ok (.isub, 1) := by decide +kernel
theorem dX7_takeRow_32 : decode cX7_takeRow 32 = .ok (.aload_n 0, 1) := by decide +kernel
theorem dX7_takeRow_33 : decode cX7_takeRow 33 = .ok (.getfield 15, 3) := by decide +kernel
theorem dX7_takeRow_36 : decode cX7_takeRow 36 = .ok (.iload_n 3, 1) := by decide +kernel
theorem dX7_takeRow_37 : decode cX7_takeRow 37 = .ok (.invokevirtual 105, 3) := by decide +kernel
theorem dX7_takeRow_40 : decode cX7_takeRow 40 = .ok (.bipush 48, 2) := by decide +kernel
theorem dX7_takeRow_42 : decode cX7_takeRow 42 = .ok (.isub, 1) := by decide +kernel
theorem dX7_takeRow_43 : decode cX7_takeRow 43 = .ok (.invokevirtual 117, 3) := by decide +kernel
theorem dX7_takeRow_46 : decode cX7_takeRow 46 = .ok (.iinc 3 1, 3) := by decide +kernel
theorem dX7_takeRow_49 : decode cX7_takeRow 49 = .ok (.goto (-36), 3) := by decide +kernel
theorem dX7_takeRow_52 : decode cX7_takeRow 52 = .ok (.return_, 1) := by decide +kernel
theorem dX7_thingHere_0 : decode cX7_thingHere 0 = .ok (.aload_n 0, 1) := by decide +kernel
theorem dX7_thingHere_1 : decode cX7_thingHere 1 = .ok (.getfield 48, 3) := by decide +kernel
theorem dX7_thingHere_4 : decode cX7_thingHere 4 = .ok (.iconst 2, 1) := by decide +kernel
theorem dX7_thingHere_5 : decode cX7_thingHere 5 = .ok (.if_icmp .eq 11, 3) := by decide +kernel
theorem dX7_thingHere_8 : decode cX7_thingHere 8 = .ok (.aload_n 0, 1) := by decide +kernel
theorem dX7_thingHere_9 : decode cX7_thingHere 9 = .ok (.iconst 1, 1) := by decide +kernel
theorem dX7_thingHere_10 : decode cX7_thingHere 10 = .ok (.invokevirtual 44, 3) := by decide +kernel
theorem dX7_thingHere_13 : decode cX7_thingHere 13 = .ok (.pop, 1) := by decide +kernel
theorem dX7_thingHere_14 : decode cX7_thingHere 14 = .ok (.iconst (-1), 1) := by decide +kernel
theorem dX7_thingHere_15 : decode cX7_thingHere 15 = .ok (.ireturn, 1) := by decide +kernel
theorem dX7_thingHere_16 : decode cX7_thingHere 16 = .ok (.aload_n 0, 1) := by decide +kernel
theorem dX7_thingHere_17 : decode cX7_thingHere 17 = .ok (.invokevirtual 51, 3) := by decide +kernel
theorem dX7_thingHere_20 : decode cX7_thingHere 20 = .ok (.istore_n 2, 1) := by decide +kernel
theorem dX7_thingHere_21 : decode cX7_thingHere 21 = .ok (.aload_n 1, 1) := by decide +kernel
theorem dX7_thingHere_22 : decode cX7_thingHere 22 = .ok (.iload_n 2, 1) := by decide +kernel
theorem dX7_thingHere_23 : decode cX7_thingHere 23 = .ok (.invokevirtual 111, 3) := by decide +kernel
theorem dX7_thingHere_26 : decode cX7_thingHere 26 = .ok (.ifCond .ne 11, 3) := by decide +kernel
theorem dX7_thingHere_29 : decode cX7_thingHere 29 = .ok (.aload_n 0, 1) := by decide +kernel
theorem dX7_thingHere_30 : decode cX7_thingHere 30 = .ok (.iconst 2, 1) := by decide +kernel
theorem dX7_thingHere_31 : decode cX7_thingHere 31 = .ok (.invokevirtual 44, 3) := by decide +kernel
theorem dX7_thingHere_34 : decode cX7_thingHere 34 = .ok (.pop, 1) := by decide +kernel
theorem dX7_thingHere_35 : decode cX7_thingHere 35 = .ok (.iconst (-1), 1) := by decide +kernel
theorem dX7_thingHere_36 : decode cX7_thingHere 36 = .ok (.ireturn, 1) := by decide +kernel
theorem dX7_thingHere_37 : decode cX7_thingHere 37 = .ok (.iload_n 2, 1) := by decide +kernel
theorem dX7_thingHere_38 : decode cX7_thingHere 38 = .ok (.ireturn, 1) := by decide +kernel
theorem dX8_allUnlike_0 : decode cX8_allUnlike 0 = .ok (.iconst 1, 1) := by decide +kernel
theorem dX8_allUnlike_1 : decode cX8_allUnlike 1 = .ok (.istore_n 2, 1) := by decide +kernel
theorem dX8_allUnlike_2 : decode cX8_allUnlike 2 = .ok (.iload_n 2, 1) := by decide +kernel
theorem dX8_allUnlike_3 : decode cX8_allUnlike 3 = .ok (.aload_n 0, 1) := by decide +kernel
theorem dX8_allUnlike_4 : decode cX8_allUnlike 4 = .ok (.getfield 15, 3) := by decide +kernel
theorem dX8_allUnlike_7 : decode cX8_allUnlike 7 = .ok (.if_icmp .ge 35, 3) := by decide +kernel
theorem dX8_allUnlike_10 : decode cX8_allUnlike 10 = .ok (.iconst 0, 1) := by decide +kernel
theorem dX8_allUnlike_11 : decode cX8_allUnlike 11 = .ok (.istore_n 3, 1) := by decide +kernel
theorem dX8_allUnlike_12 : decode cX8_allUnlike 12 = .ok (.iload_n 3, 1) := by decide +kernel
theorem dX8_allUnlike_13 : decode cX8_allUnlike 13 = .ok (.iload_n 2, 1) := by decide +kernel
theorem dX8_allUnlike_14 : decode cX8_allUnlike 14 = .ok (.if_icmp .ge 22, 3) := by decide +kernel
theorem dX8_allUnlike_17 : decode cX8_allUnlike 17 = .ok (.aload_n 0, 1) := by decide +kernel
theorem dX8_allUnlike_18 : decode cX8_allUnlike 18 = .ok (.iload_n 2, 1) := by decide +kernel
theorem dX8_allUnlike_19 : decode cX8_allUnlike 19 = .ok (.aload_n 0, 1) := by decide +kernel
theorem dX8_allUnlike_20 : decode cX8_allUnlike 20 = .ok (.iload_n 3, 1) := by decide +kernel
theorem dX8_allUnlike_21 : decode cX8_allUnlike 21 = .ok (.iload_n 1, 1) := by decide +kernel
theorem dX8_allUnlike_22 : decode cX8_allUnlike 22 = .ok (.invokevirtual 31, 3) := by decide +kernel
theorem dX8_allUnlike_25 : decode cX8_allUnlike 25 = .ok (.ifCond .eq 5, 3) := by decide +kernel
theorem dX8_allUnlike_28 : decode cX8_allUnlike 28 = .ok (.iconst 0, 1) := by decide +kernel
theorem dX8_allUnlike_29 : decode cX8_allUnlike 29 = .ok (.ireturn, 1) := by decide +kernel
theorem dX8_allUnlike_30 : decode cX8_allUnlike 30 = .ok (.iinc 3 1, 3) := by decide +kernel
theorem dX8_allUnlike_33 : decode cX8_allUnlike 33 = .ok (.goto (-21), 3) := by decide +kernel
theorem dX8_allUnlike_36 : decode cX8_allUnlike 36 = .ok (.iinc 2 1, 3) := by decide +kernel
theorem dX8_allUnlike_39 : decode cX8_allUnlike 39 = .ok (.goto (-37), 3) := by decide +kernel
theorem dX8_allUnlike_42 : decode cX8_allUnlike 42 = .ok (.iconst 1, 1) := by decide +kernel
theorem dX8_allUnlike_43 : decode cX8_allUnlike 43 = .ok (.ireturn, 1) := by decide +kernel
theorem dX8_clear_0 : decode cX8_clear 0 = .ok (.aload_n 0, 1) := by decide +kernel
theorem dX8_clear_1 : decode cX8_clear 1 = .ok (.iconst 0, 1) := by decide +kernel
theorem dX8_clear_2 : decode cX8_clear 2 = .ok (.putfield 15, 3) := by decide +kernel
theorem dX8_clear_5 : decode cX8_clear 5 = .ok (.return_, 1) := by decide +kernel
theorem dX8_comesAhead_0 : decode cX8_comesAhead 0 = .ok (.aload_n 0, 1) := by decide +kernel
theorem dX8_comesAhead_1 : decode cX8_comesAhead 1 = .ok (.iload_n 1, 1) := by decide +kernel
theorem dX8_comesAhead_2 : decode cX8_comesAhead 2 = .ok (.iload_n 2, 1) := by decide +kernel
theorem dX8_comesAhead_3 : decode cX8_comesAhead 3 = .ok (.iload 4, 2) := by decide +kernel
theorem dX8_comesAhead_5 : decode cX8_comesAhead 5 = .ok (.invokevirtual 27, 3) := by decide +kernel
theorem dX8_comesAhead_8 : decode cX8_comesAhead 8 = .ok (.aload_n 0, 1) := by decide +kernel
theorem dX8_comesAhead_9 : decode cX8_comesAhead 9 = .ok (.iload_n 1, 1) := by decide +kernel
theorem dX8_comesAhead_10 : decode cX8_comesAhead 10 = .ok (.iload_n 3, 1) := by decide +kernel
theorem dX8_comesAhead_11 : decode cX8_comesAhead 11 = .ok (.iload 4, 2) := by decide +kernel
theorem dX8_comesAhead_13 : decode cX8_comesAhead 13 = .ok (.invokevirtual 27, 3) := by decide +kernel
theorem dX8_comesAhead_16 : decode cX8_comesAhead 16 = .ok (.if_icmp .ge 7, 3) := by decide +kernel
theorem dX8_comesAhead_19 : decode cX8_comesAhead 19 = .ok (.iconst 1, 1) := by decide +kernel
theorem dX8_comesAhead_20 : decode cX8_comesAhead 20 = .ok (.goto 4, 3) := by decide +kernel
theorem dX8_comesAhead_23 : decode cX8_comesAhead 23 = .ok (.iconst 0, 1) := by decide +kernel
theorem dX8_comesAhead_24 : decode cX8_comesAhead 24 = .ok (.ireturn, 1) := by decide +kernel
theorem dX8_copyFrom_0 : decode cX8_copyFrom 0 = .ok (.aload_n 0, 1) := by decide +kernel
theorem dX8_copyFrom_1 : decode cX8_copyFrom 1 = .ok (.aload_n 1, 1) := by decide +kernel
theorem dX8_copyFrom_2 : decode cX8_copyFrom 2 = .ok (.getfield 15, 3) := by decide +kernel
theorem dX8_copyFrom_5 : decode cX8_copyFrom 5 = .ok (.putfield 15, 3) := by decide +kernel
theorem dX8_copyFrom_8 : decode cX8_copyFrom 8 = .ok (.aload_n 1, 1) := by decide +kernel
theorem dX8_copyFrom_9 : decode cX8_copyFrom 9 = .ok (.getfield 9, 3) := by decide +kernel
theorem dX8_copyFrom_12 : decode cX8_copyFrom 12 = .ok (.iconst 0, 1) := by decide +kernel
theorem dX8_copyFrom_13 : decode cX8_copyFrom 13 = .ok (.aload_n 0, 1) := by decide +kernel
theorem dX8_copyFrom_14 : decode cX8_copyFrom 14 = .ok (.getfield 9, 3) := by decide +kernel
theorem dX8_copyFrom_17 : decode cX8_copyFrom 17 = .ok (.iconst 0, 1) := by decide +kernel
theorem dX8_copyFrom_18 : decode cX8_copyFrom 18 = .ok (.aload_n 0, 1) := by decide +kernel
theorem dX8_copyFrom_19 : decode cX8_copyFrom 19 = .ok (.getfield 9, 3) := by decide +kernel
theorem dX8_copyFrom_22 : decode cX8_copyFrom 22 = .ok (.arraylength, 1) := by decide +kernel
theorem dX8_copyFrom_23 : decode cX8_copyFrom 23 = .ok (.invokestatic 35, 3) := by decide +kernel
theorem dX8_copyFrom_26 : decode cX8_copyFrom 26 = .ok (.return_, 1) := by decide +kernel
theorem dX8_has_0 : decode cX8_has 0 = .ok (.iload_n 1, 1) := by decide +kernel
theorem dX8_has_1 : decode cX8_has 1 = .ok (.ifCond .lt 15, 3) := by decide +kernel
theorem dX8_has_4 : decode cX8_has 4 = .ok (.iload_n 1, 1) := by decide +kernel
theorem dX8_has_5 : decode cX8_has 5 = .ok (.aload_n 0, 1) := by decide +kernel
theorem dX8_has_6 : decode cX8_has 6 = .ok (.getfield 15, 3) := by decide +kernel
theorem dX8_has_9 : decode cX8_has 9 = .ok (.if_icmp .ge 7, 3) := by decide +kernel
theorem dX8_has_12 : decode cX8_has 12 = .ok (.iconst 1, 1) := by decide +kernel
theorem dX8_has_13 : decode cX8_has 13 = .ok (.goto 4, 3) := by decide +kernel
theorem dX8_has_16 : decode cX8_has 16 = .ok (.iconst 0, 1) := by decide +kernel
theorem dX8_has_17 : decode cX8_has 17 = .ok (.ireturn, 1) := by decide +kernel
theorem dX8_init_0 : decode cX8_init 0 = .ok (.aload_n 0, 1) := by decide +kernel
theorem dX8_init_1 : decode cX8_init 1 = .ok (.invokespecial 3, 3) := by decide +kernel
theorem dX8_init_4 : decode cX8_init 4 = .ok (.aload_n 0, 1) := by decide +kernel
theorem dX8_init_5 : decode cX8_init 5 = .ok (.bipush 48, 2) := by decide +kernel
theorem dX8_init_7 : decode cX8_init 7 = .ok (.newarray .int, 2) := by decide +kernel
theorem dX8_init_9 : decode cX8_init 9 = .ok (.putfield 9, 3) := by decide +kernel
theorem dX8_init_12 : decode cX8_init 12 = .ok (.return_, 1) := by decide +kernel
theorem dX8_isPlace_0 : decode cX8_isPlace 0 = .ok (.iload_n 0, 1) := by decide +kernel
theorem dX8_isPlace_1 : decode cX8_isPlace 1 = .ok (.ifCond .lt 23, 3) := by decide +kernel
theorem dX8_isPlace_4 : decode cX8_isPlace 4 = .ok (.iload_n 0, 1) := by decide +kernel
theorem dX8_isPlace_5 : decode cX8_isPlace 5 = .ok (.bipush 6, 2) := by decide +kernel
theorem dX8_isPlace_7 : decode cX8_isPlace 7 = .ok (.if_icmp .ge 17, 3) := by decide +kernel
theorem dX8_isPlace_10 : decode cX8_isPlace 10 = .ok (.iload_n 1, 1) := by decide +kernel
theorem dX8_isPlace_11 : decode cX8_isPlace 11 = .ok (.ifCond .lt 13, 3) := by decide +kernel
theorem dX8_isPlace_14 : decode cX8_isPlace 14 = .ok (.iload_n 1, 1) := by decide +kernel
theorem dX8_isPlace_15 : decode cX8_isPlace 15 = .ok (.bipush 8, 2) := by decide +kernel
theorem dX8_isPlace_17 : decode cX8_isPlace 17 = .ok (.if_icmp .ge 7, 3) := by decide +kernel
theorem dX8_isPlace_20 : decode cX8_isPlace 20 = .ok (.iconst 1, 1) := by decide +kernel
theorem dX8_isPlace_21 : decode cX8_isPlace 21 = .ok (.goto 4, 3) := by decide +kernel
theorem dX8_isPlace_24 : decode cX8_isPlace 24 = .ok (.iconst 0, 1) := by decide +kernel
theorem dX8_isPlace_25 : decode cX8_isPlace 25 = .ok (.ireturn, 1) := by decide +kernel
theorem dX8_leaveOut_0 : decode cX8_leaveOut 0 = .ok (.iconst 0, 1) := by decide +kernel
theorem dX8_leaveOut_1 : decode cX8_leaveOut 1 = .ok (.istore_n 3, 1) := by decide +kernel
theorem dX8_leaveOut_2 : decode cX8_leaveOut 2 = .ok (.iload_n 3, 1) := by decide +kernel
theorem dX8_leaveOut_3 : decode cX8_leaveOut 3 = .ok (.aload_n 0, 1) := by decide +kernel
theorem dX8_leaveOut_4 : decode cX8_leaveOut 4 = .ok (.getfield 15, 3) := by decide +kernel
theorem dX8_leaveOut_7 : decode cX8_leaveOut 7 = .ok (.if_icmp .ge 67, 3) := by decide +kernel
theorem dX8_leaveOut_10 : decode cX8_leaveOut 10 = .ok (.iconst 0, 1) := by decide +kernel
theorem dX8_leaveOut_11 : decode cX8_leaveOut 11 = .ok (.istore 4, 2) := by decide +kernel
theorem dX8_leaveOut_13 : decode cX8_leaveOut 13 = .ok (.iconst 0, 1) := by decide +kernel
theorem dX8_leaveOut_14 : decode cX8_leaveOut 14 = .ok (.istore 5, 2) := by decide +kernel
theorem dX8_leaveOut_16 : decode cX8_leaveOut 16 = .ok (.iload 5, 2) := by decide +kernel
theorem dX8_leaveOut_18 : decode cX8_leaveOut 18 = .ok (.iload_n 2, 1) := by decide +kernel
theorem dX8_leaveOut_19 : decode cX8_leaveOut 19 = .ok (.if_icmp .ge 49, 3) := by decide +kernel
theorem dX8_leaveOut_22 : decode cX8_leaveOut 22 = .ok (.aload_n 0, 1) := by decide +kernel
theorem dX8_leaveOut_23 : decode cX8_leaveOut 23 = .ok (.iload_n 3, 1) := by decide +kernel
theorem dX8_leaveOut_24 : decode cX8_leaveOut 24 = .ok (.iload 5, 2) := by decide +kernel
theorem dX8_leaveOut_26 : decode cX8_leaveOut 26 = .ok (.invokevirtual 23, 3) := by decide +kernel
theorem dX8_leaveOut_29 : decode cX8_leaveOut 29 = .ok (.istore 6, 2) := by decide +kernel
theorem dX8_leaveOut_31 : decode cX8_leaveOut 31 = .ok (.iload 6, 2) := by decide +kernel
theorem dX8_leaveOut_33 : decode cX8_leaveOut 33 = .ok (.iload_n 1, 1) := by decide +kernel
theorem dX8_leaveOut_34 : decode cX8_leaveOut 34 = .ok (.if_icmp .eq 28, 3) := by decide +kernel
theorem dX8_leaveOut_37 : decode cX8_leaveOut 37 = .ok (.aload_n 0, 1) := by decide +kernel
theorem dX8_leaveOut_38 : decode cX8_leaveOut 38 = .ok (.iload_n 3, 1) := by decide +kernel
theorem dX8_leaveOut_39 : decode cX8_leaveOut 39 = .ok (.iload 4, 2) := by decide +kernel
theorem dX8_leaveOut_41 : decode cX8_leaveOut 41 = .ok (.iload 6, 2) := by decide +kernel
theorem dX8_leaveOut_43 : decode cX8_leaveOut 43 = .ok (.iload_n 1, 1) := by decide +kernel
theorem dX8_leaveOut_44 : decode cX8_leaveOut 44 = .ok (.if_icmp .le 10, 3) := by decide +kernel
theorem dX8_leaveOut_47 : decode cX8_leaveOut 47 = .ok (.iload 6, 2) := by decide +kernel
theorem dX8_leaveOut_49 : decode cX8_leaveOut 49 = .ok (.iconst 1, 1) := by decide +kernel
theorem dX8_leaveOut_50 : decode cX8_leaveOut 50 = .ok (.isub, 1) := by decide +kernel
theorem dX8_leaveOut_51 : decode cX8_leaveOut 51 = .ok (.goto 5, 3) := by decide +kernel
theorem dX8_leaveOut_54 : decode cX8_leaveOut 54 = .ok (.iload 6, 2) := by decide +kernel
theorem dX8_leaveOut_56 : decode cX8_leaveOut 56 = .ok (.invokevirtual 45, 3) := by decide +kernel
theorem dX8_leaveOut_59 : decode cX8_leaveOut 59 = .ok (.iinc 4 1, 3) := by decide +kernel
theorem dX8_leaveOut_62 : decode cX8_leaveOut 62 = .ok (.iinc 5 1, 3) := by decide +kernel
theorem dX8_leaveOut_65 : decode cX8_leaveOut 65 = .ok (.goto (-49), 3) := by decide +kernel
theorem dX8_leaveOut_68 : decode cX8_leaveOut 68 = .ok (.iinc 3 1, 3) := by decide +kernel
theorem dX8_leaveOut_71 : decode cX8_leaveOut 71 = .ok (.goto (-69), 3) := by decide +kernel
theorem dX8_leaveOut_74 : decode cX8_leaveOut 74 = .ok (.return_, 1) := by decide +kernel
theorem dX8_open_0 : decode cX8_open 0 = .ok (.aload_n 0, 1) := by decide +kernel
theorem dX8_open_1 : decode cX8_open 1 = .ok (.getfield 15, 3) := by decide +kernel
theorem dX8_open_4 : decode cX8_open 4 = .ok (.bipush 6, 2) := by decide +kernel
theorem dX8_open_6 : decode cX8_open 6 = .ok (.if_icmp .ge 13, 3) := by decide +kernel
theorem dX8_open_9 : decode cX8_open 9 = .ok (.aload_n 0, 1) := by decide +kernel
theorem dX8_open_10 : decode cX8_open 10 = .ok (.dup, 1) := by decide +kernel
theorem dX8_open_11 : decode cX8_open 11 = .ok (.getfield 15, 3) := by decide +kernel
theorem dX8_open_14 : decode cX8_open 14 = .ok (.iconst 1, 1) := by decide +kernel
theorem dX8_open_15 : decode cX8_open 15 = .ok (.iadd, 1) := by decide +kernel
theorem dX8_open_16 : decode cX8_open 16 = .ok (.putfield 15, 3) := by decide +kernel
theorem dX8_open_19 : decode cX8_open 19 = .ok (.aload_n 0, 1) := by decide +kernel
theorem dX8_open_20 : decode cX8_open 20 = .ok (.getfield 15, 3) := by decide +kernel
theorem dX8_open_23 : decode cX8_open 23 = .ok (.iconst 1, 1) := by decide +kernel
theorem dX8_open_24 : decode cX8_open 24 = .ok (.isub, 1) := by decide +kernel
theorem dX8_open_25 : decode cX8_open 25 = .ok (.ireturn, 1) := by decide +kernel
theorem dX8_placeOf_0 : decode cX8_placeOf 0 = .ok (.iconst 0, 1) := by decide +kernel
theorem dX8_placeOf_1 : decode cX8_placeOf 1 = .ok (.istore 4, 2) := by decide +kernel
theorem dX8_placeOf_3 : decode cX8_placeOf 3 = .ok (.iload 4, 2) := by decide +kernel
theorem dX8_placeOf_5 : decode cX8_placeOf 5 = .ok (.iload_n 3, 1) := by decide +kernel
theorem dX8_placeOf_6 : decode cX8_placeOf 6 = .ok (.if_icmp .ge 23, 3) := by decide +kernel
theorem dX8_placeOf_9 : decode cX8_placeOf 9 = .ok (.aload_n 0, 1) := by decide +kernel
theorem dX8_placeOf_10 : decode cX8_placeOf 10 = .ok (.iload_n 1, 1) := by decide +kernel
theorem dX8_placeOf_11 : decode cX8_placeOf 11 = .ok (.iload 4, 2) := by decide +kernel
theorem dX8_placeOf_13 : decode cX8_placeOf 13 = .ok (.invokevirtual 23, 3) := by decide +kernel
theorem dX8_placeOf_16 : decode cX8_placeOf 16 = .ok (.iload_n 2, 1) := by decide +kernel
theorem dX8_placeOf_17 : decode cX8_placeOf 17 = .ok (.if_icmp .ne 6, 3) := by decide +kernel
theorem dX8_placeOf_20 : decode cX8_placeOf 20 = .ok (.iload 4, 2) := by decide +kernel
theorem dX8_placeOf_22 : decode cX8_placeOf 22 = .ok (.ireturn, 1) := by decide +kernel
theorem dX8_placeOf_23 : decode cX8_placeOf 23 = .ok (.iinc 4 1, 3) := by decide +kernel
theorem dX8_placeOf_26 : decode cX8_placeOf 26 = .ok (.goto (-23), 3) := by decide +kernel
theorem dX8_placeOf_29 : decode cX8_placeOf 29 = .ok (.iconst (-1), 1) := by decide +kernel
theorem dX8_placeOf_30 : decode cX8_placeOf 30 = .ok (.ireturn, 1) := by decide +kernel
theorem dX8_put_0 : decode cX8_put 0 = .ok (.iload_n 1, 1) := by decide +kernel
theorem dX8_put_1 : decode cX8_put 1 = .ok (.iload_n 2, 1) := by decide +kernel
theorem dX8_put_2 : decode cX8_put 2 = .ok (.invokestatic 19, 3) := by decide +kernel
theorem dX8_put_5 : decode cX8_put 5 = .ok (.ifCond .eq 15, 3) := by decide +kernel
theorem dX8_put_8 : decode cX8_put 8 = .ok (.aload_n 0, 1) := by decide +kernel
theorem dX8_put_9 : decode cX8_put 9 = .ok (.getfield 9, 3) := by decide +kernel
theorem dX8_put_12 : decode cX8_put 12 = .ok (.iload_n 1, 1) := by decide +kernel
theorem dX8_put_13 : decode cX8_put 13 = .ok (.bipush 8, 2) := by decide +kernel
theorem dX8_put_15 : decode cX8_put 15 = .ok (.imul, 1) := by decide +kernel
theorem dX8_put_16 : decode cX8_put 16 = .ok (.iload_n 2, 1) := by decide +kernel
theorem dX8_put_17 : decode cX8_put 17 = .ok (.iadd, 1) := by decide +kernel
theorem dX8_put_18 : decode cX8_put 18 = .ok (.iload_n 3, 1) := by decide +kernel
theorem dX8_put_19 : decode cX8_put 19 = .ok (.iastore, 1) := by decide +kernel
theorem dX8_put_20 : decode cX8_put 20 = .ok (.return_, 1) := by decide +kernel
theorem dX8_remove_0 : decode cX8_remove 0 = .ok (.aload_n 0, 1) := by decide +kernel
theorem dX8_remove_1 : decode cX8_remove 1 = .ok (.iload_n 1, 1) := by decide +kernel
theorem dX8_remove_2 : decode cX8_remove 2 = .ok (.invokevirtual 41, 3) := by decide +kernel
theorem dX8_remove_5 : decode cX8_remove 5 = .ok (.ifCond .ne 4, 3) := by decide +kernel
theorem dX8_remove_8 : decode cX8_remove 8 = .ok (.return_, 1) := by decide +kernel
theorem dX8_remove_9 : decode cX8_remove 9 = .ok (.iload_n 1, 1) := by decide +kernel
theorem dX8_remove_10 : decode cX8_remove 10 = .ok (.iconst 1, 1) := by decide +kernel
theorem dX8_remove_11 : decode cX8_remove 11 = .ok (.iadd, 1) := by decide +kernel
theorem dX8_remove_12 : decode cX8_remove 12 = .ok (.istore_n 2, 1) := by decide +kernel
theorem dX8_remove_13 : decode cX8_remove 13 = .ok (.iload_n 2, 1) := by decide +kernel
theorem dX8_remove_14 : decode cX8_remove 14 = .ok (.aload_n 0, 1) := by decide +kernel
theorem dX8_remove_15 : decode cX8_remove 15 = .ok (.getfield 15, 3) := by decide +kernel
theorem dX8_remove_18 : decode cX8_remove 18 = .ok (.if_icmp .ge 37, 3) := by decide +kernel
theorem dX8_remove_21 : decode cX8_remove 21 = .ok (.iconst 0, 1) := by decide +kernel
theorem dX8_remove_22 : decode cX8_remove 22 = .ok (.istore_n 3, 1) := by decide +kernel
theorem dX8_remove_23 : decode cX8_remove 23 = .ok (.iload_n 3, 1) := by decide +kernel
theorem dX8_remove_24 : decode cX8_remove 24 = .ok (.bipush 8, 2) := by decide +kernel
theorem dX8_remove_26 : decode cX8_remove 26 = .ok (.if_icmp .ge 23, 3) := by decide +kernel
theorem dX8_remove_29 : decode cX8_remove 29 = .ok (.aload_n 0, 1) := by decide +kernel
theorem dX8_remove_30 : decode cX8_remove 30 = .ok (.iload_n 2, 1) := by decide +kernel
theorem dX8_remove_31 : decode cX8_remove 31 = .ok (.iconst 1, 1) := by decide +kernel
theorem dX8_remove_32 : decode cX8_remove 32 = .ok (.isub, 1) := by decide +kernel
theorem dX8_remove_33 : decode cX8_remove 33 = .ok (.iload_n 3, 1) := by decide +kernel
theorem dX8_remove_34 : decode cX8_remove 34 = .ok (.aload_n 0, 1) := by decide +kernel
theorem dX8_remove_35 : decode cX8_remove 35 = .ok (.iload_n 2, 1) := by decide +kernel
theorem dX8_remove_36 : decode cX8_remove 36 = .ok (.iload_n 3, 1) := by decide +kernel
theorem dX8_remove_37 : decode cX8_remove 37 = .ok (.invokevirtual 23, 3) := by decide +kernel
theorem dX8_remove_40 : decode cX8_remove 40 = .ok (.invokevirtual 45, 3) := by decide +kernel
theorem dX8_remove_43 : decode cX8_remove 43 = .ok (.iinc 3 1, 3) := by decide +kernel
theorem dX8_remove_46 : decode cX8_remove 46 = .ok (.goto (-23), 3) := by decide +kernel
theorem dX8_remove_49 : decode cX8_remove 49 = .ok (.iinc 2 1, 3) := by decide +kernel
theorem dX8_remove_52 : decode cX8_remove 52 = .ok (.goto (-39), 3) := by decide +kernel
theorem dX8_remove_55 : decode cX8_remove 55 = .ok (.aload_n 0, 1) := by decide +kernel
theorem dX8_remove_56 : decode cX8_remove 56 = .ok (.dup, 1) := by decide +kernel
theorem dX8_remove_57 : decode cX8_remove 57 = .ok (.getfield 15, 3) := by decide +kernel
theorem dX8_remove_60 : decode cX8_remove 60 = .ok (.iconst 1, 1) := by decide +kernel
theorem dX8_remove_61 : decode cX8_remove 61 = .ok (.isub, 1) := by decide +kernel
theorem dX8_remove_62 : decode cX8_remove 62 = .ok (.putfield 15, 3) := by decide +kernel
theorem dX8_remove_65 : decode cX8_remove 65 = .ok (.return_, 1) := by decide +kernel
theorem dX8_sameAs_0 : decode cX8_sameAs 0 = .ok (.aload_n 0, 1) := by decide +kernel
theorem dX8_sameAs_1 : decode cX8_sameAs 1 = .ok (.getfield 15, 3) := by decide +kernel
theorem dX8_sameAs_4 : decode cX8_sameAs 4 = .ok (.aload_n 1, 1) := by decide +kernel
theorem dX8_sameAs_5 : decode cX8_sameAs 5 = .ok (.getfield 15, 3) := by decide +kernel
theorem dX8_sameAs_8 : decode cX8_sameAs 8 = .ok (.if_icmp .eq 5, 3) := by decide +kernel
theorem dX8_sameAs_11 : decode cX8_sameAs 11 = .ok (.iconst 0, 1) := by decide +kernel
theorem dX8_sameAs_12 : decode cX8_sameAs 12 = .ok (.ireturn, 1) := by decide +kernel
theorem dX8_sameAs_13 : decode cX8_sameAs 13 = .ok (.iconst 0, 1) := by decide +kernel
theorem dX8_sameAs_14 : decode cX8_sameAs 14 = .ok (.istore_n 3, 1) := by decide +kernel
theorem dX8_sameAs_15 : decode cX8_sameAs 15 = .ok (.iload_n 3, 1) := by decide +kernel
theorem dX8_sameAs_16 : decode cX8_sameAs 16 = .ok (.aload_n 0, 1) := by decide +kernel
theorem dX8_sameAs_17 : decode cX8_sameAs 17 = .ok (.getfield 15, 3) := by decide +kernel
theorem dX8_sameAs_20 : decode cX8_sameAs 20 = .ok (.if_icmp .ge 22, 3) := by decide +kernel
theorem dX8_sameAs_23 : decode cX8_sameAs 23 = .ok (.aload_n 0, 1) := by decide +kernel
theorem dX8_sameAs_24 : decode cX8_sameAs 24 = .ok (.iload_n 3, 1) := by decide +kernel
theorem dX8_sameAs_25 : decode cX8_sameAs 25 = .ok (.aload_n 1, 1) := by decide +kernel
theorem dX8_sameAs_26 : decode cX8_sameAs 26 = .ok (.iload_n 3, 1) := by decide +kernel
theorem dX8_sameAs_27 : decode cX8_sameAs 27 = .ok (.iload_n 2, 1) := by decide +kernel
theorem dX8_sameAs_28 : decode cX8_sameAs 28 = .ok (.invokevirtual 31, 3) := by decide +kernel
theorem dX8_sameAs_31 : decode cX8_sameAs 31 = .ok (.ifCond .ne 5, 3) := by decide +kernel
theorem dX8_sameAs_34 : decode cX8_sameAs 34 = .ok (.iconst 0, 1) := by decide +kernel
theorem dX8_sameAs_35 : decode cX8_sameAs 35 = .ok (.ireturn, 1) := by decide +kernel
theorem dX8_sameAs_36 : decode cX8_sameAs 36 = .ok (.iinc 3 1, 3) := by decide +kernel
theorem dX8_sameAs_39 : decode cX8_sameAs 39 = .ok (.goto (-24), 3) := by decide +kernel
theorem dX8_sameAs_42 : decode cX8_sameAs 42 = .ok (.iconst 1, 1) := by decide +kernel
theorem dX8_sameAs_43 : decode cX8_sameAs 43 = .ok (.ireturn, 1) := by decide +kernel
theorem dX8_sameRow_0 : decode cX8_sameRow 0 = .ok (.iconst 0, 1) := by decide +kernel
theorem dX8_sameRow_1 : decode cX8_sameRow 1 = .ok (.istore 5, 2) := by decide +kernel
theorem dX8_sameRow_3 : decode cX8_sameRow 3 = .ok (.iload 5, 2) := by decide +kernel
theorem dX8_sameRow_5 : decode cX8_sameRow 5 = .ok (.iload 4, 2) := by decide +kernel
theorem dX8_sameRow_7 : decode cX8_sameRow 7 = .ok (.if_icmp .ge 28, 3) := by decide +kernel
theorem dX8_sameRow_10 : decode cX8_sameRow 10 = .ok (.aload_n 0, 1) := by decide +kernel
theorem dX8_sameRow_11 : decode cX8_sameRow 11 = .ok (.iload_n 1, 1) := by decide +kernel
theorem dX8_sameRow_12 : decode cX8_sameRow 12 = .ok (.iload 5, 2) := by decide +kernel
theorem dX8_sameRow_14 : decode cX8_sameRow 14 = .ok (.invokevirtual 23, 3) := by decide +kernel
theorem dX8_sameRow_17 : decode cX8_sameRow 17 = .ok (.aload_n 2, 1) := by decide +kernel
theorem dX8_sameRow_18 : decode cX8_sameRow 18 = .ok (.iload_n 3, 1) := by decide +kernel
theorem dX8_sameRow_19 : decode cX8_sameRow 19 = .ok (.iload 5, 2) := by decide +kernel
theorem dX8_sameRow_21 : decode cX8_sameRow 21 = .ok (.invokevirtual 23, 3) := by decide +kernel
theorem dX8_sameRow_24 : decode cX8_sameRow 24 = .ok (.if_icmp .eq 5, 3) := by decide +kernel
theorem dX8_sameRow_27 : decode cX8_sameRow 27 = .ok (.iconst 0, 1) := by decide +kernel
theorem dX8_sameRow_28 : decode cX8_sameRow 28 = .ok (.ireturn, 1) := by decide +kernel
theorem dX8_sameRow_29 : decode cX8_sameRow 29 = .ok (.iinc 5 1, 3) := by decide +kernel
theorem dX8_sameRow_32 : decode cX8_sameRow 32 = .ok (.goto (-29), 3) := by decide +kernel
theorem dX8_sameRow_35 : decode cX8_sameRow 35 = .ok (.iconst 1, 1) := by decide +kernel
theorem dX8_sameRow_36 : decode cX8_sameRow 36 = .ok (.ireturn, 1) := by decide +kernel
theorem dX8_size_0 : decode cX8_size 0 = .ok (.aload_n 0, 1) := by decide +kernel
theorem dX8_size_1 : decode cX8_size 1 = .ok (.getfield 15, 3) := by decide +kernel
theorem dX8_size_4 : decode cX8_size 4 = .ok (.ireturn, 1) := by decide +kernel
theorem dX8_thingAt_0 : decode cX8_thingAt 0 = .ok (.iload_n 1, 1) := by decide +kernel
theorem dX8_thingAt_1 : decode cX8_thingAt 1 = .ok (.iload_n 2, 1) := by decide +kernel
theorem dX8_thingAt_2 : decode cX8_thingAt 2 = .ok (.invokestatic 19, 3) := by decide +kernel
theorem dX8_thingAt_5 : decode cX8_thingAt 5 = .ok (.ifCond .eq 17, 3) := by decide +kernel
theorem dX8_thingAt_8 : decode cX8_thingAt 8 = .ok (.aload_n 0, 1) := by decide +kernel
theorem dX8_thingAt_9 : decode cX8_thingAt 9 = .ok (.getfield 9, 3) := by decide +kernel
theorem dX8_thingAt_12 : decode cX8_thingAt 12 = .ok (.iload_n 1, 1) := by decide +kernel
theorem dX8_thingAt_13 : decode cX8_thingAt 13 = .ok (.bipush 8, 2) := by decide +kernel
theorem dX8_thingAt_15 : decode cX8_thingAt 15 = .ok (.imul, 1) := by decide +kernel
theorem dX8_thingAt_16 : decode cX8_thingAt 16 = .ok (.iload_n 2, 1) := by decide +kernel
theorem dX8_thingAt_17 : decode cX8_thingAt 17 = .ok (.iadd, 1) := by decide +kernel
theorem dX8_thingAt_18 : decode cX8_thingAt 18 = .ok (.iaload, 1) := by decide +kernel
theorem dX8_thingAt_19 : decode cX8_thingAt 19 = .ok (.goto 4, 3) := by decide +kernel
theorem dX8_thingAt_22 : decode cX8_thingAt 22 = .ok (.iconst (-1), 1) := by decide +kernel
theorem dX8_thingAt_23 : decode cX8_thingAt 23 = .ok (.ireturn, 1) := by decide +kernel
theorem dX8_turnOver_0 : decode cX8_turnOver 0 = .ok (.iconst 0, 1) := by decide +kernel
theorem dX8_turnOver_1 : decode cX8_turnOver 1 = .ok (.istore_n 2, 1) := by decide +kernel
theorem dX8_turnOver_2 : decode cX8_turnOver 2 = .ok (.iload_n 2, 1) := by decide +kernel
theorem dX8_turnOver_3 : decode cX8_turnOver 3 = .ok (.aload_n 0, 1) := by decide +kernel
theorem dX8_turnOver_4 : decode cX8_turnOver 4 = .ok (.getfield 15, 3) := by decide +kernel
theorem dX8_turnOver_7 : decode cX8_turnOver 7 = .ok (.if_icmp .ge 61, 3) := by decide +kernel
theorem dX8_turnOver_10 : decode cX8_turnOver 10 = .ok (.iconst 0, 1) := by decide +kernel
theorem dX8_turnOver_11 : decode cX8_turnOver 11 = .ok (.istore_n 3, 1) := by decide +kernel
theorem dX8_turnOver_12 : decode cX8_turnOver 12 = .ok (.iload_n 1, 1) := by decide +kernel
theorem dX8_turnOver_13 : decode cX8_turnOver 13 = .ok (.iconst 1, 1) := by decide +kernel
theorem dX8_turnOver_14 : decode cX8_turnOver 14 = .ok (.isub, 1) := by decide +kernel
theorem dX8_turnOver_15 : decode cX8_turnOver 15 = .ok (.istore 4, 2) := by decide +kernel
theorem dX8_turnOver_17 : decode cX8_turnOver 17 = .ok (.iload_n 3, 1) := by decide +kernel
theorem dX8_turnOver_18 : decode cX8_turnOver 18 = .ok (.iload 4, 2) := by decide +kernel
theorem dX8_turnOver_20 : decode cX8_turnOver 20 = .ok (.if_icmp .ge 42, 3) := by decide +kernel
theorem dX8_turnOver_23 : decode cX8_turnOver 23 = .ok (.aload_n 0, 1) := by decide +kernel
theorem dX8_turnOver_24 : decode cX8_turnOver 24 = .ok (.iload_n 2, 1) := by decide +kernel
theorem dX8_turnOver_25 : decode cX8_turnOver 25 = .ok (.iload_n 3, 1) := by decide +kernel
theorem dX8_turnOver_26 : decode cX8_turnOver 26 = .ok (.invokevirtual 23, 3) := by decide +kernel
theorem dX8_turnOver_29 : decode cX8_turnOver 29 = .ok (.istore 5, 2) := by decide +kernel
theorem dX8_turnOver_31 : decode cX8_turnOver 31 = .ok (.aload_n 0, 1) := by decide +kernel
theorem dX8_turnOver_32 : decode cX8_turnOver 32 = .ok (.iload_n 2, 1) := by decide +kernel
theorem dX8_turnOver_33 : decode cX8_turnOver 33 = .ok (.iload_n 3, 1) := by decide +kernel
theorem dX8_turnOver_34 : decode cX8_turnOver 34 = .ok (.aload_n 0, 1) := by decide +kernel
theorem dX8_turnOver_35 : decode cX8_turnOver 35 = .ok (.iload_n 2, 1) := by decide +kernel
theorem dX8_turnOver_36 : decode cX8_turnOver 36 = .ok (.iload 4, 2) := by decide +kernel
theorem dX8_turnOver_38 : decode cX8_turnOver 38 = .ok (.invokevirtual 23, 3) := by decide +kernel
theorem dX8_turnOver_41 : decode cX8_turnOver 41 = .ok (.invokevirtual 45, 3) := by decide +kernel
theorem dX8_turnOver_44 : decode cX8_turnOver 44 = .ok (.aload_n 0, 1) := by decide +kernel
theorem dX8_turnOver_45 : decode cX8_turnOver 45 = .ok (.iload_n 2, 1) := by decide +kernel
theorem dX8_turnOver_46 : decode cX8_turnOver 46 = .ok (.iload 4, 2) := by decide +kernel
theorem dX8_turnOver_48 : decode cX8_turnOver 48 = .ok (.iload 5, 2) := by decide +kernel
theorem dX8_turnOver_50 : decode cX8_turnOver 50 = .ok (.invokevirtual 45, 3) := by decide +kernel
theorem dX8_turnOver_53 : decode cX8_turnOver 53 = .ok (.iinc 3 1, 3) := by decide +kernel
theorem dX8_turnOver_56 : decode cX8_turnOver 56 = .ok (.iinc 4 (-1), 3) := by decide +kernel
theorem dX8_turnOver_59 : decode cX8_turnOver 59 = .ok (.goto (-42), 3) := by decide +kernel
theorem dX8_turnOver_62 : decode cX8_turnOver 62 = .ok (.iinc 2 1, 3) := by decide +kernel
theorem dX8_turnOver_65 : decode cX8_turnOver 65 = .ok (.goto (-63), 3) := by decide +kernel
theorem dX8_turnOver_68 : decode cX8_turnOver 68 = .ok (.return_, 1) := by decide +kernel
theorem dX9_canStand_0 : decode cX9_canStand 0 = .ok (.aload_n 0, 1) := by decide +kernel
theorem dX9_canStand_1 : decode cX9_canStand 1 = .ok (.getfield 18, 3) := by decide +kernel
theorem dX9_canStand_4 : decode cX9_canStand 4 = .ok (.iload_n 1, 1) := by decide +kernel
theorem dX9_canStand_5 : decode cX9_canStand 5 = .ok (.iaload, 1) := by decide +kernel
theorem dX9_canStand_6 : decode cX9_canStand 6 = .ok (.bipush 8, 2) := by decide +kernel
theorem dX9_canStand_8 : decode cX9_canStand 8 = .ok (.imul, 1) := by decide +kernel
theorem dX9_canStand_9 : decode cX9_canStand 9 = .ok (.istore_n 2, 1) := by decide +kernel
theorem dX9_canStand_10 : decode cX9_canStand 10 = .ok (.aload_n 0, 1) := by decide +kernel
theorem dX9_canStand_11 : decode cX9_canStand 11 = .ok (.getfield 24, 3) := by decide +kernel
theorem dX9_canStand_14 : decode cX9_canStand 14 = .ok (.iload_n 2, 1) := by decide +kernel
theorem dX9_canStand_15 : decode cX9_canStand 15 = .ok (.aload_n 0, 1) := by decide +kernel
theorem dX9_canStand_16 : decode cX9_canStand 16 = .ok (.getfield 9, 3) := by decide +kernel
theorem dX9_canStand_19 : decode cX9_canStand 19 = .ok (.iload_n 1, 1) := by decide +kernel
theorem dX9_canStand_20 : decode cX9_canStand 20 = .ok (.iaload, 1) := by decide +kernel
theorem dX9_canStand_21 : decode cX9_canStand 21 = .ok (.iadd, 1) := by decide +kernel
theorem dX9_canStand_22 : decode cX9_canStand 22 = .ok (.iaload, 1) := by decide +kernel
theorem dX9_canStand_23 : decode cX9_canStand 23 = .ok (.aload_n 0, 1) := by decide +kernel
theorem dX9_canStand_24 : decode cX9_canStand 24 = .ok (.getfield 15, 3) := by decide +kernel
theorem dX9_canStand_27 : decode cX9_canStand 27 = .ok (.iload_n 1, 1) := by decide +kernel
theorem dX9_canStand_28 : decode cX9_canStand 28 = .ok (.iaload, 1) := by decide +kernel
theorem dX9_canStand_29 : decode cX9_canStand 29 = .ok (.ishr, 1) := by decide +kernel
theorem dX9_canStand_30 : decode cX9_canStand 30 = .ok (.iconst 1, 1) := by decide +kernel
theorem dX9_canStand_31 : decode cX9_canStand 31 = .ok (.iand, 1) := by decide +kernel
theorem dX9_canStand_32 : decode cX9_canStand 32 = .ok (.ifCond .ne 7, 3) := by decide +kernel
theorem dX9_canStand_35 : decode cX9_canStand 35 = .ok (.iconst 1, 1) := by decide +kernel
theorem dX9_canStand_36 : decode cX9_canStand 36 = .ok (.goto 4, 3) := by decide +kernel
theorem dX9_canStand_39 : decode cX9_canStand 39 = .ok (.iconst 0, 1) := by decide +kernel
theorem dX9_canStand_40 : decode cX9_canStand 40 = .ok (.ireturn, 1) := by decide +kernel
theorem dX9_collect_0 : decode cX9_collect 0 = .ok (.aload_n 0, 1) := by decide +kernel
theorem dX9_collect_1 : decode cX9_collect 1 = .ok (.iconst 0, 1) := by decide +kernel
theorem dX9_collect_2 : decode cX9_collect 2 = .ok (.putfield 30, 3) := by decide +kernel
theorem dX9_collect_5 : decode cX9_collect 5 = .ok (.iconst 0, 1) := by decide +kernel
theorem dX9_collect_6 : decode cX9_collect 6 = .ok (.istore_n 2, 1) := by decide +kernel
theorem dX9_collect_7 : decode cX9_collect 7 = .ok (.iload_n 2, 1) := by decide +kernel
theorem dX9_collect_8 : decode cX9_collect 8 = .ok (.aload_n 1, 1) := by decide +kernel
theorem dX9_collect_9 : decode cX9_collect 9 = .ok (.invokevirtual 34, 3) := by decide +kernel
theorem dX9_collect_12 : decode cX9_collect 12 = .ok (.if_icmp .ge 73, 3) := by decide +kernel
theorem dX9_collect_15 : decode cX9_collect 15 = .ok (.iconst 0, 1) := by decide +kernel
theorem dX9_collect_16 : decode cX9_collect 16 = .ok (.istore_n 3, 1) := by decide +kernel
theorem dX9_collect_17 : decode cX9_collect 17 = .ok (.iload_n 3, 1) := by decide +kernel
theorem dX9_collect_18 : decode cX9_collect 18 = .ok (.aload_n 1, 1) := by decide +kernel
theorem dX9_collect_19 : decode cX9_collect 19 = .ok (.invokevirtual 34, 3) := by decide +kernel
theorem dX9_collect_22 : decode cX9_collect 22 = .ok (.if_icmp .ge 57, 3) := by decide +kernel
theorem dX9_collect_25 : decode cX9_collect 25 = .ok (.aload_n 0, 1) := by decide +kernel
theorem dX9_collect_26 : decode cX9_collect 26 = .ok (.getfield 30, 3) := by decide +kernel
theorem dX9_collect_29 : decode cX9_collect 29 = .ok (.bipush 56, 2) := by decide +kernel
theorem dX9_collect_31 : decode cX9_collect 31 = .ok (.if_icmp .ge 42, 3) := by decide +kernel
theorem dX9_collect_34 : decode cX9_collect 34 = .ok (.aload_n 1, 1) := by decide +kernel
theorem dX9_collect_35 : decode cX9_collect 35 = .ok (.iload_n 2, 1) := by decide +kernel
theorem dX9_collect_36 : decode cX9_collect 36 = .ok (.iload_n 3, 1) := by decide +kernel
theorem dX9_collect_37 : decode cX9_collect 37 = .ok (.invokestatic 39, 3) := by decide +kernel
theorem dX9_collect_40 : decode cX9_collect 40 = .ok (.ifCond .eq 33, 3) := by decide +kernel
theorem dX9_collect_43 : decode cX9_collect 43 = .ok (.aload_n 0, 1) := by decide +kernel
theorem dX9_collect_44 : decode cX9_collect 44 = .ok (.getfield 9, 3) := by decide +kernel
theorem dX9_collect_47 : decode cX9_collect 47 = .ok (.aload_n 0, 1) := by decide +kernel
theorem dX9_collect_48 : decode cX9_collect 48 = .ok (.getfield 30, 3) := by decide +kernel
theorem dX9_collect_51 : decode cX9_collect 51 = .ok (.iload_n 2, 1) := by decide +kernel
theorem dX9_collect_52 : decode cX9_collect 52 = .ok (.iastore, 1) := by decide +kernel
theorem dX9_collect_53 : decode cX9_collect 53 = .ok (.aload_n 0, 1) := by decide +kernel
theorem dX9_collect_54 : decode cX9_collect 54 = .ok (.getfield 15, 3) := by decide +kernel
theorem dX9_collect_57 : decode cX9_collect 57 = .ok (.aload_n 0, 1) := by decide +kernel
theorem dX9_collect_58 : decode cX9_collect 58 = .ok (.getfield 30, 3) := by decide +kernel
theorem dX9_collect_61 : decode cX9_collect 61 = .ok (.iload_n 3, 1) := by decide +kernel
theorem dX9_collect_62 : decode cX9_collect 62 = .ok (.iastore, 1) := by decide +kernel
theorem dX9_collect_63 : decode cX9_collect 63 = .ok (.aload_n 0, 1) := by decide +kernel
theorem dX9_collect_64 : decode cX9_collect 64 = .ok (.dup, 1) := by decide +kernel
theorem dX9_collect_65 : decode cX9_collect 65 = .ok (.getfield 30, 3) := by decide +kernel
theorem dX9_collect_68 : decode cX9_collect 68 = .ok (.iconst 1, 1) := by decide +kernel
theorem dX9_collect_69 : decode cX9_collect 69 = .ok (.iadd, 1) := by decide +kernel
theorem dX9_collect_70 : decode cX9_collect 70 = .ok (.putfield 30, 3) := by decide +kernel
theorem dX9_collect_73 : decode cX9_collect 73 = .ok (.iinc 3 1, 3) := by decide +kernel
theorem dX9_collect_76 : decode cX9_collect 76 = .ok (.goto (-59), 3) := by decide +kernel
theorem dX9_collect_79 : decode cX9_collect 79 = .ok (.iinc 2 1, 3) := by decide +kernel
theorem dX9_collect_82 : decode cX9_collect 82 = .ok (.goto (-75), 3) := by decide +kernel
theorem dX9_collect_85 : decode cX9_collect 85 = .ok (.return_, 1) := by decide +kernel
theorem dX9_firstOf_0 : decode cX9_firstOf 0 = .ok (.iconst 0, 1) := by decide +kernel
theorem dX9_firstOf_1 : decode cX9_firstOf 1 = .ok (.istore 4, 2) := by decide +kernel
theorem dX9_firstOf_3 : decode cX9_firstOf 3 = .ok (.iconst 0, 1) := by decide +kernel
theorem dX9_firstOf_4 : decode cX9_firstOf 4 = .ok (.istore 5, 2) := by decide +kernel
theorem dX9_firstOf_6 : decode cX9_firstOf 6 = .ok (.iload 5, 2) := by decide +kernel
theorem dX9_firstOf_8 : decode cX9_firstOf 8 = .ok (.aload_n 1, 1) := by decide +kernel
theorem dX9_firstOf_9 : decode cX9_firstOf 9 = .ok (.invokevirtual 34, 3) := by decide +kernel
theorem dX9_firstOf_12 : decode cX9_firstOf 12 = .ok (.if_icmp .ge 36, 3) := by decide +kernel
theorem dX9_firstOf_15 : decode cX9_firstOf 15 = .ok (.iload_n 3, 1) := by decide +kernel
theorem dX9_firstOf_16 : decode cX9_firstOf 16 = .ok (.iload 5, 2) := by decide +kernel
theorem dX9_firstOf_18 : decode cX9_firstOf 18 = .ok (.ishr, 1) := by decide +kernel
theorem dX9_firstOf_19 : decode cX9_firstOf 19 = .ok (.iconst 1, 1) := by decide +kernel
theorem dX9_firstOf_20 : decode cX9_firstOf 20 = .ok (.iand, 1) := by decide +kernel
theorem dX9_firstOf_21 : decode cX9_firstOf 21 = .ok (.iconst 1, 1) := by decide +kernel
theorem dX9_firstOf_22 : decode cX9_firstOf 22 = .ok (.if_icmp .ne 20, 3) := by decide +kernel
theorem dX9_firstOf_25 : decode cX9_firstOf 25 = .ok (.iload 4, 2) := by decide +kernel
theorem dX9_firstOf_27 : decode cX9_firstOf 27 = .ok (.aload_n 0, 1) := by decide +kernel
theorem dX9_firstOf_28 : decode cX9_firstOf 28 = .ok (.getfield 24, 3) := by decide +kernel
theorem dX9_firstOf_31 : decode cX9_firstOf 31 = .ok (.iload_n 2, 1) := by decide +kernel
theorem dX9_firstOf_32 : decode cX9_firstOf 32 = .ok (.bipush 8, 2) := by decide +kernel
theorem dX9_firstOf_34 : decode cX9_firstOf 34 = .ok (.imul, 1) := by decide +kernel
theorem dX9_firstOf_35 : decode cX9_firstOf 35 = .ok (.iload 5, 2) := by decide +kernel
theorem dX9_firstOf_37 : decode cX9_firstOf 37 = .ok (.iadd, 1) := by decide +kernel
theorem dX9_firstOf_38 : decode cX9_firstOf 38 = .ok (.iaload, 1) := by decide +kernel
theorem dX9_firstOf_39 : decode cX9_firstOf 39 = .ok (.ior, 1) := by decide +kernel
theorem dX9_firstOf_40 : decode cX9_firstOf 40 = .ok (.istore 4, 2) := by decide +kernel
theorem dX9_firstOf_42 : decode cX9_firstOf 42 = .ok (.iinc 5 1, 3) := by decide +kernel
theorem dX9_firstOf_45 : decode cX9_firstOf 45 = .ok (.goto (-39), 3) := by decide +kernel
theorem dX9_firstOf_48 : decode cX9_firstOf 48 = .ok (.iconst 0, 1) := by decide +kernel
theorem dX9_firstOf_49 : decode cX9_firstOf 49 = .ok (.istore 5, 2) := by decide +kernel
theorem dX9_firstOf_51 : decode cX9_firstOf 51 = .ok (.iload 5, 2) := by decide +kernel
theorem dX9_firstOf_53 : decode cX9_firstOf 53 = .ok (.aload_n 1, 1) := by decide +kernel
theorem dX9_firstOf_54 : decode cX9_firstOf 54 = .ok (.invokevirtual 34, 3) := by decide +kernel
theorem dX9_firstOf_57 : decode cX9_firstOf 57 = .ok (.if_icmp .ge 27, 3) := by decide +kernel
theorem dX9_firstOf_60 : decode cX9_firstOf 60 = .ok (.iload_n 3, 1) := by decide +kernel
theorem dX9_firstOf_61 : decode cX9_firstOf 61 = .ok (.iload 4, 2) := by decide +kernel
theorem dX9_firstOf_63 : decode cX9_firstOf 63 = .ok (.iconst (-1), 1) := by decide +kernel
theorem dX9_firstOf_64 : decode cX9_firstOf 64 = .ok (.ixor, 1) := by decide +kernel
theorem dX9_firstOf_65 : decode cX9_firstOf 65 = .ok (.iand, 1) := by decide +kernel
theorem dX9_firstOf_66 : decode cX9_firstOf 66 = .ok (.iload 5, 2) := by decide +kernel
theorem dX9_firstOf_68 : decode cX9_firstOf 68 = .ok (.ishr, 1) := by decide +kernel
theorem dX9_firstOf_69 : decode cX9_firstOf 69 = .ok (.iconst 1, 1) := by decide +kernel
theorem dX9_firstOf_70 : decode cX9_firstOf 70 = .ok (.iand, 1) := by decide +kernel
theorem dX9_firstOf_71 : decode cX9_firstOf 71 = .ok (.iconst 1, 1) := by decide +kernel
theorem dX9_firstOf_72 : decode cX9_firstOf 72 = .ok (.if_icmp .ne 6, 3) := by decide +kernel
theorem dX9_firstOf_75 : decode cX9_firstOf 75 = .ok (.iload 5, 2) := by decide +kernel
theorem dX9_firstOf_77 : decode cX9_firstOf 77 = .ok (.ireturn, 1) := by decide +kernel
theorem dX9_firstOf_78 : decode cX9_firstOf 78 = .ok (.iinc 5 1, 3) := by decide +kernel
theorem dX9_firstOf_81 : decode cX9_firstOf 81 = .ok (.goto (-30), 3) := by decide +kernel
theorem dX9_firstOf_84 : decode cX9_firstOf 84 = .ok (.iconst 0, 1) := by decide +kernel
theorem dX9_firstOf_85 : decode cX9_firstOf 85 = .ok (.ireturn, 1) := by decide +kernel
theorem dX9_init_0 : decode cX9_init 0 = .ok (.aload_n 0, 1) := by decide +kernel
theorem dX9_init_1 : decode cX9_init 1 = .ok (.invokespecial 3, 3) := by decide +kernel
theorem dX9_init_4 : decode cX9_init 4 = .ok (.aload_n 0, 1) := by decide +kernel
theorem dX9_init_5 : decode cX9_init 5 = .ok (.bipush 56, 2) := by decide +kernel
theorem dX9_init_7 : decode cX9_init 7 = .ok (.newarray .int, 2) := by decide +kernel
theorem dX9_init_9 : decode cX9_init 9 = .ok (.putfield 9, 3) := by decide +kernel
theorem dX9_init_12 : decode cX9_init 12 = .ok (.aload_n 0, 1) := by decide +kernel
theorem dX9_init_13 : decode cX9_init 13 = .ok (.bipush 56, 2) := by decide +kernel
theorem dX9_init_15 : decode cX9_init 15 = .ok (.newarray .int, 2) := by decide +kernel
theorem dX9_init_17 : decode cX9_init 17 = .ok (.putfield 15, 3) := by decide +kernel
theorem dX9_init_20 : decode cX9_init 20 = .ok (.aload_n 0, 1) := by decide +kernel
theorem dX9_init_21 : decode cX9_init 21 = .ok (.bipush 56, 2) := by decide +kernel
theorem dX9_init_23 : decode cX9_init 23 = .ok (.newarray .int, 2) := by decide +kernel
theorem dX9_init_25 : decode cX9_init 25 = .ok (.putfield 18, 3) := by decide +kernel
theorem dX9_init_28 : decode cX9_init 28 = .ok (.aload_n 0, 1) := by decide +kernel
theorem dX9_init_29 : decode cX9_init 29 = .ok (.bipush 57, 2) := by decide +kernel
theorem dX9_init_31 : decode cX9_init 31 = .ok (.newarray .int, 2) := by decide +kernel
theorem dX9_init_33 : decode cX9_init 33 = .ok (.putfield 21, 3) := by decide +kernel
theorem dX9_init_36 : decode cX9_init 36 = .ok (.aload_n 0, 1) := by decide +kernel
theorem dX9_init_37 : decode cX9_init 37 = .ok (.bipush 32, 2) := by decide +kernel
theorem dX9_init_39 : decode cX9_init 39 = .ok (.newarray .int, 2) := by decide +kernel
theorem dX9_init_41 : decode cX9_init 41 = .ok (.putfield 24, 3) := by decide +kernel
theorem dX9_init_44 : decode cX9_init 44 = .ok (.aload_n 0, 1) := by decide +kernel
theorem dX9_init_45 : decode cX9_init 45 = .ok (.sipush 448, 3) := by decide +kernel
theorem dX9_init_48 : decode cX9_init 48 = .ok (.newarray .int, 2) := by decide +kernel
theorem dX9_init_50 : decode cX9_init 50 = .ok (.putfield 27, 3) := by decide +kernel
theorem dX9_init_53 : decode cX9_init 53 = .ok (.return_, 1) := by decide +kernel
theorem dX9_isCritical_0 : decode cX9_isCritical 0 = .ok (.aload_n 0, 1) := by decide +kernel
theorem dX9_isCritical_1 : decode cX9_isCritical 1 = .ok (.iload_n 1, 1) := by decide +kernel
theorem dX9_isCritical_2 : decode cX9_isCritical 2 = .ok (.invokevirtual 43, 3) := by decide +kernel
theorem dX9_isCritical_5 : decode cX9_isCritical 5 = .ok (.iload_n 2, 1) := by decide +kernel
theorem dX9_isCritical_6 : decode cX9_isCritical 6 = .ok (.ishr, 1) := by decide +kernel
theorem dX9_isCritical_7 : decode cX9_isCritical 7 = .ok (.iconst 1, 1) := by decide +kernel
theorem dX9_isCritical_8 : decode cX9_isCritical 8 = .ok (.iand, 1) := by decide +kernel
theorem dX9_isCritical_9 : decode cX9_isCritical 9 = .ok (.iconst 1, 1) := by decide +kernel
theorem dX9_isCritical_10 : decode cX9_isCritical 10 = .ok (.if_icmp .ne 39, 3) := by decide +kernel
theorem dX9_isCritical_13 : decode cX9_isCritical 13 = .ok (.aload_n 0, 1) := by decide +kernel
theorem dX9_isCritical_14 : decode cX9_isCritical 14 = .ok (.iload_n 1, 1) := by decide +kernel
theorem dX9_isCritical_15 : decode cX9_isCritical 15 = .ok (.invokevirtual 47, 3) := by decide +kernel
theorem dX9_isCritical_18 : decode cX9_isCritical 18 = .ok (.aload_n 0, 1) := by decide +kernel
theorem dX9_isCritical_19 : decode cX9_isCritical 19 = .ok (.iload_n 2, 1) := by decide +kernel
theorem dX9_isCritical_20 : decode cX9_isCritical 20 = .ok (.invokevirtual 47, 3) := by decide +kernel
theorem dX9_isCritical_23 : decode cX9_isCritical 23 = .ok (.iconst (-1), 1) := by decide +kernel
theorem dX9_isCritical_24 : decode cX9_isCritical 24 = .ok (.ixor, 1) := by decide +kernel
theorem dX9_isCritical_25 : decode cX9_isCritical 25 = .ok (.iand, 1) := by decide +kernel
theorem dX9_isCritical_26 : decode cX9_isCritical 26 = .ok (.ifCond .ne 23, 3) := by decide +kernel
theorem dX9_isCritical_29 : decode cX9_isCritical 29 = .ok (.aload_n 0, 1) := by decide +kernel
theorem dX9_isCritical_30 : decode cX9_isCritical 30 = .ok (.iload_n 2, 1) := by decide +kernel
theorem dX9_isCritical_31 : decode cX9_isCritical 31 = .ok (.invokevirtual 50, 3) := by decide +kernel
theorem dX9_isCritical_34 : decode cX9_isCritical 34 = .ok (.aload_n 0, 1) := by decide +kernel
theorem dX9_isCritical_35 : decode cX9_isCritical 35 = .ok (.iload_n 1, 1) := by decide +kernel
theorem dX9_isCritical_36 : decode cX9_isCritical 36 = .ok (.invokevirtual 50, 3) := by decide +kernel
theorem dX9_isCritical_39 : decode cX9_isCritical 39 = .ok (.iconst (-1), 1) := by decide +kernel
theorem dX9_isCritical_40 : decode cX9_isCritical 40 = .ok (.ixor, 1) := by decide +kernel
theorem dX9_isCritical_41 : decode cX9_isCritical 41 = .ok (.iand, 1) := by decide +kernel
theorem dX9_isCritical_42 : decode cX9_isCritical 42 = .ok (.ifCond .ne 7, 3) := by decide +kernel
theorem dX9_isCritical_45 : decode cX9_isCritical 45 = .ok (.iconst 1, 1) := by decide +kernel
theorem dX9_isCritical_46 : decode cX9_isCritical 46 = .ok (.goto 4, 3) := by decide +kernel
theorem dX9_isCritical_49 : decode cX9_isCritical 49 = .ok (.iconst 0, 1) := by decide +kernel
theorem dX9_isCritical_50 : decode cX9_isCritical 50 = .ok (.ireturn, 1) := by decide +kernel
theorem dX9_putIn_0 : decode cX9_putIn 0 = .ok (.aload_n 0, 1) := by decide +kernel
theorem dX9_putIn_1 : decode cX9_putIn 1 = .ok (.getfield 18, 3) := by decide +kernel
theorem dX9_putIn_4 : decode cX9_putIn 4 = .ok (.iload_n 1, 1) := by decide +kernel
theorem dX9_putIn_5 : decode cX9_putIn 5 = .ok (.iaload, 1) := by decide +kernel
theorem dX9_putIn_6 : decode cX9_putIn 6 = .ok (.bipush 8, 2) := by decide +kernel
theorem dX9_putIn_8 : decode cX9_putIn 8 = .ok (.imul, 1) := by decide +kernel
theorem dX9_putIn_9 : decode cX9_putIn 9 = .ok (.istore_n 3, 1) := by decide +kernel
theorem dX9_putIn_10 : decode cX9_putIn 10 = .ok (.aload_n 0, 1) := by decide +kernel
theorem dX9_putIn_11 : decode cX9_putIn 11 = .ok (.getfield 24, 3) := by decide +kernel
theorem dX9_putIn_14 : decode cX9_putIn 14 = .ok (.iload_n 3, 1) := by decide +kernel
theorem dX9_putIn_15 : decode cX9_putIn 15 = .ok (.aload_n 0, 1) := by decide +kernel
theorem dX9_putIn_16 : decode cX9_putIn 16 = .ok (.getfield 9, 3) := by decide +kernel
theorem dX9_putIn_19 : decode cX9_putIn 19 = .ok (.iload_n 1, 1) := by decide +kernel
theorem dX9_putIn_20 : decode cX9_putIn 20 = .ok (.iaload, 1) := by decide +kernel
theorem dX9_putIn_21 : decode cX9_putIn 21 = .ok (.iadd, 1) := by decide +kernel
theorem dX9_putIn_22 : decode cX9_putIn 22 = .ok (.iaload, 1) := by decide +kernel
theorem dX9_putIn_23 : decode cX9_putIn 23 = .ok (.iconst 1, 1) := by decide +kernel
theorem dX9_putIn_24 : decode cX9_putIn 24 = .ok (.aload_n 0, 1) := by decide +kernel
theorem dX9_putIn_25 : decode cX9_putIn 25 = .ok (.getfield 9, 3) := by decide +kernel
theorem dX9_putIn_28 : decode cX9_putIn 28 = .ok (.iload_n 1, 1) := by decide +kernel
theorem dX9_putIn_29 : decode cX9_putIn 29 = .ok (.iaload, 1) := by decide +kernel
theorem dX9_putIn_30 : decode cX9_putIn 30 = .ok (.ishl, 1) := by decide +kernel
theorem dX9_putIn_31 : decode cX9_putIn 31 = .ok (.ior, 1) := by decide +kernel
theorem dX9_putIn_32 : decode cX9_putIn 32 = .ok (.istore 4, 2) := by decide +kernel
theorem dX9_putIn_34 : decode cX9_putIn 34 = .ok (.iconst 0, 1) := by decide +kernel
theorem dX9_putIn_35 : decode cX9_putIn 35 = .ok (.istore 5, 2) := by decide +kernel
theorem dX9_putIn_37 : decode cX9_putIn 37 = .ok (.iload 5, 2) := by decide +kernel
theorem dX9_putIn_39 : decode cX9_putIn 39 = .ok (.bipush 8, 2) := by decide +kernel
theorem dX9_putIn_41 : decode cX9_putIn 41 = .ok (.if_icmp .ge 30, 3) := by decide +kernel
theorem dX9_putIn_44 : decode cX9_putIn 44 = .ok (.aload_n 0, 1) := by decide +kernel
theorem dX9_putIn_45 : decode cX9_putIn 45 = .ok (.getfield 27, 3) := by decide +kernel
theorem dX9_putIn_48 : decode cX9_putIn 48 = .ok (.iload_n 1, 1) := by decide +kernel
theorem dX9_putIn_49 : decode cX9_putIn 49 = .ok (.bipush 8, 2) := by decide +kernel
theorem dX9_putIn_51 : decode cX9_putIn 51 = .ok (.imul, 1) := by decide +kernel
theorem dX9_putIn_52 : decode cX9_putIn 52 = .ok (.iload 5, 2) := by decide +kernel
theorem dX9_putIn_54 : decode cX9_putIn 54 = .ok (.iadd, 1) := by decide +kernel
theorem dX9_putIn_55 : decode cX9_putIn 55 = .ok (.aload_n 0, 1) := by decide +kernel
theorem dX9_putIn_56 : decode cX9_putIn 56 = .ok (.getfield 24, 3) := by decide +kernel
theorem dX9_putIn_59 : decode cX9_putIn 59 = .ok (.iload_n 3, 1) := by decide +kernel
theorem dX9_putIn_60 : decode cX9_putIn 60 = .ok (.iload 5, 2) := by decide +kernel
theorem dX9_putIn_62 : decode cX9_putIn 62 = .ok (.iadd, 1) := by decide +kernel
theorem dX9_putIn_63 : decode cX9_putIn 63 = .ok (.iaload, 1) := by decide +kernel
theorem dX9_putIn_64 : decode cX9_putIn 64 = .ok (.iastore, 1) := by decide +kernel
theorem dX9_putIn_65 : decode cX9_putIn 65 = .ok (.iinc 5 1, 3) := by decide +kernel
theorem dX9_putIn_68 : decode cX9_putIn 68 = .ok (.goto (-31), 3) := by decide +kernel
theorem dX9_putIn_71 : decode cX9_putIn 71 = .ok (.iconst 0, 1) := by decide +kernel
theorem dX9_putIn_72 : decode cX9_putIn 72 = .ok (.istore 5, 2) := by decide +kernel
theorem dX9_putIn_74 : decode cX9_putIn 74 = .ok (.iload 5, 2) := by decide +kernel
theorem dX9_putIn_76 : decode cX9_putIn 76 = .ok (.aload_n 2, 1) := by decide +kernel
theorem dX9_putIn_77 : decode cX9_putIn 77 = .ok (.invokevirtual 34, 3) := by decide +kernel
theorem dX9_putIn_80 : decode cX9_putIn 80 = .ok (.if_icmp .ge 56, 3) := by decide +kernel
theorem dX9_putIn_83 : decode cX9_putIn 83 = .ok (.iload 5, 2) := by decide +kernel
theorem dX9_putIn_85 : decode cX9_putIn 85 = .ok (.aload_n 0, 1) := by decide +kernel
theorem dX9_putIn_86 : decode cX9_putIn 86 = .ok (.getfield 15, 3) := by decide +kernel
theorem dX9_putIn_89 : decode cX9_putIn 89 = .ok (.iload_n 1, 1) := by decide +kernel
theorem dX9_putIn_90 : decode cX9_putIn 90 = .ok (.iaload, 1) := by decide +kernel
theorem dX9_putIn_91 : decode cX9_putIn 91 = .ok (.if_icmp .eq 25, 3) := by decide +kernel
theorem dX9_putIn_94 : decode cX9_putIn 94 = .ok (.aload_n 0, 1) := by decide +kernel
theorem dX9_putIn_95 : decode cX9_putIn 95 = .ok (.getfield 24, 3) := by decide +kernel
theorem dX9_putIn_98 : decode cX9_putIn 98 = .ok (.iload_n 3, 1) := by decide +kernel
theorem dX9_putIn_99 : decode cX9_putIn 99 = .ok (.iload 5, 2) := by decide +kernel
theorem dX9_putIn_101 : decode cX9_putIn 101 = .ok (.iadd, 1) := by decide +kernel
theorem dX9_putIn_102 : decode cX9_putIn 102 = .ok (.iaload, 1) := by decide +kernel
theorem dX9_putIn_103 : decode cX9_putIn 103 = .ok (.aload_n 0, 1) := by decide +kernel
theorem dX9_putIn_104 : decode cX9_putIn 104 = .ok (.getfield 15, 3) := by decide +kernel
theorem dX9_putIn_107 : decode cX9_putIn 107 = .ok (.iload_n 1, 1) := by decide +kernel
theorem dX9_putIn_108 : decode cX9_putIn 108 = .ok (.iaload, 1) := by decide +kernel
theorem dX9_putIn_109 : decode cX9_putIn 109 = .ok (.ishr, 1) := by decide +kernel
theorem dX9_putIn_110 : decode cX9_putIn 110 = .ok (.iconst 1, 1) := by decide +kernel
theorem dX9_putIn_111 : decode cX9_putIn 111 = .ok (.iand, 1) := by decide +kernel
theorem dX9_putIn_112 : decode cX9_putIn 112 = .ok (.iconst 1, 1) := by decide +kernel
theorem dX9_putIn_113 : decode cX9_putIn 113 = .ok (.if_icmp .ne 17, 3) := by decide +kernel
theorem dX9_putIn_116 : decode cX9_putIn 116 = .ok (.aload_n 0, 1) := by decide +kernel
theorem dX9_putIn_117 : decode cX9_putIn 117 = .ok (.getfield 24, 3) := by decide +kernel
theorem dX9_putIn_120 : decode cX9_putIn 120 = .ok (.iload_n 3, 1) := by decide +kernel
theorem dX9_putIn_121 : decode cX9_putIn 121 = .ok (.iload 5, 2) := by decide +kernel
theorem dX9_putIn_123 : decode cX9_putIn 123 = .ok (.iadd, 1) := by decide +kernel
theorem dX9_putIn_124 : decode cX9_putIn 124 = .ok (.dup2, 1) := by decide +kernel
theorem dX9_putIn_125 : decode cX9_putIn 125 = .ok (.iaload, 1) := by decide +kernel
theorem dX9_putIn_126 : decode cX9_putIn 126 = .ok (.iload 4, 2) := by decide +kernel
theorem dX9_putIn_128 : decode cX9_putIn 128 = .ok (.ior, 1) := by decide +kernel
theorem dX9_putIn_129 : decode cX9_putIn 129 = .ok (.iastore, 1) := by decide +kernel
theorem dX9_putIn_130 : decode cX9_putIn 130 = .ok (.iinc 5 1, 3) := by decide +kernel
theorem dX9_putIn_133 : decode cX9_putIn 133 = .ok (.goto (-59), 3) := by decide +kernel
theorem dX9_putIn_136 : decode cX9_putIn 136 = .ok (.aload_n 0, 1) := by decide +kernel
theorem dX9_putIn_137 : decode cX9_putIn 137 = .ok (.getfield 21, 3) := by decide +kernel
theorem dX9_putIn_140 : decode cX9_putIn 140 = .ok (.iload_n 1, 1) := by decide +kernel
theorem dX9_putIn_141 : decode cX9_putIn 141 = .ok (.iconst 1, 1) := by decide +kernel
theorem dX9_putIn_142 : decode cX9_putIn 142 = .ok (.iadd, 1) := by decide +kernel
theorem dX9_putIn_143 : decode cX9_putIn 143 = .ok (.aload_n 0, 1) := by decide +kernel
theorem dX9_putIn_144 : decode cX9_putIn 144 = .ok (.getfield 21, 3) := by decide +kernel
theorem dX9_putIn_147 : decode cX9_putIn 147 = .ok (.iload_n 1, 1) := by decide +kernel
theorem dX9_putIn_148 : decode cX9_putIn 148 = .ok (.iaload, 1) := by decide +kernel
theorem dX9_putIn_149 : decode cX9_putIn 149 = .ok (.aload_n 0, 1) := by decide +kernel
theorem dX9_putIn_150 : decode cX9_putIn 150 = .ok (.getfield 18, 3) := by decide +kernel
theorem dX9_putIn_153 : decode cX9_putIn 153 = .ok (.iload_n 1, 1) := by decide +kernel
theorem dX9_putIn_154 : decode cX9_putIn 154 = .ok (.iaload, 1) := by decide +kernel
theorem dX9_putIn_155 : decode cX9_putIn 155 = .ok (.iconst 1, 1) := by decide +kernel
theorem dX9_putIn_156 : decode cX9_putIn 156 = .ok (.iadd, 1) := by decide +kernel
theorem dX9_putIn_157 : decode cX9_putIn 157 = .ok (.invokestatic 82, 3) := by decide +kernel
theorem dX9_putIn_160 : decode cX9_putIn 160 = .ok (.iastore, 1) := by decide +kernel
theorem dX9_putIn_161 : decode cX9_putIn 161 = .ok (.return_, 1) := by decide +kernel
theorem dX9_run_0 : decode cX9_run 0 = .ok (.aload_n 0, 1) := by decide +kernel
theorem dX9_run_1 : decode cX9_run 1 = .ok (.aload_n 1, 1) := by decide +kernel
theorem dX9_run_2 : decode cX9_run 2 = .ok (.invokevirtual 63, 3) := by decide +kernel
theorem dX9_run_5 : decode cX9_run 5 = .ok (.aload_n 0, 1) := by decide +kernel
theorem dX9_run_6 : decode cX9_run 6 = .ok (.aload_n 1, 1) := by decide +kernel
theorem dX9_run_7 : decode cX9_run 7 = .ok (.invokevirtual 67, 3) := by decide +kernel
theorem dX9_run_10 : decode cX9_run 10 = .ok (.iconst 0, 1) := by decide +kernel
theorem dX9_run_11 : decode cX9_run 11 = .ok (.istore 4, 2) := by decide +kernel
theorem dX9_run_13 : decode cX9_run 13 = .ok (.iconst 0, 1) := by decide +kernel
theorem dX9_run_14 : decode cX9_run 14 = .ok (.istore 5, 2) := by decide +kernel
theorem dX9_run_16 : decode cX9_run 16 = .ok (.aload_n 0, 1) := by decide +kernel
theorem dX9_run_17 : decode cX9_run 17 = .ok (.getfield 21, 3) := by decide +kernel
theorem dX9_run_20 : decode cX9_run 20 = .ok (.iconst 0, 1) := by decide +kernel
theorem dX9_run_21 : decode cX9_run 21 = .ok (.iconst 0, 1) := by decide +kernel
theorem dX9_run_22 : decode cX9_run 22 = .ok (.iastore, 1) := by decide +kernel
theorem dX9_run_23 : decode cX9_run 23 = .ok (.aload_n 0, 1) := by decide +kernel
theorem dX9_run_24 : decode cX9_run 24 = .ok (.getfield 30, 3) := by decide +kernel
theorem dX9_run_27 : decode cX9_run 27 = .ok (.ifCond .le 10, 3) := by decide +kernel
theorem dX9_run_30 : decode cX9_run 30 = .ok (.aload_n 0, 1) := by decide +kernel
theorem dX9_run_31 : decode cX9_run 31 = .ok (.getfield 18, 3) := by decide +kernel
theorem dX9_run_34 : decode cX9_run 34 = .ok (.iconst 0, 1) := by decide +kernel
theorem dX9_run_35 : decode cX9_run 35 = .ok (.iconst (-1), 1) := by decide +kernel
theorem dX9_run_36 : decode cX9_run 36 = .ok (.iastore, 1) := by decide +kernel
theorem dX9_run_37 : decode cX9_run 37 = .ok (.iconst 0, 1) := by decide +kernel
theorem dX9_run_38 : decode cX9_run 38 = .ok (.istore 6, 2) := by decide +kernel
theorem dX9_run_40 : decode cX9_run 40 = .ok (.iload 6, 2) := by decide +kernel
theorem dX9_run_42 : decode cX9_run 42 = .ok (.iconst 2, 1) := by decide +kernel
theorem dX9_run_43 : decode cX9_run 43 = .ok (.iload_n 3, 1) := by decide +kernel
theorem dX9_run_44 : decode cX9_run 44 = .ok (.imul, 1) := by decide +kernel
theorem dX9_run_45 : decode cX9_run 45 = .ok (.iconst 1, 1) := by decide +kernel
theorem dX9_run_46 : decode cX9_run 46 = .ok (.iadd, 1) := by decide +kernel
theorem dX9_run_47 : decode cX9_run 47 = .ok (.if_icmp .gt 123, 3) := by decide +kernel
theorem dX9_run_50 : decode cX9_run 50 = .ok (.iload 4, 2) := by decide +kernel
theorem dX9_run_52 : decode cX9_run 52 = .ok (.aload_n 0, 1) := by decide +kernel
theorem dX9_run_53 : decode cX9_run 53 = .ok (.getfield 30, 3) := by decide +kernel
theorem dX9_run_56 : decode cX9_run 56 = .ok (.if_icmp .ge 114, 3) := by decide +kernel
theorem dX9_run_59 : decode cX9_run 59 = .ok (.aload_n 0, 1) := by decide +kernel
theorem dX9_run_60 : decode cX9_run 60 = .ok (.getfield 18, 3) := by decide +kernel
theorem dX9_run_63 : decode cX9_run 63 = .ok (.iload 4, 2) := by decide +kernel
theorem dX9_run_65 : decode cX9_run 65 = .ok (.iaload, 1) := by decide +kernel
theorem dX9_run_66 : decode cX9_run 66 = .ok (.iconst 1, 1) := by decide +kernel
theorem dX9_run_67 : decode cX9_run 67 = .ok (.iadd, 1) := by decide +kernel
theorem dX9_run_68 : decode cX9_run 68 = .ok (.istore 7, 2) := by decide +kernel
theorem dX9_run_70 : decode cX9_run 70 = .ok (.iload 7, 2) := by decide +kernel
theorem dX9_run_72 : decode cX9_run 72 = .ok (.aload_n 0, 1) := by decide +kernel
theorem dX9_run_73 : decode cX9_run 73 = .ok (.getfield 21, 3) := by decide +kernel
theorem dX9_run_76 : decode cX9_run 76 = .ok (.iload 4, 2) := by decide +kernel
theorem dX9_run_78 : decode cX9_run 78 = .ok (.iaload, 1) := by decide +kernel
theorem dX9_run_79 : decode cX9_run 79 = .ok (.if_icmp .gt 9, 3) := by decide +kernel
theorem dX9_run_82 : decode cX9_run 82 = .ok (.iload 7, 2) := by decide +kernel
theorem dX9_run_84 : decode cX9_run 84 = .ok (.iload_n 2, 1) := by decide +kernel
theorem dX9_run_85 : decode cX9_run 85 = .ok (.if_icmp .lt 22, 3) := by decide +kernel
theorem dX9_run_88 : decode cX9_run 88 = .ok (.iinc 4 (-1), 3) := by decide +kernel
theorem dX9_run_91 : decode cX9_run 91 = .ok (.iload 4, 2) := by decide +kernel
theorem dX9_run_93 : decode cX9_run 93 = .ok (.ifCond .ge 5, 3) := by decide +kernel
theorem dX9_run_96 : decode cX9_run 96 = .ok (.iconst (-1), 1) := by decide +kernel
theorem dX9_run_97 : decode cX9_run 97 = .ok (.ireturn, 1) := by decide +kernel
theorem dX9_run_98 : decode cX9_run 98 = .ok (.aload_n 0, 1) := by decide +kernel
theorem dX9_run_99 : decode cX9_run 99 = .ok (.iload 4, 2) := by decide +kernel
theorem dX9_run_101 : decode cX9_run 101 = .ok (.invokevirtual 70, 3) := by decide +kernel
theorem dX9_run_104 : decode cX9_run 104 = .ok (.goto 60, 3) := by decide +kernel
theorem dX9_run_107 : decode cX9_run 107 = .ok (.iload 5, 2) := by decide +kernel
theorem dX9_run_109 : decode cX9_run 109 = .ok (.iload_n 3, 1) := by decide +kernel
theorem dX9_run_110 : decode cX9_run 110 = .ok (.if_icmp .ne 6, 3) := by decide +kernel
theorem dX9_run_113 : decode cX9_run 113 = .ok (.bipush (-3), 2) := by decide +kernel
theorem dX9_run_115 : decode cX9_run 115 = .ok (.ireturn, 1) := by decide +kernel
theorem dX9_run_116 : decode cX9_run 116 = .ok (.iinc 5 1, 3) := by decide +kernel
theorem dX9_run_119 : decode cX9_run 119 = .ok (.aload_n 0, 1) := by decide +kernel
theorem dX9_run_120 : decode cX9_run 120 = .ok (.getfield 18, 3) := by decide +kernel
theorem dX9_run_123 : decode cX9_run 123 = .ok (.iload 4, 2) := by decide +kernel
theorem dX9_run_125 : decode cX9_run 125 = .ok (.iload 7, 2) := by decide +kernel
theorem dX9_run_127 : decode cX9_run 127 = .ok (.iastore, 1) := by decide +kernel
theorem dX9_run_128 : decode cX9_run 128 = .ok (.aload_n 0, 1) := by decide +kernel
theorem dX9_run_129 : decode cX9_run 129 = .ok (.iload 4, 2) := by decide +kernel
theorem dX9_run_131 : decode cX9_run 131 = .ok (.invokevirtual 74, 3) := by decide +kernel
theorem dX9_run_134 : decode cX9_run 134 = .ok (.ifCond .eq 30, 3) := by decide +kernel
theorem dX9_run_137 : decode cX9_run 137 = .ok (.aload_n 0, 1) := by decide +kernel
theorem dX9_run_138 : decode cX9_run 138 = .ok (.iload 4, 2) := by decide +kernel
theorem dX9_run_140 : decode cX9_run 140 = .ok (.aload_n 1, 1) := by decide +kernel
theorem dX9_run_141 : decode cX9_run 141 = .ok (.invokevirtual 78, 3) := by decide +kernel
theorem dX9_run_144 : decode cX9_run 144 = .ok (.iinc 4 1, 3) := by decide +kernel
theorem dX9_run_147 : decode cX9_run 147 = .ok (.iload 4, 2) := by decide +kernel
theorem dX9_run_149 : decode cX9_run 149 = .ok (.aload_n 0, 1) := by decide +kernel
theorem dX9_run_150 : decode cX9_run 150 = .ok (.getfield 30, 3) := by decide +kernel
theorem dX9_run_153 : decode cX9_run 153 = .ok (.if_icmp .ge 11, 3) := by decide +kernel
theorem dX9_run_156 : decode cX9_run 156 = .ok (.aload_n 0, 1) := by decide +kernel
theorem dX9_run_157 : decode cX9_run 157 = .ok (.getfield 18, 3) := by decide +kernel
theorem dX9_run_160 : decode cX9_run 160 = .ok (.iload 4, 2) := by decide +kernel
theorem dX9_run_162 : decode cX9_run 162 = .ok (.iconst (-1), 1) := by decide +kernel
theorem dX9_run_163 : decode cX9_run 163 = .ok (.iastore, 1) := by decide +kernel
theorem dX9_run_164 : decode cX9_run 164 = .ok (.iinc 6 1, 3) := by decide +kernel
theorem dX9_run_167 : decode cX9_run 167 = .ok (.goto (-127), 3) := by decide +kernel
theorem dX9_run_170 : decode cX9_run 170 = .ok (.iload 5, 2) := by decide +kernel
theorem dX9_run_172 : decode cX9_run 172 = .ok (.ireturn, 1) := by decide +kernel
