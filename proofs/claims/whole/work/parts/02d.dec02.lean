theorem dX11_octet_0 : decode cX11_octet 0 = .ok (.aload_n 0, 1) := by decide +kernel
theorem dX11_octet_1 : decode cX11_octet 1 = .ok (.getfield 36, 3) := by decide +kernel
theorem dX11_octet_4 : decode cX11_octet 4 = .ok (.iload_n 1, 1) := by decide +kernel
theorem dX11_octet_5 : decode cX11_octet 5 = .ok (.invokevirtual 349, 3) := by decide +kernel
theorem dX11_octet_8 : decode cX11_octet 8 = .ok (.ireturn, 1) := by decide +kernel
theorem dX11_of_0 : decode cX11_of 0 = .ok (.aload_n 0, 1) := by decide +kernel
theorem dX11_of_1 : decode cX11_of 1 = .ok (.iload_n 1, 1) := by decide +kernel
theorem dX11_of_2 : decode cX11_of 2 = .ok (.iload_n 2, 1) := by decide +kernel
theorem dX11_of_3 : decode cX11_of 3 = .ok (.invokevirtual 156, 3) := by decide +kernel
theorem dX11_of_6 : decode cX11_of 6 = .ok (.astore 4, 2) := by decide +kernel
theorem dX11_of_8 : decode cX11_of 8 = .ok (.aload 4, 2) := by decide +kernel
theorem dX11_of_10 : decode cX11_of 10 = .ok (.ifnonnull 6, 3) := by decide +kernel
theorem dX11_of_13 : decode cX11_of 13 = .ok (.bipush (-2), 2) := by decide +kernel
theorem dX11_of_15 : decode cX11_of 15 = .ok (.ireturn, 1) := by decide +kernel
theorem dX11_of_16 : decode cX11_of 16 = .ok (.iload_n 3, 1) := by decide +kernel
theorem dX11_of_17 : decode cX11_of 17 = .ok (.tableswitch 70 0 4 #[35, 42, 49, 56, 63], 35) := by decide +kernel
theorem dX11_of_52 : decode cX11_of 52 = .ok (.aload 4, 2) := by decide +kernel
theorem dX11_of_54 : decode cX11_of 54 = .ok (.iload_n 2, 1) := by decide +kernel
theorem dX11_of_55 : decode cX11_of 55 = .ok (.invokevirtual 160, 3) := by decide +kernel
theorem dX11_of_58 : decode cX11_of 58 = .ok (.ireturn, 1) := by decide +kernel
theorem dX11_of_59 : decode cX11_of 59 = .ok (.aload 4, 2) := by decide +kernel
theorem dX11_of_61 : decode cX11_of 61 = .ok (.iload_n 2, 1) := by decide +kernel
theorem dX11_of_62 : decode cX11_of 62 = .ok (.invokevirtual 163, 3) := by decide +kernel
theorem dX11_of_65 : decode cX11_of 65 = .ok (.ireturn, 1) := by decide +kernel
theorem dX11_of_66 : decode cX11_of 66 = .ok (.aload 4, 2) := by decide +kernel
theorem dX11_of_68 : decode cX11_of 68 = .ok (.iload_n 2, 1) := by decide +kernel
theorem dX11_of_69 : decode cX11_of 69 = .ok (.invokevirtual 166, 3) := by decide +kernel
theorem dX11_of_72 : decode cX11_of 72 = .ok (.ireturn, 1) := by decide +kernel
theorem dX11_of_73 : decode cX11_of 73 = .ok (.aload 4, 2) := by decide +kernel
theorem dX11_of_75 : decode cX11_of 75 = .ok (.iload_n 2, 1) := by decide +kernel
theorem dX11_of_76 : decode cX11_of 76 = .ok (.invokevirtual 169, 3) := by decide +kernel
theorem dX11_of_79 : decode cX11_of 79 = .ok (.ireturn, 1) := by decide +kernel
theorem dX11_of_80 : decode cX11_of 80 = .ok (.aload 4, 2) := by decide +kernel
theorem dX11_of_82 : decode cX11_of 82 = .ok (.iload_n 2, 1) := by decide +kernel
theorem dX11_of_83 : decode cX11_of 83 = .ok (.invokevirtual 172, 3) := by decide +kernel
theorem dX11_of_86 : decode cX11_of 86 = .ok (.ireturn, 1) := by decide +kernel
theorem dX11_of_87 : decode cX11_of 87 = .ok (.bipush (-2), 2) := by decide +kernel
theorem dX11_of_89 : decode cX11_of 89 = .ok (.ireturn, 1) := by decide +kernel
theorem dX11_orderIn_0 : decode cX11_orderIn 0 = .ok (.iload_n 1, 1) := by decide +kernel
theorem dX11_orderIn_1 : decode cX11_orderIn 1 = .ok (.invokestatic 93, 3) := by decide +kernel
theorem dX11_orderIn_4 : decode cX11_orderIn 4 = .ok (.ifCond .eq 15, 3) := by decide +kernel
theorem dX11_orderIn_7 : decode cX11_orderIn 7 = .ok (.aload_n 0, 1) := by decide +kernel
theorem dX11_orderIn_8 : decode cX11_orderIn 8 = .ok (.getfield 11, 3) := by decide +kernel
theorem dX11_orderIn_11 : decode cX11_orderIn 11 = .ok (.iload_n 1, 1) := by decide +kernel
theorem dX11_orderIn_12 : decode cX11_orderIn 12 = .ok (.aaload, 1) := by decide +kernel
theorem dX11_orderIn_13 : decode cX11_orderIn 13 = .ok (.invokevirtual 121, 3) := by decide +kernel
theorem dX11_orderIn_16 : decode cX11_orderIn 16 = .ok (.ifCond .ne 5, 3) := by decide +kernel
theorem dX11_orderIn_19 : decode cX11_orderIn 19 = .ok (.aconst_null, 1) := by decide +kernel
theorem dX11_orderIn_20 : decode cX11_orderIn 20 = .ok (.areturn, 1) := by decide +kernel
theorem dX11_orderIn_21 : decode cX11_orderIn 21 = .ok (.aload_n 0, 1) := by decide +kernel
theorem dX11_orderIn_22 : decode cX11_orderIn 22 = .ok (.getfield 11, 3) := by decide +kernel
theorem dX11_orderIn_25 : decode cX11_orderIn 25 = .ok (.iload_n 1, 1) := by decide +kernel
theorem dX11_orderIn_26 : decode cX11_orderIn 26 = .ok (.aaload, 1) := by decide +kernel
theorem dX11_orderIn_27 : decode cX11_orderIn 27 = .ok (.areturn, 1) := by decide +kernel
theorem dX11_orderWith_0 : decode cX11_orderWith 0 = .ok (.aload_n 0, 1) := by decide +kernel
theorem dX11_orderWith_1 : decode cX11_orderWith 1 = .ok (.iload_n 1, 1) := by decide +kernel
theorem dX11_orderWith_2 : decode cX11_orderWith 2 = .ok (.invokevirtual 117, 3) := by decide +kernel
theorem dX11_orderWith_5 : decode cX11_orderWith 5 = .ok (.astore_n 3, 1) := by decide +kernel
theorem dX11_orderWith_6 : decode cX11_orderWith 6 = .ok (.aload_n 3, 1) := by decide +kernel
theorem dX11_orderWith_7 : decode cX11_orderWith 7 = .ok (.ifnull 11, 3) := by decide +kernel
theorem dX11_orderWith_10 : decode cX11_orderWith 10 = .ok (.aload_n 3, 1) := by decide +kernel
theorem dX11_orderWith_11 : decode cX11_orderWith 11 = .ok (.iload_n 2, 1) := by decide +kernel
theorem dX11_orderWith_12 : decode cX11_orderWith 12 = .ok (.invokevirtual 231, 3) := by decide +kernel
theorem dX11_orderWith_15 : decode cX11_orderWith 15 = .ok (.ifCond .ne 7, 3) := by decide +kernel
theorem dX11_orderWith_18 : decode cX11_orderWith 18 = .ok (.aconst_null, 1) := by decide +kernel
theorem dX11_orderWith_19 : decode cX11_orderWith 19 = .ok (.goto 4, 3) := by decide +kernel
theorem dX11_orderWith_22 : decode cX11_orderWith 22 = .ok (.aload_n 3, 1) := by decide +kernel
theorem dX11_orderWith_23 : decode cX11_orderWith 23 = .ok (.areturn, 1) := by decide +kernel
theorem dX11_orderWithRow_0 : decode cX11_orderWithRow 0 = .ok (.aload_n 0, 1) := by decide +kernel
theorem dX11_orderWithRow_1 : decode cX11_orderWithRow 1 = .ok (.iload_n 1, 1) := by decide +kernel
theorem dX11_orderWithRow_2 : decode cX11_orderWithRow 2 = .ok (.invokevirtual 117, 3) := by decide +kernel
theorem dX11_orderWithRow_5 : decode cX11_orderWithRow 5 = .ok (.astore_n 3, 1) := by decide +kernel
theorem dX11_orderWithRow_6 : decode cX11_orderWithRow 6 = .ok (.aload_n 3, 1) := by decide +kernel
theorem dX11_orderWithRow_7 : decode cX11_orderWithRow 7 = .ok (.ifnull 14, 3) := by decide +kernel
theorem dX11_orderWithRow_10 : decode cX11_orderWithRow 10 = .ok (.aload_n 3, 1) := by decide +kernel
theorem dX11_orderWithRow_11 : decode cX11_orderWithRow 11 = .ok (.invokevirtual 149, 3) := by decide +kernel
theorem dX11_orderWithRow_14 : decode cX11_orderWithRow 14 = .ok (.iload_n 2, 1) := by decide +kernel
theorem dX11_orderWithRow_15 : decode cX11_orderWithRow 15 = .ok (.invokevirtual 353, 3) := by decide +kernel
theorem dX11_orderWithRow_18 : decode cX11_orderWithRow 18 = .ok (.ifCond .ne 7, 3) := by decide +kernel
theorem dX11_orderWithRow_21 : decode cX11_orderWithRow 21 = .ok (.aconst_null, 1) := by decide +kernel
theorem dX11_orderWithRow_22 : decode cX11_orderWithRow 22 = .ok (.goto 4, 3) := by decide +kernel
theorem dX11_orderWithRow_25 : decode cX11_orderWithRow 25 = .ok (.aload_n 3, 1) := by decide +kernel
theorem dX11_orderWithRow_26 : decode cX11_orderWithRow 26 = .ok (.areturn, 1) := by decide +kernel
theorem dX11_part_0 : decode cX11_part 0 = .ok (.aload_n 0, 1) := by decide +kernel
theorem dX11_part_1 : decode cX11_part 1 = .ok (.iload_n 1, 1) := by decide +kernel
theorem dX11_part_2 : decode cX11_part 2 = .ok (.iload_n 2, 1) := by decide +kernel
theorem dX11_part_3 : decode cX11_part 3 = .ok (.invokevirtual 156, 3) := by decide +kernel
theorem dX11_part_6 : decode cX11_part 6 = .ok (.astore_n 3, 1) := by decide +kernel
theorem dX11_part_7 : decode cX11_part 7 = .ok (.aload_n 3, 1) := by decide +kernel
theorem dX11_part_8 : decode cX11_part 8 = .ok (.ifnonnull 8, 3) := by decide +kernel
theorem dX11_part_11 : decode cX11_part 11 = .ok (.bipush (-2), 2) := by decide +kernel
theorem dX11_part_13 : decode cX11_part 13 = .ok (.goto 12, 3) := by decide +kernel
theorem dX11_part_16 : decode cX11_part 16 = .ok (.aload_n 0, 1) := by decide +kernel
theorem dX11_part_17 : decode cX11_part 17 = .ok (.getfield 51, 3) := by decide +kernel
theorem dX11_part_20 : decode cX11_part 20 = .ok (.aload_n 3, 1) := by decide +kernel
theorem dX11_part_21 : decode cX11_part 21 = .ok (.iload_n 2, 1) := by decide +kernel
theorem dX11_part_22 : decode cX11_part 22 = .ok (.invokevirtual 198, 3) := by decide +kernel
theorem dX11_part_25 : decode cX11_part 25 = .ok (.ireturn, 1) := by decide +kernel
theorem dX11_puts_0 : decode cX11_puts 0 = .ok (.aload_n 0, 1) := by decide +kernel
theorem dX11_puts_1 : decode cX11_puts 1 = .ok (.iload_n 1, 1) := by decide +kernel
theorem dX11_puts_2 : decode cX11_puts 2 = .ok (.iload_n 2, 1) := by decide +kernel
theorem dX11_puts_3 : decode cX11_puts 3 = .ok (.invokevirtual 156, 3) := by decide +kernel
theorem dX11_puts_6 : decode cX11_puts 6 = .ok (.astore 4, 2) := by decide +kernel
theorem dX11_puts_8 : decode cX11_puts 8 = .ok (.aload 4, 2) := by decide +kernel
theorem dX11_puts_10 : decode cX11_puts 10 = .ok (.ifnull 12, 3) := by decide +kernel
theorem dX11_puts_13 : decode cX11_puts 13 = .ok (.aload 4, 2) := by decide +kernel
theorem dX11_puts_15 : decode cX11_puts 15 = .ok (.iload_n 3, 1) := by decide +kernel
theorem dX11_puts_16 : decode cX11_puts 16 = .ok (.invokevirtual 231, 3) := by decide +kernel
theorem dX11_puts_19 : decode cX11_puts 19 = .ok (.ifCond .ne 6, 3) := by decide +kernel
theorem dX11_puts_22 : decode cX11_puts 22 = .ok (.bipush (-2), 2) := by decide +kernel
theorem dX11_puts_24 : decode cX11_puts 24 = .ok (.ireturn, 1) := by decide +kernel
theorem dX11_puts_25 : decode cX11_puts 25 = .ok (.iload_n 2, 1) := by decide +kernel
theorem dX11_puts_26 : decode cX11_puts 26 = .ok (.iload_n 3, 1) := by decide +kernel
theorem dX11_puts_27 : decode cX11_puts 27 = .ok (.if_icmp .eq 13, 3) := by decide +kernel
theorem dX11_puts_30 : decode cX11_puts 30 = .ok (.aload 4, 2) := by decide +kernel
theorem dX11_puts_32 : decode cX11_puts 32 = .ok (.iload_n 3, 1) := by decide +kernel
theorem dX11_puts_33 : decode cX11_puts 33 = .ok (.iload_n 2, 1) := by decide +kernel
theorem dX11_puts_34 : decode cX11_puts 34 = .ok (.invokevirtual 309, 3) := by decide +kernel
theorem dX11_puts_37 : decode cX11_puts 37 = .ok (.ifCond .eq 6, 3) := by decide +kernel
theorem dX11_puts_40 : decode cX11_puts 40 = .ok (.bipush (-6), 2) := by decide +kernel
theorem dX11_puts_42 : decode cX11_puts 42 = .ok (.ireturn, 1) := by decide +kernel
theorem dX11_puts_43 : decode cX11_puts 43 = .ok (.aload_n 0, 1) := by decide +kernel
theorem dX11_puts_44 : decode cX11_puts 44 = .ok (.getfield 16, 3) := by decide +kernel
theorem dX11_puts_47 : decode cX11_puts 47 = .ok (.aload 4, 2) := by decide +kernel
theorem dX11_puts_49 : decode cX11_puts 49 = .ok (.invokevirtual 290, 3) := by decide +kernel
theorem dX11_puts_52 : decode cX11_puts 52 = .ok (.aload_n 0, 1) := by decide +kernel
theorem dX11_puts_53 : decode cX11_puts 53 = .ok (.getfield 16, 3) := by decide +kernel
theorem dX11_puts_56 : decode cX11_puts 56 = .ok (.iload_n 2, 1) := by decide +kernel
theorem dX11_puts_57 : decode cX11_puts 57 = .ok (.iload_n 3, 1) := by decide +kernel
theorem dX11_puts_58 : decode cX11_puts 58 = .ok (.invokevirtual 313, 3) := by decide +kernel
theorem dX11_puts_61 : decode cX11_puts 61 = .ok (.istore 5, 2) := by decide +kernel
theorem dX11_puts_63 : decode cX11_puts 63 = .ok (.aload_n 0, 1) := by decide +kernel
theorem dX11_puts_64 : decode cX11_puts 64 = .ok (.iload_n 1, 1) := by decide +kernel
theorem dX11_puts_65 : decode cX11_puts 65 = .ok (.invokevirtual 101, 3) := by decide +kernel
theorem dX11_puts_68 : decode cX11_puts 68 = .ok (.iload 5, 2) := by decide +kernel
theorem dX11_puts_70 : decode cX11_puts 70 = .ok (.ireturn, 1) := by decide +kernel
theorem dX11_rank_0 : decode cX11_rank 0 = .ok (.aload_n 0, 1) := by decide +kernel
theorem dX11_rank_1 : decode cX11_rank 1 = .ok (.iload_n 1, 1) := by decide +kernel
theorem dX11_rank_2 : decode cX11_rank 2 = .ok (.iload_n 2, 1) := by decide +kernel
theorem dX11_rank_3 : decode cX11_rank 3 = .ok (.invokevirtual 212, 3) := by decide +kernel
theorem dX11_rank_6 : decode cX11_rank 6 = .ok (.astore_n 3, 1) := by decide +kernel
theorem dX11_rank_7 : decode cX11_rank 7 = .ok (.aload_n 3, 1) := by decide +kernel
theorem dX11_rank_8 : decode cX11_rank 8 = .ok (.ifnonnull 8, 3) := by decide +kernel
theorem dX11_rank_11 : decode cX11_rank 11 = .ok (.bipush (-2), 2) := by decide +kernel
theorem dX11_rank_13 : decode cX11_rank 13 = .ok (.goto 13, 3) := by decide +kernel
theorem dX11_rank_16 : decode cX11_rank 16 = .ok (.aload_n 0, 1) := by decide +kernel
theorem dX11_rank_17 : decode cX11_rank 17 = .ok (.aload_n 3, 1) := by decide +kernel
theorem dX11_rank_18 : decode cX11_rank 18 = .ok (.invokevirtual 201, 3) := by decide +kernel
theorem dX11_rank_21 : decode cX11_rank 21 = .ok (.aload_n 3, 1) := by decide +kernel
theorem dX11_rank_22 : decode cX11_rank 22 = .ok (.iload_n 2, 1) := by decide +kernel
theorem dX11_rank_23 : decode cX11_rank 23 = .ok (.invokevirtual 215, 3) := by decide +kernel
theorem dX11_rank_26 : decode cX11_rank 26 = .ok (.ireturn, 1) := by decide +kernel
theorem dX11_realizes_0 : decode cX11_realizes 0 = .ok (.aload_n 0, 1) := by decide +kernel
theorem dX11_realizes_1 : decode cX11_realizes 1 = .ok (.iload_n 1, 1) := by decide +kernel
theorem dX11_realizes_2 : decode cX11_realizes 2 = .ok (.invokevirtual 117, 3) := by decide +kernel
theorem dX11_realizes_5 : decode cX11_realizes 5 = .ok (.astore 4, 2) := by decide +kernel
theorem dX11_realizes_7 : decode cX11_realizes 7 = .ok (.aload 4, 2) := by decide +kernel
theorem dX11_realizes_9 : decode cX11_realizes 9 = .ok (.ifnull 20, 3) := by decide +kernel
theorem dX11_realizes_12 : decode cX11_realizes 12 = .ok (.iload_n 2, 1) := by decide +kernel
theorem dX11_realizes_13 : decode cX11_realizes 13 = .ok (.iconst 1, 1) := by decide +kernel
theorem dX11_realizes_14 : decode cX11_realizes 14 = .ok (.if_icmp .lt 15, 3) := by decide +kernel
theorem dX11_realizes_17 : decode cX11_realizes 17 = .ok (.iload_n 2, 1) := by decide +kernel
theorem dX11_realizes_18 : decode cX11_realizes 18 = .ok (.iconst 4, 1) := by decide +kernel
theorem dX11_realizes_19 : decode cX11_realizes 19 = .ok (.if_icmp .gt 10, 3) := by decide +kernel
theorem dX11_realizes_22 : decode cX11_realizes 22 = .ok (.iload_n 3, 1) := by decide +kernel
theorem dX11_realizes_23 : decode cX11_realizes 23 = .ok (.invokestatic 284, 3) := by decide +kernel
theorem dX11_realizes_26 : decode cX11_realizes 26 = .ok (.ifCond .ne 6, 3) := by decide +kernel
theorem dX11_realizes_29 : decode cX11_realizes 29 = .ok (.bipush (-2), 2) := by decide +kernel
theorem dX11_realizes_31 : decode cX11_realizes 31 = .ok (.ireturn, 1) := by decide +kernel
theorem dX11_realizes_32 : decode cX11_realizes 32 = .ok (.aload_n 0, 1) := by decide +kernel
theorem dX11_realizes_33 : decode cX11_realizes 33 = .ok (.getfield 72, 3) := by decide +kernel
theorem dX11_realizes_36 : decode cX11_realizes 36 = .ok (.aload 4, 2) := by decide +kernel
theorem dX11_realizes_38 : decode cX11_realizes 38 = .ok (.iload_n 2, 1) := by decide +kernel
theorem dX11_realizes_39 : decode cX11_realizes 39 = .ok (.iload_n 3, 1) := by decide +kernel
theorem dX11_realizes_40 : decode cX11_realizes 40 = .ok (.invokevirtual 287, 3) := by decide +kernel
theorem dX11_realizes_43 : decode cX11_realizes 43 = .ok (.istore 5, 2) := by decide +kernel
theorem dX11_realizes_45 : decode cX11_realizes 45 = .ok (.iload 5, 2) := by decide +kernel
theorem dX11_realizes_47 : decode cX11_realizes 47 = .ok (.ifCond .lt 34, 3) := by decide +kernel
theorem dX11_realizes_50 : decode cX11_realizes 50 = .ok (.aload_n 0, 1) := by decide +kernel
theorem dX11_realizes_51 : decode cX11_realizes 51 = .ok (.getfield 16, 3) := by decide +kernel
theorem dX11_realizes_54 : decode cX11_realizes 54 = .ok (.aload 4, 2) := by decide +kernel
theorem dX11_realizes_56 : decode cX11_realizes 56 = .ok (.invokevirtual 290, 3) := by decide +kernel
theorem dX11_realizes_59 : decode cX11_realizes 59 = .ok (.aload_n 0, 1) := by decide +kernel
theorem dX11_realizes_60 : decode cX11_realizes 60 = .ok (.getfield 72, 3) := by decide +kernel
theorem dX11_realizes_63 : decode cX11_realizes 63 = .ok (.aload 4, 2) := by decide +kernel
theorem dX11_realizes_65 : decode cX11_realizes 65 = .ok (.iload_n 2, 1) := by decide +kernel
theorem dX11_realizes_66 : decode cX11_realizes 66 = .ok (.aload_n 0, 1) := by decide +kernel
theorem dX11_realizes_67 : decode cX11_realizes 67 = .ok (.getfield 16, 3) := by decide +kernel
theorem dX11_realizes_70 : decode cX11_realizes 70 = .ok (.invokevirtual 149, 3) := by decide +kernel
theorem dX11_realizes_73 : decode cX11_realizes 73 = .ok (.invokevirtual 293, 3) := by decide +kernel
theorem dX11_realizes_76 : decode cX11_realizes 76 = .ok (.aload_n 0, 1) := by decide +kernel
theorem dX11_realizes_77 : decode cX11_realizes 77 = .ok (.iload_n 1, 1) := by decide +kernel
theorem dX11_realizes_78 : decode cX11_realizes 78 = .ok (.invokevirtual 101, 3) := by decide +kernel
theorem dX11_realizes_81 : decode cX11_realizes 81 = .ok (.iload 5, 2) := by decide +kernel
theorem dX11_realizes_83 : decode cX11_realizes 83 = .ok (.ireturn, 1) := by decide +kernel
theorem dX11_reversed_0 : decode cX11_reversed 0 = .ok (.aload_n 0, 1) := by decide +kernel
theorem dX11_reversed_1 : decode cX11_reversed 1 = .ok (.iload_n 1, 1) := by decide +kernel
theorem dX11_reversed_2 : decode cX11_reversed 2 = .ok (.iload_n 2, 1) := by decide +kernel
theorem dX11_reversed_3 : decode cX11_reversed 3 = .ok (.invokevirtual 212, 3) := by decide +kernel
theorem dX11_reversed_6 : decode cX11_reversed 6 = .ok (.astore_n 3, 1) := by decide +kernel
theorem dX11_reversed_7 : decode cX11_reversed 7 = .ok (.aload_n 3, 1) := by decide +kernel
theorem dX11_reversed_8 : decode cX11_reversed 8 = .ok (.ifnonnull 6, 3) := by decide +kernel
theorem dX11_reversed_11 : decode cX11_reversed 11 = .ok (.bipush (-2), 2) := by decide +kernel
theorem dX11_reversed_13 : decode cX11_reversed 13 = .ok (.ireturn, 1) := by decide +kernel
theorem dX11_reversed_14 : decode cX11_reversed 14 = .ok (.aload_n 0, 1) := by decide +kernel
theorem dX11_reversed_15 : decode cX11_reversed 15 = .ok (.getfield 72, 3) := by decide +kernel
theorem dX11_reversed_18 : decode cX11_reversed 18 = .ok (.aload_n 3, 1) := by decide +kernel
theorem dX11_reversed_19 : decode cX11_reversed 19 = .ok (.invokevirtual 260, 3) := by decide +kernel
theorem dX11_reversed_22 : decode cX11_reversed 22 = .ok (.aload_n 0, 1) := by decide +kernel
theorem dX11_reversed_23 : decode cX11_reversed 23 = .ok (.getfield 72, 3) := by decide +kernel
theorem dX11_reversed_26 : decode cX11_reversed 26 = .ok (.aload_n 3, 1) := by decide +kernel
theorem dX11_reversed_27 : decode cX11_reversed 27 = .ok (.iload_n 2, 1) := by decide +kernel
theorem dX11_reversed_28 : decode cX11_reversed 28 = .ok (.invokevirtual 268, 3) := by decide +kernel
theorem dX11_reversed_31 : decode cX11_reversed 31 = .ok (.ireturn, 1) := by decide +kernel
theorem dX11_row_0 : decode cX11_row 0 = .ok (.aload_n 0, 1) := by decide +kernel
theorem dX11_row_1 : decode cX11_row 1 = .ok (.iload_n 1, 1) := by decide +kernel
theorem dX11_row_2 : decode cX11_row 2 = .ok (.iload_n 2, 1) := by decide +kernel
theorem dX11_row_3 : decode cX11_row 3 = .ok (.invokevirtual 212, 3) := by decide +kernel
theorem dX11_row_6 : decode cX11_row 6 = .ok (.astore 4, 2) := by decide +kernel
theorem dX11_row_8 : decode cX11_row 8 = .ok (.aload 4, 2) := by decide +kernel
theorem dX11_row_10 : decode cX11_row 10 = .ok (.ifnull 12, 3) := by decide +kernel
theorem dX11_row_13 : decode cX11_row 13 = .ok (.aload 4, 2) := by decide +kernel
theorem dX11_row_15 : decode cX11_row 15 = .ok (.iload_n 3, 1) := by decide +kernel
theorem dX11_row_16 : decode cX11_row 16 = .ok (.invokevirtual 231, 3) := by decide +kernel
theorem dX11_row_19 : decode cX11_row 19 = .ok (.ifCond .ne 6, 3) := by decide +kernel
theorem dX11_row_22 : decode cX11_row 22 = .ok (.bipush (-2), 2) := by decide +kernel
theorem dX11_row_24 : decode cX11_row 24 = .ok (.ireturn, 1) := by decide +kernel
theorem dX11_row_25 : decode cX11_row 25 = .ok (.aload 4, 2) := by decide +kernel
theorem dX11_row_27 : decode cX11_row 27 = .ok (.invokevirtual 149, 3) := by decide +kernel
theorem dX11_row_30 : decode cX11_row 30 = .ok (.iload_n 2, 1) := by decide +kernel
theorem dX11_row_31 : decode cX11_row 31 = .ok (.iload_n 3, 1) := by decide +kernel
theorem dX11_row_32 : decode cX11_row 32 = .ok (.invokevirtual 297, 3) := by decide +kernel
theorem dX11_row_35 : decode cX11_row 35 = .ok (.ireturn, 1) := by decide +kernel
theorem dX11_rowsAre_0 : decode cX11_rowsAre 0 = .ok (.aload_n 0, 1) := by decide +kernel
theorem dX11_rowsAre_1 : decode cX11_rowsAre 1 = .ok (.iload_n 1, 1) := by decide +kernel
theorem dX11_rowsAre_2 : decode cX11_rowsAre 2 = .ok (.invokevirtual 117, 3) := by decide +kernel
theorem dX11_rowsAre_5 : decode cX11_rowsAre 5 = .ok (.astore_n 3, 1) := by decide +kernel
theorem dX11_rowsAre_6 : decode cX11_rowsAre 6 = .ok (.aload_n 3, 1) := by decide +kernel
theorem dX11_rowsAre_7 : decode cX11_rowsAre 7 = .ok (.ifnonnull 6, 3) := by decide +kernel
theorem dX11_rowsAre_10 : decode cX11_rowsAre 10 = .ok (.bipush (-2), 2) := by decide +kernel
theorem dX11_rowsAre_12 : decode cX11_rowsAre 12 = .ok (.ireturn, 1) := by decide +kernel
theorem dX11_rowsAre_13 : decode cX11_rowsAre 13 = .ok (.iload_n 2, 1) := by decide +kernel
theorem dX11_rowsAre_14 : decode cX11_rowsAre 14 = .ok (.tableswitch 57 0 2 #[26, 34, 42], 26) := by decide +kernel
theorem dX11_rowsAre_40 : decode cX11_rowsAre 40 = .ok (.aload_n 3, 1) := by decide +kernel
theorem dX11_rowsAre_41 : decode cX11_rowsAre 41 = .ok (.invokevirtual 271, 3) := by decide +kernel
theorem dX11_rowsAre_44 : decode cX11_rowsAre 44 = .ok (.invokestatic 175, 3) := by decide +kernel
theorem dX11_rowsAre_47 : decode cX11_rowsAre 47 = .ok (.ireturn, 1) := by decide +kernel
theorem dX11_rowsAre_48 : decode cX11_rowsAre 48 = .ok (.aload_n 3, 1) := by decide +kernel
theorem dX11_rowsAre_49 : decode cX11_rowsAre 49 = .ok (.invokevirtual 275, 3) := by decide +kernel
theorem dX11_rowsAre_52 : decode cX11_rowsAre 52 = .ok (.invokestatic 175, 3) := by decide +kernel
theorem dX11_rowsAre_55 : decode cX11_rowsAre 55 = .ok (.ireturn, 1) := by decide +kernel
theorem dX11_rowsAre_56 : decode cX11_rowsAre 56 = .ok (.aload_n 3, 1) := by decide +kernel
theorem dX11_rowsAre_57 : decode cX11_rowsAre 57 = .ok (.invokevirtual 149, 3) := by decide +kernel
theorem dX11_rowsAre_60 : decode cX11_rowsAre 60 = .ok (.aload_n 3, 1) := by decide +kernel
theorem dX11_rowsAre_61 : decode cX11_rowsAre 61 = .ok (.invokevirtual 121, 3) := by decide +kernel
theorem dX11_rowsAre_64 : decode cX11_rowsAre 64 = .ok (.invokevirtual 278, 3) := by decide +kernel
theorem dX11_rowsAre_67 : decode cX11_rowsAre 67 = .ok (.invokestatic 175, 3) := by decide +kernel
theorem dX11_rowsAre_70 : decode cX11_rowsAre 70 = .ok (.ireturn, 1) := by decide +kernel
theorem dX11_rowsAre_71 : decode cX11_rowsAre 71 = .ok (.bipush (-2), 2) := by decide +kernel
theorem dX11_rowsAre_73 : decode cX11_rowsAre 73 = .ok (.ireturn, 1) := by decide +kernel
theorem dX11_selves_0 : decode cX11_selves 0 = .ok (.aload_n 0, 1) := by decide +kernel
theorem dX11_selves_1 : decode cX11_selves 1 = .ok (.iload_n 1, 1) := by decide +kernel
theorem dX11_selves_2 : decode cX11_selves 2 = .ok (.invokevirtual 117, 3) := by decide +kernel
theorem dX11_selves_5 : decode cX11_selves 5 = .ok (.astore_n 2, 1) := by decide +kernel
theorem dX11_selves_6 : decode cX11_selves 6 = .ok (.aload_n 2, 1) := by decide +kernel
theorem dX11_selves_7 : decode cX11_selves 7 = .ok (.ifnonnull 8, 3) := by decide +kernel
theorem dX11_selves_10 : decode cX11_selves 10 = .ok (.bipush (-2), 2) := by decide +kernel
theorem dX11_selves_12 : decode cX11_selves 12 = .ok (.goto 11, 3) := by decide +kernel
theorem dX11_selves_15 : decode cX11_selves 15 = .ok (.aload_n 0, 1) := by decide +kernel
theorem dX11_selves_16 : decode cX11_selves 16 = .ok (.getfield 79, 3) := by decide +kernel
theorem dX11_selves_19 : decode cX11_selves 19 = .ok (.aload_n 2, 1) := by decide +kernel
theorem dX11_selves_20 : decode cX11_selves 20 = .ok (.invokevirtual 334, 3) := by decide +kernel
theorem dX11_selves_23 : decode cX11_selves 23 = .ok (.ireturn, 1) := by decide +kernel
theorem dX11_takes_0 : decode cX11_takes 0 = .ok (.aload_n 0, 1) := by decide +kernel
theorem dX11_takes_1 : decode cX11_takes 1 = .ok (.iload_n 1, 1) := by decide +kernel
theorem dX11_takes_2 : decode cX11_takes 2 = .ok (.iload_n 2, 1) := by decide +kernel
theorem dX11_takes_3 : decode cX11_takes 3 = .ok (.invokevirtual 212, 3) := by decide +kernel
theorem dX11_takes_6 : decode cX11_takes 6 = .ok (.astore_n 3, 1) := by decide +kernel
theorem dX11_takes_7 : decode cX11_takes 7 = .ok (.aload_n 3, 1) := by decide +kernel
theorem dX11_takes_8 : decode cX11_takes 8 = .ok (.ifnonnull 6, 3) := by decide +kernel
theorem dX11_takes_11 : decode cX11_takes 11 = .ok (.bipush (-2), 2) := by decide +kernel
theorem dX11_takes_13 : decode cX11_takes 13 = .ok (.ireturn, 1) := by decide +kernel
theorem dX11_takes_14 : decode cX11_takes 14 = .ok (.aload_n 0, 1) := by decide +kernel
theorem dX11_takes_15 : decode cX11_takes 15 = .ok (.getfield 16, 3) := by decide +kernel
theorem dX11_takes_18 : decode cX11_takes 18 = .ok (.aload_n 3, 1) := by decide +kernel
theorem dX11_takes_19 : decode cX11_takes 19 = .ok (.invokevirtual 290, 3) := by decide +kernel
theorem dX11_takes_22 : decode cX11_takes 22 = .ok (.aload_n 0, 1) := by decide +kernel
theorem dX11_takes_23 : decode cX11_takes 23 = .ok (.getfield 16, 3) := by decide +kernel
theorem dX11_takes_26 : decode cX11_takes 26 = .ok (.invokevirtual 149, 3) := by decide +kernel
theorem dX11_takes_29 : decode cX11_takes 29 = .ok (.iload_n 2, 1) := by decide +kernel
theorem dX11_takes_30 : decode cX11_takes 30 = .ok (.invokevirtual 306, 3) := by decide +kernel
theorem dX11_takes_33 : decode cX11_takes 33 = .ok (.aload_n 0, 1) := by decide +kernel
theorem dX11_takes_34 : decode cX11_takes 34 = .ok (.iload_n 1, 1) := by decide +kernel
theorem dX11_takes_35 : decode cX11_takes 35 = .ok (.invokevirtual 101, 3) := by decide +kernel
theorem dX11_takes_38 : decode cX11_takes 38 = .ok (.aload_n 0, 1) := by decide +kernel
theorem dX11_takes_39 : decode cX11_takes 39 = .ok (.getfield 16, 3) := by decide +kernel
theorem dX11_takes_42 : decode cX11_takes 42 = .ok (.invokevirtual 149, 3) := by decide +kernel
theorem dX11_takes_45 : decode cX11_takes 45 = .ok (.invokevirtual 153, 3) := by decide +kernel
theorem dX11_takes_48 : decode cX11_takes 48 = .ok (.ireturn, 1) := by decide +kernel
theorem dX11_tell_0 : decode cX11_tell 0 = .ok (.aload_n 0, 1) := by decide +kernel
theorem dX11_tell_1 : decode cX11_tell 1 = .ok (.iload_n 1, 1) := by decide +kernel
theorem dX11_tell_2 : decode cX11_tell 2 = .ok (.invokevirtual 117, 3) := by decide +kernel
theorem dX11_tell_5 : decode cX11_tell 5 = .ok (.astore_n 2, 1) := by decide +kernel
theorem dX11_tell_6 : decode cX11_tell 6 = .ok (.aload_n 2, 1) := by decide +kernel
theorem dX11_tell_7 : decode cX11_tell 7 = .ok (.ifnonnull 6, 3) := by decide +kernel
theorem dX11_tell_10 : decode cX11_tell 10 = .ok (.bipush (-2), 2) := by decide +kernel
theorem dX11_tell_12 : decode cX11_tell 12 = .ok (.ireturn, 1) := by decide +kernel
theorem dX11_tell_13 : decode cX11_tell 13 = .ok (.aload_n 0, 1) := by decide +kernel
theorem dX11_tell_14 : decode cX11_tell 14 = .ok (.getfield 36, 3) := by decide +kernel
theorem dX11_tell_17 : decode cX11_tell 17 = .ok (.iconst 0, 1) := by decide +kernel
theorem dX11_tell_18 : decode cX11_tell 18 = .ok (.invokevirtual 90, 3) := by decide +kernel
theorem dX11_tell_21 : decode cX11_tell 21 = .ok (.aload_n 2, 1) := by decide +kernel
theorem dX11_tell_22 : decode cX11_tell 22 = .ok (.aload_n 0, 1) := by decide +kernel
theorem dX11_tell_23 : decode cX11_tell 23 = .ok (.getfield 36, 3) := by decide +kernel
theorem dX11_tell_26 : decode cX11_tell 26 = .ok (.invokevirtual 346, 3) := by decide +kernel
theorem dX11_tell_29 : decode cX11_tell 29 = .ok (.aload_n 0, 1) := by decide +kernel
theorem dX11_tell_30 : decode cX11_tell 30 = .ok (.getfield 36, 3) := by decide +kernel
theorem dX11_tell_33 : decode cX11_tell 33 = .ok (.invokevirtual 83, 3) := by decide +kernel
theorem dX11_tell_36 : decode cX11_tell 36 = .ok (.ireturn, 1) := by decide +kernel
theorem dX11_through_0 : decode cX11_through 0 = .ok (.aload_n 0, 1) := by decide +kernel
theorem dX11_through_1 : decode cX11_through 1 = .ok (.iload_n 1, 1) := by decide +kernel
theorem dX11_through_2 : decode cX11_through 2 = .ok (.invokevirtual 117, 3) := by decide +kernel
theorem dX11_through_5 : decode cX11_through 5 = .ok (.astore_n 3, 1) := by decide +kernel
theorem dX11_through_6 : decode cX11_through 6 = .ok (.aload_n 3, 1) := by decide +kernel
theorem dX11_through_7 : decode cX11_through 7 = .ok (.ifnull 15, 3) := by decide +kernel
theorem dX11_through_10 : decode cX11_through 10 = .ok (.iload_n 2, 1) := by decide +kernel
theorem dX11_through_11 : decode cX11_through 11 = .ok (.ifCond .lt 11, 3) := by decide +kernel
theorem dX11_through_14 : decode cX11_through 14 = .ok (.iload_n 2, 1) := by decide +kernel
theorem dX11_through_15 : decode cX11_through 15 = .ok (.aload_n 3, 1) := by decide +kernel
theorem dX11_through_16 : decode cX11_through 16 = .ok (.invokevirtual 225, 3) := by decide +kernel
theorem dX11_through_19 : decode cX11_through 19 = .ok (.if_icmp .le 6, 3) := by decide +kernel
theorem dX11_through_22 : decode cX11_through 22 = .ok (.bipush (-2), 2) := by decide +kernel
theorem dX11_through_24 : decode cX11_through 24 = .ok (.ireturn, 1) := by decide +kernel
theorem dX11_through_25 : decode cX11_through 25 = .ok (.aload_n 0, 1) := by decide +kernel
theorem dX11_through_26 : decode cX11_through 26 = .ok (.aload_n 3, 1) := by decide +kernel
theorem dX11_through_27 : decode cX11_through 27 = .ok (.invokevirtual 201, 3) := by decide +kernel
theorem dX11_through_30 : decode cX11_through 30 = .ok (.iload_n 2, 1) := by decide +kernel
theorem dX11_through_31 : decode cX11_through 31 = .ok (.invokevirtual 228, 3) := by decide +kernel
theorem dX11_through_34 : decode cX11_through 34 = .ok (.ireturn, 1) := by decide +kernel
theorem dX11_told_0 : decode cX11_told 0 = .ok (.iload_n 1, 1) := by decide +kernel
theorem dX11_told_1 : decode cX11_told 1 = .ok (.invokestatic 93, 3) := by decide +kernel
theorem dX11_told_4 : decode cX11_told 4 = .ok (.ifCond .ne 6, 3) := by decide +kernel
theorem dX11_told_7 : decode cX11_told 7 = .ok (.bipush (-2), 2) := by decide +kernel
theorem dX11_told_9 : decode cX11_told 9 = .ok (.ireturn, 1) := by decide +kernel
theorem dX11_told_10 : decode cX11_told 10 = .ok (.aload_n 0, 1) := by decide +kernel
theorem dX11_told_11 : decode cX11_told 11 = .ok (.getfield 44, 3) := by decide +kernel
theorem dX11_told_14 : decode cX11_told 14 = .ok (.aload_n 0, 1) := by decide +kernel
theorem dX11_told_15 : decode cX11_told 15 = .ok (.getfield 16, 3) := by decide +kernel
theorem dX11_told_18 : decode cX11_told 18 = .ok (.invokevirtual 97, 3) := by decide +kernel
theorem dX11_told_21 : decode cX11_told 21 = .ok (.istore_n 2, 1) := by decide +kernel
theorem dX11_told_22 : decode cX11_told 22 = .ok (.aload_n 0, 1) := by decide +kernel
theorem dX11_told_23 : decode cX11_told 23 = .ok (.getfield 32, 3) := by decide +kernel
theorem dX11_told_26 : decode cX11_told 26 = .ok (.iconst 0, 1) := by decide +kernel
theorem dX11_told_27 : decode cX11_told 27 = .ok (.invokevirtual 90, 3) := by decide +kernel
theorem dX11_told_30 : decode cX11_told 30 = .ok (.iload_n 2, 1) := by decide +kernel
theorem dX11_told_31 : decode cX11_told 31 = .ok (.ifCond .ne 6, 3) := by decide +kernel
theorem dX11_told_34 : decode cX11_told 34 = .ok (.bipush (-4), 2) := by decide +kernel
theorem dX11_told_36 : decode cX11_told 36 = .ok (.ireturn, 1) := by decide +kernel
theorem dX11_told_37 : decode cX11_told 37 = .ok (.aload_n 0, 1) := by decide +kernel
theorem dX11_told_38 : decode cX11_told 38 = .ok (.iload_n 1, 1) := by decide +kernel
theorem dX11_told_39 : decode cX11_told 39 = .ok (.invokevirtual 101, 3) := by decide +kernel
theorem dX11_told_42 : decode cX11_told 42 = .ok (.aload_n 0, 1) := by decide +kernel
theorem dX11_told_43 : decode cX11_told 43 = .ok (.getfield 16, 3) := by decide +kernel
theorem dX11_told_46 : decode cX11_told 46 = .ok (.invokevirtual 104, 3) := by decide +kernel
theorem dX11_told_49 : decode cX11_told 49 = .ok (.ireturn, 1) := by decide +kernel
theorem dX11_undo_0 : decode cX11_undo 0 = .ok (.aload_n 0, 1) := by decide +kernel
theorem dX11_undo_1 : decode cX11_undo 1 = .ok (.getfield 23, 3) := by decide +kernel
theorem dX11_undo_4 : decode cX11_undo 4 = .ok (.invokevirtual 340, 3) := by decide +kernel
theorem dX11_undo_7 : decode cX11_undo 7 = .ok (.istore_n 1, 1) := by decide +kernel
theorem dX11_undo_8 : decode cX11_undo 8 = .ok (.iload_n 1, 1) := by decide +kernel
theorem dX11_undo_9 : decode cX11_undo 9 = .ok (.invokestatic 93, 3) := by decide +kernel
theorem dX11_undo_12 : decode cX11_undo 12 = .ok (.ifCond .ne 5, 3) := by decide +kernel
theorem dX11_undo_15 : decode cX11_undo 15 = .ok (.iconst (-1), 1) := by decide +kernel
theorem dX11_undo_16 : decode cX11_undo 16 = .ok (.ireturn, 1) := by decide +kernel
theorem dX11_undo_17 : decode cX11_undo 17 = .ok (.aload_n 0, 1) := by decide +kernel
theorem dX11_undo_18 : decode cX11_undo 18 = .ok (.getfield 23, 3) := by decide +kernel
theorem dX11_undo_21 : decode cX11_undo 21 = .ok (.aload_n 0, 1) := by decide +kernel
theorem dX11_undo_22 : decode cX11_undo 22 = .ok (.getfield 11, 3) := by decide +kernel
theorem dX11_undo_25 : decode cX11_undo 25 = .ok (.iload_n 1, 1) := by decide +kernel
theorem dX11_undo_26 : decode cX11_undo 26 = .ok (.aaload, 1) := by decide +kernel
theorem dX11_undo_27 : decode cX11_undo 27 = .ok (.invokevirtual 343, 3) := by decide +kernel
theorem dX11_undo_30 : decode cX11_undo 30 = .ok (.aload_n 0, 1) := by decide +kernel
theorem dX11_undo_31 : decode cX11_undo 31 = .ok (.getfield 23, 3) := by decide +kernel
theorem dX11_undo_34 : decode cX11_undo 34 = .ok (.invokevirtual 116, 3) := by decide +kernel
theorem dX11_undo_37 : decode cX11_undo 37 = .ok (.ireturn, 1) := by decide +kernel
theorem dX11_without_0 : decode cX11_without 0 = .ok (.aload_n 0, 1) := by decide +kernel
theorem dX11_without_1 : decode cX11_without 1 = .ok (.iload_n 1, 1) := by decide +kernel
theorem dX11_without_2 : decode cX11_without 2 = .ok (.iload_n 2, 1) := by decide +kernel
theorem dX11_without_3 : decode cX11_without 3 = .ok (.invokevirtual 156, 3) := by decide +kernel
theorem dX11_without_6 : decode cX11_without 6 = .ok (.astore_n 3, 1) := by decide +kernel
theorem dX11_without_7 : decode cX11_without 7 = .ok (.aload_n 3, 1) := by decide +kernel
theorem dX11_without_8 : decode cX11_without 8 = .ok (.ifnonnull 6, 3) := by decide +kernel
theorem dX11_without_11 : decode cX11_without 11 = .ok (.bipush (-2), 2) := by decide +kernel
theorem dX11_without_13 : decode cX11_without 13 = .ok (.ireturn, 1) := by decide +kernel
theorem dX11_without_14 : decode cX11_without 14 = .ok (.aload_n 3, 1) := by decide +kernel
theorem dX11_without_15 : decode cX11_without 15 = .ok (.invokevirtual 121, 3) := by decide +kernel
theorem dX11_without_18 : decode cX11_without 18 = .ok (.iconst 1, 1) := by decide +kernel
theorem dX11_without_19 : decode cX11_without 19 = .ok (.if_icmp .ne 6, 3) := by decide +kernel
theorem dX11_without_22 : decode cX11_without 22 = .ok (.bipush (-6), 2) := by decide +kernel
theorem dX11_without_24 : decode cX11_without 24 = .ok (.ireturn, 1) := by decide +kernel
theorem dX11_without_25 : decode cX11_without 25 = .ok (.aload_n 0, 1) := by decide +kernel
theorem dX11_without_26 : decode cX11_without 26 = .ok (.getfield 16, 3) := by decide +kernel
theorem dX11_without_29 : decode cX11_without 29 = .ok (.aload_n 3, 1) := by decide +kernel
theorem dX11_without_30 : decode cX11_without 30 = .ok (.invokevirtual 290, 3) := by decide +kernel
theorem dX11_without_33 : decode cX11_without 33 = .ok (.aload_n 0, 1) := by decide +kernel
theorem dX11_without_34 : decode cX11_without 34 = .ok (.getfield 16, 3) := by decide +kernel
theorem dX11_without_37 : decode cX11_without 37 = .ok (.iload_n 2, 1) := by decide +kernel
theorem dX11_without_38 : decode cX11_without 38 = .ok (.invokevirtual 323, 3) := by decide +kernel
theorem dX11_without_41 : decode cX11_without 41 = .ok (.aload_n 0, 1) := by decide +kernel
theorem dX11_without_42 : decode cX11_without 42 = .ok (.iload_n 1, 1) := by decide +kernel
theorem dX11_without_43 : decode cX11_without 43 = .ok (.invokevirtual 101, 3) := by decide +kernel
theorem dX11_without_46 : decode cX11_without 46 = .ok (.aload_n 0, 1) := by decide +kernel
theorem dX11_without_47 : decode cX11_without 47 = .ok (.getfield 16, 3) := by decide +kernel
theorem dX11_without_50 : decode cX11_without 50 = .ok (.invokevirtual 121, 3) := by decide +kernel
theorem dX11_without_53 : decode cX11_without 53 = .ok (.ireturn, 1) := by decide +kernel
theorem dX12_adds_0 : decode cX12_adds 0 = .ok (.aload_n 0, 1) := by decide +kernel
theorem dX12_adds_1 : decode cX12_adds 1 = .ok (.iload_n 1, 1) := by decide +kernel
theorem dX12_adds_2 : decode cX12_adds 2 = .ok (.invokevirtual 80, 3) := by decide +kernel
theorem dX12_adds_5 : decode cX12_adds 5 = .ok (.ifCond .eq 7, 3) := by decide +kernel
theorem dX12_adds_8 : decode cX12_adds 8 = .ok (.iload_n 2, 1) := by decide +kernel
theorem dX12_adds_9 : decode cX12_adds 9 = .ok (.ifCond .ge 6, 3) := by decide +kernel
theorem dX12_adds_12 : decode cX12_adds 12 = .ok (.bipush (-2), 2) := by decide +kernel
theorem dX12_adds_14 : decode cX12_adds 14 = .ok (.ireturn, 1) := by decide +kernel
theorem dX12_adds_15 : decode cX12_adds 15 = .ok (.aload_n 0, 1) := by decide +kernel
theorem dX12_adds_16 : decode cX12_adds 16 = .ok (.iload_n 1, 1) := by decide +kernel
theorem dX12_adds_17 : decode cX12_adds 17 = .ok (.iload_n 2, 1) := by decide +kernel
theorem dX12_adds_18 : decode cX12_adds 18 = .ok (.invokevirtual 288, 3) := by decide +kernel
theorem dX12_adds_21 : decode cX12_adds 21 = .ok (.ifCond .ne 5, 3) := by decide +kernel
theorem dX12_adds_24 : decode cX12_adds 24 = .ok (.iconst (-1), 1) := by decide +kernel
theorem dX12_adds_25 : decode cX12_adds 25 = .ok (.ireturn, 1) := by decide +kernel
theorem dX12_adds_26 : decode cX12_adds 26 = .ok (.aload_n 0, 1) := by decide +kernel
theorem dX12_adds_27 : decode cX12_adds 27 = .ok (.iload_n 1, 1) := by decide +kernel
theorem dX12_adds_28 : decode cX12_adds 28 = .ok (.invokevirtual 83, 3) := by decide +kernel
theorem dX12_adds_31 : decode cX12_adds 31 = .ok (.bipush 6, 2) := by decide +kernel
theorem dX12_adds_33 : decode cX12_adds 33 = .ok (.if_icmp .ne 6, 3) := by decide +kernel
theorem dX12_adds_36 : decode cX12_adds 36 = .ok (.bipush (-5), 2) := by decide +kernel
theorem dX12_adds_38 : decode cX12_adds 38 = .ok (.ireturn, 1) := by decide +kernel
theorem dX12_adds_39 : decode cX12_adds 39 = .ok (.aload_n 0, 1) := by decide +kernel
theorem dX12_adds_40 : decode cX12_adds 40 = .ok (.invokevirtual 113, 3) := by decide +kernel
theorem dX12_adds_43 : decode cX12_adds 43 = .ok (.iconst 0, 1) := by decide +kernel
theorem dX12_adds_44 : decode cX12_adds 44 = .ok (.istore_n 3, 1) := by decide +kernel
theorem dX12_adds_45 : decode cX12_adds 45 = .ok (.iload_n 3, 1) := by decide +kernel
theorem dX12_adds_46 : decode cX12_adds 46 = .ok (.aload_n 0, 1) := by decide +kernel
theorem dX12_adds_47 : decode cX12_adds 47 = .ok (.iload_n 1, 1) := by decide +kernel
theorem dX12_adds_48 : decode cX12_adds 48 = .ok (.invokevirtual 76, 3) := by decide +kernel
theorem dX12_adds_51 : decode cX12_adds 51 = .ok (.if_icmp .ge 33, 3) := by decide +kernel
theorem dX12_adds_54 : decode cX12_adds 54 = .ok (.aload_n 0, 1) := by decide +kernel
theorem dX12_adds_55 : decode cX12_adds 55 = .ok (.iload_n 1, 1) := by decide +kernel
theorem dX12_adds_56 : decode cX12_adds 56 = .ok (.bipush 10, 2) := by decide +kernel
theorem dX12_adds_58 : decode cX12_adds 58 = .ok (.bipush 8, 2) := by decide +kernel
theorem dX12_adds_60 : decode cX12_adds 60 = .ok (.aload_n 0, 1) := by decide +kernel
theorem dX12_adds_61 : decode cX12_adds 61 = .ok (.iload_n 1, 1) := by decide +kernel
theorem dX12_adds_62 : decode cX12_adds 62 = .ok (.invokevirtual 83, 3) := by decide +kernel
theorem dX12_adds_65 : decode cX12_adds 65 = .ok (.imul, 1) := by decide +kernel
theorem dX12_adds_66 : decode cX12_adds 66 = .ok (.iadd, 1) := by decide +kernel
theorem dX12_adds_67 : decode cX12_adds 67 = .ok (.iload_n 3, 1) := by decide +kernel
theorem dX12_adds_68 : decode cX12_adds 68 = .ok (.iadd, 1) := by decide +kernel
theorem dX12_adds_69 : decode cX12_adds 69 = .ok (.aload_n 0, 1) := by decide +kernel
theorem dX12_adds_70 : decode cX12_adds 70 = .ok (.getfield 35, 3) := by decide +kernel
theorem dX12_adds_73 : decode cX12_adds 73 = .ok (.iload_n 3, 1) := by decide +kernel
theorem dX12_adds_74 : decode cX12_adds 74 = .ok (.iaload, 1) := by decide +kernel
theorem dX12_adds_75 : decode cX12_adds 75 = .ok (.invokevirtual 109, 3) := by decide +kernel
theorem dX12_adds_78 : decode cX12_adds 78 = .ok (.iinc 3 1, 3) := by decide +kernel
theorem dX12_adds_81 : decode cX12_adds 81 = .ok (.goto (-36), 3) := by decide +kernel
theorem dX12_adds_84 : decode cX12_adds 84 = .ok (.aload_n 0, 1) := by decide +kernel
theorem dX12_adds_85 : decode cX12_adds 85 = .ok (.iload_n 1, 1) := by decide +kernel
theorem dX12_adds_86 : decode cX12_adds 86 = .ok (.bipush 9, 2) := by decide +kernel
theorem dX12_adds_88 : decode cX12_adds 88 = .ok (.aload_n 0, 1) := by decide +kernel
theorem dX12_adds_89 : decode cX12_adds 89 = .ok (.iload_n 1, 1) := by decide +kernel
theorem dX12_adds_90 : decode cX12_adds 90 = .ok (.invokevirtual 83, 3) := by decide +kernel
theorem dX12_adds_93 : decode cX12_adds 93 = .ok (.iconst 1, 1) := by decide +kernel
theorem dX12_adds_94 : decode cX12_adds 94 = .ok (.iadd, 1) := by decide +kernel
theorem dX12_adds_95 : decode cX12_adds 95 = .ok (.invokevirtual 109, 3) := by decide +kernel
theorem dX12_adds_98 : decode cX12_adds 98 = .ok (.aload_n 0, 1) := by decide +kernel
theorem dX12_adds_99 : decode cX12_adds 99 = .ok (.aload_n 0, 1) := by decide +kernel
theorem dX12_adds_100 : decode cX12_adds 100 = .ok (.iload_n 1, 1) := by decide +kernel
theorem dX12_adds_101 : decode cX12_adds 101 = .ok (.invokevirtual 83, 3) := by decide +kernel
theorem dX12_adds_104 : decode cX12_adds 104 = .ok (.invokevirtual 106, 3) := by decide +kernel
theorem dX12_adds_107 : decode cX12_adds 107 = .ok (.ireturn, 1) := by decide +kernel
theorem dX12_ahead_0 : decode cX12_ahead 0 = .ok (.aload_n 0, 1) := by decide +kernel
theorem dX12_ahead_1 : decode cX12_ahead 1 = .ok (.iload_n 1, 1) := by decide +kernel
theorem dX12_ahead_2 : decode cX12_ahead 2 = .ok (.iload_n 2, 1) := by decide +kernel
theorem dX12_ahead_3 : decode cX12_ahead 3 = .ok (.invokevirtual 215, 3) := by decide +kernel
theorem dX12_ahead_6 : decode cX12_ahead 6 = .ok (.ifCond .eq 12, 3) := by decide +kernel
theorem dX12_ahead_9 : decode cX12_ahead 9 = .ok (.aload_n 0, 1) := by decide +kernel
theorem dX12_ahead_10 : decode cX12_ahead 10 = .ok (.iload_n 1, 1) := by decide +kernel
theorem dX12_ahead_11 : decode cX12_ahead 11 = .ok (.iload_n 2, 1) := by decide +kernel
theorem dX12_ahead_12 : decode cX12_ahead 12 = .ok (.invokevirtual 330, 3) := by decide +kernel
theorem dX12_ahead_15 : decode cX12_ahead 15 = .ok (.goto 5, 3) := by decide +kernel
theorem dX12_ahead_18 : decode cX12_ahead 18 = .ok (.bipush (-2), 2) := by decide +kernel
theorem dX12_ahead_20 : decode cX12_ahead 20 = .ok (.ireturn, 1) := by decide +kernel
theorem dX12_aheadOf_0 : decode cX12_aheadOf 0 = .ok (.iconst 1, 1) := by decide +kernel
theorem dX12_aheadOf_1 : decode cX12_aheadOf 1 = .ok (.aload_n 0, 1) := by decide +kernel
theorem dX12_aheadOf_2 : decode cX12_aheadOf 2 = .ok (.iload_n 1, 1) := by decide +kernel
theorem dX12_aheadOf_3 : decode cX12_aheadOf 3 = .ok (.invokevirtual 76, 3) := by decide +kernel
theorem dX12_aheadOf_6 : decode cX12_aheadOf 6 = .ok (.ishl, 1) := by decide +kernel
theorem dX12_aheadOf_7 : decode cX12_aheadOf 7 = .ok (.iconst 1, 1) := by decide +kernel
theorem dX12_aheadOf_8 : decode cX12_aheadOf 8 = .ok (.isub, 1) := by decide +kernel
theorem dX12_aheadOf_9 : decode cX12_aheadOf 9 = .ok (.iconst 1, 1) := by decide +kernel
theorem dX12_aheadOf_10 : decode cX12_aheadOf 10 = .ok (.iload_n 2, 1) := by decide +kernel
theorem dX12_aheadOf_11 : decode cX12_aheadOf 11 = .ok (.ishl, 1) := by decide +kernel
theorem dX12_aheadOf_12 : decode cX12_aheadOf 12 = .ok (.iconst (-1), 1) := by decide +kernel
theorem dX12_aheadOf_13 : decode cX12_aheadOf 13 = .ok (.ixor, 1) := by decide +kernel
theorem dX12_aheadOf_14 : decode cX12_aheadOf 14 = .ok (.iand, 1) := by decide +kernel
theorem dX12_aheadOf_15 : decode cX12_aheadOf 15 = .ok (.istore_n 3, 1) := by decide +kernel
theorem dX12_aheadOf_16 : decode cX12_aheadOf 16 = .ok (.iconst 0, 1) := by decide +kernel
theorem dX12_aheadOf_17 : decode cX12_aheadOf 17 = .ok (.istore 4, 2) := by decide +kernel
theorem dX12_aheadOf_19 : decode cX12_aheadOf 19 = .ok (.iload 4, 2) := by decide +kernel
theorem dX12_aheadOf_21 : decode cX12_aheadOf 21 = .ok (.aload_n 0, 1) := by decide +kernel
theorem dX12_aheadOf_22 : decode cX12_aheadOf 22 = .ok (.iload_n 1, 1) := by decide +kernel
theorem dX12_aheadOf_23 : decode cX12_aheadOf 23 = .ok (.invokevirtual 83, 3) := by decide +kernel
theorem dX12_aheadOf_26 : decode cX12_aheadOf 26 = .ok (.if_icmp .ge 51, 3) := by decide +kernel
theorem dX12_aheadOf_29 : decode cX12_aheadOf 29 = .ok (.aload_n 0, 1) := by decide +kernel
theorem dX12_aheadOf_30 : decode cX12_aheadOf 30 = .ok (.iload_n 1, 1) := by decide +kernel
theorem dX12_aheadOf_31 : decode cX12_aheadOf 31 = .ok (.iload 4, 2) := by decide +kernel
theorem dX12_aheadOf_33 : decode cX12_aheadOf 33 = .ok (.iload_n 2, 1) := by decide +kernel
theorem dX12_aheadOf_34 : decode cX12_aheadOf 34 = .ok (.invokevirtual 327, 3) := by decide +kernel
theorem dX12_aheadOf_37 : decode cX12_aheadOf 37 = .ok (.istore 5, 2) := by decide +kernel
theorem dX12_aheadOf_39 : decode cX12_aheadOf 39 = .ok (.iload 5, 2) := by decide +kernel
theorem dX12_aheadOf_41 : decode cX12_aheadOf 41 = .ok (.aload_n 0, 1) := by decide +kernel
theorem dX12_aheadOf_42 : decode cX12_aheadOf 42 = .ok (.iload_n 1, 1) := by decide +kernel
theorem dX12_aheadOf_43 : decode cX12_aheadOf 43 = .ok (.invokevirtual 76, 3) := by decide +kernel
theorem dX12_aheadOf_46 : decode cX12_aheadOf 46 = .ok (.if_icmp .ge 25, 3) := by decide +kernel
theorem dX12_aheadOf_49 : decode cX12_aheadOf 49 = .ok (.iload_n 3, 1) := by decide +kernel
theorem dX12_aheadOf_50 : decode cX12_aheadOf 50 = .ok (.iconst 1, 1) := by decide +kernel
theorem dX12_aheadOf_51 : decode cX12_aheadOf 51 = .ok (.aload_n 0, 1) := by decide +kernel
theorem dX12_aheadOf_52 : decode cX12_aheadOf 52 = .ok (.iload_n 1, 1) := by decide +kernel
theorem dX12_aheadOf_53 : decode cX12_aheadOf 53 = .ok (.iload 4, 2) := by decide +kernel
theorem dX12_aheadOf_55 : decode cX12_aheadOf 55 = .ok (.iload 5, 2) := by decide +kernel
theorem dX12_aheadOf_57 : decode cX12_aheadOf 57 = .ok (.invokevirtual 291, 3) := by decide +kernel
theorem dX12_aheadOf_60 : decode cX12_aheadOf 60 = .ok (.ishl, 1) := by decide +kernel
theorem dX12_aheadOf_61 : decode cX12_aheadOf 61 = .ok (.iconst (-1), 1) := by decide +kernel
theorem dX12_aheadOf_62 : decode cX12_aheadOf 62 = .ok (.ixor, 1) := by decide +kernel
theorem dX12_aheadOf_63 : decode cX12_aheadOf 63 = .ok (.iand, 1) := by decide +kernel
theorem dX12_aheadOf_64 : decode cX12_aheadOf 64 = .ok (.istore_n 3, 1) := by decide +kernel
theorem dX12_aheadOf_65 : decode cX12_aheadOf 65 = .ok (.iinc 5 1, 3) := by decide +kernel
theorem dX12_aheadOf_68 : decode cX12_aheadOf 68 = .ok (.goto (-29), 3) := by decide +kernel
theorem dX12_aheadOf_71 : decode cX12_aheadOf 71 = .ok (.iinc 4 1, 3) := by decide +kernel
theorem dX12_aheadOf_74 : decode cX12_aheadOf 74 = .ok (.goto (-55), 3) := by decide +kernel
theorem dX12_aheadOf_77 : decode cX12_aheadOf 77 = .ok (.iload_n 3, 1) := by decide +kernel
theorem dX12_aheadOf_78 : decode cX12_aheadOf 78 = .ok (.ireturn, 1) := by decide +kernel
theorem dX12_alike_0 : decode cX12_alike 0 = .ok (.aload_n 0, 1) := by decide +kernel
theorem dX12_alike_1 : decode cX12_alike 1 = .ok (.iload_n 1, 1) := by decide +kernel
theorem dX12_alike_2 : decode cX12_alike 2 = .ok (.invokevirtual 80, 3) := by decide +kernel
theorem dX12_alike_5 : decode cX12_alike 5 = .ok (.ifCond .eq 11, 3) := by decide +kernel
theorem dX12_alike_8 : decode cX12_alike 8 = .ok (.aload_n 0, 1) := by decide +kernel
theorem dX12_alike_9 : decode cX12_alike 9 = .ok (.iload_n 2, 1) := by decide +kernel
theorem dX12_alike_10 : decode cX12_alike 10 = .ok (.invokevirtual 80, 3) := by decide +kernel
theorem dX12_alike_13 : decode cX12_alike 13 = .ok (.ifCond .ne 6, 3) := by decide +kernel
theorem dX12_alike_16 : decode cX12_alike 16 = .ok (.bipush (-2), 2) := by decide +kernel
theorem dX12_alike_18 : decode cX12_alike 18 = .ok (.ireturn, 1) := by decide +kernel
theorem dX12_alike_19 : decode cX12_alike 19 = .ok (.aload_n 0, 1) := by decide +kernel
theorem dX12_alike_20 : decode cX12_alike 20 = .ok (.iload_n 1, 1) := by decide +kernel
theorem dX12_alike_21 : decode cX12_alike 21 = .ok (.invokevirtual 76, 3) := by decide +kernel
theorem dX12_alike_24 : decode cX12_alike 24 = .ok (.aload_n 0, 1) := by decide +kernel
theorem dX12_alike_25 : decode cX12_alike 25 = .ok (.iload_n 2, 1) := by decide +kernel
theorem dX12_alike_26 : decode cX12_alike 26 = .ok (.invokevirtual 76, 3) := by decide +kernel
theorem dX12_alike_29 : decode cX12_alike 29 = .ok (.if_icmp .ne 19, 3) := by decide +kernel
theorem dX12_alike_32 : decode cX12_alike 32 = .ok (.aload_n 0, 1) := by decide +kernel
theorem dX12_alike_33 : decode cX12_alike 33 = .ok (.iload_n 1, 1) := by decide +kernel
theorem dX12_alike_34 : decode cX12_alike 34 = .ok (.iload_n 2, 1) := by decide +kernel
theorem dX12_alike_35 : decode cX12_alike 35 = .ok (.iconst 0, 1) := by decide +kernel
theorem dX12_alike_36 : decode cX12_alike 36 = .ok (.iconst 0, 1) := by decide +kernel
theorem dX12_alike_37 : decode cX12_alike 37 = .ok (.iconst 1, 1) := by decide +kernel
theorem dX12_alike_38 : decode cX12_alike 38 = .ok (.invokevirtual 364, 3) := by decide +kernel
theorem dX12_alike_41 : decode cX12_alike 41 = .ok (.ifCond .le 7, 3) := by decide +kernel
theorem dX12_alike_44 : decode cX12_alike 44 = .ok (.iconst 1, 1) := by decide +kernel
theorem dX12_alike_45 : decode cX12_alike 45 = .ok (.goto 4, 3) := by decide +kernel
theorem dX12_alike_48 : decode cX12_alike 48 = .ok (.iconst 0, 1) := by decide +kernel
theorem dX12_alike_49 : decode cX12_alike 49 = .ok (.ireturn, 1) := by decide +kernel
theorem dX12_anti_0 : decode cX12_anti 0 = .ok (.aload_n 0, 1) := by decide +kernel
theorem dX12_anti_1 : decode cX12_anti 1 = .ok (.iload_n 1, 1) := by decide +kernel
theorem dX12_anti_2 : decode cX12_anti 2 = .ok (.invokevirtual 80, 3) := by decide +kernel
theorem dX12_anti_5 : decode cX12_anti 5 = .ok (.ifCond .eq 11, 3) := by decide +kernel
theorem dX12_anti_8 : decode cX12_anti 8 = .ok (.aload_n 0, 1) := by decide +kernel
theorem dX12_anti_9 : decode cX12_anti 9 = .ok (.iload_n 1, 1) := by decide +kernel
theorem dX12_anti_10 : decode cX12_anti 10 = .ok (.invokevirtual 224, 3) := by decide +kernel
theorem dX12_anti_13 : decode cX12_anti 13 = .ok (.goto 5, 3) := by decide +kernel
theorem dX12_anti_16 : decode cX12_anti 16 = .ok (.bipush (-2), 2) := by decide +kernel
theorem dX12_anti_18 : decode cX12_anti 18 = .ok (.ireturn, 1) := by decide +kernel
theorem dX12_antiOf_0 : decode cX12_antiOf 0 = .ok (.iconst 0, 1) := by decide +kernel
theorem dX12_antiOf_1 : decode cX12_antiOf 1 = .ok (.istore_n 2, 1) := by decide +kernel
theorem dX12_antiOf_2 : decode cX12_antiOf 2 = .ok (.iconst 1, 1) := by decide +kernel
theorem dX12_antiOf_3 : decode cX12_antiOf 3 = .ok (.istore_n 3, 1) := by decide +kernel
theorem dX12_antiOf_4 : decode cX12_antiOf 4 = .ok (.iload_n 3, 1) := by decide +kernel
theorem dX12_antiOf_5 : decode cX12_antiOf 5 = .ok (.iconst 1, 1) := by decide +kernel
theorem dX12_antiOf_6 : decode cX12_antiOf 6 = .ok (.aload_n 0, 1) := by decide +kernel
theorem dX12_antiOf_7 : decode cX12_antiOf 7 = .ok (.iload_n 1, 1) := by decide +kernel
theorem dX12_antiOf_8 : decode cX12_antiOf 8 = .ok (.invokevirtual 76, 3) := by decide +kernel
theorem dX12_antiOf_11 : decode cX12_antiOf 11 = .ok (.ishl, 1) := by decide +kernel
theorem dX12_antiOf_12 : decode cX12_antiOf 12 = .ok (.if_icmp .ge 35, 3) := by decide +kernel
theorem dX12_antiOf_15 : decode cX12_antiOf 15 = .ok (.iload_n 3, 1) := by decide +kernel
theorem dX12_antiOf_16 : decode cX12_antiOf 16 = .ok (.invokestatic 100, 3) := by decide +kernel
theorem dX12_antiOf_19 : decode cX12_antiOf 19 = .ok (.iload_n 2, 1) := by decide +kernel
theorem dX12_antiOf_20 : decode cX12_antiOf 20 = .ok (.invokestatic 100, 3) := by decide +kernel
theorem dX12_antiOf_23 : decode cX12_antiOf 23 = .ok (.if_icmp .le 16, 3) := by decide +kernel
theorem dX12_antiOf_26 : decode cX12_antiOf 26 = .ok (.aload_n 0, 1) := by decide +kernel
theorem dX12_antiOf_27 : decode cX12_antiOf 27 = .ok (.iload_n 1, 1) := by decide +kernel
theorem dX12_antiOf_28 : decode cX12_antiOf 28 = .ok (.iload_n 3, 1) := by decide +kernel
theorem dX12_antiOf_29 : decode cX12_antiOf 29 = .ok (.invokevirtual 221, 3) := by decide +kernel
theorem dX12_antiOf_32 : decode cX12_antiOf 32 = .ok (.ifCond .eq 7, 3) := by decide +kernel
theorem dX12_antiOf_35 : decode cX12_antiOf 35 = .ok (.iload_n 3, 1) := by decide +kernel
theorem dX12_antiOf_36 : decode cX12_antiOf 36 = .ok (.goto 4, 3) := by decide +kernel
theorem dX12_antiOf_39 : decode cX12_antiOf 39 = .ok (.iload_n 2, 1) := by decide +kernel
theorem dX12_antiOf_40 : decode cX12_antiOf 40 = .ok (.istore_n 2, 1) := by decide +kernel
theorem dX12_antiOf_41 : decode cX12_antiOf 41 = .ok (.iinc 3 1, 3) := by decide +kernel
theorem dX12_antiOf_44 : decode cX12_antiOf 44 = .ok (.goto (-40), 3) := by decide +kernel
theorem dX12_antiOf_47 : decode cX12_antiOf 47 = .ok (.iload_n 2, 1) := by decide +kernel
theorem dX12_antiOf_48 : decode cX12_antiOf 48 = .ok (.ireturn, 1) := by decide +kernel
theorem dX12_areFree_0 : decode cX12_areFree 0 = .ok (.iload_n 2, 1) := by decide +kernel
theorem dX12_areFree_1 : decode cX12_areFree 1 = .ok (.iload_n 3, 1) := by decide +kernel
theorem dX12_areFree_2 : decode cX12_areFree 2 = .ok (.if_icmp .eq 27, 3) := by decide +kernel
theorem dX12_areFree_5 : decode cX12_areFree 5 = .ok (.aload_n 0, 1) := by decide +kernel
theorem dX12_areFree_6 : decode cX12_areFree 6 = .ok (.iload_n 1, 1) := by decide +kernel
theorem dX12_areFree_7 : decode cX12_areFree 7 = .ok (.iload_n 2, 1) := by decide +kernel
theorem dX12_areFree_8 : decode cX12_areFree 8 = .ok (.iload_n 3, 1) := by decide +kernel
theorem dX12_areFree_9 : decode cX12_areFree 9 = .ok (.invokevirtual 93, 3) := by decide +kernel
theorem dX12_areFree_12 : decode cX12_areFree 12 = .ok (.ifCond .ne 17, 3) := by decide +kernel
theorem dX12_areFree_15 : decode cX12_areFree 15 = .ok (.aload_n 0, 1) := by decide +kernel
theorem dX12_areFree_16 : decode cX12_areFree 16 = .ok (.iload_n 1, 1) := by decide +kernel
theorem dX12_areFree_17 : decode cX12_areFree 17 = .ok (.iload_n 3, 1) := by decide +kernel
theorem dX12_areFree_18 : decode cX12_areFree 18 = .ok (.iload_n 2, 1) := by decide +kernel
theorem dX12_areFree_19 : decode cX12_areFree 19 = .ok (.invokevirtual 93, 3) := by decide +kernel
theorem dX12_areFree_22 : decode cX12_areFree 22 = .ok (.ifCond .ne 7, 3) := by decide +kernel
theorem dX12_areFree_25 : decode cX12_areFree 25 = .ok (.iconst 1, 1) := by decide +kernel
theorem dX12_areFree_26 : decode cX12_areFree 26 = .ok (.goto 4, 3) := by decide +kernel
theorem dX12_areFree_29 : decode cX12_areFree 29 = .ok (.iconst 0, 1) := by decide +kernel
theorem dX12_areFree_30 : decode cX12_areFree 30 = .ok (.ireturn, 1) := by decide +kernel
theorem dX12_areLines_0 : decode cX12_areLines 0 = .ok (.iconst 0, 1) := by decide +kernel
theorem dX12_areLines_1 : decode cX12_areLines 1 = .ok (.istore_n 2, 1) := by decide +kernel
theorem dX12_areLines_2 : decode cX12_areLines 2 = .ok (.iload_n 2, 1) := by decide +kernel
theorem dX12_areLines_3 : decode cX12_areLines 3 = .ok (.aload_n 0, 1) := by decide +kernel
theorem dX12_areLines_4 : decode cX12_areLines 4 = .ok (.iload_n 1, 1) := by decide +kernel
theorem dX12_areLines_5 : decode cX12_areLines 5 = .ok (.invokevirtual 83, 3) := by decide +kernel
theorem dX12_areLines_8 : decode cX12_areLines 8 = .ok (.if_icmp .ge 20, 3) := by decide +kernel
theorem dX12_areLines_11 : decode cX12_areLines 11 = .ok (.aload_n 0, 1) := by decide +kernel
theorem dX12_areLines_12 : decode cX12_areLines 12 = .ok (.iload_n 1, 1) := by decide +kernel
theorem dX12_areLines_13 : decode cX12_areLines 13 = .ok (.iload_n 2, 1) := by decide +kernel
theorem dX12_areLines_14 : decode cX12_areLines 14 = .ok (.invokevirtual 298, 3) := by decide +kernel
theorem dX12_areLines_17 : decode cX12_areLines 17 = .ok (.ifCond .ne 5, 3) := by decide +kernel
theorem dX12_areLines_20 : decode cX12_areLines 20 = .ok (.iconst 0, 1) := by decide +kernel
theorem dX12_areLines_21 : decode cX12_areLines 21 = .ok (.ireturn, 1) := by decide +kernel
theorem dX12_areLines_22 : decode cX12_areLines 22 = .ok (.iinc 2 1, 3) := by decide +kernel
theorem dX12_areLines_25 : decode cX12_areLines 25 = .ok (.goto (-23), 3) := by decide +kernel
theorem dX12_areLines_28 : decode cX12_areLines 28 = .ok (.iconst 1, 1) := by decide +kernel
theorem dX12_areLines_29 : decode cX12_areLines 29 = .ok (.ireturn, 1) := by decide +kernel
theorem dX12_areUnlike_0 : decode cX12_areUnlike 0 = .ok (.iconst 0, 1) := by decide +kernel
theorem dX12_areUnlike_1 : decode cX12_areUnlike 1 = .ok (.istore_n 2, 1) := by decide +kernel
theorem dX12_areUnlike_2 : decode cX12_areUnlike 2 = .ok (.iload_n 2, 1) := by decide +kernel
theorem dX12_areUnlike_3 : decode cX12_areUnlike 3 = .ok (.aload_n 0, 1) := by decide +kernel
theorem dX12_areUnlike_4 : decode cX12_areUnlike 4 = .ok (.iload_n 1, 1) := by decide +kernel
theorem dX12_areUnlike_5 : decode cX12_areUnlike 5 = .ok (.invokevirtual 83, 3) := by decide +kernel
theorem dX12_areUnlike_8 : decode cX12_areUnlike 8 = .ok (.if_icmp .ge 82, 3) := by decide +kernel
theorem dX12_areUnlike_11 : decode cX12_areUnlike 11 = .ok (.iconst 0, 1) := by decide +kernel
theorem dX12_areUnlike_12 : decode cX12_areUnlike 12 = .ok (.istore_n 3, 1) := by decide +kernel
theorem dX12_areUnlike_13 : decode cX12_areUnlike 13 = .ok (.iload_n 3, 1) := by decide +kernel
theorem dX12_areUnlike_14 : decode cX12_areUnlike 14 = .ok (.iload_n 2, 1) := by decide +kernel
theorem dX12_areUnlike_15 : decode cX12_areUnlike 15 = .ok (.if_icmp .ge 69, 3) := by decide +kernel
theorem dX12_areUnlike_18 : decode cX12_areUnlike 18 = .ok (.iconst 1, 1) := by decide +kernel
theorem dX12_areUnlike_19 : decode cX12_areUnlike 19 = .ok (.istore 4, 2) := by decide +kernel
theorem dX12_areUnlike_21 : decode cX12_areUnlike 21 = .ok (.iconst 0, 1) := by decide +kernel
theorem dX12_areUnlike_22 : decode cX12_areUnlike 22 = .ok (.istore 5, 2) := by decide +kernel
theorem dX12_areUnlike_24 : decode cX12_areUnlike 24 = .ok (.iload 5, 2) := by decide +kernel
theorem dX12_areUnlike_26 : decode cX12_areUnlike 26 = .ok (.aload_n 0, 1) := by decide +kernel
theorem dX12_areUnlike_27 : decode cX12_areUnlike 27 = .ok (.iload_n 1, 1) := by decide +kernel
theorem dX12_areUnlike_28 : decode cX12_areUnlike 28 = .ok (.invokevirtual 76, 3) := by decide +kernel
theorem dX12_areUnlike_31 : decode cX12_areUnlike 31 = .ok (.if_icmp .ge 40, 3) := by decide +kernel
theorem dX12_areUnlike_34 : decode cX12_areUnlike 34 = .ok (.iload 4, 2) := by decide +kernel
theorem dX12_areUnlike_36 : decode cX12_areUnlike 36 = .ok (.ifCond .eq 26, 3) := by decide +kernel
theorem dX12_areUnlike_39 : decode cX12_areUnlike 39 = .ok (.aload_n 0, 1) := by decide +kernel
theorem dX12_areUnlike_40 : decode cX12_areUnlike 40 = .ok (.iload_n 1, 1) := by decide +kernel
theorem dX12_areUnlike_41 : decode cX12_areUnlike 41 = .ok (.iload_n 2, 1) := by decide +kernel
theorem dX12_areUnlike_42 : decode cX12_areUnlike 42 = .ok (.iload 5, 2) := by decide +kernel
theorem dX12_areUnlike_44 : decode cX12_areUnlike 44 = .ok (.invokevirtual 291, 3) := by decide +kernel
theorem dX12_areUnlike_47 : decode cX12_areUnlike 47 = .ok (.aload_n 0, 1) := by decide +kernel
theorem dX12_areUnlike_48 : decode cX12_areUnlike 48 = .ok (.iload_n 1, 1) := by decide +kernel
theorem dX12_areUnlike_49 : decode cX12_areUnlike 49 = .ok (.iload_n 3, 1) := by decide +kernel
theorem dX12_areUnlike_50 : decode cX12_areUnlike 50 = .ok (.iload 5, 2) := by decide +kernel
theorem dX12_areUnlike_52 : decode cX12_areUnlike 52 = .ok (.invokevirtual 291, 3) := by decide +kernel
theorem dX12_areUnlike_55 : decode cX12_areUnlike 55 = .ok (.if_icmp .ne 7, 3) := by decide +kernel
theorem dX12_areUnlike_58 : decode cX12_areUnlike 58 = .ok (.iconst 1, 1) := by decide +kernel
theorem dX12_areUnlike_59 : decode cX12_areUnlike 59 = .ok (.goto 4, 3) := by decide +kernel
theorem dX12_areUnlike_62 : decode cX12_areUnlike 62 = .ok (.iconst 0, 1) := by decide +kernel
theorem dX12_areUnlike_63 : decode cX12_areUnlike 63 = .ok (.istore 4, 2) := by decide +kernel
theorem dX12_areUnlike_65 : decode cX12_areUnlike 65 = .ok (.iinc 5 1, 3) := by decide +kernel
theorem dX12_areUnlike_68 : decode cX12_areUnlike 68 = .ok (.goto (-44), 3) := by decide +kernel
theorem dX12_areUnlike_71 : decode cX12_areUnlike 71 = .ok (.iload 4, 2) := by decide +kernel
theorem dX12_areUnlike_73 : decode cX12_areUnlike 73 = .ok (.ifCond .eq 5, 3) := by decide +kernel
theorem dX12_areUnlike_76 : decode cX12_areUnlike 76 = .ok (.iconst 0, 1) := by decide +kernel
theorem dX12_areUnlike_77 : decode cX12_areUnlike 77 = .ok (.ireturn, 1) := by decide +kernel
theorem dX12_areUnlike_78 : decode cX12_areUnlike 78 = .ok (.iinc 3 1, 3) := by decide +kernel
theorem dX12_areUnlike_81 : decode cX12_areUnlike 81 = .ok (.goto (-68), 3) := by decide +kernel
theorem dX12_areUnlike_84 : decode cX12_areUnlike 84 = .ok (.iinc 2 1, 3) := by decide +kernel
theorem dX12_areUnlike_87 : decode cX12_areUnlike 87 = .ok (.goto (-85), 3) := by decide +kernel
theorem dX12_areUnlike_90 : decode cX12_areUnlike 90 = .ok (.iconst 1, 1) := by decide +kernel
theorem dX12_areUnlike_91 : decode cX12_areUnlike 91 = .ok (.ireturn, 1) := by decide +kernel
theorem dX12_at_0 : decode cX12_at 0 = .ok (.aload_n 0, 1) := by decide +kernel
theorem dX12_at_1 : decode cX12_at 1 = .ok (.iload_n 1, 1) := by decide +kernel
theorem dX12_at_2 : decode cX12_at 2 = .ok (.iload_n 2, 1) := by decide +kernel
theorem dX12_at_3 : decode cX12_at 3 = .ok (.invokevirtual 215, 3) := by decide +kernel
theorem dX12_at_6 : decode cX12_at 6 = .ok (.ifCond .eq 20, 3) := by decide +kernel
theorem dX12_at_9 : decode cX12_at 9 = .ok (.iload_n 3, 1) := by decide +kernel
theorem dX12_at_10 : decode cX12_at 10 = .ok (.i2l, 1) := by decide +kernel
theorem dX12_at_11 : decode cX12_at 11 = .ok (.lconst 0, 1) := by decide +kernel
theorem dX12_at_12 : decode cX12_at 12 = .ok (.aload_n 0, 1) := by decide +kernel
theorem dX12_at_13 : decode cX12_at 13 = .ok (.iload_n 1, 1) := by decide +kernel
theorem dX12_at_14 : decode cX12_at 14 = .ok (.invokevirtual 76, 3) := by decide +kernel
theorem dX12_at_17 : decode cX12_at 17 = .ok (.iconst 1, 1) := by decide +kernel
theorem dX12_at_18 : decode cX12_at 18 = .ok (.isub, 1) := by decide +kernel
theorem dX12_at_19 : decode cX12_at 19 = .ok (.i2l, 1) := by decide +kernel
theorem dX12_at_20 : decode cX12_at 20 = .ok (.invokestatic 64, 3) := by decide +kernel
theorem dX12_at_23 : decode cX12_at 23 = .ok (.ifCond .ne 6, 3) := by decide +kernel
theorem dX12_at_26 : decode cX12_at 26 = .ok (.bipush (-2), 2) := by decide +kernel
theorem dX12_at_28 : decode cX12_at 28 = .ok (.ireturn, 1) := by decide +kernel
theorem dX12_at_29 : decode cX12_at 29 = .ok (.aload_n 0, 1) := by decide +kernel
theorem dX12_at_30 : decode cX12_at 30 = .ok (.iload_n 1, 1) := by decide +kernel
theorem dX12_at_31 : decode cX12_at 31 = .ok (.invokevirtual 285, 3) := by decide +kernel
theorem dX12_at_34 : decode cX12_at 34 = .ok (.aload_n 0, 1) := by decide +kernel
theorem dX12_at_35 : decode cX12_at 35 = .ok (.iload_n 1, 1) := by decide +kernel
theorem dX12_at_36 : decode cX12_at 36 = .ok (.iload_n 2, 1) := by decide +kernel
theorem dX12_at_37 : decode cX12_at 37 = .ok (.iload_n 3, 1) := by decide +kernel
theorem dX12_at_38 : decode cX12_at 38 = .ok (.invokevirtual 304, 3) := by decide +kernel
theorem dX12_at_41 : decode cX12_at 41 = .ok (.ireturn, 1) := by decide +kernel
theorem dX12_atOf_0 : decode cX12_atOf 0 = .ok (.iconst 0, 1) := by decide +kernel
theorem dX12_atOf_1 : decode cX12_atOf 1 = .ok (.istore 4, 2) := by decide +kernel
theorem dX12_atOf_3 : decode cX12_atOf 3 = .ok (.iconst 0, 1) := by decide +kernel
theorem dX12_atOf_4 : decode cX12_atOf 4 = .ok (.istore 5, 2) := by decide +kernel
theorem dX12_atOf_6 : decode cX12_atOf 6 = .ok (.iload 5, 2) := by decide +kernel
theorem dX12_atOf_8 : decode cX12_atOf 8 = .ok (.aload_n 0, 1) := by decide +kernel
theorem dX12_atOf_9 : decode cX12_atOf 9 = .ok (.getfield 282, 3) := by decide +kernel
theorem dX12_atOf_12 : decode cX12_atOf 12 = .ok (.if_icmp .gt 91, 3) := by decide +kernel
theorem dX12_atOf_15 : decode cX12_atOf 15 = .ok (.iload 5, 2) := by decide +kernel
theorem dX12_atOf_17 : decode cX12_atOf 17 = .ok (.invokestatic 100, 3) := by decide +kernel
theorem dX12_atOf_20 : decode cX12_atOf 20 = .ok (.iload_n 3, 1) := by decide +kernel
theorem dX12_atOf_21 : decode cX12_atOf 21 = .ok (.if_icmp .ne 40, 3) := by decide +kernel
theorem dX12_atOf_24 : decode cX12_atOf 24 = .ok (.iload 5, 2) := by decide +kernel
theorem dX12_atOf_26 : decode cX12_atOf 26 = .ok (.iload_n 2, 1) := by decide +kernel
theorem dX12_atOf_27 : decode cX12_atOf 27 = .ok (.invokestatic 89, 3) := by decide +kernel
theorem dX12_atOf_30 : decode cX12_atOf 30 = .ok (.ifCond .ne 31, 3) := by decide +kernel
theorem dX12_atOf_33 : decode cX12_atOf 33 = .ok (.aload_n 0, 1) := by decide +kernel
theorem dX12_atOf_34 : decode cX12_atOf 34 = .ok (.iload_n 1, 1) := by decide +kernel
theorem dX12_atOf_35 : decode cX12_atOf 35 = .ok (.iload_n 2, 1) := by decide +kernel
theorem dX12_atOf_36 : decode cX12_atOf 36 = .ok (.invokevirtual 86, 3) := by decide +kernel
theorem dX12_atOf_39 : decode cX12_atOf 39 = .ok (.iload 5, 2) := by decide +kernel
theorem dX12_atOf_41 : decode cX12_atOf 41 = .ok (.iconst (-1), 1) := by decide +kernel
theorem dX12_atOf_42 : decode cX12_atOf 42 = .ok (.ixor, 1) := by decide +kernel
theorem dX12_atOf_43 : decode cX12_atOf 43 = .ok (.iand, 1) := by decide +kernel
theorem dX12_atOf_44 : decode cX12_atOf 44 = .ok (.ifCond .ne 17, 3) := by decide +kernel
theorem dX12_atOf_47 : decode cX12_atOf 47 = .ok (.aload_n 0, 1) := by decide +kernel
theorem dX12_atOf_48 : decode cX12_atOf 48 = .ok (.iload_n 1, 1) := by decide +kernel
theorem dX12_atOf_49 : decode cX12_atOf 49 = .ok (.iload 5, 2) := by decide +kernel
theorem dX12_atOf_51 : decode cX12_atOf 51 = .ok (.invokevirtual 239, 3) := by decide +kernel
theorem dX12_atOf_54 : decode cX12_atOf 54 = .ok (.ifCond .eq 7, 3) := by decide +kernel
theorem dX12_atOf_57 : decode cX12_atOf 57 = .ok (.iconst 1, 1) := by decide +kernel
theorem dX12_atOf_58 : decode cX12_atOf 58 = .ok (.goto 4, 3) := by decide +kernel
theorem dX12_atOf_61 : decode cX12_atOf 61 = .ok (.iconst 0, 1) := by decide +kernel
theorem dX12_atOf_62 : decode cX12_atOf 62 = .ok (.istore 6, 2) := by decide +kernel
theorem dX12_atOf_64 : decode cX12_atOf 64 = .ok (.iload 4, 2) := by decide +kernel
theorem dX12_atOf_66 : decode cX12_atOf 66 = .ok (.iload 6, 2) := by decide +kernel
theorem dX12_atOf_68 : decode cX12_atOf 68 = .ok (.ifCond .eq 25, 3) := by decide +kernel
theorem dX12_atOf_71 : decode cX12_atOf 71 = .ok (.aload_n 0, 1) := by decide +kernel
theorem dX12_atOf_72 : decode cX12_atOf 72 = .ok (.getfield 29, 3) := by decide +kernel
theorem dX12_atOf_75 : decode cX12_atOf 75 = .ok (.iload 5, 2) := by decide +kernel
theorem dX12_atOf_77 : decode cX12_atOf 77 = .ok (.iaload, 1) := by decide +kernel
theorem dX12_atOf_78 : decode cX12_atOf 78 = .ok (.aload_n 0, 1) := by decide +kernel
theorem dX12_atOf_79 : decode cX12_atOf 79 = .ok (.getfield 32, 3) := by decide +kernel
theorem dX12_atOf_82 : decode cX12_atOf 82 = .ok (.iload 5, 2) := by decide +kernel
theorem dX12_atOf_84 : decode cX12_atOf 84 = .ok (.iconst 1, 1) := by decide +kernel
theorem dX12_atOf_85 : decode cX12_atOf 85 = .ok (.iload_n 2, 1) := by decide +kernel
theorem dX12_atOf_86 : decode cX12_atOf 86 = .ok (.ishl, 1) := by decide +kernel
theorem dX12_atOf_87 : decode cX12_atOf 87 = .ok (.ior, 1) := by decide +kernel
theorem dX12_atOf_88 : decode cX12_atOf 88 = .ok (.iaload, 1) := by decide +kernel
theorem dX12_atOf_89 : decode cX12_atOf 89 = .ok (.imul, 1) := by decide +kernel
theorem dX12_atOf_90 : decode cX12_atOf 90 = .ok (.goto 4, 3) := by decide +kernel
theorem dX12_atOf_93 : decode cX12_atOf 93 = .ok (.iconst 0, 1) := by decide +kernel
theorem dX12_atOf_94 : decode cX12_atOf 94 = .ok (.iadd, 1) := by decide +kernel
theorem dX12_atOf_95 : decode cX12_atOf 95 = .ok (.istore 4, 2) := by decide +kernel
theorem dX12_atOf_97 : decode cX12_atOf 97 = .ok (.iinc 5 1, 3) := by decide +kernel
theorem dX12_atOf_100 : decode cX12_atOf 100 = .ok (.goto (-94), 3) := by decide +kernel
theorem dX12_atOf_103 : decode cX12_atOf 103 = .ok (.iload 4, 2) := by decide +kernel
theorem dX12_atOf_105 : decode cX12_atOf 105 = .ok (.ireturn, 1) := by decide +kernel
theorem dX12_balance_0 : decode cX12_balance 0 = .ok (.aload_n 0, 1) := by decide +kernel
theorem dX12_balance_1 : decode cX12_balance 1 = .ok (.iload_n 1, 1) := by decide +kernel
theorem dX12_balance_2 : decode cX12_balance 2 = .ok (.invokevirtual 80, 3) := by decide +kernel
theorem dX12_balance_5 : decode cX12_balance 5 = .ok (.ifCond .eq 13, 3) := by decide +kernel
theorem dX12_balance_8 : decode cX12_balance 8 = .ok (.iload_n 2, 1) := by decide +kernel
theorem dX12_balance_9 : decode cX12_balance 9 = .ok (.i2l, 1) := by decide +kernel
theorem dX12_balance_10 : decode cX12_balance 10 = .ok (.lconst 0, 1) := by decide +kernel
theorem dX12_balance_11 : decode cX12_balance 11 = .ok (.lconst 1, 1) := by decide +kernel
theorem dX12_balance_12 : decode cX12_balance 12 = .ok (.invokestatic 64, 3) := by decide +kernel
theorem dX12_balance_15 : decode cX12_balance 15 = .ok (.ifCond .ne 6, 3) := by decide +kernel
theorem dX12_balance_18 : decode cX12_balance 18 = .ok (.bipush (-2), 2) := by decide +kernel
theorem dX12_balance_20 : decode cX12_balance 20 = .ok (.ireturn, 1) := by decide +kernel
theorem dX12_balance_21 : decode cX12_balance 21 = .ok (.aload_n 0, 1) := by decide +kernel
theorem dX12_balance_22 : decode cX12_balance 22 = .ok (.iload_n 1, 1) := by decide +kernel
theorem dX12_balance_23 : decode cX12_balance 23 = .ok (.invokevirtual 285, 3) := by decide +kernel
theorem dX12_balance_26 : decode cX12_balance 26 = .ok (.iconst (-1), 1) := by decide +kernel
theorem dX12_balance_27 : decode cX12_balance 27 = .ok (.istore_n 3, 1) := by decide +kernel
theorem dX12_balance_28 : decode cX12_balance 28 = .ok (.iconst 0, 1) := by decide +kernel
theorem dX12_balance_29 : decode cX12_balance 29 = .ok (.istore 4, 2) := by decide +kernel
theorem dX12_balance_31 : decode cX12_balance 31 = .ok (.iconst 0, 1) := by decide +kernel
theorem dX12_balance_32 : decode cX12_balance 32 = .ok (.istore 5, 2) := by decide +kernel
theorem dX12_balance_34 : decode cX12_balance 34 = .ok (.iload 5, 2) := by decide +kernel
theorem dX12_balance_36 : decode cX12_balance 36 = .ok (.aload_n 0, 1) := by decide +kernel
theorem dX12_balance_37 : decode cX12_balance 37 = .ok (.iload_n 1, 1) := by decide +kernel
theorem dX12_balance_38 : decode cX12_balance 38 = .ok (.invokevirtual 76, 3) := by decide +kernel
theorem dX12_balance_41 : decode cX12_balance 41 = .ok (.if_icmp .ge 110, 3) := by decide +kernel
theorem dX12_balance_44 : decode cX12_balance 44 = .ok (.iload 5, 2) := by decide +kernel
theorem dX12_balance_46 : decode cX12_balance 46 = .ok (.iconst 1, 1) := by decide +kernel
theorem dX12_balance_47 : decode cX12_balance 47 = .ok (.iadd, 1) := by decide +kernel
theorem dX12_balance_48 : decode cX12_balance 48 = .ok (.istore 6, 2) := by decide +kernel
theorem dX12_balance_50 : decode cX12_balance 50 = .ok (.iload 6, 2) := by decide +kernel
theorem dX12_balance_52 : decode cX12_balance 52 = .ok (.aload_n 0, 1) := by decide +kernel
theorem dX12_balance_53 : decode cX12_balance 53 = .ok (.iload_n 1, 1) := by decide +kernel
theorem dX12_balance_54 : decode cX12_balance 54 = .ok (.invokevirtual 76, 3) := by decide +kernel
theorem dX12_balance_57 : decode cX12_balance 57 = .ok (.if_icmp .ge 88, 3) := by decide +kernel
theorem dX12_balance_60 : decode cX12_balance 60 = .ok (.aload_n 0, 1) := by decide +kernel
theorem dX12_balance_61 : decode cX12_balance 61 = .ok (.iload_n 1, 1) := by decide +kernel
theorem dX12_balance_62 : decode cX12_balance 62 = .ok (.iload 5, 2) := by decide +kernel
theorem dX12_balance_64 : decode cX12_balance 64 = .ok (.iload 6, 2) := by decide +kernel
theorem dX12_balance_66 : decode cX12_balance 66 = .ok (.invokevirtual 227, 3) := by decide +kernel
theorem dX12_balance_69 : decode cX12_balance 69 = .ok (.ifCond .eq 30, 3) := by decide +kernel
theorem dX12_balance_72 : decode cX12_balance 72 = .ok (.iconst 2, 1) := by decide +kernel
theorem dX12_balance_73 : decode cX12_balance 73 = .ok (.aload_n 0, 1) := by decide +kernel
theorem dX12_balance_74 : decode cX12_balance 74 = .ok (.iload_n 1, 1) := by decide +kernel
theorem dX12_balance_75 : decode cX12_balance 75 = .ok (.iload 5, 2) := by decide +kernel
theorem dX12_balance_77 : decode cX12_balance 77 = .ok (.iload 6, 2) := by decide +kernel
theorem dX12_balance_79 : decode cX12_balance 79 = .ok (.invokevirtual 301, 3) := by decide +kernel
theorem dX12_balance_82 : decode cX12_balance 82 = .ok (.imul, 1) := by decide +kernel
theorem dX12_balance_83 : decode cX12_balance 83 = .ok (.aload_n 0, 1) := by decide +kernel
theorem dX12_balance_84 : decode cX12_balance 84 = .ok (.getfield 29, 3) := by decide +kernel
theorem dX12_balance_87 : decode cX12_balance 87 = .ok (.aload_n 0, 1) := by decide +kernel
theorem dX12_balance_88 : decode cX12_balance 88 = .ok (.getfield 282, 3) := by decide +kernel
theorem dX12_balance_91 : decode cX12_balance 91 = .ok (.iaload, 1) := by decide +kernel
theorem dX12_balance_92 : decode cX12_balance 92 = .ok (.isub, 1) := by decide +kernel
theorem dX12_balance_93 : decode cX12_balance 93 = .ok (.invokestatic 310, 3) := by decide +kernel
theorem dX12_balance_96 : decode cX12_balance 96 = .ok (.goto 4, 3) := by decide +kernel
theorem dX12_balance_99 : decode cX12_balance 99 = .ok (.iconst 0, 1) := by decide +kernel
theorem dX12_balance_100 : decode cX12_balance 100 = .ok (.istore 7, 2) := by decide +kernel
theorem dX12_balance_102 : decode cX12_balance 102 = .ok (.aload_n 0, 1) := by decide +kernel
theorem dX12_balance_103 : decode cX12_balance 103 = .ok (.iload_n 1, 1) := by decide +kernel
theorem dX12_balance_104 : decode cX12_balance 104 = .ok (.iload 5, 2) := by decide +kernel
theorem dX12_balance_106 : decode cX12_balance 106 = .ok (.iload 6, 2) := by decide +kernel
theorem dX12_balance_108 : decode cX12_balance 108 = .ok (.invokevirtual 227, 3) := by decide +kernel
theorem dX12_balance_111 : decode cX12_balance 111 = .ok (.ifCond .eq 28, 3) := by decide +kernel
theorem dX12_balance_114 : decode cX12_balance 114 = .ok (.iload_n 3, 1) := by decide +kernel
theorem dX12_balance_115 : decode cX12_balance 115 = .ok (.iconst (-1), 1) := by decide +kernel
theorem dX12_balance_116 : decode cX12_balance 116 = .ok (.if_icmp .eq 10, 3) := by decide +kernel
theorem dX12_balance_119 : decode cX12_balance 119 = .ok (.iload 7, 2) := by decide +kernel
theorem dX12_balance_121 : decode cX12_balance 121 = .ok (.iload 4, 2) := by decide +kernel
theorem dX12_balance_123 : decode cX12_balance 123 = .ok (.if_icmp .ge 16, 3) := by decide +kernel
theorem dX12_balance_126 : decode cX12_balance 126 = .ok (.bipush 10, 2) := by decide +kernel
theorem dX12_balance_128 : decode cX12_balance 128 = .ok (.iload 5, 2) := by decide +kernel
theorem dX12_balance_130 : decode cX12_balance 130 = .ok (.imul, 1) := by decide +kernel
theorem dX12_balance_131 : decode cX12_balance 131 = .ok (.iload 6, 2) := by decide +kernel
theorem dX12_balance_133 : decode cX12_balance 133 = .ok (.iadd, 1) := by decide +kernel
theorem dX12_balance_134 : decode cX12_balance 134 = .ok (.istore_n 3, 1) := by decide +kernel
theorem dX12_balance_135 : decode cX12_balance 135 = .ok (.iload 7, 2) := by decide +kernel
theorem dX12_balance_137 : decode cX12_balance 137 = .ok (.istore 4, 2) := by decide +kernel
theorem dX12_balance_139 : decode cX12_balance 139 = .ok (.iinc 6 1, 3) := by decide +kernel
theorem dX12_balance_142 : decode cX12_balance 142 = .ok (.goto (-92), 3) := by decide +kernel
theorem dX12_balance_145 : decode cX12_balance 145 = .ok (.iinc 5 1, 3) := by decide +kernel
theorem dX12_balance_148 : decode cX12_balance 148 = .ok (.goto (-114), 3) := by decide +kernel
theorem dX12_balance_151 : decode cX12_balance 151 = .ok (.iload_n 3, 1) := by decide +kernel
theorem dX12_balance_152 : decode cX12_balance 152 = .ok (.iconst (-1), 1) := by decide +kernel
theorem dX12_balance_153 : decode cX12_balance 153 = .ok (.if_icmp .eq 7, 3) := by decide +kernel
theorem dX12_balance_156 : decode cX12_balance 156 = .ok (.iload_n 2, 1) := by decide +kernel
theorem dX12_balance_157 : decode cX12_balance 157 = .ok (.ifCond .ne 7, 3) := by decide +kernel
theorem dX12_balance_160 : decode cX12_balance 160 = .ok (.iload_n 3, 1) := by decide +kernel
theorem dX12_balance_161 : decode cX12_balance 161 = .ok (.goto 16, 3) := by decide +kernel
theorem dX12_balance_164 : decode cX12_balance 164 = .ok (.aload_n 0, 1) := by decide +kernel
theorem dX12_balance_165 : decode cX12_balance 165 = .ok (.iload_n 1, 1) := by decide +kernel
theorem dX12_balance_166 : decode cX12_balance 166 = .ok (.iload_n 3, 1) := by decide +kernel
theorem dX12_balance_167 : decode cX12_balance 167 = .ok (.bipush 10, 2) := by decide +kernel
theorem dX12_balance_169 : decode cX12_balance 169 = .ok (.idiv, 1) := by decide +kernel
theorem dX12_balance_170 : decode cX12_balance 170 = .ok (.iload_n 3, 1) := by decide +kernel
theorem dX12_balance_171 : decode cX12_balance 171 = .ok (.bipush 10, 2) := by decide +kernel
theorem dX12_balance_173 : decode cX12_balance 173 = .ok (.irem, 1) := by decide +kernel
theorem dX12_balance_174 : decode cX12_balance 174 = .ok (.invokevirtual 301, 3) := by decide +kernel
theorem dX12_balance_177 : decode cX12_balance 177 = .ok (.ireturn, 1) := by decide +kernel
theorem dX12_before_0 : decode cX12_before 0 = .ok (.aload_n 0, 1) := by decide +kernel
theorem dX12_before_1 : decode cX12_before 1 = .ok (.iload_n 1, 1) := by decide +kernel
theorem dX12_before_2 : decode cX12_before 2 = .ok (.iload_n 2, 1) := by decide +kernel
theorem dX12_before_3 : decode cX12_before 3 = .ok (.invokevirtual 215, 3) := by decide +kernel
theorem dX12_before_6 : decode cX12_before 6 = .ok (.ifCond .eq 12, 3) := by decide +kernel
theorem dX12_before_9 : decode cX12_before 9 = .ok (.aload_n 0, 1) := by decide +kernel
theorem dX12_before_10 : decode cX12_before 10 = .ok (.iload_n 1, 1) := by decide +kernel
theorem dX12_before_11 : decode cX12_before 11 = .ok (.iload_n 3, 1) := by decide +kernel
theorem dX12_before_12 : decode cX12_before 12 = .ok (.invokevirtual 215, 3) := by decide +kernel
theorem dX12_before_15 : decode cX12_before 15 = .ok (.ifCond .ne 6, 3) := by decide +kernel
theorem dX12_before_18 : decode cX12_before 18 = .ok (.bipush (-2), 2) := by decide +kernel
theorem dX12_before_20 : decode cX12_before 20 = .ok (.ireturn, 1) := by decide +kernel
theorem dX12_before_21 : decode cX12_before 21 = .ok (.aload_n 0, 1) := by decide +kernel
theorem dX12_before_22 : decode cX12_before 22 = .ok (.iload_n 1, 1) := by decide +kernel
theorem dX12_before_23 : decode cX12_before 23 = .ok (.invokevirtual 285, 3) := by decide +kernel
theorem dX12_before_26 : decode cX12_before 26 = .ok (.iload_n 2, 1) := by decide +kernel
theorem dX12_before_27 : decode cX12_before 27 = .ok (.iload_n 3, 1) := by decide +kernel
theorem dX12_before_28 : decode cX12_before 28 = .ok (.if_icmp .ne 7, 3) := by decide +kernel
theorem dX12_before_31 : decode cX12_before 31 = .ok (.iconst 0, 1) := by decide +kernel
theorem dX12_before_32 : decode cX12_before 32 = .ok (.goto 10, 3) := by decide +kernel
theorem dX12_before_35 : decode cX12_before 35 = .ok (.aload_n 0, 1) := by decide +kernel
theorem dX12_before_36 : decode cX12_before 36 = .ok (.iload_n 1, 1) := by decide +kernel
theorem dX12_before_37 : decode cX12_before 37 = .ok (.iload_n 2, 1) := by decide +kernel
theorem dX12_before_38 : decode cX12_before 38 = .ok (.iload_n 3, 1) := by decide +kernel
theorem dX12_before_39 : decode cX12_before 39 = .ok (.invokevirtual 301, 3) := by decide +kernel
theorem dX12_before_42 : decode cX12_before 42 = .ok (.ireturn, 1) := by decide +kernel
theorem dX12_beforeOf_0 : decode cX12_beforeOf 0 = .ok (.iconst 0, 1) := by decide +kernel
theorem dX12_beforeOf_1 : decode cX12_beforeOf 1 = .ok (.istore 4, 2) := by decide +kernel
theorem dX12_beforeOf_3 : decode cX12_beforeOf 3 = .ok (.iconst 0, 1) := by decide +kernel
theorem dX12_beforeOf_4 : decode cX12_beforeOf 4 = .ok (.istore 5, 2) := by decide +kernel
theorem dX12_beforeOf_6 : decode cX12_beforeOf 6 = .ok (.iload 5, 2) := by decide +kernel
theorem dX12_beforeOf_8 : decode cX12_beforeOf 8 = .ok (.aload_n 0, 1) := by decide +kernel
theorem dX12_beforeOf_9 : decode cX12_beforeOf 9 = .ok (.getfield 282, 3) := by decide +kernel
theorem dX12_beforeOf_12 : decode cX12_beforeOf 12 = .ok (.if_icmp .gt 91, 3) := by decide +kernel
theorem dX12_beforeOf_15 : decode cX12_beforeOf 15 = .ok (.iload 5, 2) := by decide +kernel
theorem dX12_beforeOf_17 : decode cX12_beforeOf 17 = .ok (.iload_n 2, 1) := by decide +kernel
theorem dX12_beforeOf_18 : decode cX12_beforeOf 18 = .ok (.invokestatic 89, 3) := by decide +kernel
theorem dX12_beforeOf_21 : decode cX12_beforeOf 21 = .ok (.ifCond .eq 40, 3) := by decide +kernel
theorem dX12_beforeOf_24 : decode cX12_beforeOf 24 = .ok (.iload 5, 2) := by decide +kernel
theorem dX12_beforeOf_26 : decode cX12_beforeOf 26 = .ok (.iload_n 3, 1) := by decide +kernel
theorem dX12_beforeOf_27 : decode cX12_beforeOf 27 = .ok (.invokestatic 89, 3) := by decide +kernel
theorem dX12_beforeOf_30 : decode cX12_beforeOf 30 = .ok (.ifCond .ne 31, 3) := by decide +kernel
theorem dX12_beforeOf_33 : decode cX12_beforeOf 33 = .ok (.aload_n 0, 1) := by decide +kernel
theorem dX12_beforeOf_34 : decode cX12_beforeOf 34 = .ok (.iload_n 1, 1) := by decide +kernel
theorem dX12_beforeOf_35 : decode cX12_beforeOf 35 = .ok (.iload_n 3, 1) := by decide +kernel
theorem dX12_beforeOf_36 : decode cX12_beforeOf 36 = .ok (.invokevirtual 86, 3) := by decide +kernel
theorem dX12_beforeOf_39 : decode cX12_beforeOf 39 = .ok (.iload 5, 2) := by decide +kernel
theorem dX12_beforeOf_41 : decode cX12_beforeOf 41 = .ok (.iconst (-1), 1) := by decide +kernel
theorem dX12_beforeOf_42 : decode cX12_beforeOf 42 = .ok (.ixor, 1) := by decide +kernel
theorem dX12_beforeOf_43 : decode cX12_beforeOf 43 = .ok (.iand, 1) := by decide +kernel
theorem dX12_beforeOf_44 : decode cX12_beforeOf 44 = .ok (.ifCond .ne 17, 3) := by decide +kernel
theorem dX12_beforeOf_47 : decode cX12_beforeOf 47 = .ok (.aload_n 0, 1) := by decide +kernel
theorem dX12_beforeOf_48 : decode cX12_beforeOf 48 = .ok (.iload_n 1, 1) := by decide +kernel
theorem dX12_beforeOf_49 : decode cX12_beforeOf 49 = .ok (.iload 5, 2) := by decide +kernel
theorem dX12_beforeOf_51 : decode cX12_beforeOf 51 = .ok (.invokevirtual 239, 3) := by decide +kernel
theorem dX12_beforeOf_54 : decode cX12_beforeOf 54 = .ok (.ifCond .eq 7, 3) := by decide +kernel
theorem dX12_beforeOf_57 : decode cX12_beforeOf 57 = .ok (.iconst 1, 1) := by decide +kernel
theorem dX12_beforeOf_58 : decode cX12_beforeOf 58 = .ok (.goto 4, 3) := by decide +kernel
theorem dX12_beforeOf_61 : decode cX12_beforeOf 61 = .ok (.iconst 0, 1) := by decide +kernel
theorem dX12_beforeOf_62 : decode cX12_beforeOf 62 = .ok (.istore 6, 2) := by decide +kernel
theorem dX12_beforeOf_64 : decode cX12_beforeOf 64 = .ok (.iload 4, 2) := by decide +kernel
theorem dX12_beforeOf_66 : decode cX12_beforeOf 66 = .ok (.iload 6, 2) := by decide +kernel
theorem dX12_beforeOf_68 : decode cX12_beforeOf 68 = .ok (.ifCond .eq 25, 3) := by decide +kernel
theorem dX12_beforeOf_71 : decode cX12_beforeOf 71 = .ok (.aload_n 0, 1) := by decide +kernel
theorem dX12_beforeOf_72 : decode cX12_beforeOf 72 = .ok (.getfield 29, 3) := by decide +kernel
theorem dX12_beforeOf_75 : decode cX12_beforeOf 75 = .ok (.iload 5, 2) := by decide +kernel
theorem dX12_beforeOf_77 : decode cX12_beforeOf 77 = .ok (.iaload, 1) := by decide +kernel
theorem dX12_beforeOf_78 : decode cX12_beforeOf 78 = .ok (.aload_n 0, 1) := by decide +kernel
theorem dX12_beforeOf_79 : decode cX12_beforeOf 79 = .ok (.getfield 32, 3) := by decide +kernel
theorem dX12_beforeOf_82 : decode cX12_beforeOf 82 = .ok (.iload 5, 2) := by decide +kernel
theorem dX12_beforeOf_84 : decode cX12_beforeOf 84 = .ok (.iconst 1, 1) := by decide +kernel
theorem dX12_beforeOf_85 : decode cX12_beforeOf 85 = .ok (.iload_n 3, 1) := by decide +kernel
theorem dX12_beforeOf_86 : decode cX12_beforeOf 86 = .ok (.ishl, 1) := by decide +kernel
theorem dX12_beforeOf_87 : decode cX12_beforeOf 87 = .ok (.ior, 1) := by decide +kernel
theorem dX12_beforeOf_88 : decode cX12_beforeOf 88 = .ok (.iaload, 1) := by decide +kernel
theorem dX12_beforeOf_89 : decode cX12_beforeOf 89 = .ok (.imul, 1) := by decide +kernel
theorem dX12_beforeOf_90 : decode cX12_beforeOf 90 = .ok (.goto 4, 3) := by decide +kernel
theorem dX12_beforeOf_93 : decode cX12_beforeOf 93 = .ok (.iconst 0, 1) := by decide +kernel
theorem dX12_beforeOf_94 : decode cX12_beforeOf 94 = .ok (.iadd, 1) := by decide +kernel
theorem dX12_beforeOf_95 : decode cX12_beforeOf 95 = .ok (.istore 4, 2) := by decide +kernel
theorem dX12_beforeOf_97 : decode cX12_beforeOf 97 = .ok (.iinc 5 1, 3) := by decide +kernel
theorem dX12_beforeOf_100 : decode cX12_beforeOf 100 = .ok (.goto (-94), 3) := by decide +kernel
theorem dX12_beforeOf_103 : decode cX12_beforeOf 103 = .ok (.iload 4, 2) := by decide +kernel
theorem dX12_beforeOf_105 : decode cX12_beforeOf 105 = .ok (.ireturn, 1) := by decide +kernel
theorem dX12_belowMany_0 : decode cX12_belowMany 0 = .ok (.iconst 0, 1) := by decide +kernel
theorem dX12_belowMany_1 : decode cX12_belowMany 1 = .ok (.istore_n 2, 1) := by decide +kernel
theorem dX12_belowMany_2 : decode cX12_belowMany 2 = .ok (.iconst 0, 1) := by decide +kernel
theorem dX12_belowMany_3 : decode cX12_belowMany 3 = .ok (.istore_n 3, 1) := by decide +kernel
theorem dX12_belowMany_4 : decode cX12_belowMany 4 = .ok (.iload_n 3, 1) := by decide +kernel
theorem dX12_belowMany_5 : decode cX12_belowMany 5 = .ok (.aload_n 0, 1) := by decide +kernel
theorem dX12_belowMany_6 : decode cX12_belowMany 6 = .ok (.iload_n 1, 1) := by decide +kernel
theorem dX12_belowMany_7 : decode cX12_belowMany 7 = .ok (.invokevirtual 76, 3) := by decide +kernel
theorem dX12_belowMany_10 : decode cX12_belowMany 10 = .ok (.if_icmp .ge 21, 3) := by decide +kernel
theorem dX12_belowMany_13 : decode cX12_belowMany 13 = .ok (.iload_n 2, 1) := by decide +kernel
theorem dX12_belowMany_14 : decode cX12_belowMany 14 = .ok (.aload_n 0, 1) := by decide +kernel
theorem dX12_belowMany_15 : decode cX12_belowMany 15 = .ok (.iload_n 1, 1) := by decide +kernel
theorem dX12_belowMany_16 : decode cX12_belowMany 16 = .ok (.iload_n 3, 1) := by decide +kernel
theorem dX12_belowMany_17 : decode cX12_belowMany 17 = .ok (.invokevirtual 86, 3) := by decide +kernel
theorem dX12_belowMany_20 : decode cX12_belowMany 20 = .ok (.invokestatic 100, 3) := by decide +kernel
theorem dX12_belowMany_23 : decode cX12_belowMany 23 = .ok (.iadd, 1) := by decide +kernel
theorem dX12_belowMany_24 : decode cX12_belowMany 24 = .ok (.istore_n 2, 1) := by decide +kernel
theorem dX12_belowMany_25 : decode cX12_belowMany 25 = .ok (.iinc 3 1, 3) := by decide +kernel
theorem dX12_belowMany_28 : decode cX12_belowMany 28 = .ok (.goto (-24), 3) := by decide +kernel
theorem dX12_belowMany_31 : decode cX12_belowMany 31 = .ok (.iload_n 2, 1) := by decide +kernel
theorem dX12_belowMany_32 : decode cX12_belowMany 32 = .ok (.ireturn, 1) := by decide +kernel
theorem dX12_chain_0 : decode cX12_chain 0 = .ok (.aload_n 0, 1) := by decide +kernel
theorem dX12_chain_1 : decode cX12_chain 1 = .ok (.iload_n 1, 1) := by decide +kernel
theorem dX12_chain_2 : decode cX12_chain 2 = .ok (.invokevirtual 80, 3) := by decide +kernel
theorem dX12_chain_5 : decode cX12_chain 5 = .ok (.ifCond .eq 7, 3) := by decide +kernel
theorem dX12_chain_8 : decode cX12_chain 8 = .ok (.iload_n 2, 1) := by decide +kernel
theorem dX12_chain_9 : decode cX12_chain 9 = .ok (.ifCond .ge 6, 3) := by decide +kernel
theorem dX12_chain_12 : decode cX12_chain 12 = .ok (.bipush (-2), 2) := by decide +kernel
theorem dX12_chain_14 : decode cX12_chain 14 = .ok (.ireturn, 1) := by decide +kernel
theorem dX12_chain_15 : decode cX12_chain 15 = .ok (.aload_n 0, 1) := by decide +kernel
theorem dX12_chain_16 : decode cX12_chain 16 = .ok (.iload_n 1, 1) := by decide +kernel
theorem dX12_chain_17 : decode cX12_chain 17 = .ok (.invokevirtual 218, 3) := by decide +kernel
theorem dX12_chain_20 : decode cX12_chain 20 = .ok (.istore_n 3, 1) := by decide +kernel
theorem dX12_chain_21 : decode cX12_chain 21 = .ok (.iconst 1, 1) := by decide +kernel
theorem dX12_chain_22 : decode cX12_chain 22 = .ok (.aload_n 0, 1) := by decide +kernel
theorem dX12_chain_23 : decode cX12_chain 23 = .ok (.iload_n 1, 1) := by decide +kernel
theorem dX12_chain_24 : decode cX12_chain 24 = .ok (.invokevirtual 76, 3) := by decide +kernel
theorem dX12_chain_27 : decode cX12_chain 27 = .ok (.ishl, 1) := by decide +kernel
theorem dX12_chain_28 : decode cX12_chain 28 = .ok (.iconst 1, 1) := by decide +kernel
theorem dX12_chain_29 : decode cX12_chain 29 = .ok (.isub, 1) := by decide +kernel
theorem dX12_chain_30 : decode cX12_chain 30 = .ok (.istore 4, 2) := by decide +kernel
theorem dX12_chain_32 : decode cX12_chain 32 = .ok (.iconst 0, 1) := by decide +kernel
theorem dX12_chain_33 : decode cX12_chain 33 = .ok (.istore 5, 2) := by decide +kernel
theorem dX12_chain_35 : decode cX12_chain 35 = .ok (.iload_n 3, 1) := by decide +kernel
theorem dX12_chain_36 : decode cX12_chain 36 = .ok (.ifCond .le 61, 3) := by decide +kernel
theorem dX12_chain_39 : decode cX12_chain 39 = .ok (.iconst 0, 1) := by decide +kernel
theorem dX12_chain_40 : decode cX12_chain 40 = .ok (.istore 6, 2) := by decide +kernel
theorem dX12_chain_42 : decode cX12_chain 42 = .ok (.iload 4, 2) := by decide +kernel
theorem dX12_chain_44 : decode cX12_chain 44 = .ok (.iload 6, 2) := by decide +kernel
theorem dX12_chain_46 : decode cX12_chain 46 = .ok (.invokestatic 89, 3) := by decide +kernel
theorem dX12_chain_49 : decode cX12_chain 49 = .ok (.ifCond .eq 15, 3) := by decide +kernel
theorem dX12_chain_52 : decode cX12_chain 52 = .ok (.aload_n 0, 1) := by decide +kernel
theorem dX12_chain_53 : decode cX12_chain 53 = .ok (.iload_n 1, 1) := by decide +kernel
theorem dX12_chain_54 : decode cX12_chain 54 = .ok (.iload 6, 2) := by decide +kernel
theorem dX12_chain_56 : decode cX12_chain 56 = .ok (.iconst 1, 1) := by decide +kernel
theorem dX12_chain_57 : decode cX12_chain 57 = .ok (.invokevirtual 208, 3) := by decide +kernel
theorem dX12_chain_60 : decode cX12_chain 60 = .ok (.iload_n 3, 1) := by decide +kernel
theorem dX12_chain_61 : decode cX12_chain 61 = .ok (.if_icmp .eq 9, 3) := by decide +kernel
theorem dX12_chain_64 : decode cX12_chain 64 = .ok (.iinc 6 1, 3) := by decide +kernel
theorem dX12_chain_67 : decode cX12_chain 67 = .ok (.goto (-25), 3) := by decide +kernel
theorem dX12_chain_70 : decode cX12_chain 70 = .ok (.iload 5, 2) := by decide +kernel
theorem dX12_chain_72 : decode cX12_chain 72 = .ok (.iload_n 2, 1) := by decide +kernel
theorem dX12_chain_73 : decode cX12_chain 73 = .ok (.if_icmp .ne 6, 3) := by decide +kernel
theorem dX12_chain_76 : decode cX12_chain 76 = .ok (.iload 6, 2) := by decide +kernel
theorem dX12_chain_78 : decode cX12_chain 78 = .ok (.ireturn, 1) := by decide +kernel
theorem dX12_chain_79 : decode cX12_chain 79 = .ok (.aload_n 0, 1) := by decide +kernel
theorem dX12_chain_80 : decode cX12_chain 80 = .ok (.iload_n 1, 1) := by decide +kernel
theorem dX12_chain_81 : decode cX12_chain 81 = .ok (.iload 6, 2) := by decide +kernel
theorem dX12_chain_83 : decode cX12_chain 83 = .ok (.invokevirtual 97, 3) := by decide +kernel
theorem dX12_chain_86 : decode cX12_chain 86 = .ok (.istore 4, 2) := by decide +kernel
theorem dX12_chain_88 : decode cX12_chain 88 = .ok (.iinc 3 (-1), 3) := by decide +kernel
theorem dX12_chain_91 : decode cX12_chain 91 = .ok (.iinc 5 1, 3) := by decide +kernel
theorem dX12_chain_94 : decode cX12_chain 94 = .ok (.goto (-59), 3) := by decide +kernel
theorem dX12_chain_97 : decode cX12_chain 97 = .ok (.iconst (-1), 1) := by decide +kernel
theorem dX12_chain_98 : decode cX12_chain 98 = .ok (.ireturn, 1) := by decide +kernel
theorem dX12_common_0 : decode cX12_common 0 = .ok (.iload_n 1, 1) := by decide +kernel
theorem dX12_common_1 : decode cX12_common 1 = .ok (.ifCond .ne 7, 3) := by decide +kernel
theorem dX12_common_4 : decode cX12_common 4 = .ok (.iload_n 0, 1) := by decide +kernel
theorem dX12_common_5 : decode cX12_common 5 = .ok (.goto 10, 3) := by decide +kernel
theorem dX12_common_8 : decode cX12_common 8 = .ok (.iload_n 1, 1) := by decide +kernel
theorem dX12_common_9 : decode cX12_common 9 = .ok (.iload_n 0, 1) := by decide +kernel
theorem dX12_common_10 : decode cX12_common 10 = .ok (.iload_n 1, 1) := by decide +kernel
theorem dX12_common_11 : decode cX12_common 11 = .ok (.irem, 1) := by decide +kernel
theorem dX12_common_12 : decode cX12_common 12 = .ok (.invokestatic 307, 3) := by decide +kernel
theorem dX12_common_15 : decode cX12_common 15 = .ok (.ireturn, 1) := by decide +kernel
theorem dX12_count_0 : decode cX12_count 0 = .ok (.iconst 0, 1) := by decide +kernel
theorem dX12_count_1 : decode cX12_count 1 = .ok (.istore_n 2, 1) := by decide +kernel
theorem dX12_count_2 : decode cX12_count 2 = .ok (.iconst 0, 1) := by decide +kernel
theorem dX12_count_3 : decode cX12_count 3 = .ok (.istore_n 3, 1) := by decide +kernel
theorem dX12_count_4 : decode cX12_count 4 = .ok (.iload_n 3, 1) := by decide +kernel
theorem dX12_count_5 : decode cX12_count 5 = .ok (.iconst 3, 1) := by decide +kernel
theorem dX12_count_6 : decode cX12_count 6 = .ok (.if_icmp .ge 27, 3) := by decide +kernel
theorem dX12_count_9 : decode cX12_count 9 = .ok (.iload_n 2, 1) := by decide +kernel
theorem dX12_count_10 : decode cX12_count 10 = .ok (.aload_n 0, 1) := by decide +kernel
theorem dX12_count_11 : decode cX12_count 11 = .ok (.iload_n 3, 1) := by decide +kernel
theorem dX12_count_12 : decode cX12_count 12 = .ok (.invokevirtual 80, 3) := by decide +kernel
theorem dX12_count_15 : decode cX12_count 15 = .ok (.ifCond .eq 9, 3) := by decide +kernel
theorem dX12_count_18 : decode cX12_count 18 = .ok (.iconst 1, 1) := by decide +kernel
theorem dX12_count_19 : decode cX12_count 19 = .ok (.iload_n 3, 1) := by decide +kernel
theorem dX12_count_20 : decode cX12_count 20 = .ok (.ishl, 1) := by decide +kernel
theorem dX12_count_21 : decode cX12_count 21 = .ok (.goto 4, 3) := by decide +kernel
theorem dX12_count_24 : decode cX12_count 24 = .ok (.iconst 0, 1) := by decide +kernel
theorem dX12_count_25 : decode cX12_count 25 = .ok (.ior, 1) := by decide +kernel
theorem dX12_count_26 : decode cX12_count 26 = .ok (.istore_n 2, 1) := by decide +kernel
theorem dX12_count_27 : decode cX12_count 27 = .ok (.iinc 3 1, 3) := by decide +kernel
theorem dX12_count_30 : decode cX12_count 30 = .ok (.goto (-26), 3) := by decide +kernel
theorem dX12_count_33 : decode cX12_count 33 = .ok (.iload_n 1, 1) := by decide +kernel
theorem dX12_count_34 : decode cX12_count 34 = .ok (.tableswitch 47 0 3 #[30, 32, 37, 42], 30) := by decide +kernel
theorem dX12_count_64 : decode cX12_count 64 = .ok (.iload_n 2, 1) := by decide +kernel
theorem dX12_count_65 : decode cX12_count 65 = .ok (.ireturn, 1) := by decide +kernel
theorem dX12_count_66 : decode cX12_count 66 = .ok (.aload_n 0, 1) := by decide +kernel
theorem dX12_count_67 : decode cX12_count 67 = .ok (.getfield 103, 3) := by decide +kernel
theorem dX12_count_70 : decode cX12_count 70 = .ok (.ireturn, 1) := by decide +kernel
theorem dX12_count_71 : decode cX12_count 71 = .ok (.aload_n 0, 1) := by decide +kernel
theorem dX12_count_72 : decode cX12_count 72 = .ok (.getfield 120, 3) := by decide +kernel
theorem dX12_count_75 : decode cX12_count 75 = .ok (.ireturn, 1) := by decide +kernel
theorem dX12_count_76 : decode cX12_count 76 = .ok (.aload_n 0, 1) := by decide +kernel
theorem dX12_count_77 : decode cX12_count 77 = .ok (.getfield 205, 3) := by decide +kernel
theorem dX12_count_80 : decode cX12_count 80 = .ok (.ireturn, 1) := by decide +kernel
theorem dX12_count_81 : decode cX12_count 81 = .ok (.iconst (-1), 1) := by decide +kernel
theorem dX12_count_82 : decode cX12_count 82 = .ok (.ireturn, 1) := by decide +kernel
theorem dX12_critical_0 : decode cX12_critical 0 = .ok (.aload_n 0, 1) := by decide +kernel
theorem dX12_critical_1 : decode cX12_critical 1 = .ok (.iload_n 1, 1) := by decide +kernel
theorem dX12_critical_2 : decode cX12_critical 2 = .ok (.invokevirtual 80, 3) := by decide +kernel
theorem dX12_critical_5 : decode cX12_critical 5 = .ok (.ifCond .eq 8, 3) := by decide +kernel
theorem dX12_critical_8 : decode cX12_critical 8 = .ok (.iload_n 2, 1) := by decide +kernel
theorem dX12_critical_9 : decode cX12_critical 9 = .ok (.iconst (-1), 1) := by decide +kernel
theorem dX12_critical_10 : decode cX12_critical 10 = .ok (.if_icmp .ge 6, 3) := by decide +kernel
theorem dX12_critical_13 : decode cX12_critical 13 = .ok (.bipush (-2), 2) := by decide +kernel
theorem dX12_critical_15 : decode cX12_critical 15 = .ok (.ireturn, 1) := by decide +kernel
theorem dX12_critical_16 : decode cX12_critical 16 = .ok (.aload_n 0, 1) := by decide +kernel
theorem dX12_critical_17 : decode cX12_critical 17 = .ok (.iload_n 1, 1) := by decide +kernel
theorem dX12_critical_18 : decode cX12_critical 18 = .ok (.invokevirtual 324, 3) := by decide +kernel
theorem dX12_critical_21 : decode cX12_critical 21 = .ok (.iload_n 2, 1) := by decide +kernel
theorem dX12_critical_22 : decode cX12_critical 22 = .ok (.iconst (-1), 1) := by decide +kernel
theorem dX12_critical_23 : decode cX12_critical 23 = .ok (.if_icmp .ne 10, 3) := by decide +kernel
theorem dX12_critical_26 : decode cX12_critical 26 = .ok (.aload_n 0, 1) := by decide +kernel
theorem dX12_critical_27 : decode cX12_critical 27 = .ok (.getfield 321, 3) := by decide +kernel
theorem dX12_critical_30 : decode cX12_critical 30 = .ok (.goto 31, 3) := by decide +kernel
theorem dX12_critical_33 : decode cX12_critical 33 = .ok (.iload_n 2, 1) := by decide +kernel
theorem dX12_critical_34 : decode cX12_critical 34 = .ok (.aload_n 0, 1) := by decide +kernel
theorem dX12_critical_35 : decode cX12_critical 35 = .ok (.getfield 321, 3) := by decide +kernel
theorem dX12_critical_38 : decode cX12_critical 38 = .ok (.if_icmp .ge 22, 3) := by decide +kernel
theorem dX12_critical_41 : decode cX12_critical 41 = .ok (.bipush 10, 2) := by decide +kernel
theorem dX12_critical_43 : decode cX12_critical 43 = .ok (.aload_n 0, 1) := by decide +kernel
theorem dX12_critical_44 : decode cX12_critical 44 = .ok (.getfield 41, 3) := by decide +kernel
theorem dX12_critical_47 : decode cX12_critical 47 = .ok (.iload_n 2, 1) := by decide +kernel
theorem dX12_critical_48 : decode cX12_critical 48 = .ok (.iaload, 1) := by decide +kernel
theorem dX12_critical_49 : decode cX12_critical 49 = .ok (.imul, 1) := by decide +kernel
theorem dX12_critical_50 : decode cX12_critical 50 = .ok (.aload_n 0, 1) := by decide +kernel
theorem dX12_critical_51 : decode cX12_critical 51 = .ok (.getfield 44, 3) := by decide +kernel
theorem dX12_critical_54 : decode cX12_critical 54 = .ok (.iload_n 2, 1) := by decide +kernel
theorem dX12_critical_55 : decode cX12_critical 55 = .ok (.iaload, 1) := by decide +kernel
theorem dX12_critical_56 : decode cX12_critical 56 = .ok (.iadd, 1) := by decide +kernel
theorem dX12_critical_57 : decode cX12_critical 57 = .ok (.goto 4, 3) := by decide +kernel
theorem dX12_critical_60 : decode cX12_critical 60 = .ok (.iconst (-1), 1) := by decide +kernel
theorem dX12_critical_61 : decode cX12_critical 61 = .ok (.ireturn, 1) := by decide +kernel
theorem dX12_cuts_0 : decode cX12_cuts 0 = .ok (.aload_n 0, 1) := by decide +kernel
theorem dX12_cuts_1 : decode cX12_cuts 1 = .ok (.iload_n 1, 1) := by decide +kernel
theorem dX12_cuts_2 : decode cX12_cuts 2 = .ok (.iload_n 2, 1) := by decide +kernel
theorem dX12_cuts_3 : decode cX12_cuts 3 = .ok (.invokevirtual 215, 3) := by decide +kernel
theorem dX12_cuts_6 : decode cX12_cuts 6 = .ok (.ifCond .eq 12, 3) := by decide +kernel
theorem dX12_cuts_9 : decode cX12_cuts 9 = .ok (.aload_n 0, 1) := by decide +kernel
theorem dX12_cuts_10 : decode cX12_cuts 10 = .ok (.iload_n 1, 1) := by decide +kernel
theorem dX12_cuts_11 : decode cX12_cuts 11 = .ok (.iload_n 3, 1) := by decide +kernel
theorem dX12_cuts_12 : decode cX12_cuts 12 = .ok (.invokevirtual 215, 3) := by decide +kernel
theorem dX12_cuts_15 : decode cX12_cuts 15 = .ok (.ifCond .ne 6, 3) := by decide +kernel
theorem dX12_cuts_18 : decode cX12_cuts 18 = .ok (.bipush (-2), 2) := by decide +kernel
theorem dX12_cuts_20 : decode cX12_cuts 20 = .ok (.ireturn, 1) := by decide +kernel
theorem dX12_cuts_21 : decode cX12_cuts 21 = .ok (.aload_n 0, 1) := by decide +kernel
theorem dX12_cuts_22 : decode cX12_cuts 22 = .ok (.iload_n 1, 1) := by decide +kernel
theorem dX12_cuts_23 : decode cX12_cuts 23 = .ok (.iload_n 2, 1) := by decide +kernel
theorem dX12_cuts_24 : decode cX12_cuts 24 = .ok (.iload_n 3, 1) := by decide +kernel
theorem dX12_cuts_25 : decode cX12_cuts 25 = .ok (.invokevirtual 236, 3) := by decide +kernel
theorem dX12_cuts_28 : decode cX12_cuts 28 = .ok (.ifCond .ne 6, 3) := by decide +kernel
theorem dX12_cuts_31 : decode cX12_cuts 31 = .ok (.bipush (-6), 2) := by decide +kernel
theorem dX12_cuts_33 : decode cX12_cuts 33 = .ok (.ireturn, 1) := by decide +kernel
theorem dX12_cuts_34 : decode cX12_cuts 34 = .ok (.aload_n 0, 1) := by decide +kernel
theorem dX12_cuts_35 : decode cX12_cuts 35 = .ok (.invokevirtual 113, 3) := by decide +kernel
theorem dX12_cuts_38 : decode cX12_cuts 38 = .ok (.aload_n 0, 1) := by decide +kernel
theorem dX12_cuts_39 : decode cX12_cuts 39 = .ok (.iload_n 1, 1) := by decide +kernel
theorem dX12_cuts_40 : decode cX12_cuts 40 = .ok (.iconst 1, 1) := by decide +kernel
theorem dX12_cuts_41 : decode cX12_cuts 41 = .ok (.iload_n 3, 1) := by decide +kernel
theorem dX12_cuts_42 : decode cX12_cuts 42 = .ok (.iadd, 1) := by decide +kernel
theorem dX12_cuts_43 : decode cX12_cuts 43 = .ok (.aload_n 0, 1) := by decide +kernel
theorem dX12_cuts_44 : decode cX12_cuts 44 = .ok (.iload_n 1, 1) := by decide +kernel
theorem dX12_cuts_45 : decode cX12_cuts 45 = .ok (.iload_n 3, 1) := by decide +kernel
theorem dX12_cuts_46 : decode cX12_cuts 46 = .ok (.invokevirtual 86, 3) := by decide +kernel
theorem dX12_cuts_49 : decode cX12_cuts 49 = .ok (.iconst 1, 1) := by decide +kernel
theorem dX12_cuts_50 : decode cX12_cuts 50 = .ok (.iload_n 2, 1) := by decide +kernel
theorem dX12_cuts_51 : decode cX12_cuts 51 = .ok (.ishl, 1) := by decide +kernel
theorem dX12_cuts_52 : decode cX12_cuts 52 = .ok (.iconst (-1), 1) := by decide +kernel
theorem dX12_cuts_53 : decode cX12_cuts 53 = .ok (.ixor, 1) := by decide +kernel
theorem dX12_cuts_54 : decode cX12_cuts 54 = .ok (.iand, 1) := by decide +kernel
theorem dX12_cuts_55 : decode cX12_cuts 55 = .ok (.invokevirtual 109, 3) := by decide +kernel
theorem dX12_cuts_58 : decode cX12_cuts 58 = .ok (.aload_n 0, 1) := by decide +kernel
theorem dX12_cuts_59 : decode cX12_cuts 59 = .ok (.aload_n 0, 1) := by decide +kernel
theorem dX12_cuts_60 : decode cX12_cuts 60 = .ok (.iload_n 1, 1) := by decide +kernel
theorem dX12_cuts_61 : decode cX12_cuts 61 = .ok (.invokevirtual 199, 3) := by decide +kernel
theorem dX12_cuts_64 : decode cX12_cuts 64 = .ok (.invokevirtual 106, 3) := by decide +kernel
theorem dX12_cuts_67 : decode cX12_cuts 67 = .ok (.ireturn, 1) := by decide +kernel
theorem dX12_deep_0 : decode cX12_deep 0 = .ok (.aload_n 0, 1) := by decide +kernel
theorem dX12_deep_1 : decode cX12_deep 1 = .ok (.iload_n 1, 1) := by decide +kernel
theorem dX12_deep_2 : decode cX12_deep 2 = .ok (.iload_n 2, 1) := by decide +kernel
theorem dX12_deep_3 : decode cX12_deep 3 = .ok (.invokevirtual 215, 3) := by decide +kernel
theorem dX12_deep_6 : decode cX12_deep 6 = .ok (.ifCond .eq 32, 3) := by decide +kernel
theorem dX12_deep_9 : decode cX12_deep 9 = .ok (.iload_n 3, 1) := by decide +kernel
theorem dX12_deep_10 : decode cX12_deep 10 = .ok (.i2l, 1) := by decide +kernel
theorem dX12_deep_11 : decode cX12_deep 11 = .ok (.lconst 0, 1) := by decide +kernel
theorem dX12_deep_12 : decode cX12_deep 12 = .ok (.lconst 1, 1) := by decide +kernel
theorem dX12_deep_13 : decode cX12_deep 13 = .ok (.invokestatic 64, 3) := by decide +kernel
theorem dX12_deep_16 : decode cX12_deep 16 = .ok (.ifCond .eq 22, 3) := by decide +kernel
theorem dX12_deep_19 : decode cX12_deep 19 = .ok (.aload_n 0, 1) := by decide +kernel
theorem dX12_deep_20 : decode cX12_deep 20 = .ok (.iload_n 1, 1) := by decide +kernel
theorem dX12_deep_21 : decode cX12_deep 21 = .ok (.iload_n 2, 1) := by decide +kernel
theorem dX12_deep_22 : decode cX12_deep 22 = .ok (.iload_n 3, 1) := by decide +kernel
theorem dX12_deep_23 : decode cX12_deep 23 = .ok (.iconst 1, 1) := by decide +kernel
theorem dX12_deep_24 : decode cX12_deep 24 = .ok (.if_icmp .ne 7, 3) := by decide +kernel
theorem dX12_deep_27 : decode cX12_deep 27 = .ok (.iconst 1, 1) := by decide +kernel
theorem dX12_deep_28 : decode cX12_deep 28 = .ok (.goto 4, 3) := by decide +kernel
theorem dX12_deep_31 : decode cX12_deep 31 = .ok (.iconst 0, 1) := by decide +kernel
theorem dX12_deep_32 : decode cX12_deep 32 = .ok (.invokevirtual 208, 3) := by decide +kernel
theorem dX12_deep_35 : decode cX12_deep 35 = .ok (.goto 5, 3) := by decide +kernel
theorem dX12_deep_38 : decode cX12_deep 38 = .ok (.bipush (-2), 2) := by decide +kernel
theorem dX12_deep_40 : decode cX12_deep 40 = .ok (.ireturn, 1) := by decide +kernel
theorem dX12_deepOf_0 : decode cX12_deepOf 0 = .ok (.iload_n 3, 1) := by decide +kernel
theorem dX12_deepOf_1 : decode cX12_deepOf 1 = .ok (.ifCond .eq 12, 3) := by decide +kernel
theorem dX12_deepOf_4 : decode cX12_deepOf 4 = .ok (.aload_n 0, 1) := by decide +kernel
theorem dX12_deepOf_5 : decode cX12_deepOf 5 = .ok (.iload_n 1, 1) := by decide +kernel
theorem dX12_deepOf_6 : decode cX12_deepOf 6 = .ok (.iload_n 2, 1) := by decide +kernel
theorem dX12_deepOf_7 : decode cX12_deepOf 7 = .ok (.invokevirtual 97, 3) := by decide +kernel
theorem dX12_deepOf_10 : decode cX12_deepOf 10 = .ok (.goto 9, 3) := by decide +kernel
theorem dX12_deepOf_13 : decode cX12_deepOf 13 = .ok (.aload_n 0, 1) := by decide +kernel
theorem dX12_deepOf_14 : decode cX12_deepOf 14 = .ok (.iload_n 1, 1) := by decide +kernel
theorem dX12_deepOf_15 : decode cX12_deepOf 15 = .ok (.iload_n 2, 1) := by decide +kernel
theorem dX12_deepOf_16 : decode cX12_deepOf 16 = .ok (.invokevirtual 86, 3) := by decide +kernel
theorem dX12_deepOf_19 : decode cX12_deepOf 19 = .ok (.istore 4, 2) := by decide +kernel
theorem dX12_deepOf_21 : decode cX12_deepOf 21 = .ok (.iconst 0, 1) := by decide +kernel
theorem dX12_deepOf_22 : decode cX12_deepOf 22 = .ok (.istore 5, 2) := by decide +kernel
theorem dX12_deepOf_24 : decode cX12_deepOf 24 = .ok (.iconst 0, 1) := by decide +kernel
theorem dX12_deepOf_25 : decode cX12_deepOf 25 = .ok (.istore 6, 2) := by decide +kernel
theorem dX12_deepOf_27 : decode cX12_deepOf 27 = .ok (.iload 6, 2) := by decide +kernel
theorem dX12_deepOf_29 : decode cX12_deepOf 29 = .ok (.aload_n 0, 1) := by decide +kernel
theorem dX12_deepOf_30 : decode cX12_deepOf 30 = .ok (.iload_n 1, 1) := by decide +kernel
theorem dX12_deepOf_31 : decode cX12_deepOf 31 = .ok (.invokevirtual 76, 3) := by decide +kernel
theorem dX12_deepOf_34 : decode cX12_deepOf 34 = .ok (.if_icmp .ge 39, 3) := by decide +kernel
theorem dX12_deepOf_37 : decode cX12_deepOf 37 = .ok (.iload 4, 2) := by decide +kernel
theorem dX12_deepOf_39 : decode cX12_deepOf 39 = .ok (.iload 6, 2) := by decide +kernel
theorem dX12_deepOf_41 : decode cX12_deepOf 41 = .ok (.invokestatic 89, 3) := by decide +kernel
theorem dX12_deepOf_44 : decode cX12_deepOf 44 = .ok (.ifCond .eq 19, 3) := by decide +kernel
theorem dX12_deepOf_47 : decode cX12_deepOf 47 = .ok (.iload 5, 2) := by decide +kernel
theorem dX12_deepOf_49 : decode cX12_deepOf 49 = .ok (.aload_n 0, 1) := by decide +kernel
theorem dX12_deepOf_50 : decode cX12_deepOf 50 = .ok (.iload_n 1, 1) := by decide +kernel
theorem dX12_deepOf_51 : decode cX12_deepOf 51 = .ok (.iload 6, 2) := by decide +kernel
theorem dX12_deepOf_53 : decode cX12_deepOf 53 = .ok (.iload_n 3, 1) := by decide +kernel
theorem dX12_deepOf_54 : decode cX12_deepOf 54 = .ok (.invokevirtual 208, 3) := by decide +kernel
theorem dX12_deepOf_57 : decode cX12_deepOf 57 = .ok (.invokestatic 212, 3) := by decide +kernel
theorem dX12_deepOf_60 : decode cX12_deepOf 60 = .ok (.goto 5, 3) := by decide +kernel
theorem dX12_deepOf_63 : decode cX12_deepOf 63 = .ok (.iload 5, 2) := by decide +kernel
theorem dX12_deepOf_65 : decode cX12_deepOf 65 = .ok (.istore 5, 2) := by decide +kernel
theorem dX12_deepOf_67 : decode cX12_deepOf 67 = .ok (.iinc 6 1, 3) := by decide +kernel
theorem dX12_deepOf_70 : decode cX12_deepOf 70 = .ok (.goto (-43), 3) := by decide +kernel
theorem dX12_deepOf_73 : decode cX12_deepOf 73 = .ok (.iload 5, 2) := by decide +kernel
theorem dX12_deepOf_75 : decode cX12_deepOf 75 = .ok (.iconst 1, 1) := by decide +kernel
theorem dX12_deepOf_76 : decode cX12_deepOf 76 = .ok (.iadd, 1) := by decide +kernel
theorem dX12_deepOf_77 : decode cX12_deepOf 77 = .ok (.ireturn, 1) := by decide +kernel
theorem dX12_dimension_0 : decode cX12_dimension 0 = .ok (.aload_n 0, 1) := by decide +kernel
theorem dX12_dimension_1 : decode cX12_dimension 1 = .ok (.iload_n 1, 1) := by decide +kernel
theorem dX12_dimension_2 : decode cX12_dimension 2 = .ok (.invokevirtual 80, 3) := by decide +kernel
theorem dX12_dimension_5 : decode cX12_dimension 5 = .ok (.ifCond .eq 15, 3) := by decide +kernel
theorem dX12_dimension_8 : decode cX12_dimension 8 = .ok (.iload_n 2, 1) := by decide +kernel
theorem dX12_dimension_9 : decode cX12_dimension 9 = .ok (.i2l, 1) := by decide +kernel
theorem dX12_dimension_10 : decode cX12_dimension 10 = .ok (.lconst 1, 1) := by decide +kernel
theorem dX12_dimension_11 : decode cX12_dimension 11 = .ok (.ldc2_w 356, 3) := by decide +kernel
theorem dX12_dimension_14 : decode cX12_dimension 14 = .ok (.invokestatic 64, 3) := by decide +kernel
theorem dX12_dimension_17 : decode cX12_dimension 17 = .ok (.ifCond .ne 6, 3) := by decide +kernel
theorem dX12_dimension_20 : decode cX12_dimension 20 = .ok (.bipush (-2), 2) := by decide +kernel
theorem dX12_dimension_22 : decode cX12_dimension 22 = .ok (.ireturn, 1) := by decide +kernel
theorem dX12_dimension_23 : decode cX12_dimension 23 = .ok (.iconst 1, 1) := by decide +kernel
theorem dX12_dimension_24 : decode cX12_dimension 24 = .ok (.istore_n 3, 1) := by decide +kernel
theorem dX12_dimension_25 : decode cX12_dimension 25 = .ok (.iload_n 3, 1) := by decide +kernel
theorem dX12_dimension_26 : decode cX12_dimension 26 = .ok (.iconst 4, 1) := by decide +kernel
theorem dX12_dimension_27 : decode cX12_dimension 27 = .ok (.if_icmp .gt 36, 3) := by decide +kernel
theorem dX12_dimension_30 : decode cX12_dimension 30 = .ok (.aload_n 0, 1) := by decide +kernel
theorem dX12_dimension_31 : decode cX12_dimension 31 = .ok (.iload_n 1, 1) := by decide +kernel
theorem dX12_dimension_32 : decode cX12_dimension 32 = .ok (.iload_n 3, 1) := by decide +kernel
theorem dX12_dimension_33 : decode cX12_dimension 33 = .ok (.iload_n 2, 1) := by decide +kernel
theorem dX12_dimension_34 : decode cX12_dimension 34 = .ok (.invokevirtual 358, 3) := by decide +kernel
theorem dX12_dimension_37 : decode cX12_dimension 37 = .ok (.istore 4, 2) := by decide +kernel
theorem dX12_dimension_39 : decode cX12_dimension 39 = .ok (.iload 4, 2) := by decide +kernel
theorem dX12_dimension_41 : decode cX12_dimension 41 = .ok (.ifCond .eq 16, 3) := by decide +kernel
theorem dX12_dimension_44 : decode cX12_dimension 44 = .ok (.iload 4, 2) := by decide +kernel
theorem dX12_dimension_46 : decode cX12_dimension 46 = .ok (.iconst 1, 1) := by decide +kernel
theorem dX12_dimension_47 : decode cX12_dimension 47 = .ok (.if_icmp .ne 7, 3) := by decide +kernel
theorem dX12_dimension_50 : decode cX12_dimension 50 = .ok (.iload_n 3, 1) := by decide +kernel
theorem dX12_dimension_51 : decode cX12_dimension 51 = .ok (.goto 5, 3) := by decide +kernel
theorem dX12_dimension_54 : decode cX12_dimension 54 = .ok (.bipush (-3), 2) := by decide +kernel
theorem dX12_dimension_56 : decode cX12_dimension 56 = .ok (.ireturn, 1) := by decide +kernel
theorem dX12_dimension_57 : decode cX12_dimension 57 = .ok (.iinc 3 1, 3) := by decide +kernel
theorem dX12_dimension_60 : decode cX12_dimension 60 = .ok (.goto (-35), 3) := by decide +kernel
theorem dX12_dimension_63 : decode cX12_dimension 63 = .ok (.iconst (-1), 1) := by decide +kernel
theorem dX12_dimension_64 : decode cX12_dimension 64 = .ok (.ireturn, 1) := by decide +kernel
theorem dX12_done_0 : decode cX12_done 0 = .ok (.iconst 0, 1) := by decide +kernel
theorem dX12_done_1 : decode cX12_done 1 = .ok (.istore_n 2, 1) := by decide +kernel
theorem dX12_done_2 : decode cX12_done 2 = .ok (.iload_n 2, 1) := by decide +kernel
theorem dX12_done_3 : decode cX12_done 3 = .ok (.sipush 174, 3) := by decide +kernel
theorem dX12_done_6 : decode cX12_done 6 = .ok (.if_icmp .ge 30, 3) := by decide +kernel
theorem dX12_done_9 : decode cX12_done 9 = .ok (.aload_n 0, 1) := by decide +kernel
theorem dX12_done_10 : decode cX12_done 10 = .ok (.getfield 13, 3) := by decide +kernel
theorem dX12_done_13 : decode cX12_done 13 = .ok (.iload_n 2, 1) := by decide +kernel
theorem dX12_done_14 : decode cX12_done 14 = .ok (.iaload, 1) := by decide +kernel
theorem dX12_done_15 : decode cX12_done 15 = .ok (.aload_n 0, 1) := by decide +kernel
theorem dX12_done_16 : decode cX12_done 16 = .ok (.getfield 7, 3) := by decide +kernel
theorem dX12_done_19 : decode cX12_done 19 = .ok (.iload_n 2, 1) := by decide +kernel
theorem dX12_done_20 : decode cX12_done 20 = .ok (.iaload, 1) := by decide +kernel
theorem dX12_done_21 : decode cX12_done 21 = .ok (.if_icmp .eq 9, 3) := by decide +kernel
theorem dX12_done_24 : decode cX12_done 24 = .ok (.aload_n 0, 1) := by decide +kernel
theorem dX12_done_25 : decode cX12_done 25 = .ok (.iload_n 1, 1) := by decide +kernel
theorem dX12_done_26 : decode cX12_done 26 = .ok (.invokevirtual 106, 3) := by decide +kernel
theorem dX12_done_29 : decode cX12_done 29 = .ok (.ireturn, 1) := by decide +kernel
theorem dX12_done_30 : decode cX12_done 30 = .ok (.iinc 2 1, 3) := by decide +kernel
theorem dX12_done_33 : decode cX12_done 33 = .ok (.goto (-31), 3) := by decide +kernel
theorem dX12_done_36 : decode cX12_done 36 = .ok (.iload_n 1, 1) := by decide +kernel
theorem dX12_done_37 : decode cX12_done 37 = .ok (.ireturn, 1) := by decide +kernel
theorem dX12_drops_0 : decode cX12_drops 0 = .ok (.iload_n 1, 1) := by decide +kernel
theorem dX12_drops_1 : decode cX12_drops 1 = .ok (.invokestatic 72, 3) := by decide +kernel
theorem dX12_drops_4 : decode cX12_drops 4 = .ok (.ifCond .ne 6, 3) := by decide +kernel
theorem dX12_drops_7 : decode cX12_drops 7 = .ok (.bipush (-2), 2) := by decide +kernel
theorem dX12_drops_9 : decode cX12_drops 9 = .ok (.ireturn, 1) := by decide +kernel
theorem dX12_drops_10 : decode cX12_drops 10 = .ok (.aload_n 0, 1) := by decide +kernel
theorem dX12_drops_11 : decode cX12_drops 11 = .ok (.iload_n 1, 1) := by decide +kernel
theorem dX12_drops_12 : decode cX12_drops 12 = .ok (.invokevirtual 80, 3) := by decide +kernel
theorem dX12_drops_15 : decode cX12_drops 15 = .ok (.ifCond .ne 5, 3) := by decide +kernel
theorem dX12_drops_18 : decode cX12_drops 18 = .ok (.iconst 0, 1) := by decide +kernel
theorem dX12_drops_19 : decode cX12_drops 19 = .ok (.ireturn, 1) := by decide +kernel
theorem dX12_drops_20 : decode cX12_drops 20 = .ok (.aload_n 0, 1) := by decide +kernel
theorem dX12_drops_21 : decode cX12_drops 21 = .ok (.invokevirtual 113, 3) := by decide +kernel
theorem dX12_drops_24 : decode cX12_drops 24 = .ok (.aload_n 0, 1) := by decide +kernel
theorem dX12_drops_25 : decode cX12_drops 25 = .ok (.iload_n 1, 1) := by decide +kernel
theorem dX12_drops_26 : decode cX12_drops 26 = .ok (.invokevirtual 116, 3) := by decide +kernel
theorem dX12_drops_29 : decode cX12_drops 29 = .ok (.aload_n 0, 1) := by decide +kernel
theorem dX12_drops_30 : decode cX12_drops 30 = .ok (.iconst 1, 1) := by decide +kernel
theorem dX12_drops_31 : decode cX12_drops 31 = .ok (.invokevirtual 106, 3) := by decide +kernel
theorem dX12_drops_34 : decode cX12_drops 34 = .ok (.ireturn, 1) := by decide +kernel
theorem dX12_empties_0 : decode cX12_empties 0 = .ok (.iconst 0, 1) := by decide +kernel
theorem dX12_empties_1 : decode cX12_empties 1 = .ok (.istore_n 2, 1) := by decide +kernel
theorem dX12_empties_2 : decode cX12_empties 2 = .ok (.iload_n 2, 1) := by decide +kernel
theorem dX12_empties_3 : decode cX12_empties 3 = .ok (.bipush 58, 2) := by decide +kernel
theorem dX12_empties_5 : decode cX12_empties 5 = .ok (.if_icmp .ge 16, 3) := by decide +kernel
theorem dX12_empties_8 : decode cX12_empties 8 = .ok (.aload_n 0, 1) := by decide +kernel
theorem dX12_empties_9 : decode cX12_empties 9 = .ok (.iload_n 1, 1) := by decide +kernel
theorem dX12_empties_10 : decode cX12_empties 10 = .ok (.iload_n 2, 1) := by decide +kernel
theorem dX12_empties_11 : decode cX12_empties 11 = .ok (.iconst 0, 1) := by decide +kernel
theorem dX12_empties_12 : decode cX12_empties 12 = .ok (.invokevirtual 109, 3) := by decide +kernel
theorem dX12_empties_15 : decode cX12_empties 15 = .ok (.iinc 2 1, 3) := by decide +kernel
theorem dX12_empties_18 : decode cX12_empties 18 = .ok (.goto (-16), 3) := by decide +kernel
theorem dX12_empties_21 : decode cX12_empties 21 = .ok (.return_, 1) := by decide +kernel
theorem dX12_end_0 : decode cX12_end 0 = .ok (.iload_n 1, 1) := by decide +kernel
theorem dX12_end_1 : decode cX12_end 1 = .ok (.i2l, 1) := by decide +kernel
theorem dX12_end_2 : decode cX12_end 2 = .ok (.lconst 0, 1) := by decide +kernel
theorem dX12_end_3 : decode cX12_end 3 = .ok (.aload_n 0, 1) := by decide +kernel
theorem dX12_end_4 : decode cX12_end 4 = .ok (.getfield 120, 3) := by decide +kernel
theorem dX12_end_7 : decode cX12_end 7 = .ok (.i2l, 1) := by decide +kernel
theorem dX12_end_8 : decode cX12_end 8 = .ok (.invokestatic 64, 3) := by decide +kernel
theorem dX12_end_11 : decode cX12_end 11 = .ok (.ifCond .ne 5, 3) := by decide +kernel
theorem dX12_end_14 : decode cX12_end 14 = .ok (.iconst (-1), 1) := by decide +kernel
theorem dX12_end_15 : decode cX12_end 15 = .ok (.ireturn, 1) := by decide +kernel
theorem dX12_end_16 : decode cX12_end 16 = .ok (.aload_n 0, 1) := by decide +kernel
theorem dX12_end_17 : decode cX12_end 17 = .ok (.iload_n 1, 1) := by decide +kernel
theorem dX12_end_18 : decode cX12_end 18 = .ok (.putfield 120, 3) := by decide +kernel
theorem dX12_end_21 : decode cX12_end 21 = .ok (.iload_n 1, 1) := by decide +kernel
theorem dX12_end_22 : decode cX12_end 22 = .ok (.ireturn, 1) := by decide +kernel
theorem dX12_fault_0 : decode cX12_fault 0 = .ok (.iload_n 1, 1) := by decide +kernel
theorem dX12_fault_1 : decode cX12_fault 1 = .ok (.ifCond .ne 10, 3) := by decide +kernel
theorem dX12_fault_4 : decode cX12_fault 4 = .ok (.aload_n 0, 1) := by decide +kernel
theorem dX12_fault_5 : decode cX12_fault 5 = .ok (.getfield 147, 3) := by decide +kernel
theorem dX12_fault_8 : decode cX12_fault 8 = .ok (.goto 16, 3) := by decide +kernel
theorem dX12_fault_11 : decode cX12_fault 11 = .ok (.iload_n 1, 1) := by decide +kernel
theorem dX12_fault_12 : decode cX12_fault 12 = .ok (.iconst 1, 1) := by decide +kernel
theorem dX12_fault_13 : decode cX12_fault 13 = .ok (.if_icmp .ne 10, 3) := by decide +kernel
theorem dX12_fault_16 : decode cX12_fault 16 = .ok (.aload_n 0, 1) := by decide +kernel
theorem dX12_fault_17 : decode cX12_fault 17 = .ok (.getfield 22, 3) := by decide +kernel
theorem dX12_fault_20 : decode cX12_fault 20 = .ok (.goto 4, 3) := by decide +kernel
theorem dX12_fault_23 : decode cX12_fault 23 = .ok (.iconst (-1), 1) := by decide +kernel
theorem dX12_fault_24 : decode cX12_fault 24 = .ok (.ireturn, 1) := by decide +kernel
theorem dX12_faults_0 : decode cX12_faults 0 = .ok (.aload_n 0, 1) := by decide +kernel
theorem dX12_faults_1 : decode cX12_faults 1 = .ok (.getfield 143, 3) := by decide +kernel
theorem dX12_faults_4 : decode cX12_faults 4 = .ok (.ifCond .ne 21, 3) := by decide +kernel
theorem dX12_faults_7 : decode cX12_faults 7 = .ok (.aload_n 0, 1) := by decide +kernel
theorem dX12_faults_8 : decode cX12_faults 8 = .ok (.iconst 1, 1) := by decide +kernel
theorem dX12_faults_9 : decode cX12_faults 9 = .ok (.putfield 143, 3) := by decide +kernel
theorem dX12_faults_12 : decode cX12_faults 12 = .ok (.aload_n 0, 1) := by decide +kernel
theorem dX12_faults_13 : decode cX12_faults 13 = .ok (.iload_n 1, 1) := by decide +kernel
theorem dX12_faults_14 : decode cX12_faults 14 = .ok (.putfield 147, 3) := by decide +kernel
theorem dX12_faults_17 : decode cX12_faults 17 = .ok (.aload_n 0, 1) := by decide +kernel
theorem dX12_faults_18 : decode cX12_faults 18 = .ok (.aload_n 0, 1) := by decide +kernel
theorem dX12_faults_19 : decode cX12_faults 19 = .ok (.getfield 129, 3) := by decide +kernel
theorem dX12_faults_22 : decode cX12_faults 22 = .ok (.putfield 22, 3) := by decide +kernel
theorem dX12_faults_25 : decode cX12_faults 25 = .ok (.return_, 1) := by decide +kernel
theorem dX12_feed_0 : decode cX12_feed 0 = .ok (.aload_n 0, 1) := by decide +kernel
theorem dX12_feed_1 : decode cX12_feed 1 = .ok (.getfield 120, 3) := by decide +kernel
theorem dX12_feed_4 : decode cX12_feed 4 = .ok (.sipush 380, 3) := by decide +kernel
theorem dX12_feed_7 : decode cX12_feed 7 = .ok (.if_icmp .le 5, 3) := by decide +kernel
theorem dX12_feed_10 : decode cX12_feed 10 = .ok (.iconst (-1), 1) := by decide +kernel
theorem dX12_feed_11 : decode cX12_feed 11 = .ok (.ireturn, 1) := by decide +kernel
theorem dX12_feed_12 : decode cX12_feed 12 = .ok (.iconst 5, 1) := by decide +kernel
theorem dX12_feed_13 : decode cX12_feed 13 = .ok (.newarray .int, 2) := by decide +kernel
theorem dX12_feed_15 : decode cX12_feed 15 = .ok (.dup, 1) := by decide +kernel
theorem dX12_feed_16 : decode cX12_feed 16 = .ok (.iconst 0, 1) := by decide +kernel
theorem dX12_feed_17 : decode cX12_feed 17 = .ok (.iload_n 1, 1) := by decide +kernel
theorem dX12_feed_18 : decode cX12_feed 18 = .ok (.iastore, 1) := by decide +kernel
theorem dX12_feed_19 : decode cX12_feed 19 = .ok (.dup, 1) := by decide +kernel
theorem dX12_feed_20 : decode cX12_feed 20 = .ok (.iconst 1, 1) := by decide +kernel
theorem dX12_feed_21 : decode cX12_feed 21 = .ok (.iload_n 2, 1) := by decide +kernel
theorem dX12_feed_22 : decode cX12_feed 22 = .ok (.iastore, 1) := by decide +kernel
theorem dX12_feed_23 : decode cX12_feed 23 = .ok (.dup, 1) := by decide +kernel
theorem dX12_feed_24 : decode cX12_feed 24 = .ok (.iconst 2, 1) := by decide +kernel
theorem dX12_feed_25 : decode cX12_feed 25 = .ok (.iload_n 3, 1) := by decide +kernel
theorem dX12_feed_26 : decode cX12_feed 26 = .ok (.iastore, 1) := by decide +kernel
theorem dX12_feed_27 : decode cX12_feed 27 = .ok (.dup, 1) := by decide +kernel
theorem dX12_feed_28 : decode cX12_feed 28 = .ok (.iconst 3, 1) := by decide +kernel
theorem dX12_feed_29 : decode cX12_feed 29 = .ok (.iload 4, 2) := by decide +kernel
theorem dX12_feed_31 : decode cX12_feed 31 = .ok (.iastore, 1) := by decide +kernel
theorem dX12_feed_32 : decode cX12_feed 32 = .ok (.dup, 1) := by decide +kernel
theorem dX12_feed_33 : decode cX12_feed 33 = .ok (.iconst 4, 1) := by decide +kernel
theorem dX12_feed_34 : decode cX12_feed 34 = .ok (.iload 5, 2) := by decide +kernel
theorem dX12_feed_36 : decode cX12_feed 36 = .ok (.iastore, 1) := by decide +kernel
theorem dX12_feed_37 : decode cX12_feed 37 = .ok (.astore 6, 2) := by decide +kernel
theorem dX12_feed_39 : decode cX12_feed 39 = .ok (.iconst 0, 1) := by decide +kernel
theorem dX12_feed_40 : decode cX12_feed 40 = .ok (.istore 7, 2) := by decide +kernel
theorem dX12_feed_42 : decode cX12_feed 42 = .ok (.iload 7, 2) := by decide +kernel
theorem dX12_feed_44 : decode cX12_feed 44 = .ok (.bipush 20, 2) := by decide +kernel
theorem dX12_feed_46 : decode cX12_feed 46 = .ok (.if_icmp .ge 43, 3) := by decide +kernel
theorem dX12_feed_49 : decode cX12_feed 49 = .ok (.aload_n 0, 1) := by decide +kernel
theorem dX12_feed_50 : decode cX12_feed 50 = .ok (.getfield 19, 3) := by decide +kernel
theorem dX12_feed_53 : decode cX12_feed 53 = .ok (.aload_n 0, 1) := by decide +kernel
theorem dX12_feed_54 : decode cX12_feed 54 = .ok (.getfield 120, 3) := by decide +kernel
theorem dX12_feed_57 : decode cX12_feed 57 = .ok (.iload 7, 2) := by decide +kernel
theorem dX12_feed_59 : decode cX12_feed 59 = .ok (.iadd, 1) := by decide +kernel
theorem dX12_feed_60 : decode cX12_feed 60 = .ok (.aload 6, 2) := by decide +kernel
theorem dX12_feed_62 : decode cX12_feed 62 = .ok (.iload 7, 2) := by decide +kernel
theorem dX12_feed_64 : decode cX12_feed 64 = .ok (.iconst 4, 1) := by decide +kernel
theorem dX12_feed_65 : decode cX12_feed 65 = .ok (.idiv, 1) := by decide +kernel
theorem dX12_feed_66 : decode cX12_feed 66 = .ok (.iaload, 1) := by decide +kernel
theorem dX12_feed_67 : decode cX12_feed 67 = .ok (.bipush 24, 2) := by decide +kernel
theorem dX12_feed_69 : decode cX12_feed 69 = .ok (.bipush 8, 2) := by decide +kernel
theorem dX12_feed_71 : decode cX12_feed 71 = .ok (.iload 7, 2) := by decide +kernel
theorem dX12_feed_73 : decode cX12_feed 73 = .ok (.iconst 4, 1) := by decide +kernel
theorem dX12_feed_74 : decode cX12_feed 74 = .ok (.irem, 1) := by decide +kernel
theorem dX12_feed_75 : decode cX12_feed 75 = .ok (.imul, 1) := by decide +kernel
theorem dX12_feed_76 : decode cX12_feed 76 = .ok (.isub, 1) := by decide +kernel
theorem dX12_feed_77 : decode cX12_feed 77 = .ok (.iushr, 1) := by decide +kernel
theorem dX12_feed_78 : decode cX12_feed 78 = .ok (.sipush 255, 3) := by decide +kernel
theorem dX12_feed_81 : decode cX12_feed 81 = .ok (.iand, 1) := by decide +kernel
theorem dX12_feed_82 : decode cX12_feed 82 = .ok (.iastore, 1) := by decide +kernel
theorem dX12_feed_83 : decode cX12_feed 83 = .ok (.iinc 7 1, 3) := by decide +kernel
theorem dX12_feed_86 : decode cX12_feed 86 = .ok (.goto (-44), 3) := by decide +kernel
theorem dX12_feed_89 : decode cX12_feed 89 = .ok (.aload_n 0, 1) := by decide +kernel
theorem dX12_feed_90 : decode cX12_feed 90 = .ok (.dup, 1) := by decide +kernel
theorem dX12_feed_91 : decode cX12_feed 91 = .ok (.getfield 120, 3) := by decide +kernel
theorem dX12_feed_94 : decode cX12_feed 94 = .ok (.bipush 20, 2) := by decide +kernel
theorem dX12_feed_96 : decode cX12_feed 96 = .ok (.iadd, 1) := by decide +kernel
theorem dX12_feed_97 : decode cX12_feed 97 = .ok (.putfield 120, 3) := by decide +kernel
theorem dX12_feed_100 : decode cX12_feed 100 = .ok (.aload_n 0, 1) := by decide +kernel
theorem dX12_feed_101 : decode cX12_feed 101 = .ok (.getfield 120, 3) := by decide +kernel
theorem dX12_feed_104 : decode cX12_feed 104 = .ok (.ireturn, 1) := by decide +kernel
