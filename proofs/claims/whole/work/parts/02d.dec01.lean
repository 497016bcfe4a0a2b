theorem dX0_init_0 : decode cX0_init 0 = .ok (.aload_n 0, 1) := by decide +kernel
theorem dX0_init_1 : decode cX0_init 1 = .ok (.invokespecial 3, 3) := by decide +kernel
theorem dX0_init_4 : decode cX0_init 4 = .ok (.aload_n 0, 1) := by decide +kernel
theorem dX0_init_5 : decode cX0_init 5 = .ok (.iload_n 1, 1) := by decide +kernel
theorem dX0_init_6 : decode cX0_init 6 = .ok (.iconst 0, 1) := by decide +kernel
theorem dX0_init_7 : decode cX0_init 7 = .ok (.invokestatic 9, 3) := by decide +kernel
theorem dX0_init_10 : decode cX0_init 10 = .ok (.newarray .int, 2) := by decide +kernel
theorem dX0_init_12 : decode cX0_init 12 = .ok (.putfield 15, 3) := by decide +kernel
theorem dX0_init_15 : decode cX0_init 15 = .ok (.return_, 1) := by decide +kernel
theorem dX0_put_0 : decode cX0_put 0 = .ok (.aload_n 0, 1) := by decide +kernel
theorem dX0_put_1 : decode cX0_put 1 = .ok (.getfield 21, 3) := by decide +kernel
theorem dX0_put_4 : decode cX0_put 4 = .ok (.aload_n 0, 1) := by decide +kernel
theorem dX0_put_5 : decode cX0_put 5 = .ok (.getfield 15, 3) := by decide +kernel
theorem dX0_put_8 : decode cX0_put 8 = .ok (.arraylength, 1) := by decide +kernel
theorem dX0_put_9 : decode cX0_put 9 = .ok (.if_icmp .ge 27, 3) := by decide +kernel
theorem dX0_put_12 : decode cX0_put 12 = .ok (.aload_n 0, 1) := by decide +kernel
theorem dX0_put_13 : decode cX0_put 13 = .ok (.getfield 15, 3) := by decide +kernel
theorem dX0_put_16 : decode cX0_put 16 = .ok (.aload_n 0, 1) := by decide +kernel
theorem dX0_put_17 : decode cX0_put 17 = .ok (.getfield 21, 3) := by decide +kernel
theorem dX0_put_20 : decode cX0_put 20 = .ok (.iload_n 1, 1) := by decide +kernel
theorem dX0_put_21 : decode cX0_put 21 = .ok (.sipush 255, 3) := by decide +kernel
theorem dX0_put_24 : decode cX0_put 24 = .ok (.iand, 1) := by decide +kernel
theorem dX0_put_25 : decode cX0_put 25 = .ok (.iastore, 1) := by decide +kernel
theorem dX0_put_26 : decode cX0_put 26 = .ok (.aload_n 0, 1) := by decide +kernel
theorem dX0_put_27 : decode cX0_put 27 = .ok (.dup, 1) := by decide +kernel
theorem dX0_put_28 : decode cX0_put 28 = .ok (.getfield 21, 3) := by decide +kernel
theorem dX0_put_31 : decode cX0_put 31 = .ok (.iconst 1, 1) := by decide +kernel
theorem dX0_put_32 : decode cX0_put 32 = .ok (.iadd, 1) := by decide +kernel
theorem dX0_put_33 : decode cX0_put 33 = .ok (.putfield 21, 3) := by decide +kernel
theorem dX0_put_36 : decode cX0_put 36 = .ok (.return_, 1) := by decide +kernel
theorem dX0_putDigit_0 : decode cX0_putDigit 0 = .ok (.aload_n 0, 1) := by decide +kernel
theorem dX0_putDigit_1 : decode cX0_putDigit 1 = .ok (.bipush 48, 2) := by decide +kernel
theorem dX0_putDigit_3 : decode cX0_putDigit 3 = .ok (.iload_n 1, 1) := by decide +kernel
theorem dX0_putDigit_4 : decode cX0_putDigit 4 = .ok (.iadd, 1) := by decide +kernel
theorem dX0_putDigit_5 : decode cX0_putDigit 5 = .ok (.invokevirtual 25, 3) := by decide +kernel
theorem dX0_putDigit_8 : decode cX0_putDigit 8 = .ok (.return_, 1) := by decide +kernel
theorem dX0_putFour_0 : decode cX0_putFour 0 = .ok (.aload_n 0, 1) := by decide +kernel
theorem dX0_putFour_1 : decode cX0_putFour 1 = .ok (.iload_n 1, 1) := by decide +kernel
theorem dX0_putFour_2 : decode cX0_putFour 2 = .ok (.bipush 24, 2) := by decide +kernel
theorem dX0_putFour_4 : decode cX0_putFour 4 = .ok (.ishr, 1) := by decide +kernel
theorem dX0_putFour_5 : decode cX0_putFour 5 = .ok (.invokevirtual 25, 3) := by decide +kernel
theorem dX0_putFour_8 : decode cX0_putFour 8 = .ok (.aload_n 0, 1) := by decide +kernel
theorem dX0_putFour_9 : decode cX0_putFour 9 = .ok (.iload_n 1, 1) := by decide +kernel
theorem dX0_putFour_10 : decode cX0_putFour 10 = .ok (.bipush 16, 2) := by decide +kernel
theorem dX0_putFour_12 : decode cX0_putFour 12 = .ok (.ishr, 1) := by decide +kernel
theorem dX0_putFour_13 : decode cX0_putFour 13 = .ok (.invokevirtual 25, 3) := by decide +kernel
theorem dX0_putFour_16 : decode cX0_putFour 16 = .ok (.aload_n 0, 1) := by decide +kernel
theorem dX0_putFour_17 : decode cX0_putFour 17 = .ok (.iload_n 1, 1) := by decide +kernel
theorem dX0_putFour_18 : decode cX0_putFour 18 = .ok (.bipush 8, 2) := by decide +kernel
theorem dX0_putFour_20 : decode cX0_putFour 20 = .ok (.ishr, 1) := by decide +kernel
theorem dX0_putFour_21 : decode cX0_putFour 21 = .ok (.invokevirtual 25, 3) := by decide +kernel
theorem dX0_putFour_24 : decode cX0_putFour 24 = .ok (.aload_n 0, 1) := by decide +kernel
theorem dX0_putFour_25 : decode cX0_putFour 25 = .ok (.iload_n 1, 1) := by decide +kernel
theorem dX0_putFour_26 : decode cX0_putFour 26 = .ok (.invokevirtual 25, 3) := by decide +kernel
theorem dX0_putFour_29 : decode cX0_putFour 29 = .ok (.return_, 1) := by decide +kernel
theorem dX0_putWord_0 : decode cX0_putWord 0 = .ok (.iconst 0, 1) := by decide +kernel
theorem dX0_putWord_1 : decode cX0_putWord 1 = .ok (.istore_n 2, 1) := by decide +kernel
theorem dX0_putWord_2 : decode cX0_putWord 2 = .ok (.iload_n 2, 1) := by decide +kernel
theorem dX0_putWord_3 : decode cX0_putWord 3 = .ok (.aload_n 1, 1) := by decide +kernel
theorem dX0_putWord_4 : decode cX0_putWord 4 = .ok (.invokevirtual 29, 3) := by decide +kernel
theorem dX0_putWord_7 : decode cX0_putWord 7 = .ok (.if_icmp .ge 18, 3) := by decide +kernel
theorem dX0_putWord_10 : decode cX0_putWord 10 = .ok (.aload_n 0, 1) := by decide +kernel
theorem dX0_putWord_11 : decode cX0_putWord 11 = .ok (.aload_n 1, 1) := by decide +kernel
theorem dX0_putWord_12 : decode cX0_putWord 12 = .ok (.iload_n 2, 1) := by decide +kernel
theorem dX0_putWord_13 : decode cX0_putWord 13 = .ok (.invokevirtual 35, 3) := by decide +kernel
theorem dX0_putWord_16 : decode cX0_putWord 16 = .ok (.invokevirtual 25, 3) := by decide +kernel
theorem dX0_putWord_19 : decode cX0_putWord 19 = .ok (.iinc 2 1, 3) := by decide +kernel
theorem dX0_putWord_22 : decode cX0_putWord 22 = .ok (.goto (-20), 3) := by decide +kernel
theorem dX0_putWord_25 : decode cX0_putWord 25 = .ok (.return_, 1) := by decide +kernel
theorem dX0_shorten_0 : decode cX0_shorten 0 = .ok (.iload_n 1, 1) := by decide +kernel
theorem dX0_shorten_1 : decode cX0_shorten 1 = .ok (.ifCond .lt 16, 3) := by decide +kernel
theorem dX0_shorten_4 : decode cX0_shorten 4 = .ok (.iload_n 1, 1) := by decide +kernel
theorem dX0_shorten_5 : decode cX0_shorten 5 = .ok (.aload_n 0, 1) := by decide +kernel
theorem dX0_shorten_6 : decode cX0_shorten 6 = .ok (.getfield 21, 3) := by decide +kernel
theorem dX0_shorten_9 : decode cX0_shorten 9 = .ok (.if_icmp .ge 8, 3) := by decide +kernel
theorem dX0_shorten_12 : decode cX0_shorten 12 = .ok (.aload_n 0, 1) := by decide +kernel
theorem dX0_shorten_13 : decode cX0_shorten 13 = .ok (.iload_n 1, 1) := by decide +kernel
theorem dX0_shorten_14 : decode cX0_shorten 14 = .ok (.putfield 21, 3) := by decide +kernel
theorem dX0_shorten_17 : decode cX0_shorten 17 = .ok (.return_, 1) := by decide +kernel
theorem dX0_size_0 : decode cX0_size 0 = .ok (.aload_n 0, 1) := by decide +kernel
theorem dX0_size_1 : decode cX0_size 1 = .ok (.getfield 21, 3) := by decide +kernel
theorem dX0_size_4 : decode cX0_size 4 = .ok (.ireturn, 1) := by decide +kernel
theorem dX10_downFrom_0 : decode cX10_downFrom 0 = .ok (.aload_n 0, 1) := by decide +kernel
theorem dX10_downFrom_1 : decode cX10_downFrom 1 = .ok (.iload_n 1, 1) := by decide +kernel
theorem dX10_downFrom_2 : decode cX10_downFrom 2 = .ok (.invokevirtual 28, 3) := by decide +kernel
theorem dX10_downFrom_5 : decode cX10_downFrom 5 = .ok (.iconst 1, 1) := by decide +kernel
theorem dX10_downFrom_6 : decode cX10_downFrom 6 = .ok (.iload_n 1, 1) := by decide +kernel
theorem dX10_downFrom_7 : decode cX10_downFrom 7 = .ok (.ishl, 1) := by decide +kernel
theorem dX10_downFrom_8 : decode cX10_downFrom 8 = .ok (.ior, 1) := by decide +kernel
theorem dX10_downFrom_9 : decode cX10_downFrom 9 = .ok (.ireturn, 1) := by decide +kernel
theorem dX10_hangingParts_0 : decode cX10_hangingParts 0 = .ok (.iconst 0, 1) := by decide +kernel
theorem dX10_hangingParts_1 : decode cX10_hangingParts 1 = .ok (.istore_n 1, 1) := by decide +kernel
theorem dX10_hangingParts_2 : decode cX10_hangingParts 2 = .ok (.iconst 0, 1) := by decide +kernel
theorem dX10_hangingParts_3 : decode cX10_hangingParts 3 = .ok (.istore_n 2, 1) := by decide +kernel
theorem dX10_hangingParts_4 : decode cX10_hangingParts 4 = .ok (.iconst 0, 1) := by decide +kernel
theorem dX10_hangingParts_5 : decode cX10_hangingParts 5 = .ok (.istore_n 3, 1) := by decide +kernel
theorem dX10_hangingParts_6 : decode cX10_hangingParts 6 = .ok (.iload_n 3, 1) := by decide +kernel
theorem dX10_hangingParts_7 : decode cX10_hangingParts 7 = .ok (.aload_n 0, 1) := by decide +kernel
theorem dX10_hangingParts_8 : decode cX10_hangingParts 8 = .ok (.invokevirtual 25, 3) := by decide +kernel
theorem dX10_hangingParts_11 : decode cX10_hangingParts 11 = .ok (.if_icmp .ge 28, 3) := by decide +kernel
theorem dX10_hangingParts_14 : decode cX10_hangingParts 14 = .ok (.iload_n 1, 1) := by decide +kernel
theorem dX10_hangingParts_15 : decode cX10_hangingParts 15 = .ok (.iload_n 3, 1) := by decide +kernel
theorem dX10_hangingParts_16 : decode cX10_hangingParts 16 = .ok (.ishr, 1) := by decide +kernel
theorem dX10_hangingParts_17 : decode cX10_hangingParts 17 = .ok (.iconst 1, 1) := by decide +kernel
theorem dX10_hangingParts_18 : decode cX10_hangingParts 18 = .ok (.iand, 1) := by decide +kernel
theorem dX10_hangingParts_19 : decode cX10_hangingParts 19 = .ok (.ifCond .ne 14, 3) := by decide +kernel
theorem dX10_hangingParts_22 : decode cX10_hangingParts 22 = .ok (.iload_n 1, 1) := by decide +kernel
theorem dX10_hangingParts_23 : decode cX10_hangingParts 23 = .ok (.aload_n 0, 1) := by decide +kernel
theorem dX10_hangingParts_24 : decode cX10_hangingParts 24 = .ok (.iload_n 3, 1) := by decide +kernel
theorem dX10_hangingParts_25 : decode cX10_hangingParts 25 = .ok (.invokestatic 35, 3) := by decide +kernel
theorem dX10_hangingParts_28 : decode cX10_hangingParts 28 = .ok (.ior, 1) := by decide +kernel
theorem dX10_hangingParts_29 : decode cX10_hangingParts 29 = .ok (.istore_n 1, 1) := by decide +kernel
theorem dX10_hangingParts_30 : decode cX10_hangingParts 30 = .ok (.iinc 2 1, 3) := by decide +kernel
theorem dX10_hangingParts_33 : decode cX10_hangingParts 33 = .ok (.iinc 3 1, 3) := by decide +kernel
theorem dX10_hangingParts_36 : decode cX10_hangingParts 36 = .ok (.goto (-30), 3) := by decide +kernel
theorem dX10_hangingParts_39 : decode cX10_hangingParts 39 = .ok (.iload_n 2, 1) := by decide +kernel
theorem dX10_hangingParts_40 : decode cX10_hangingParts 40 = .ok (.ireturn, 1) := by decide +kernel
theorem dX10_hangingWith_0 : decode cX10_hangingWith 0 = .ok (.iconst 1, 1) := by decide +kernel
theorem dX10_hangingWith_1 : decode cX10_hangingWith 1 = .ok (.iload_n 1, 1) := by decide +kernel
theorem dX10_hangingWith_2 : decode cX10_hangingWith 2 = .ok (.ishl, 1) := by decide +kernel
theorem dX10_hangingWith_3 : decode cX10_hangingWith 3 = .ok (.istore_n 2, 1) := by decide +kernel
theorem dX10_hangingWith_4 : decode cX10_hangingWith 4 = .ok (.iconst 0, 1) := by decide +kernel
theorem dX10_hangingWith_5 : decode cX10_hangingWith 5 = .ok (.istore_n 3, 1) := by decide +kernel
theorem dX10_hangingWith_6 : decode cX10_hangingWith 6 = .ok (.iload_n 3, 1) := by decide +kernel
theorem dX10_hangingWith_7 : decode cX10_hangingWith 7 = .ok (.aload_n 0, 1) := by decide +kernel
theorem dX10_hangingWith_8 : decode cX10_hangingWith 8 = .ok (.invokevirtual 25, 3) := by decide +kernel
theorem dX10_hangingWith_11 : decode cX10_hangingWith 11 = .ok (.if_icmp .ge 53, 3) := by decide +kernel
theorem dX10_hangingWith_14 : decode cX10_hangingWith 14 = .ok (.iconst 0, 1) := by decide +kernel
theorem dX10_hangingWith_15 : decode cX10_hangingWith 15 = .ok (.istore 4, 2) := by decide +kernel
theorem dX10_hangingWith_17 : decode cX10_hangingWith 17 = .ok (.iload 4, 2) := by decide +kernel
theorem dX10_hangingWith_19 : decode cX10_hangingWith 19 = .ok (.aload_n 0, 1) := by decide +kernel
theorem dX10_hangingWith_20 : decode cX10_hangingWith 20 = .ok (.invokevirtual 25, 3) := by decide +kernel
theorem dX10_hangingWith_23 : decode cX10_hangingWith 23 = .ok (.if_icmp .ge 35, 3) := by decide +kernel
theorem dX10_hangingWith_26 : decode cX10_hangingWith 26 = .ok (.iload_n 2, 1) := by decide +kernel
theorem dX10_hangingWith_27 : decode cX10_hangingWith 27 = .ok (.iload 4, 2) := by decide +kernel
theorem dX10_hangingWith_29 : decode cX10_hangingWith 29 = .ok (.ishr, 1) := by decide +kernel
theorem dX10_hangingWith_30 : decode cX10_hangingWith 30 = .ok (.iconst 1, 1) := by decide +kernel
theorem dX10_hangingWith_31 : decode cX10_hangingWith 31 = .ok (.iand, 1) := by decide +kernel
theorem dX10_hangingWith_32 : decode cX10_hangingWith 32 = .ok (.iconst 1, 1) := by decide +kernel
theorem dX10_hangingWith_33 : decode cX10_hangingWith 33 = .ok (.if_icmp .ne 19, 3) := by decide +kernel
theorem dX10_hangingWith_36 : decode cX10_hangingWith 36 = .ok (.iload_n 2, 1) := by decide +kernel
theorem dX10_hangingWith_37 : decode cX10_hangingWith 37 = .ok (.aload_n 0, 1) := by decide +kernel
theorem dX10_hangingWith_38 : decode cX10_hangingWith 38 = .ok (.iload 4, 2) := by decide +kernel
theorem dX10_hangingWith_40 : decode cX10_hangingWith 40 = .ok (.invokevirtual 28, 3) := by decide +kernel
theorem dX10_hangingWith_43 : decode cX10_hangingWith 43 = .ok (.aload_n 0, 1) := by decide +kernel
theorem dX10_hangingWith_44 : decode cX10_hangingWith 44 = .ok (.iload 4, 2) := by decide +kernel
theorem dX10_hangingWith_46 : decode cX10_hangingWith 46 = .ok (.invokevirtual 39, 3) := by decide +kernel
theorem dX10_hangingWith_49 : decode cX10_hangingWith 49 = .ok (.ior, 1) := by decide +kernel
theorem dX10_hangingWith_50 : decode cX10_hangingWith 50 = .ok (.ior, 1) := by decide +kernel
theorem dX10_hangingWith_51 : decode cX10_hangingWith 51 = .ok (.istore_n 2, 1) := by decide +kernel
theorem dX10_hangingWith_52 : decode cX10_hangingWith 52 = .ok (.iinc 4 1, 3) := by decide +kernel
theorem dX10_hangingWith_55 : decode cX10_hangingWith 55 = .ok (.goto (-38), 3) := by decide +kernel
theorem dX10_hangingWith_58 : decode cX10_hangingWith 58 = .ok (.iinc 3 1, 3) := by decide +kernel
theorem dX10_hangingWith_61 : decode cX10_hangingWith 61 = .ok (.goto (-55), 3) := by decide +kernel
theorem dX10_hangingWith_64 : decode cX10_hangingWith 64 = .ok (.iload_n 2, 1) := by decide +kernel
theorem dX10_hangingWith_65 : decode cX10_hangingWith 65 = .ok (.ireturn, 1) := by decide +kernel
theorem dX10_hasGreatest_0 : decode cX10_hasGreatest 0 = .ok (.iconst 0, 1) := by decide +kernel
theorem dX10_hasGreatest_1 : decode cX10_hasGreatest 1 = .ok (.istore_n 2, 1) := by decide +kernel
theorem dX10_hasGreatest_2 : decode cX10_hasGreatest 2 = .ok (.iload_n 2, 1) := by decide +kernel
theorem dX10_hasGreatest_3 : decode cX10_hasGreatest 3 = .ok (.aload_n 0, 1) := by decide +kernel
theorem dX10_hasGreatest_4 : decode cX10_hasGreatest 4 = .ok (.invokevirtual 25, 3) := by decide +kernel
theorem dX10_hasGreatest_7 : decode cX10_hasGreatest 7 = .ok (.if_icmp .ge 32, 3) := by decide +kernel
theorem dX10_hasGreatest_10 : decode cX10_hasGreatest 10 = .ok (.iload_n 1, 1) := by decide +kernel
theorem dX10_hasGreatest_11 : decode cX10_hasGreatest 11 = .ok (.iload_n 2, 1) := by decide +kernel
theorem dX10_hasGreatest_12 : decode cX10_hasGreatest 12 = .ok (.ishr, 1) := by decide +kernel
theorem dX10_hasGreatest_13 : decode cX10_hasGreatest 13 = .ok (.iconst 1, 1) := by decide +kernel
theorem dX10_hasGreatest_14 : decode cX10_hasGreatest 14 = .ok (.iand, 1) := by decide +kernel
theorem dX10_hasGreatest_15 : decode cX10_hasGreatest 15 = .ok (.iconst 1, 1) := by decide +kernel
theorem dX10_hasGreatest_16 : decode cX10_hasGreatest 16 = .ok (.if_icmp .ne 17, 3) := by decide +kernel
theorem dX10_hasGreatest_19 : decode cX10_hasGreatest 19 = .ok (.iload_n 1, 1) := by decide +kernel
theorem dX10_hasGreatest_20 : decode cX10_hasGreatest 20 = .ok (.aload_n 0, 1) := by decide +kernel
theorem dX10_hasGreatest_21 : decode cX10_hasGreatest 21 = .ok (.iload_n 2, 1) := by decide +kernel
theorem dX10_hasGreatest_22 : decode cX10_hasGreatest 22 = .ok (.invokestatic 56, 3) := by decide +kernel
theorem dX10_hasGreatest_25 : decode cX10_hasGreatest 25 = .ok (.iconst (-1), 1) := by decide +kernel
theorem dX10_hasGreatest_26 : decode cX10_hasGreatest 26 = .ok (.ixor, 1) := by decide +kernel
theorem dX10_hasGreatest_27 : decode cX10_hasGreatest 27 = .ok (.iand, 1) := by decide +kernel
theorem dX10_hasGreatest_28 : decode cX10_hasGreatest 28 = .ok (.ifCond .ne 5, 3) := by decide +kernel
theorem dX10_hasGreatest_31 : decode cX10_hasGreatest 31 = .ok (.iconst 1, 1) := by decide +kernel
theorem dX10_hasGreatest_32 : decode cX10_hasGreatest 32 = .ok (.ireturn, 1) := by decide +kernel
theorem dX10_hasGreatest_33 : decode cX10_hasGreatest 33 = .ok (.iinc 2 1, 3) := by decide +kernel
theorem dX10_hasGreatest_36 : decode cX10_hasGreatest 36 = .ok (.goto (-34), 3) := by decide +kernel
theorem dX10_hasGreatest_39 : decode cX10_hasGreatest 39 = .ok (.iconst 0, 1) := by decide +kernel
theorem dX10_hasGreatest_40 : decode cX10_hasGreatest 40 = .ok (.ireturn, 1) := by decide +kernel
theorem dX10_hasLeast_0 : decode cX10_hasLeast 0 = .ok (.iconst 0, 1) := by decide +kernel
theorem dX10_hasLeast_1 : decode cX10_hasLeast 1 = .ok (.istore_n 2, 1) := by decide +kernel
theorem dX10_hasLeast_2 : decode cX10_hasLeast 2 = .ok (.iload_n 2, 1) := by decide +kernel
theorem dX10_hasLeast_3 : decode cX10_hasLeast 3 = .ok (.aload_n 0, 1) := by decide +kernel
theorem dX10_hasLeast_4 : decode cX10_hasLeast 4 = .ok (.invokevirtual 25, 3) := by decide +kernel
theorem dX10_hasLeast_7 : decode cX10_hasLeast 7 = .ok (.if_icmp .ge 32, 3) := by decide +kernel
theorem dX10_hasLeast_10 : decode cX10_hasLeast 10 = .ok (.iload_n 1, 1) := by decide +kernel
theorem dX10_hasLeast_11 : decode cX10_hasLeast 11 = .ok (.iload_n 2, 1) := by decide +kernel
theorem dX10_hasLeast_12 : decode cX10_hasLeast 12 = .ok (.ishr, 1) := by decide +kernel
theorem dX10_hasLeast_13 : decode cX10_hasLeast 13 = .ok (.iconst 1, 1) := by decide +kernel
theorem dX10_hasLeast_14 : decode cX10_hasLeast 14 = .ok (.iand, 1) := by decide +kernel
theorem dX10_hasLeast_15 : decode cX10_hasLeast 15 = .ok (.iconst 1, 1) := by decide +kernel
theorem dX10_hasLeast_16 : decode cX10_hasLeast 16 = .ok (.if_icmp .ne 17, 3) := by decide +kernel
theorem dX10_hasLeast_19 : decode cX10_hasLeast 19 = .ok (.iload_n 1, 1) := by decide +kernel
theorem dX10_hasLeast_20 : decode cX10_hasLeast 20 = .ok (.aload_n 0, 1) := by decide +kernel
theorem dX10_hasLeast_21 : decode cX10_hasLeast 21 = .ok (.iload_n 2, 1) := by decide +kernel
theorem dX10_hasLeast_22 : decode cX10_hasLeast 22 = .ok (.invokestatic 53, 3) := by decide +kernel
theorem dX10_hasLeast_25 : decode cX10_hasLeast 25 = .ok (.iconst (-1), 1) := by decide +kernel
theorem dX10_hasLeast_26 : decode cX10_hasLeast 26 = .ok (.ixor, 1) := by decide +kernel
theorem dX10_hasLeast_27 : decode cX10_hasLeast 27 = .ok (.iand, 1) := by decide +kernel
theorem dX10_hasLeast_28 : decode cX10_hasLeast 28 = .ok (.ifCond .ne 5, 3) := by decide +kernel
theorem dX10_hasLeast_31 : decode cX10_hasLeast 31 = .ok (.iconst 1, 1) := by decide +kernel
theorem dX10_hasLeast_32 : decode cX10_hasLeast 32 = .ok (.ireturn, 1) := by decide +kernel
theorem dX10_hasLeast_33 : decode cX10_hasLeast 33 = .ok (.iinc 2 1, 3) := by decide +kernel
theorem dX10_hasLeast_36 : decode cX10_hasLeast 36 = .ok (.goto (-34), 3) := by decide +kernel
theorem dX10_hasLeast_39 : decode cX10_hasLeast 39 = .ok (.iconst 0, 1) := by decide +kernel
theorem dX10_hasLeast_40 : decode cX10_hasLeast 40 = .ok (.ireturn, 1) := by decide +kernel
theorem dX10_hasN_0 : decode cX10_hasN 0 = .ok (.iconst 0, 1) := by decide +kernel
theorem dX10_hasN_1 : decode cX10_hasN 1 = .ok (.istore_n 1, 1) := by decide +kernel
theorem dX10_hasN_2 : decode cX10_hasN 2 = .ok (.iload_n 1, 1) := by decide +kernel
theorem dX10_hasN_3 : decode cX10_hasN 3 = .ok (.aload_n 0, 1) := by decide +kernel
theorem dX10_hasN_4 : decode cX10_hasN 4 = .ok (.invokevirtual 25, 3) := by decide +kernel
theorem dX10_hasN_7 : decode cX10_hasN 7 = .ok (.if_icmp .ge 45, 3) := by decide +kernel
theorem dX10_hasN_10 : decode cX10_hasN 10 = .ok (.iconst 0, 1) := by decide +kernel
theorem dX10_hasN_11 : decode cX10_hasN 11 = .ok (.istore_n 2, 1) := by decide +kernel
theorem dX10_hasN_12 : decode cX10_hasN 12 = .ok (.iload_n 2, 1) := by decide +kernel
theorem dX10_hasN_13 : decode cX10_hasN 13 = .ok (.aload_n 0, 1) := by decide +kernel
theorem dX10_hasN_14 : decode cX10_hasN 14 = .ok (.invokevirtual 25, 3) := by decide +kernel
theorem dX10_hasN_17 : decode cX10_hasN 17 = .ok (.if_icmp .ge 29, 3) := by decide +kernel
theorem dX10_hasN_20 : decode cX10_hasN 20 = .ok (.aload_n 0, 1) := by decide +kernel
theorem dX10_hasN_21 : decode cX10_hasN 21 = .ok (.iload_n 1, 1) := by decide +kernel
theorem dX10_hasN_22 : decode cX10_hasN 22 = .ok (.iload_n 2, 1) := by decide +kernel
theorem dX10_hasN_23 : decode cX10_hasN 23 = .ok (.invokevirtual 42, 3) := by decide +kernel
theorem dX10_hasN_26 : decode cX10_hasN 26 = .ok (.ifCond .eq 14, 3) := by decide +kernel
theorem dX10_hasN_29 : decode cX10_hasN 29 = .ok (.aload_n 0, 1) := by decide +kernel
theorem dX10_hasN_30 : decode cX10_hasN 30 = .ok (.iload_n 1, 1) := by decide +kernel
theorem dX10_hasN_31 : decode cX10_hasN 31 = .ok (.iload_n 2, 1) := by decide +kernel
theorem dX10_hasN_32 : decode cX10_hasN 32 = .ok (.invokestatic 46, 3) := by decide +kernel
theorem dX10_hasN_35 : decode cX10_hasN 35 = .ok (.ifCond .eq 5, 3) := by decide +kernel
theorem dX10_hasN_38 : decode cX10_hasN 38 = .ok (.iconst 1, 1) := by decide +kernel
theorem dX10_hasN_39 : decode cX10_hasN 39 = .ok (.ireturn, 1) := by decide +kernel
theorem dX10_hasN_40 : decode cX10_hasN 40 = .ok (.iinc 2 1, 3) := by decide +kernel
theorem dX10_hasN_43 : decode cX10_hasN 43 = .ok (.goto (-31), 3) := by decide +kernel
theorem dX10_hasN_46 : decode cX10_hasN 46 = .ok (.iinc 1 1, 3) := by decide +kernel
theorem dX10_hasN_49 : decode cX10_hasN 49 = .ok (.goto (-47), 3) := by decide +kernel
theorem dX10_hasN_52 : decode cX10_hasN 52 = .ok (.iconst 0, 1) := by decide +kernel
theorem dX10_hasN_53 : decode cX10_hasN 53 = .ok (.ireturn, 1) := by decide +kernel
theorem dX10_hasThreeAndOne_0 : decode cX10_hasThreeAndOne 0 = .ok (.iconst 0, 1) := by decide +kernel
theorem dX10_hasThreeAndOne_1 : decode cX10_hasThreeAndOne 1 = .ok (.istore_n 1, 1) := by decide +kernel
theorem dX10_hasThreeAndOne_2 : decode cX10_hasThreeAndOne 2 = .ok (.iload_n 1, 1) := by decide +kernel
theorem dX10_hasThreeAndOne_3 : decode cX10_hasThreeAndOne 3 = .ok (.aload_n 0, 1) := by decide +kernel
theorem dX10_hasThreeAndOne_4 : decode cX10_hasThreeAndOne 4 = .ok (.invokevirtual 25, 3) := by decide +kernel
theorem dX10_hasThreeAndOne_7 : decode cX10_hasThreeAndOne 7 = .ok (.if_icmp .ge 85, 3) := by decide +kernel
theorem dX10_hasThreeAndOne_10 : decode cX10_hasThreeAndOne 10 = .ok (.iconst 0, 1) := by decide +kernel
theorem dX10_hasThreeAndOne_11 : decode cX10_hasThreeAndOne 11 = .ok (.istore_n 2, 1) := by decide +kernel
theorem dX10_hasThreeAndOne_12 : decode cX10_hasThreeAndOne 12 = .ok (.iload_n 2, 1) := by decide +kernel
theorem dX10_hasThreeAndOne_13 : decode cX10_hasThreeAndOne 13 = .ok (.aload_n 0, 1) := by decide +kernel
theorem dX10_hasThreeAndOne_14 : decode cX10_hasThreeAndOne 14 = .ok (.invokevirtual 25, 3) := by decide +kernel
theorem dX10_hasThreeAndOne_17 : decode cX10_hasThreeAndOne 17 = .ok (.if_icmp .ge 69, 3) := by decide +kernel
theorem dX10_hasThreeAndOne_20 : decode cX10_hasThreeAndOne 20 = .ok (.iconst 0, 1) := by decide +kernel
theorem dX10_hasThreeAndOne_21 : decode cX10_hasThreeAndOne 21 = .ok (.istore_n 3, 1) := by decide +kernel
theorem dX10_hasThreeAndOne_22 : decode cX10_hasThreeAndOne 22 = .ok (.iload_n 3, 1) := by decide +kernel
theorem dX10_hasThreeAndOne_23 : decode cX10_hasThreeAndOne 23 = .ok (.aload_n 0, 1) := by decide +kernel
theorem dX10_hasThreeAndOne_24 : decode cX10_hasThreeAndOne 24 = .ok (.invokevirtual 25, 3) := by decide +kernel
theorem dX10_hasThreeAndOne_27 : decode cX10_hasThreeAndOne 27 = .ok (.if_icmp .ge 53, 3) := by decide +kernel
theorem dX10_hasThreeAndOne_30 : decode cX10_hasThreeAndOne 30 = .ok (.aload_n 0, 1) := by decide +kernel
theorem dX10_hasThreeAndOne_31 : decode cX10_hasThreeAndOne 31 = .ok (.iload_n 2, 1) := by decide +kernel
theorem dX10_hasThreeAndOne_32 : decode cX10_hasThreeAndOne 32 = .ok (.invokevirtual 50, 3) := by decide +kernel
theorem dX10_hasThreeAndOne_35 : decode cX10_hasThreeAndOne 35 = .ok (.aload_n 0, 1) := by decide +kernel
theorem dX10_hasThreeAndOne_36 : decode cX10_hasThreeAndOne 36 = .ok (.iload_n 1, 1) := by decide +kernel
theorem dX10_hasThreeAndOne_37 : decode cX10_hasThreeAndOne 37 = .ok (.invokevirtual 50, 3) := by decide +kernel
theorem dX10_hasThreeAndOne_40 : decode cX10_hasThreeAndOne 40 = .ok (.iand, 1) := by decide +kernel
theorem dX10_hasThreeAndOne_41 : decode cX10_hasThreeAndOne 41 = .ok (.aload_n 0, 1) := by decide +kernel
theorem dX10_hasThreeAndOne_42 : decode cX10_hasThreeAndOne 42 = .ok (.iload_n 3, 1) := by decide +kernel
theorem dX10_hasThreeAndOne_43 : decode cX10_hasThreeAndOne 43 = .ok (.invokevirtual 50, 3) := by decide +kernel
theorem dX10_hasThreeAndOne_46 : decode cX10_hasThreeAndOne 46 = .ok (.iand, 1) := by decide +kernel
theorem dX10_hasThreeAndOne_47 : decode cX10_hasThreeAndOne 47 = .ok (.istore 4, 2) := by decide +kernel
theorem dX10_hasThreeAndOne_49 : decode cX10_hasThreeAndOne 49 = .ok (.aload_n 0, 1) := by decide +kernel
theorem dX10_hasThreeAndOne_50 : decode cX10_hasThreeAndOne 50 = .ok (.iload_n 2, 1) := by decide +kernel
theorem dX10_hasThreeAndOne_51 : decode cX10_hasThreeAndOne 51 = .ok (.iload_n 1, 1) := by decide +kernel
theorem dX10_hasThreeAndOne_52 : decode cX10_hasThreeAndOne 52 = .ok (.invokevirtual 42, 3) := by decide +kernel
theorem dX10_hasThreeAndOne_55 : decode cX10_hasThreeAndOne 55 = .ok (.ifCond .eq 19, 3) := by decide +kernel
theorem dX10_hasThreeAndOne_58 : decode cX10_hasThreeAndOne 58 = .ok (.aload_n 0, 1) := by decide +kernel
theorem dX10_hasThreeAndOne_59 : decode cX10_hasThreeAndOne 59 = .ok (.iload_n 1, 1) := by decide +kernel
theorem dX10_hasThreeAndOne_60 : decode cX10_hasThreeAndOne 60 = .ok (.iload_n 3, 1) := by decide +kernel
theorem dX10_hasThreeAndOne_61 : decode cX10_hasThreeAndOne 61 = .ok (.invokevirtual 42, 3) := by decide +kernel
theorem dX10_hasThreeAndOne_64 : decode cX10_hasThreeAndOne 64 = .ok (.ifCond .eq 10, 3) := by decide +kernel
theorem dX10_hasThreeAndOne_67 : decode cX10_hasThreeAndOne 67 = .ok (.iload 4, 2) := by decide +kernel
theorem dX10_hasThreeAndOne_69 : decode cX10_hasThreeAndOne 69 = .ok (.ifCond .eq 5, 3) := by decide +kernel
theorem dX10_hasThreeAndOne_72 : decode cX10_hasThreeAndOne 72 = .ok (.iconst 1, 1) := by decide +kernel
theorem dX10_hasThreeAndOne_73 : decode cX10_hasThreeAndOne 73 = .ok (.ireturn, 1) := by decide +kernel
theorem dX10_hasThreeAndOne_74 : decode cX10_hasThreeAndOne 74 = .ok (.iinc 3 1, 3) := by decide +kernel
theorem dX10_hasThreeAndOne_77 : decode cX10_hasThreeAndOne 77 = .ok (.goto (-55), 3) := by decide +kernel
theorem dX10_hasThreeAndOne_80 : decode cX10_hasThreeAndOne 80 = .ok (.iinc 2 1, 3) := by decide +kernel
theorem dX10_hasThreeAndOne_83 : decode cX10_hasThreeAndOne 83 = .ok (.goto (-71), 3) := by decide +kernel
theorem dX10_hasThreeAndOne_86 : decode cX10_hasThreeAndOne 86 = .ok (.iinc 1 1, 3) := by decide +kernel
theorem dX10_hasThreeAndOne_89 : decode cX10_hasThreeAndOne 89 = .ok (.goto (-87), 3) := by decide +kernel
theorem dX10_hasThreeAndOne_92 : decode cX10_hasThreeAndOne 92 = .ok (.iconst 0, 1) := by decide +kernel
theorem dX10_hasThreeAndOne_93 : decode cX10_hasThreeAndOne 93 = .ok (.ireturn, 1) := by decide +kernel
theorem dX10_hasTwoAndTwo_0 : decode cX10_hasTwoAndTwo 0 = .ok (.iconst 0, 1) := by decide +kernel
theorem dX10_hasTwoAndTwo_1 : decode cX10_hasTwoAndTwo 1 = .ok (.istore_n 1, 1) := by decide +kernel
theorem dX10_hasTwoAndTwo_2 : decode cX10_hasTwoAndTwo 2 = .ok (.iload_n 1, 1) := by decide +kernel
theorem dX10_hasTwoAndTwo_3 : decode cX10_hasTwoAndTwo 3 = .ok (.aload_n 0, 1) := by decide +kernel
theorem dX10_hasTwoAndTwo_4 : decode cX10_hasTwoAndTwo 4 = .ok (.invokevirtual 25, 3) := by decide +kernel
theorem dX10_hasTwoAndTwo_7 : decode cX10_hasTwoAndTwo 7 = .ok (.if_icmp .ge 56, 3) := by decide +kernel
theorem dX10_hasTwoAndTwo_10 : decode cX10_hasTwoAndTwo 10 = .ok (.iconst 0, 1) := by decide +kernel
theorem dX10_hasTwoAndTwo_11 : decode cX10_hasTwoAndTwo 11 = .ok (.istore_n 2, 1) := by decide +kernel
theorem dX10_hasTwoAndTwo_12 : decode cX10_hasTwoAndTwo 12 = .ok (.iload_n 2, 1) := by decide +kernel
theorem dX10_hasTwoAndTwo_13 : decode cX10_hasTwoAndTwo 13 = .ok (.aload_n 0, 1) := by decide +kernel
theorem dX10_hasTwoAndTwo_14 : decode cX10_hasTwoAndTwo 14 = .ok (.invokevirtual 25, 3) := by decide +kernel
theorem dX10_hasTwoAndTwo_17 : decode cX10_hasTwoAndTwo 17 = .ok (.if_icmp .ge 40, 3) := by decide +kernel
theorem dX10_hasTwoAndTwo_20 : decode cX10_hasTwoAndTwo 20 = .ok (.aload_n 0, 1) := by decide +kernel
theorem dX10_hasTwoAndTwo_21 : decode cX10_hasTwoAndTwo 21 = .ok (.iload_n 1, 1) := by decide +kernel
theorem dX10_hasTwoAndTwo_22 : decode cX10_hasTwoAndTwo 22 = .ok (.invokevirtual 50, 3) := by decide +kernel
theorem dX10_hasTwoAndTwo_25 : decode cX10_hasTwoAndTwo 25 = .ok (.aload_n 0, 1) := by decide +kernel
theorem dX10_hasTwoAndTwo_26 : decode cX10_hasTwoAndTwo 26 = .ok (.iload_n 2, 1) := by decide +kernel
theorem dX10_hasTwoAndTwo_27 : decode cX10_hasTwoAndTwo 27 = .ok (.invokevirtual 50, 3) := by decide +kernel
theorem dX10_hasTwoAndTwo_30 : decode cX10_hasTwoAndTwo 30 = .ok (.iand, 1) := by decide +kernel
theorem dX10_hasTwoAndTwo_31 : decode cX10_hasTwoAndTwo 31 = .ok (.istore_n 3, 1) := by decide +kernel
theorem dX10_hasTwoAndTwo_32 : decode cX10_hasTwoAndTwo 32 = .ok (.aload_n 0, 1) := by decide +kernel
theorem dX10_hasTwoAndTwo_33 : decode cX10_hasTwoAndTwo 33 = .ok (.iload_n 1, 1) := by decide +kernel
theorem dX10_hasTwoAndTwo_34 : decode cX10_hasTwoAndTwo 34 = .ok (.iload_n 2, 1) := by decide +kernel
theorem dX10_hasTwoAndTwo_35 : decode cX10_hasTwoAndTwo 35 = .ok (.invokevirtual 42, 3) := by decide +kernel
theorem dX10_hasTwoAndTwo_38 : decode cX10_hasTwoAndTwo 38 = .ok (.ifCond .eq 13, 3) := by decide +kernel
theorem dX10_hasTwoAndTwo_41 : decode cX10_hasTwoAndTwo 41 = .ok (.aload_n 0, 1) := by decide +kernel
theorem dX10_hasTwoAndTwo_42 : decode cX10_hasTwoAndTwo 42 = .ok (.iload_n 3, 1) := by decide +kernel
theorem dX10_hasTwoAndTwo_43 : decode cX10_hasTwoAndTwo 43 = .ok (.invokestatic 19, 3) := by decide +kernel
theorem dX10_hasTwoAndTwo_46 : decode cX10_hasTwoAndTwo 46 = .ok (.ifCond .ne 5, 3) := by decide +kernel
theorem dX10_hasTwoAndTwo_49 : decode cX10_hasTwoAndTwo 49 = .ok (.iconst 1, 1) := by decide +kernel
theorem dX10_hasTwoAndTwo_50 : decode cX10_hasTwoAndTwo 50 = .ok (.ireturn, 1) := by decide +kernel
theorem dX10_hasTwoAndTwo_51 : decode cX10_hasTwoAndTwo 51 = .ok (.iinc 2 1, 3) := by decide +kernel
theorem dX10_hasTwoAndTwo_54 : decode cX10_hasTwoAndTwo 54 = .ok (.goto (-42), 3) := by decide +kernel
theorem dX10_hasTwoAndTwo_57 : decode cX10_hasTwoAndTwo 57 = .ok (.iinc 1 1, 3) := by decide +kernel
theorem dX10_hasTwoAndTwo_60 : decode cX10_hasTwoAndTwo 60 = .ok (.goto (-58), 3) := by decide +kernel
theorem dX10_hasTwoAndTwo_63 : decode cX10_hasTwoAndTwo 63 = .ok (.iconst 0, 1) := by decide +kernel
theorem dX10_hasTwoAndTwo_64 : decode cX10_hasTwoAndTwo 64 = .ok (.ireturn, 1) := by decide +kernel
theorem dX10_ideals_0 : decode cX10_ideals 0 = .ok (.iconst 0, 1) := by decide +kernel
theorem dX10_ideals_1 : decode cX10_ideals 1 = .ok (.istore_n 1, 1) := by decide +kernel
theorem dX10_ideals_2 : decode cX10_ideals 2 = .ok (.iconst 0, 1) := by decide +kernel
theorem dX10_ideals_3 : decode cX10_ideals 3 = .ok (.istore_n 2, 1) := by decide +kernel
theorem dX10_ideals_4 : decode cX10_ideals 4 = .ok (.iload_n 2, 1) := by decide +kernel
theorem dX10_ideals_5 : decode cX10_ideals 5 = .ok (.aload_n 0, 1) := by decide +kernel
theorem dX10_ideals_6 : decode cX10_ideals 6 = .ok (.invokevirtual 7, 3) := by decide +kernel
theorem dX10_ideals_9 : decode cX10_ideals 9 = .ok (.if_icmp .gt 20, 3) := by decide +kernel
theorem dX10_ideals_12 : decode cX10_ideals 12 = .ok (.aload_n 0, 1) := by decide +kernel
theorem dX10_ideals_13 : decode cX10_ideals 13 = .ok (.iload_n 2, 1) := by decide +kernel
theorem dX10_ideals_14 : decode cX10_ideals 14 = .ok (.invokevirtual 31, 3) := by decide +kernel
theorem dX10_ideals_17 : decode cX10_ideals 17 = .ok (.ifCond .eq 6, 3) := by decide +kernel
theorem dX10_ideals_20 : decode cX10_ideals 20 = .ok (.iinc 1 1, 3) := by decide +kernel
theorem dX10_ideals_23 : decode cX10_ideals 23 = .ok (.iinc 2 1, 3) := by decide +kernel
theorem dX10_ideals_26 : decode cX10_ideals 26 = .ok (.goto (-22), 3) := by decide +kernel
theorem dX10_ideals_29 : decode cX10_ideals 29 = .ok (.iload_n 1, 1) := by decide +kernel
theorem dX10_ideals_30 : decode cX10_ideals 30 = .ok (.ireturn, 1) := by decide +kernel
theorem dX10_isFreeSet_0 : decode cX10_isFreeSet 0 = .ok (.iconst 0, 1) := by decide +kernel
theorem dX10_isFreeSet_1 : decode cX10_isFreeSet 1 = .ok (.istore_n 2, 1) := by decide +kernel
theorem dX10_isFreeSet_2 : decode cX10_isFreeSet 2 = .ok (.iload_n 2, 1) := by decide +kernel
theorem dX10_isFreeSet_3 : decode cX10_isFreeSet 3 = .ok (.aload_n 0, 1) := by decide +kernel
theorem dX10_isFreeSet_4 : decode cX10_isFreeSet 4 = .ok (.invokevirtual 25, 3) := by decide +kernel
theorem dX10_isFreeSet_7 : decode cX10_isFreeSet 7 = .ok (.if_icmp .ge 30, 3) := by decide +kernel
theorem dX10_isFreeSet_10 : decode cX10_isFreeSet 10 = .ok (.iload_n 1, 1) := by decide +kernel
theorem dX10_isFreeSet_11 : decode cX10_isFreeSet 11 = .ok (.iload_n 2, 1) := by decide +kernel
theorem dX10_isFreeSet_12 : decode cX10_isFreeSet 12 = .ok (.ishr, 1) := by decide +kernel
theorem dX10_isFreeSet_13 : decode cX10_isFreeSet 13 = .ok (.iconst 1, 1) := by decide +kernel
theorem dX10_isFreeSet_14 : decode cX10_isFreeSet 14 = .ok (.iand, 1) := by decide +kernel
theorem dX10_isFreeSet_15 : decode cX10_isFreeSet 15 = .ok (.iconst 1, 1) := by decide +kernel
theorem dX10_isFreeSet_16 : decode cX10_isFreeSet 16 = .ok (.if_icmp .ne 15, 3) := by decide +kernel
theorem dX10_isFreeSet_19 : decode cX10_isFreeSet 19 = .ok (.aload_n 0, 1) := by decide +kernel
theorem dX10_isFreeSet_20 : decode cX10_isFreeSet 20 = .ok (.iload_n 2, 1) := by decide +kernel
theorem dX10_isFreeSet_21 : decode cX10_isFreeSet 21 = .ok (.invokevirtual 28, 3) := by decide +kernel
theorem dX10_isFreeSet_24 : decode cX10_isFreeSet 24 = .ok (.iload_n 1, 1) := by decide +kernel
theorem dX10_isFreeSet_25 : decode cX10_isFreeSet 25 = .ok (.iand, 1) := by decide +kernel
theorem dX10_isFreeSet_26 : decode cX10_isFreeSet 26 = .ok (.ifCond .eq 5, 3) := by decide +kernel
theorem dX10_isFreeSet_29 : decode cX10_isFreeSet 29 = .ok (.iconst 0, 1) := by decide +kernel
theorem dX10_isFreeSet_30 : decode cX10_isFreeSet 30 = .ok (.ireturn, 1) := by decide +kernel
theorem dX10_isFreeSet_31 : decode cX10_isFreeSet 31 = .ok (.iinc 2 1, 3) := by decide +kernel
theorem dX10_isFreeSet_34 : decode cX10_isFreeSet 34 = .ok (.goto (-32), 3) := by decide +kernel
theorem dX10_isFreeSet_37 : decode cX10_isFreeSet 37 = .ok (.iconst 1, 1) := by decide +kernel
theorem dX10_isFreeSet_38 : decode cX10_isFreeSet 38 = .ok (.ireturn, 1) := by decide +kernel
theorem dX10_isLattice_0 : decode cX10_isLattice 0 = .ok (.iconst 0, 1) := by decide +kernel
theorem dX10_isLattice_1 : decode cX10_isLattice 1 = .ok (.istore_n 1, 1) := by decide +kernel
theorem dX10_isLattice_2 : decode cX10_isLattice 2 = .ok (.iload_n 1, 1) := by decide +kernel
theorem dX10_isLattice_3 : decode cX10_isLattice 3 = .ok (.aload_n 0, 1) := by decide +kernel
theorem dX10_isLattice_4 : decode cX10_isLattice 4 = .ok (.invokevirtual 25, 3) := by decide +kernel
theorem dX10_isLattice_7 : decode cX10_isLattice 7 = .ok (.if_icmp .ge 71, 3) := by decide +kernel
theorem dX10_isLattice_10 : decode cX10_isLattice 10 = .ok (.iload_n 1, 1) := by decide +kernel
theorem dX10_isLattice_11 : decode cX10_isLattice 11 = .ok (.iconst 1, 1) := by decide +kernel
theorem dX10_isLattice_12 : decode cX10_isLattice 12 = .ok (.iadd, 1) := by decide +kernel
theorem dX10_isLattice_13 : decode cX10_isLattice 13 = .ok (.istore_n 2, 1) := by decide +kernel
theorem dX10_isLattice_14 : decode cX10_isLattice 14 = .ok (.iload_n 2, 1) := by decide +kernel
theorem dX10_isLattice_15 : decode cX10_isLattice 15 = .ok (.aload_n 0, 1) := by decide +kernel
theorem dX10_isLattice_16 : decode cX10_isLattice 16 = .ok (.invokevirtual 25, 3) := by decide +kernel
theorem dX10_isLattice_19 : decode cX10_isLattice 19 = .ok (.if_icmp .ge 53, 3) := by decide +kernel
theorem dX10_isLattice_22 : decode cX10_isLattice 22 = .ok (.aload_n 0, 1) := by decide +kernel
theorem dX10_isLattice_23 : decode cX10_isLattice 23 = .ok (.iload_n 1, 1) := by decide +kernel
theorem dX10_isLattice_24 : decode cX10_isLattice 24 = .ok (.invokestatic 53, 3) := by decide +kernel
theorem dX10_isLattice_27 : decode cX10_isLattice 27 = .ok (.aload_n 0, 1) := by decide +kernel
theorem dX10_isLattice_28 : decode cX10_isLattice 28 = .ok (.iload_n 2, 1) := by decide +kernel
theorem dX10_isLattice_29 : decode cX10_isLattice 29 = .ok (.invokestatic 53, 3) := by decide +kernel
theorem dX10_isLattice_32 : decode cX10_isLattice 32 = .ok (.iand, 1) := by decide +kernel
theorem dX10_isLattice_33 : decode cX10_isLattice 33 = .ok (.istore_n 3, 1) := by decide +kernel
theorem dX10_isLattice_34 : decode cX10_isLattice 34 = .ok (.aload_n 0, 1) := by decide +kernel
theorem dX10_isLattice_35 : decode cX10_isLattice 35 = .ok (.iload_n 1, 1) := by decide +kernel
theorem dX10_isLattice_36 : decode cX10_isLattice 36 = .ok (.invokestatic 56, 3) := by decide +kernel
theorem dX10_isLattice_39 : decode cX10_isLattice 39 = .ok (.aload_n 0, 1) := by decide +kernel
theorem dX10_isLattice_40 : decode cX10_isLattice 40 = .ok (.iload_n 2, 1) := by decide +kernel
theorem dX10_isLattice_41 : decode cX10_isLattice 41 = .ok (.invokestatic 56, 3) := by decide +kernel
theorem dX10_isLattice_44 : decode cX10_isLattice 44 = .ok (.iand, 1) := by decide +kernel
theorem dX10_isLattice_45 : decode cX10_isLattice 45 = .ok (.istore 4, 2) := by decide +kernel
theorem dX10_isLattice_47 : decode cX10_isLattice 47 = .ok (.aload_n 0, 1) := by decide +kernel
theorem dX10_isLattice_48 : decode cX10_isLattice 48 = .ok (.iload_n 3, 1) := by decide +kernel
theorem dX10_isLattice_49 : decode cX10_isLattice 49 = .ok (.invokestatic 59, 3) := by decide +kernel
theorem dX10_isLattice_52 : decode cX10_isLattice 52 = .ok (.ifCond .eq 12, 3) := by decide +kernel
theorem dX10_isLattice_55 : decode cX10_isLattice 55 = .ok (.aload_n 0, 1) := by decide +kernel
theorem dX10_isLattice_56 : decode cX10_isLattice 56 = .ok (.iload 4, 2) := by decide +kernel
theorem dX10_isLattice_58 : decode cX10_isLattice 58 = .ok (.invokestatic 62, 3) := by decide +kernel
theorem dX10_isLattice_61 : decode cX10_isLattice 61 = .ok (.ifCond .ne 5, 3) := by decide +kernel
theorem dX10_isLattice_64 : decode cX10_isLattice 64 = .ok (.iconst 0, 1) := by decide +kernel
theorem dX10_isLattice_65 : decode cX10_isLattice 65 = .ok (.ireturn, 1) := by decide +kernel
theorem dX10_isLattice_66 : decode cX10_isLattice 66 = .ok (.iinc 2 1, 3) := by decide +kernel
theorem dX10_isLattice_69 : decode cX10_isLattice 69 = .ok (.goto (-55), 3) := by decide +kernel
theorem dX10_isLattice_72 : decode cX10_isLattice 72 = .ok (.iinc 1 1, 3) := by decide +kernel
theorem dX10_isLattice_75 : decode cX10_isLattice 75 = .ok (.goto (-73), 3) := by decide +kernel
theorem dX10_isLattice_78 : decode cX10_isLattice 78 = .ok (.iconst 1, 1) := by decide +kernel
theorem dX10_isLattice_79 : decode cX10_isLattice 79 = .ok (.ireturn, 1) := by decide +kernel
theorem dX10_isLeftOfN_0 : decode cX10_isLeftOfN 0 = .ok (.aload_n 0, 1) := by decide +kernel
theorem dX10_isLeftOfN_1 : decode cX10_isLeftOfN 1 = .ok (.iload_n 2, 1) := by decide +kernel
theorem dX10_isLeftOfN_2 : decode cX10_isLeftOfN 2 = .ok (.invokevirtual 28, 3) := by decide +kernel
theorem dX10_isLeftOfN_5 : decode cX10_isLeftOfN 5 = .ok (.aload_n 0, 1) := by decide +kernel
theorem dX10_isLeftOfN_6 : decode cX10_isLeftOfN 6 = .ok (.iload_n 1, 1) := by decide +kernel
theorem dX10_isLeftOfN_7 : decode cX10_isLeftOfN 7 = .ok (.invokevirtual 50, 3) := by decide +kernel
theorem dX10_isLeftOfN_10 : decode cX10_isLeftOfN 10 = .ok (.iand, 1) := by decide +kernel
theorem dX10_isLeftOfN_11 : decode cX10_isLeftOfN 11 = .ok (.istore_n 3, 1) := by decide +kernel
theorem dX10_isLeftOfN_12 : decode cX10_isLeftOfN 12 = .ok (.aload_n 0, 1) := by decide +kernel
theorem dX10_isLeftOfN_13 : decode cX10_isLeftOfN 13 = .ok (.iload_n 1, 1) := by decide +kernel
theorem dX10_isLeftOfN_14 : decode cX10_isLeftOfN 14 = .ok (.invokevirtual 50, 3) := by decide +kernel
theorem dX10_isLeftOfN_17 : decode cX10_isLeftOfN 17 = .ok (.aload_n 0, 1) := by decide +kernel
theorem dX10_isLeftOfN_18 : decode cX10_isLeftOfN 18 = .ok (.iload_n 2, 1) := by decide +kernel
theorem dX10_isLeftOfN_19 : decode cX10_isLeftOfN 19 = .ok (.invokevirtual 50, 3) := by decide +kernel
theorem dX10_isLeftOfN_22 : decode cX10_isLeftOfN 22 = .ok (.iand, 1) := by decide +kernel
theorem dX10_isLeftOfN_23 : decode cX10_isLeftOfN 23 = .ok (.istore 4, 2) := by decide +kernel
theorem dX10_isLeftOfN_25 : decode cX10_isLeftOfN 25 = .ok (.iconst 0, 1) := by decide +kernel
theorem dX10_isLeftOfN_26 : decode cX10_isLeftOfN 26 = .ok (.istore 5, 2) := by decide +kernel
theorem dX10_isLeftOfN_28 : decode cX10_isLeftOfN 28 = .ok (.iload 5, 2) := by decide +kernel
theorem dX10_isLeftOfN_30 : decode cX10_isLeftOfN 30 = .ok (.aload_n 0, 1) := by decide +kernel
theorem dX10_isLeftOfN_31 : decode cX10_isLeftOfN 31 = .ok (.invokevirtual 25, 3) := by decide +kernel
theorem dX10_isLeftOfN_34 : decode cX10_isLeftOfN 34 = .ok (.if_icmp .ge 33, 3) := by decide +kernel
theorem dX10_isLeftOfN_37 : decode cX10_isLeftOfN 37 = .ok (.iload_n 3, 1) := by decide +kernel
theorem dX10_isLeftOfN_38 : decode cX10_isLeftOfN 38 = .ok (.iload 5, 2) := by decide +kernel
theorem dX10_isLeftOfN_40 : decode cX10_isLeftOfN 40 = .ok (.ishr, 1) := by decide +kernel
theorem dX10_isLeftOfN_41 : decode cX10_isLeftOfN 41 = .ok (.iconst 1, 1) := by decide +kernel
theorem dX10_isLeftOfN_42 : decode cX10_isLeftOfN 42 = .ok (.iand, 1) := by decide +kernel
theorem dX10_isLeftOfN_43 : decode cX10_isLeftOfN 43 = .ok (.iconst 1, 1) := by decide +kernel
theorem dX10_isLeftOfN_44 : decode cX10_isLeftOfN 44 = .ok (.if_icmp .ne 17, 3) := by decide +kernel
theorem dX10_isLeftOfN_47 : decode cX10_isLeftOfN 47 = .ok (.aload_n 0, 1) := by decide +kernel
theorem dX10_isLeftOfN_48 : decode cX10_isLeftOfN 48 = .ok (.iload 5, 2) := by decide +kernel
theorem dX10_isLeftOfN_50 : decode cX10_isLeftOfN 50 = .ok (.invokevirtual 39, 3) := by decide +kernel
theorem dX10_isLeftOfN_53 : decode cX10_isLeftOfN 53 = .ok (.iload 4, 2) := by decide +kernel
theorem dX10_isLeftOfN_55 : decode cX10_isLeftOfN 55 = .ok (.iand, 1) := by decide +kernel
theorem dX10_isLeftOfN_56 : decode cX10_isLeftOfN 56 = .ok (.ifCond .eq 5, 3) := by decide +kernel
theorem dX10_isLeftOfN_59 : decode cX10_isLeftOfN 59 = .ok (.iconst 1, 1) := by decide +kernel
theorem dX10_isLeftOfN_60 : decode cX10_isLeftOfN 60 = .ok (.ireturn, 1) := by decide +kernel
theorem dX10_isLeftOfN_61 : decode cX10_isLeftOfN 61 = .ok (.iinc 5 1, 3) := by decide +kernel
theorem dX10_isLeftOfN_64 : decode cX10_isLeftOfN 64 = .ok (.goto (-36), 3) := by decide +kernel
theorem dX10_isLeftOfN_67 : decode cX10_isLeftOfN 67 = .ok (.iconst 0, 1) := by decide +kernel
theorem dX10_isLeftOfN_68 : decode cX10_isLeftOfN 68 = .ok (.ireturn, 1) := by decide +kernel
theorem dX10_upFrom_0 : decode cX10_upFrom 0 = .ok (.aload_n 0, 1) := by decide +kernel
theorem dX10_upFrom_1 : decode cX10_upFrom 1 = .ok (.iload_n 1, 1) := by decide +kernel
theorem dX10_upFrom_2 : decode cX10_upFrom 2 = .ok (.invokevirtual 39, 3) := by decide +kernel
theorem dX10_upFrom_5 : decode cX10_upFrom 5 = .ok (.iconst 1, 1) := by decide +kernel
theorem dX10_upFrom_6 : decode cX10_upFrom 6 = .ok (.iload_n 1, 1) := by decide +kernel
theorem dX10_upFrom_7 : decode cX10_upFrom 7 = .ok (.ishl, 1) := by decide +kernel
theorem dX10_upFrom_8 : decode cX10_upFrom 8 = .ok (.ior, 1) := by decide +kernel
theorem dX10_upFrom_9 : decode cX10_upFrom 9 = .ok (.ireturn, 1) := by decide +kernel
theorem dX10_widest_0 : decode cX10_widest 0 = .ok (.iconst 0, 1) := by decide +kernel
theorem dX10_widest_1 : decode cX10_widest 1 = .ok (.istore_n 1, 1) := by decide +kernel
theorem dX10_widest_2 : decode cX10_widest 2 = .ok (.iconst 1, 1) := by decide +kernel
theorem dX10_widest_3 : decode cX10_widest 3 = .ok (.istore_n 2, 1) := by decide +kernel
theorem dX10_widest_4 : decode cX10_widest 4 = .ok (.iload_n 2, 1) := by decide +kernel
theorem dX10_widest_5 : decode cX10_widest 5 = .ok (.aload_n 0, 1) := by decide +kernel
theorem dX10_widest_6 : decode cX10_widest 6 = .ok (.invokevirtual 7, 3) := by decide +kernel
theorem dX10_widest_9 : decode cX10_widest 9 = .ok (.if_icmp .gt 30, 3) := by decide +kernel
theorem dX10_widest_12 : decode cX10_widest 12 = .ok (.iload_n 2, 1) := by decide +kernel
theorem dX10_widest_13 : decode cX10_widest 13 = .ok (.invokestatic 13, 3) := by decide +kernel
theorem dX10_widest_16 : decode cX10_widest 16 = .ok (.iload_n 1, 1) := by decide +kernel
theorem dX10_widest_17 : decode cX10_widest 17 = .ok (.invokestatic 13, 3) := by decide +kernel
theorem dX10_widest_20 : decode cX10_widest 20 = .ok (.if_icmp .le 13, 3) := by decide +kernel
theorem dX10_widest_23 : decode cX10_widest 23 = .ok (.aload_n 0, 1) := by decide +kernel
theorem dX10_widest_24 : decode cX10_widest 24 = .ok (.iload_n 2, 1) := by decide +kernel
theorem dX10_widest_25 : decode cX10_widest 25 = .ok (.invokestatic 19, 3) := by decide +kernel
theorem dX10_widest_28 : decode cX10_widest 28 = .ok (.ifCond .eq 5, 3) := by decide +kernel
theorem dX10_widest_31 : decode cX10_widest 31 = .ok (.iload_n 2, 1) := by decide +kernel
theorem dX10_widest_32 : decode cX10_widest 32 = .ok (.istore_n 1, 1) := by decide +kernel
theorem dX10_widest_33 : decode cX10_widest 33 = .ok (.iinc 2 1, 3) := by decide +kernel
theorem dX10_widest_36 : decode cX10_widest 36 = .ok (.goto (-32), 3) := by decide +kernel
theorem dX10_widest_39 : decode cX10_widest 39 = .ok (.iload_n 1, 1) := by decide +kernel
theorem dX10_widest_40 : decode cX10_widest 40 = .ok (.ireturn, 1) := by decide +kernel
theorem dX11_adds_0 : decode cX11_adds 0 = .ok (.aload_n 0, 1) := by decide +kernel
theorem dX11_adds_1 : decode cX11_adds 1 = .ok (.iload_n 1, 1) := by decide +kernel
theorem dX11_adds_2 : decode cX11_adds 2 = .ok (.invokevirtual 117, 3) := by decide +kernel
theorem dX11_adds_5 : decode cX11_adds 5 = .ok (.astore_n 3, 1) := by decide +kernel
theorem dX11_adds_6 : decode cX11_adds 6 = .ok (.aload_n 3, 1) := by decide +kernel
theorem dX11_adds_7 : decode cX11_adds 7 = .ok (.ifnull 7, 3) := by decide +kernel
theorem dX11_adds_10 : decode cX11_adds 10 = .ok (.iload_n 2, 1) := by decide +kernel
theorem dX11_adds_11 : decode cX11_adds 11 = .ok (.ifCond .ge 6, 3) := by decide +kernel
theorem dX11_adds_14 : decode cX11_adds 14 = .ok (.bipush (-2), 2) := by decide +kernel
theorem dX11_adds_16 : decode cX11_adds 16 = .ok (.ireturn, 1) := by decide +kernel
theorem dX11_adds_17 : decode cX11_adds 17 = .ok (.iload_n 2, 1) := by decide +kernel
theorem dX11_adds_18 : decode cX11_adds 18 = .ok (.aload_n 0, 1) := by decide +kernel
theorem dX11_adds_19 : decode cX11_adds 19 = .ok (.aload_n 3, 1) := by decide +kernel
theorem dX11_adds_20 : decode cX11_adds 20 = .ok (.invokevirtual 201, 3) := by decide +kernel
theorem dX11_adds_23 : decode cX11_adds 23 = .ok (.invokevirtual 205, 3) := by decide +kernel
theorem dX11_adds_26 : decode cX11_adds 26 = .ok (.if_icmp .lt 5, 3) := by decide +kernel
theorem dX11_adds_29 : decode cX11_adds 29 = .ok (.iconst (-1), 1) := by decide +kernel
theorem dX11_adds_30 : decode cX11_adds 30 = .ok (.ireturn, 1) := by decide +kernel
theorem dX11_adds_31 : decode cX11_adds 31 = .ok (.aload_n 3, 1) := by decide +kernel
theorem dX11_adds_32 : decode cX11_adds 32 = .ok (.invokevirtual 149, 3) := by decide +kernel
theorem dX11_adds_35 : decode cX11_adds 35 = .ok (.invokevirtual 153, 3) := by decide +kernel
theorem dX11_adds_38 : decode cX11_adds 38 = .ok (.bipush 6, 2) := by decide +kernel
theorem dX11_adds_40 : decode cX11_adds 40 = .ok (.if_icmp .lt 6, 3) := by decide +kernel
theorem dX11_adds_43 : decode cX11_adds 43 = .ok (.bipush (-5), 2) := by decide +kernel
theorem dX11_adds_45 : decode cX11_adds 45 = .ok (.ireturn, 1) := by decide +kernel
theorem dX11_adds_46 : decode cX11_adds 46 = .ok (.aload_n 0, 1) := by decide +kernel
theorem dX11_adds_47 : decode cX11_adds 47 = .ok (.getfield 16, 3) := by decide +kernel
theorem dX11_adds_50 : decode cX11_adds 50 = .ok (.aload_n 3, 1) := by decide +kernel
theorem dX11_adds_51 : decode cX11_adds 51 = .ok (.invokevirtual 290, 3) := by decide +kernel
theorem dX11_adds_54 : decode cX11_adds 54 = .ok (.aload_n 0, 1) := by decide +kernel
theorem dX11_adds_55 : decode cX11_adds 55 = .ok (.getfield 16, 3) := by decide +kernel
theorem dX11_adds_58 : decode cX11_adds 58 = .ok (.invokevirtual 149, 3) := by decide +kernel
theorem dX11_adds_61 : decode cX11_adds 61 = .ok (.invokevirtual 299, 3) := by decide +kernel
theorem dX11_adds_64 : decode cX11_adds 64 = .ok (.istore 4, 2) := by decide +kernel
theorem dX11_adds_66 : decode cX11_adds 66 = .ok (.iconst 0, 1) := by decide +kernel
theorem dX11_adds_67 : decode cX11_adds 67 = .ok (.istore 5, 2) := by decide +kernel
theorem dX11_adds_69 : decode cX11_adds 69 = .ok (.iload 5, 2) := by decide +kernel
theorem dX11_adds_71 : decode cX11_adds 71 = .ok (.aload_n 3, 1) := by decide +kernel
theorem dX11_adds_72 : decode cX11_adds 72 = .ok (.invokevirtual 121, 3) := by decide +kernel
theorem dX11_adds_75 : decode cX11_adds 75 = .ok (.if_icmp .ge 34, 3) := by decide +kernel
theorem dX11_adds_78 : decode cX11_adds 78 = .ok (.aload_n 0, 1) := by decide +kernel
theorem dX11_adds_79 : decode cX11_adds 79 = .ok (.getfield 16, 3) := by decide +kernel
theorem dX11_adds_82 : decode cX11_adds 82 = .ok (.invokevirtual 149, 3) := by decide +kernel
theorem dX11_adds_85 : decode cX11_adds 85 = .ok (.iload 4, 2) := by decide +kernel
theorem dX11_adds_87 : decode cX11_adds 87 = .ok (.iload 5, 2) := by decide +kernel
theorem dX11_adds_89 : decode cX11_adds 89 = .ok (.aload_n 0, 1) := by decide +kernel
theorem dX11_adds_90 : decode cX11_adds 90 = .ok (.getfield 58, 3) := by decide +kernel
theorem dX11_adds_93 : decode cX11_adds 93 = .ok (.aload_n 3, 1) := by decide +kernel
theorem dX11_adds_94 : decode cX11_adds 94 = .ok (.iload_n 2, 1) := by decide +kernel
theorem dX11_adds_95 : decode cX11_adds 95 = .ok (.iload 5, 2) := by decide +kernel
theorem dX11_adds_97 : decode cX11_adds 97 = .ok (.invokevirtual 208, 3) := by decide +kernel
theorem dX11_adds_100 : decode cX11_adds 100 = .ok (.invokevirtual 302, 3) := by decide +kernel
theorem dX11_adds_103 : decode cX11_adds 103 = .ok (.iinc 5 1, 3) := by decide +kernel
theorem dX11_adds_106 : decode cX11_adds 106 = .ok (.goto (-37), 3) := by decide +kernel
theorem dX11_adds_109 : decode cX11_adds 109 = .ok (.aload_n 0, 1) := by decide +kernel
theorem dX11_adds_110 : decode cX11_adds 110 = .ok (.iload_n 1, 1) := by decide +kernel
theorem dX11_adds_111 : decode cX11_adds 111 = .ok (.invokevirtual 101, 3) := by decide +kernel
theorem dX11_adds_114 : decode cX11_adds 114 = .ok (.aload_n 0, 1) := by decide +kernel
theorem dX11_adds_115 : decode cX11_adds 115 = .ok (.getfield 16, 3) := by decide +kernel
theorem dX11_adds_118 : decode cX11_adds 118 = .ok (.invokevirtual 149, 3) := by decide +kernel
theorem dX11_adds_121 : decode cX11_adds 121 = .ok (.invokevirtual 153, 3) := by decide +kernel
theorem dX11_adds_124 : decode cX11_adds 124 = .ok (.ireturn, 1) := by decide +kernel
theorem dX11_ahead_0 : decode cX11_ahead 0 = .ok (.aload_n 0, 1) := by decide +kernel
theorem dX11_ahead_1 : decode cX11_ahead 1 = .ok (.iload_n 1, 1) := by decide +kernel
theorem dX11_ahead_2 : decode cX11_ahead 2 = .ok (.iload_n 2, 1) := by decide +kernel
theorem dX11_ahead_3 : decode cX11_ahead 3 = .ok (.invokevirtual 156, 3) := by decide +kernel
theorem dX11_ahead_6 : decode cX11_ahead 6 = .ok (.astore_n 3, 1) := by decide +kernel
theorem dX11_ahead_7 : decode cX11_ahead 7 = .ok (.aload_n 3, 1) := by decide +kernel
theorem dX11_ahead_8 : decode cX11_ahead 8 = .ok (.ifnonnull 8, 3) := by decide +kernel
theorem dX11_ahead_11 : decode cX11_ahead 11 = .ok (.bipush (-2), 2) := by decide +kernel
theorem dX11_ahead_13 : decode cX11_ahead 13 = .ok (.goto 8, 3) := by decide +kernel
theorem dX11_ahead_16 : decode cX11_ahead 16 = .ok (.aload_n 3, 1) := by decide +kernel
theorem dX11_ahead_17 : decode cX11_ahead 17 = .ok (.iload_n 2, 1) := by decide +kernel
theorem dX11_ahead_18 : decode cX11_ahead 18 = .ok (.invokevirtual 281, 3) := by decide +kernel
theorem dX11_ahead_21 : decode cX11_ahead 21 = .ok (.ireturn, 1) := by decide +kernel
theorem dX11_alike_0 : decode cX11_alike 0 = .ok (.aload_n 0, 1) := by decide +kernel
theorem dX11_alike_1 : decode cX11_alike 1 = .ok (.iload_n 1, 1) := by decide +kernel
theorem dX11_alike_2 : decode cX11_alike 2 = .ok (.invokevirtual 117, 3) := by decide +kernel
theorem dX11_alike_5 : decode cX11_alike 5 = .ok (.astore_n 3, 1) := by decide +kernel
theorem dX11_alike_6 : decode cX11_alike 6 = .ok (.aload_n 0, 1) := by decide +kernel
theorem dX11_alike_7 : decode cX11_alike 7 = .ok (.iload_n 2, 1) := by decide +kernel
theorem dX11_alike_8 : decode cX11_alike 8 = .ok (.invokevirtual 117, 3) := by decide +kernel
theorem dX11_alike_11 : decode cX11_alike 11 = .ok (.astore 4, 2) := by decide +kernel
theorem dX11_alike_13 : decode cX11_alike 13 = .ok (.aload_n 3, 1) := by decide +kernel
theorem dX11_alike_14 : decode cX11_alike 14 = .ok (.ifnull 8, 3) := by decide +kernel
theorem dX11_alike_17 : decode cX11_alike 17 = .ok (.aload 4, 2) := by decide +kernel
theorem dX11_alike_19 : decode cX11_alike 19 = .ok (.ifnonnull 6, 3) := by decide +kernel
theorem dX11_alike_22 : decode cX11_alike 22 = .ok (.bipush (-2), 2) := by decide +kernel
theorem dX11_alike_24 : decode cX11_alike 24 = .ok (.ireturn, 1) := by decide +kernel
theorem dX11_alike_25 : decode cX11_alike 25 = .ok (.aload_n 0, 1) := by decide +kernel
theorem dX11_alike_26 : decode cX11_alike 26 = .ok (.getfield 79, 3) := by decide +kernel
theorem dX11_alike_29 : decode cX11_alike 29 = .ok (.aload_n 3, 1) := by decide +kernel
theorem dX11_alike_30 : decode cX11_alike 30 = .ok (.aload 4, 2) := by decide +kernel
theorem dX11_alike_32 : decode cX11_alike 32 = .ok (.invokevirtual 330, 3) := by decide +kernel
theorem dX11_alike_35 : decode cX11_alike 35 = .ok (.invokestatic 175, 3) := by decide +kernel
theorem dX11_alike_38 : decode cX11_alike 38 = .ok (.ireturn, 1) := by decide +kernel
theorem dX11_anti_0 : decode cX11_anti 0 = .ok (.aload_n 0, 1) := by decide +kernel
theorem dX11_anti_1 : decode cX11_anti 1 = .ok (.iload_n 1, 1) := by decide +kernel
theorem dX11_anti_2 : decode cX11_anti 2 = .ok (.invokevirtual 117, 3) := by decide +kernel
theorem dX11_anti_5 : decode cX11_anti 5 = .ok (.astore_n 2, 1) := by decide +kernel
theorem dX11_anti_6 : decode cX11_anti 6 = .ok (.aload_n 2, 1) := by decide +kernel
theorem dX11_anti_7 : decode cX11_anti 7 = .ok (.ifnonnull 8, 3) := by decide +kernel
theorem dX11_anti_10 : decode cX11_anti 10 = .ok (.bipush (-2), 2) := by decide +kernel
theorem dX11_anti_12 : decode cX11_anti 12 = .ok (.goto 7, 3) := by decide +kernel
theorem dX11_anti_15 : decode cX11_anti 15 = .ok (.aload_n 2, 1) := by decide +kernel
theorem dX11_anti_16 : decode cX11_anti 16 = .ok (.invokestatic 129, 3) := by decide +kernel
theorem dX11_anti_19 : decode cX11_anti 19 = .ok (.ireturn, 1) := by decide +kernel
theorem dX11_areTries_0 : decode cX11_areTries 0 = .ok (.iload_n 0, 1) := by decide +kernel
theorem dX11_areTries_1 : decode cX11_areTries 1 = .ok (.iconst 1, 1) := by decide +kernel
theorem dX11_areTries_2 : decode cX11_areTries 2 = .ok (.if_icmp .lt 14, 3) := by decide +kernel
theorem dX11_areTries_5 : decode cX11_areTries 5 = .ok (.iload_n 0, 1) := by decide +kernel
theorem dX11_areTries_6 : decode cX11_areTries 6 = .ok (.ldc_w 352, 3) := by decide +kernel
theorem dX11_areTries_9 : decode cX11_areTries 9 = .ok (.if_icmp .gt 7, 3) := by decide +kernel
theorem dX11_areTries_12 : decode cX11_areTries 12 = .ok (.iconst 1, 1) := by decide +kernel
theorem dX11_areTries_13 : decode cX11_areTries 13 = .ok (.goto 4, 3) := by decide +kernel
theorem dX11_areTries_16 : decode cX11_areTries 16 = .ok (.iconst 0, 1) := by decide +kernel
theorem dX11_areTries_17 : decode cX11_areTries 17 = .ok (.ireturn, 1) := by decide +kernel
theorem dX11_at_0 : decode cX11_at 0 = .ok (.aload_n 0, 1) := by decide +kernel
theorem dX11_at_1 : decode cX11_at 1 = .ok (.iload_n 1, 1) := by decide +kernel
theorem dX11_at_2 : decode cX11_at 2 = .ok (.iload_n 2, 1) := by decide +kernel
theorem dX11_at_3 : decode cX11_at 3 = .ok (.invokevirtual 156, 3) := by decide +kernel
theorem dX11_at_6 : decode cX11_at 6 = .ok (.astore 4, 2) := by decide +kernel
theorem dX11_at_8 : decode cX11_at 8 = .ok (.aload 4, 2) := by decide +kernel
theorem dX11_at_10 : decode cX11_at 10 = .ok (.ifnull 12, 3) := by decide +kernel
theorem dX11_at_13 : decode cX11_at 13 = .ok (.aload 4, 2) := by decide +kernel
theorem dX11_at_15 : decode cX11_at 15 = .ok (.iload_n 3, 1) := by decide +kernel
theorem dX11_at_16 : decode cX11_at 16 = .ok (.invokevirtual 231, 3) := by decide +kernel
theorem dX11_at_19 : decode cX11_at 19 = .ok (.ifCond .ne 6, 3) := by decide +kernel
theorem dX11_at_22 : decode cX11_at 22 = .ok (.bipush (-2), 2) := by decide +kernel
theorem dX11_at_24 : decode cX11_at 24 = .ok (.ireturn, 1) := by decide +kernel
theorem dX11_at_25 : decode cX11_at 25 = .ok (.aload_n 0, 1) := by decide +kernel
theorem dX11_at_26 : decode cX11_at 26 = .ok (.aload 4, 2) := by decide +kernel
theorem dX11_at_28 : decode cX11_at 28 = .ok (.invokevirtual 201, 3) := by decide +kernel
theorem dX11_at_31 : decode cX11_at 31 = .ok (.aload 4, 2) := by decide +kernel
theorem dX11_at_33 : decode cX11_at 33 = .ok (.iload_n 2, 1) := by decide +kernel
theorem dX11_at_34 : decode cX11_at 34 = .ok (.iload_n 3, 1) := by decide +kernel
theorem dX11_at_35 : decode cX11_at 35 = .ok (.invokevirtual 237, 3) := by decide +kernel
theorem dX11_at_38 : decode cX11_at 38 = .ok (.ireturn, 1) := by decide +kernel
theorem dX11_balance_0 : decode cX11_balance 0 = .ok (.aload_n 0, 1) := by decide +kernel
theorem dX11_balance_1 : decode cX11_balance 1 = .ok (.iload_n 1, 1) := by decide +kernel
theorem dX11_balance_2 : decode cX11_balance 2 = .ok (.invokevirtual 117, 3) := by decide +kernel
theorem dX11_balance_5 : decode cX11_balance 5 = .ok (.astore_n 3, 1) := by decide +kernel
theorem dX11_balance_6 : decode cX11_balance 6 = .ok (.aload_n 3, 1) := by decide +kernel
theorem dX11_balance_7 : decode cX11_balance 7 = .ok (.ifnull 10, 3) := by decide +kernel
theorem dX11_balance_10 : decode cX11_balance 10 = .ok (.iload_n 2, 1) := by decide +kernel
theorem dX11_balance_11 : decode cX11_balance 11 = .ok (.invokestatic 218, 3) := by decide +kernel
theorem dX11_balance_14 : decode cX11_balance 14 = .ok (.ifCond .ne 6, 3) := by decide +kernel
theorem dX11_balance_17 : decode cX11_balance 17 = .ok (.bipush (-2), 2) := by decide +kernel
theorem dX11_balance_19 : decode cX11_balance 19 = .ok (.ireturn, 1) := by decide +kernel
theorem dX11_balance_20 : decode cX11_balance 20 = .ok (.aload_n 0, 1) := by decide +kernel
theorem dX11_balance_21 : decode cX11_balance 21 = .ok (.aload_n 3, 1) := by decide +kernel
theorem dX11_balance_22 : decode cX11_balance 22 = .ok (.invokevirtual 201, 3) := by decide +kernel
theorem dX11_balance_25 : decode cX11_balance 25 = .ok (.aload_n 3, 1) := by decide +kernel
theorem dX11_balance_26 : decode cX11_balance 26 = .ok (.invokevirtual 247, 3) := by decide +kernel
theorem dX11_balance_29 : decode cX11_balance 29 = .ok (.istore 4, 2) := by decide +kernel
theorem dX11_balance_31 : decode cX11_balance 31 = .ok (.iload 4, 2) := by decide +kernel
theorem dX11_balance_33 : decode cX11_balance 33 = .ok (.iconst (-1), 1) := by decide +kernel
theorem dX11_balance_34 : decode cX11_balance 34 = .ok (.if_icmp .eq 7, 3) := by decide +kernel
theorem dX11_balance_37 : decode cX11_balance 37 = .ok (.iload_n 2, 1) := by decide +kernel
theorem dX11_balance_38 : decode cX11_balance 38 = .ok (.ifCond .ne 6, 3) := by decide +kernel
theorem dX11_balance_41 : decode cX11_balance 41 = .ok (.iload 4, 2) := by decide +kernel
theorem dX11_balance_43 : decode cX11_balance 43 = .ok (.ireturn, 1) := by decide +kernel
theorem dX11_balance_44 : decode cX11_balance 44 = .ok (.aload_n 0, 1) := by decide +kernel
theorem dX11_balance_45 : decode cX11_balance 45 = .ok (.getfield 58, 3) := by decide +kernel
theorem dX11_balance_48 : decode cX11_balance 48 = .ok (.aload_n 3, 1) := by decide +kernel
theorem dX11_balance_49 : decode cX11_balance 49 = .ok (.iload 4, 2) := by decide +kernel
theorem dX11_balance_51 : decode cX11_balance 51 = .ok (.bipush 10, 2) := by decide +kernel
theorem dX11_balance_53 : decode cX11_balance 53 = .ok (.idiv, 1) := by decide +kernel
theorem dX11_balance_54 : decode cX11_balance 54 = .ok (.iload 4, 2) := by decide +kernel
theorem dX11_balance_56 : decode cX11_balance 56 = .ok (.bipush 10, 2) := by decide +kernel
theorem dX11_balance_58 : decode cX11_balance 58 = .ok (.irem, 1) := by decide +kernel
theorem dX11_balance_59 : decode cX11_balance 59 = .ok (.invokevirtual 234, 3) := by decide +kernel
theorem dX11_balance_62 : decode cX11_balance 62 = .ok (.ireturn, 1) := by decide +kernel
theorem dX11_become_0 : decode cX11_become 0 = .ok (.iload_n 1, 1) := by decide +kernel
theorem dX11_become_1 : decode cX11_become 1 = .ok (.invokestatic 93, 3) := by decide +kernel
theorem dX11_become_4 : decode cX11_become 4 = .ok (.ifCond .eq 19, 3) := by decide +kernel
theorem dX11_become_7 : decode cX11_become 7 = .ok (.aload_n 0, 1) := by decide +kernel
theorem dX11_become_8 : decode cX11_become 8 = .ok (.getfield 11, 3) := by decide +kernel
theorem dX11_become_11 : decode cX11_become 11 = .ok (.iload_n 1, 1) := by decide +kernel
theorem dX11_become_12 : decode cX11_become 12 = .ok (.aaload, 1) := by decide +kernel
theorem dX11_become_13 : decode cX11_become 13 = .ok (.aload_n 0, 1) := by decide +kernel
theorem dX11_become_14 : decode cX11_become 14 = .ok (.getfield 16, 3) := by decide +kernel
theorem dX11_become_17 : decode cX11_become 17 = .ok (.invokevirtual 357, 3) := by decide +kernel
theorem dX11_become_20 : decode cX11_become 20 = .ok (.ifCond .eq 4, 3) := by decide +kernel
theorem dX11_become_23 : decode cX11_become 23 = .ok (.return_, 1) := by decide +kernel
theorem dX11_become_24 : decode cX11_become 24 = .ok (.aload_n 0, 1) := by decide +kernel
theorem dX11_become_25 : decode cX11_become 25 = .ok (.getfield 23, 3) := by decide +kernel
theorem dX11_become_28 : decode cX11_become 28 = .ok (.iload_n 1, 1) := by decide +kernel
theorem dX11_become_29 : decode cX11_become 29 = .ok (.aload_n 0, 1) := by decide +kernel
theorem dX11_become_30 : decode cX11_become 30 = .ok (.getfield 11, 3) := by decide +kernel
theorem dX11_become_33 : decode cX11_become 33 = .ok (.iload_n 1, 1) := by decide +kernel
theorem dX11_become_34 : decode cX11_become 34 = .ok (.aaload, 1) := by decide +kernel
theorem dX11_become_35 : decode cX11_become 35 = .ok (.invokevirtual 360, 3) := by decide +kernel
theorem dX11_become_38 : decode cX11_become 38 = .ok (.aload_n 0, 1) := by decide +kernel
theorem dX11_become_39 : decode cX11_become 39 = .ok (.getfield 11, 3) := by decide +kernel
theorem dX11_become_42 : decode cX11_become 42 = .ok (.iload_n 1, 1) := by decide +kernel
theorem dX11_become_43 : decode cX11_become 43 = .ok (.aaload, 1) := by decide +kernel
theorem dX11_become_44 : decode cX11_become 44 = .ok (.aload_n 0, 1) := by decide +kernel
theorem dX11_become_45 : decode cX11_become 45 = .ok (.getfield 16, 3) := by decide +kernel
theorem dX11_become_48 : decode cX11_become 48 = .ok (.invokevirtual 290, 3) := by decide +kernel
theorem dX11_become_51 : decode cX11_become 51 = .ok (.return_, 1) := by decide +kernel
theorem dX11_before_0 : decode cX11_before 0 = .ok (.aload_n 0, 1) := by decide +kernel
theorem dX11_before_1 : decode cX11_before 1 = .ok (.iload_n 1, 1) := by decide +kernel
theorem dX11_before_2 : decode cX11_before 2 = .ok (.iload_n 2, 1) := by decide +kernel
theorem dX11_before_3 : decode cX11_before 3 = .ok (.invokevirtual 156, 3) := by decide +kernel
theorem dX11_before_6 : decode cX11_before 6 = .ok (.astore 4, 2) := by decide +kernel
theorem dX11_before_8 : decode cX11_before 8 = .ok (.aload 4, 2) := by decide +kernel
theorem dX11_before_10 : decode cX11_before 10 = .ok (.ifnull 12, 3) := by decide +kernel
theorem dX11_before_13 : decode cX11_before 13 = .ok (.aload 4, 2) := by decide +kernel
theorem dX11_before_15 : decode cX11_before 15 = .ok (.iload_n 3, 1) := by decide +kernel
theorem dX11_before_16 : decode cX11_before 16 = .ok (.invokevirtual 231, 3) := by decide +kernel
theorem dX11_before_19 : decode cX11_before 19 = .ok (.ifCond .ne 6, 3) := by decide +kernel
theorem dX11_before_22 : decode cX11_before 22 = .ok (.bipush (-2), 2) := by decide +kernel
theorem dX11_before_24 : decode cX11_before 24 = .ok (.ireturn, 1) := by decide +kernel
theorem dX11_before_25 : decode cX11_before 25 = .ok (.aload_n 0, 1) := by decide +kernel
theorem dX11_before_26 : decode cX11_before 26 = .ok (.aload 4, 2) := by decide +kernel
theorem dX11_before_28 : decode cX11_before 28 = .ok (.invokevirtual 201, 3) := by decide +kernel
theorem dX11_before_31 : decode cX11_before 31 = .ok (.aload 4, 2) := by decide +kernel
theorem dX11_before_33 : decode cX11_before 33 = .ok (.iload_n 2, 1) := by decide +kernel
theorem dX11_before_34 : decode cX11_before 34 = .ok (.iload_n 3, 1) := by decide +kernel
theorem dX11_before_35 : decode cX11_before 35 = .ok (.invokevirtual 234, 3) := by decide +kernel
theorem dX11_before_38 : decode cX11_before 38 = .ok (.ireturn, 1) := by decide +kernel
theorem dX11_bit_0 : decode cX11_bit 0 = .ok (.iload_n 0, 1) := by decide +kernel
theorem dX11_bit_1 : decode cX11_bit 1 = .ok (.ifCond .eq 7, 3) := by decide +kernel
theorem dX11_bit_4 : decode cX11_bit 4 = .ok (.iconst 1, 1) := by decide +kernel
theorem dX11_bit_5 : decode cX11_bit 5 = .ok (.goto 4, 3) := by decide +kernel
theorem dX11_bit_8 : decode cX11_bit 8 = .ok (.iconst 0, 1) := by decide +kernel
theorem dX11_bit_9 : decode cX11_bit 9 = .ok (.ireturn, 1) := by decide +kernel
theorem dX11_chain_0 : decode cX11_chain 0 = .ok (.aload_n 0, 1) := by decide +kernel
theorem dX11_chain_1 : decode cX11_chain 1 = .ok (.iload_n 1, 1) := by decide +kernel
theorem dX11_chain_2 : decode cX11_chain 2 = .ok (.invokevirtual 117, 3) := by decide +kernel
theorem dX11_chain_5 : decode cX11_chain 5 = .ok (.astore_n 3, 1) := by decide +kernel
theorem dX11_chain_6 : decode cX11_chain 6 = .ok (.aload_n 3, 1) := by decide +kernel
theorem dX11_chain_7 : decode cX11_chain 7 = .ok (.ifnull 7, 3) := by decide +kernel
theorem dX11_chain_10 : decode cX11_chain 10 = .ok (.iload_n 2, 1) := by decide +kernel
theorem dX11_chain_11 : decode cX11_chain 11 = .ok (.ifCond .ge 6, 3) := by decide +kernel
theorem dX11_chain_14 : decode cX11_chain 14 = .ok (.bipush (-2), 2) := by decide +kernel
theorem dX11_chain_16 : decode cX11_chain 16 = .ok (.ireturn, 1) := by decide +kernel
theorem dX11_chain_17 : decode cX11_chain 17 = .ok (.aload_n 0, 1) := by decide +kernel
theorem dX11_chain_18 : decode cX11_chain 18 = .ok (.getfield 51, 3) := by decide +kernel
theorem dX11_chain_21 : decode cX11_chain 21 = .ok (.aload_n 3, 1) := by decide +kernel
theorem dX11_chain_22 : decode cX11_chain 22 = .ok (.iload_n 2, 1) := by decide +kernel
theorem dX11_chain_23 : decode cX11_chain 23 = .ok (.invokevirtual 194, 3) := by decide +kernel
theorem dX11_chain_26 : decode cX11_chain 26 = .ok (.ireturn, 1) := by decide +kernel
theorem dX11_commonDivisor_0 : decode cX11_commonDivisor 0 = .ok (.iload_n 0, 1) := by decide +kernel
theorem dX11_commonDivisor_1 : decode cX11_commonDivisor 1 = .ok (.istore_n 2, 1) := by decide +kernel
theorem dX11_commonDivisor_2 : decode cX11_commonDivisor 2 = .ok (.iload_n 1, 1) := by decide +kernel
theorem dX11_commonDivisor_3 : decode cX11_commonDivisor 3 = .ok (.istore_n 3, 1) := by decide +kernel
theorem dX11_commonDivisor_4 : decode cX11_commonDivisor 4 = .ok (.iconst 0, 1) := by decide +kernel
theorem dX11_commonDivisor_5 : decode cX11_commonDivisor 5 = .ok (.istore 4, 2) := by decide +kernel
theorem dX11_commonDivisor_7 : decode cX11_commonDivisor 7 = .ok (.iload 4, 2) := by decide +kernel
theorem dX11_commonDivisor_9 : decode cX11_commonDivisor 9 = .ok (.bipush 64, 2) := by decide +kernel
theorem dX11_commonDivisor_11 : decode cX11_commonDivisor 11 = .ok (.if_icmp .ge 23, 3) := by decide +kernel
theorem dX11_commonDivisor_14 : decode cX11_commonDivisor 14 = .ok (.iload_n 3, 1) := by decide +kernel
theorem dX11_commonDivisor_15 : decode cX11_commonDivisor 15 = .ok (.ifCond .eq 19, 3) := by decide +kernel
theorem dX11_commonDivisor_18 : decode cX11_commonDivisor 18 = .ok (.iload_n 2, 1) := by decide +kernel
theorem dX11_commonDivisor_19 : decode cX11_commonDivisor 19 = .ok (.iload_n 3, 1) := by decide +kernel
theorem dX11_commonDivisor_20 : decode cX11_commonDivisor 20 = .ok (.irem, 1) := by decide +kernel
theorem dX11_commonDivisor_21 : decode cX11_commonDivisor 21 = .ok (.istore 5, 2) := by decide +kernel
theorem dX11_commonDivisor_23 : decode cX11_commonDivisor 23 = .ok (.iload_n 3, 1) := by decide +kernel
theorem dX11_commonDivisor_24 : decode cX11_commonDivisor 24 = .ok (.istore_n 2, 1) := by decide +kernel
theorem dX11_commonDivisor_25 : decode cX11_commonDivisor 25 = .ok (.iload 5, 2) := by decide +kernel
theorem dX11_commonDivisor_27 : decode cX11_commonDivisor 27 = .ok (.istore_n 3, 1) := by decide +kernel
theorem dX11_commonDivisor_28 : decode cX11_commonDivisor 28 = .ok (.iinc 4 1, 3) := by decide +kernel
theorem dX11_commonDivisor_31 : decode cX11_commonDivisor 31 = .ok (.goto (-24), 3) := by decide +kernel
theorem dX11_commonDivisor_34 : decode cX11_commonDivisor 34 = .ok (.iload_n 2, 1) := by decide +kernel
theorem dX11_commonDivisor_35 : decode cX11_commonDivisor 35 = .ok (.ireturn, 1) := by decide +kernel
theorem dX11_count_0 : decode cX11_count 0 = .ok (.iload_n 1, 1) := by decide +kernel
theorem dX11_count_1 : decode cX11_count 1 = .ok (.tableswitch 60 0 3 #[31, 36, 44, 52], 31) := by decide +kernel
theorem dX11_count_32 : decode cX11_count 32 = .ok (.aload_n 0, 1) := by decide +kernel
theorem dX11_count_33 : decode cX11_count 33 = .ok (.invokevirtual 113, 3) := by decide +kernel
theorem dX11_count_36 : decode cX11_count 36 = .ok (.ireturn, 1) := by decide +kernel
theorem dX11_count_37 : decode cX11_count 37 = .ok (.aload_n 0, 1) := by decide +kernel
theorem dX11_count_38 : decode cX11_count 38 = .ok (.getfield 23, 3) := by decide +kernel
theorem dX11_count_41 : decode cX11_count 41 = .ok (.invokevirtual 116, 3) := by decide +kernel
theorem dX11_count_44 : decode cX11_count 44 = .ok (.ireturn, 1) := by decide +kernel
theorem dX11_count_45 : decode cX11_count 45 = .ok (.aload_n 0, 1) := by decide +kernel
theorem dX11_count_46 : decode cX11_count 46 = .ok (.getfield 32, 3) := by decide +kernel
theorem dX11_count_49 : decode cX11_count 49 = .ok (.invokevirtual 83, 3) := by decide +kernel
theorem dX11_count_52 : decode cX11_count 52 = .ok (.ireturn, 1) := by decide +kernel
theorem dX11_count_53 : decode cX11_count 53 = .ok (.aload_n 0, 1) := by decide +kernel
theorem dX11_count_54 : decode cX11_count 54 = .ok (.getfield 36, 3) := by decide +kernel
theorem dX11_count_57 : decode cX11_count 57 = .ok (.invokevirtual 83, 3) := by decide +kernel
theorem dX11_count_60 : decode cX11_count 60 = .ok (.ireturn, 1) := by decide +kernel
theorem dX11_count_61 : decode cX11_count 61 = .ok (.iconst (-1), 1) := by decide +kernel
theorem dX11_count_62 : decode cX11_count 62 = .ok (.ireturn, 1) := by decide +kernel
theorem dX11_critical_0 : decode cX11_critical 0 = .ok (.aload_n 0, 1) := by decide +kernel
theorem dX11_critical_1 : decode cX11_critical 1 = .ok (.iload_n 1, 1) := by decide +kernel
theorem dX11_critical_2 : decode cX11_critical 2 = .ok (.invokevirtual 117, 3) := by decide +kernel
theorem dX11_critical_5 : decode cX11_critical 5 = .ok (.astore_n 3, 1) := by decide +kernel
theorem dX11_critical_6 : decode cX11_critical 6 = .ok (.aload_n 3, 1) := by decide +kernel
theorem dX11_critical_7 : decode cX11_critical 7 = .ok (.ifnull 8, 3) := by decide +kernel
theorem dX11_critical_10 : decode cX11_critical 10 = .ok (.iload_n 2, 1) := by decide +kernel
theorem dX11_critical_11 : decode cX11_critical 11 = .ok (.iconst (-1), 1) := by decide +kernel
theorem dX11_critical_12 : decode cX11_critical 12 = .ok (.if_icmp .ge 6, 3) := by decide +kernel
theorem dX11_critical_15 : decode cX11_critical 15 = .ok (.bipush (-2), 2) := by decide +kernel
theorem dX11_critical_17 : decode cX11_critical 17 = .ok (.ireturn, 1) := by decide +kernel
theorem dX11_critical_18 : decode cX11_critical 18 = .ok (.aload_n 0, 1) := by decide +kernel
theorem dX11_critical_19 : decode cX11_critical 19 = .ok (.getfield 72, 3) := by decide +kernel
theorem dX11_critical_22 : decode cX11_critical 22 = .ok (.aload_n 3, 1) := by decide +kernel
theorem dX11_critical_23 : decode cX11_critical 23 = .ok (.invokevirtual 260, 3) := by decide +kernel
theorem dX11_critical_26 : decode cX11_critical 26 = .ok (.iload_n 2, 1) := by decide +kernel
theorem dX11_critical_27 : decode cX11_critical 27 = .ok (.iconst (-1), 1) := by decide +kernel
theorem dX11_critical_28 : decode cX11_critical 28 = .ok (.if_icmp .ne 13, 3) := by decide +kernel
theorem dX11_critical_31 : decode cX11_critical 31 = .ok (.aload_n 0, 1) := by decide +kernel
theorem dX11_critical_32 : decode cX11_critical 32 = .ok (.getfield 72, 3) := by decide +kernel
theorem dX11_critical_35 : decode cX11_critical 35 = .ok (.invokevirtual 264, 3) := by decide +kernel
theorem dX11_critical_38 : decode cX11_critical 38 = .ok (.goto 11, 3) := by decide +kernel
theorem dX11_critical_41 : decode cX11_critical 41 = .ok (.aload_n 0, 1) := by decide +kernel
theorem dX11_critical_42 : decode cX11_critical 42 = .ok (.getfield 72, 3) := by decide +kernel
theorem dX11_critical_45 : decode cX11_critical 45 = .ok (.iload_n 2, 1) := by decide +kernel
theorem dX11_critical_46 : decode cX11_critical 46 = .ok (.invokevirtual 265, 3) := by decide +kernel
theorem dX11_critical_49 : decode cX11_critical 49 = .ok (.ireturn, 1) := by decide +kernel
theorem dX11_cuts_0 : decode cX11_cuts 0 = .ok (.aload_n 0, 1) := by decide +kernel
theorem dX11_cuts_1 : decode cX11_cuts 1 = .ok (.iload_n 1, 1) := by decide +kernel
theorem dX11_cuts_2 : decode cX11_cuts 2 = .ok (.iload_n 2, 1) := by decide +kernel
theorem dX11_cuts_3 : decode cX11_cuts 3 = .ok (.invokevirtual 156, 3) := by decide +kernel
theorem dX11_cuts_6 : decode cX11_cuts 6 = .ok (.astore 4, 2) := by decide +kernel
theorem dX11_cuts_8 : decode cX11_cuts 8 = .ok (.aload 4, 2) := by decide +kernel
theorem dX11_cuts_10 : decode cX11_cuts 10 = .ok (.ifnull 12, 3) := by decide +kernel
theorem dX11_cuts_13 : decode cX11_cuts 13 = .ok (.aload 4, 2) := by decide +kernel
theorem dX11_cuts_15 : decode cX11_cuts 15 = .ok (.iload_n 3, 1) := by decide +kernel
theorem dX11_cuts_16 : decode cX11_cuts 16 = .ok (.invokevirtual 231, 3) := by decide +kernel
theorem dX11_cuts_19 : decode cX11_cuts 19 = .ok (.ifCond .ne 6, 3) := by decide +kernel
theorem dX11_cuts_22 : decode cX11_cuts 22 = .ok (.bipush (-2), 2) := by decide +kernel
theorem dX11_cuts_24 : decode cX11_cuts 24 = .ok (.ireturn, 1) := by decide +kernel
theorem dX11_cuts_25 : decode cX11_cuts 25 = .ok (.aload 4, 2) := by decide +kernel
theorem dX11_cuts_27 : decode cX11_cuts 27 = .ok (.iload_n 3, 1) := by decide +kernel
theorem dX11_cuts_28 : decode cX11_cuts 28 = .ok (.invokevirtual 169, 3) := by decide +kernel
theorem dX11_cuts_31 : decode cX11_cuts 31 = .ok (.iload_n 2, 1) := by decide +kernel
theorem dX11_cuts_32 : decode cX11_cuts 32 = .ok (.ishr, 1) := by decide +kernel
theorem dX11_cuts_33 : decode cX11_cuts 33 = .ok (.iconst 1, 1) := by decide +kernel
theorem dX11_cuts_34 : decode cX11_cuts 34 = .ok (.iand, 1) := by decide +kernel
theorem dX11_cuts_35 : decode cX11_cuts 35 = .ok (.ifCond .ne 6, 3) := by decide +kernel
theorem dX11_cuts_38 : decode cX11_cuts 38 = .ok (.bipush (-6), 2) := by decide +kernel
theorem dX11_cuts_40 : decode cX11_cuts 40 = .ok (.ireturn, 1) := by decide +kernel
theorem dX11_cuts_41 : decode cX11_cuts 41 = .ok (.aload_n 0, 1) := by decide +kernel
theorem dX11_cuts_42 : decode cX11_cuts 42 = .ok (.getfield 16, 3) := by decide +kernel
theorem dX11_cuts_45 : decode cX11_cuts 45 = .ok (.aload 4, 2) := by decide +kernel
theorem dX11_cuts_47 : decode cX11_cuts 47 = .ok (.invokevirtual 290, 3) := by decide +kernel
theorem dX11_cuts_50 : decode cX11_cuts 50 = .ok (.aload_n 0, 1) := by decide +kernel
theorem dX11_cuts_51 : decode cX11_cuts 51 = .ok (.getfield 16, 3) := by decide +kernel
theorem dX11_cuts_54 : decode cX11_cuts 54 = .ok (.iload_n 2, 1) := by decide +kernel
theorem dX11_cuts_55 : decode cX11_cuts 55 = .ok (.iload_n 3, 1) := by decide +kernel
theorem dX11_cuts_56 : decode cX11_cuts 56 = .ok (.invokevirtual 316, 3) := by decide +kernel
theorem dX11_cuts_59 : decode cX11_cuts 59 = .ok (.aload_n 0, 1) := by decide +kernel
theorem dX11_cuts_60 : decode cX11_cuts 60 = .ok (.iload_n 1, 1) := by decide +kernel
theorem dX11_cuts_61 : decode cX11_cuts 61 = .ok (.invokevirtual 101, 3) := by decide +kernel
theorem dX11_cuts_64 : decode cX11_cuts 64 = .ok (.aload_n 0, 1) := by decide +kernel
theorem dX11_cuts_65 : decode cX11_cuts 65 = .ok (.getfield 16, 3) := by decide +kernel
theorem dX11_cuts_68 : decode cX11_cuts 68 = .ok (.invokevirtual 104, 3) := by decide +kernel
theorem dX11_cuts_71 : decode cX11_cuts 71 = .ok (.ireturn, 1) := by decide +kernel
theorem dX11_deep_0 : decode cX11_deep 0 = .ok (.aload_n 0, 1) := by decide +kernel
theorem dX11_deep_1 : decode cX11_deep 1 = .ok (.iload_n 1, 1) := by decide +kernel
theorem dX11_deep_2 : decode cX11_deep 2 = .ok (.iload_n 2, 1) := by decide +kernel
theorem dX11_deep_3 : decode cX11_deep 3 = .ok (.invokevirtual 156, 3) := by decide +kernel
theorem dX11_deep_6 : decode cX11_deep 6 = .ok (.astore 4, 2) := by decide +kernel
theorem dX11_deep_8 : decode cX11_deep 8 = .ok (.aload 4, 2) := by decide +kernel
theorem dX11_deep_10 : decode cX11_deep 10 = .ok (.ifnull 10, 3) := by decide +kernel
theorem dX11_deep_13 : decode cX11_deep 13 = .ok (.iload_n 3, 1) := by decide +kernel
theorem dX11_deep_14 : decode cX11_deep 14 = .ok (.invokestatic 218, 3) := by decide +kernel
theorem dX11_deep_17 : decode cX11_deep 17 = .ok (.ifCond .ne 6, 3) := by decide +kernel
theorem dX11_deep_20 : decode cX11_deep 20 = .ok (.bipush (-2), 2) := by decide +kernel
theorem dX11_deep_22 : decode cX11_deep 22 = .ok (.ireturn, 1) := by decide +kernel
theorem dX11_deep_23 : decode cX11_deep 23 = .ok (.aload_n 0, 1) := by decide +kernel
theorem dX11_deep_24 : decode cX11_deep 24 = .ok (.getfield 51, 3) := by decide +kernel
theorem dX11_deep_27 : decode cX11_deep 27 = .ok (.aload 4, 2) := by decide +kernel
theorem dX11_deep_29 : decode cX11_deep 29 = .ok (.iload_n 2, 1) := by decide +kernel
theorem dX11_deep_30 : decode cX11_deep 30 = .ok (.iload_n 3, 1) := by decide +kernel
theorem dX11_deep_31 : decode cX11_deep 31 = .ok (.iconst 1, 1) := by decide +kernel
theorem dX11_deep_32 : decode cX11_deep 32 = .ok (.if_icmp .ne 7, 3) := by decide +kernel
theorem dX11_deep_35 : decode cX11_deep 35 = .ok (.iconst 1, 1) := by decide +kernel
theorem dX11_deep_36 : decode cX11_deep 36 = .ok (.goto 4, 3) := by decide +kernel
theorem dX11_deep_39 : decode cX11_deep 39 = .ok (.iconst 0, 1) := by decide +kernel
theorem dX11_deep_40 : decode cX11_deep 40 = .ok (.invokevirtual 221, 3) := by decide +kernel
theorem dX11_deep_43 : decode cX11_deep 43 = .ok (.ireturn, 1) := by decide +kernel
theorem dX11_dimension_0 : decode cX11_dimension 0 = .ok (.aload_n 0, 1) := by decide +kernel
theorem dX11_dimension_1 : decode cX11_dimension 1 = .ok (.iload_n 1, 1) := by decide +kernel
theorem dX11_dimension_2 : decode cX11_dimension 2 = .ok (.invokevirtual 117, 3) := by decide +kernel
theorem dX11_dimension_5 : decode cX11_dimension 5 = .ok (.astore_n 3, 1) := by decide +kernel
theorem dX11_dimension_6 : decode cX11_dimension 6 = .ok (.aload_n 3, 1) := by decide +kernel
theorem dX11_dimension_7 : decode cX11_dimension 7 = .ok (.ifnull 10, 3) := by decide +kernel
theorem dX11_dimension_10 : decode cX11_dimension 10 = .ok (.iload_n 2, 1) := by decide +kernel
theorem dX11_dimension_11 : decode cX11_dimension 11 = .ok (.invokestatic 284, 3) := by decide +kernel
theorem dX11_dimension_14 : decode cX11_dimension 14 = .ok (.ifCond .ne 6, 3) := by decide +kernel
theorem dX11_dimension_17 : decode cX11_dimension 17 = .ok (.bipush (-2), 2) := by decide +kernel
theorem dX11_dimension_19 : decode cX11_dimension 19 = .ok (.ireturn, 1) := by decide +kernel
theorem dX11_dimension_20 : decode cX11_dimension 20 = .ok (.iconst 1, 1) := by decide +kernel
theorem dX11_dimension_21 : decode cX11_dimension 21 = .ok (.istore 4, 2) := by decide +kernel
theorem dX11_dimension_23 : decode cX11_dimension 23 = .ok (.iload 4, 2) := by decide +kernel
theorem dX11_dimension_25 : decode cX11_dimension 25 = .ok (.iconst 4, 1) := by decide +kernel
theorem dX11_dimension_26 : decode cX11_dimension 26 = .ok (.if_icmp .gt 43, 3) := by decide +kernel
theorem dX11_dimension_29 : decode cX11_dimension 29 = .ok (.aload_n 0, 1) := by decide +kernel
theorem dX11_dimension_30 : decode cX11_dimension 30 = .ok (.getfield 72, 3) := by decide +kernel
theorem dX11_dimension_33 : decode cX11_dimension 33 = .ok (.aload_n 3, 1) := by decide +kernel
theorem dX11_dimension_34 : decode cX11_dimension 34 = .ok (.iload 4, 2) := by decide +kernel
theorem dX11_dimension_36 : decode cX11_dimension 36 = .ok (.iload_n 2, 1) := by decide +kernel
theorem dX11_dimension_37 : decode cX11_dimension 37 = .ok (.invokevirtual 287, 3) := by decide +kernel
theorem dX11_dimension_40 : decode cX11_dimension 40 = .ok (.istore 5, 2) := by decide +kernel
theorem dX11_dimension_42 : decode cX11_dimension 42 = .ok (.iload 5, 2) := by decide +kernel
theorem dX11_dimension_44 : decode cX11_dimension 44 = .ok (.iconst (-1), 1) := by decide +kernel
theorem dX11_dimension_45 : decode cX11_dimension 45 = .ok (.if_icmp .eq 18, 3) := by decide +kernel
theorem dX11_dimension_48 : decode cX11_dimension 48 = .ok (.iload 5, 2) := by decide +kernel
theorem dX11_dimension_50 : decode cX11_dimension 50 = .ok (.bipush (-3), 2) := by decide +kernel
theorem dX11_dimension_52 : decode cX11_dimension 52 = .ok (.if_icmp .ne 8, 3) := by decide +kernel
theorem dX11_dimension_55 : decode cX11_dimension 55 = .ok (.bipush (-3), 2) := by decide +kernel
theorem dX11_dimension_57 : decode cX11_dimension 57 = .ok (.goto 5, 3) := by decide +kernel
theorem dX11_dimension_60 : decode cX11_dimension 60 = .ok (.iload 4, 2) := by decide +kernel
theorem dX11_dimension_62 : decode cX11_dimension 62 = .ok (.ireturn, 1) := by decide +kernel
theorem dX11_dimension_63 : decode cX11_dimension 63 = .ok (.iinc 4 1, 3) := by decide +kernel
theorem dX11_dimension_66 : decode cX11_dimension 66 = .ok (.goto (-43), 3) := by decide +kernel
theorem dX11_dimension_69 : decode cX11_dimension 69 = .ok (.iconst (-1), 1) := by decide +kernel
theorem dX11_dimension_70 : decode cX11_dimension 70 = .ok (.ireturn, 1) := by decide +kernel
theorem dX11_drops_0 : decode cX11_drops 0 = .ok (.iload_n 1, 1) := by decide +kernel
theorem dX11_drops_1 : decode cX11_drops 1 = .ok (.invokestatic 93, 3) := by decide +kernel
theorem dX11_drops_4 : decode cX11_drops 4 = .ok (.ifCond .ne 6, 3) := by decide +kernel
theorem dX11_drops_7 : decode cX11_drops 7 = .ok (.bipush (-2), 2) := by decide +kernel
theorem dX11_drops_9 : decode cX11_drops 9 = .ok (.ireturn, 1) := by decide +kernel
theorem dX11_drops_10 : decode cX11_drops 10 = .ok (.aload_n 0, 1) := by decide +kernel
theorem dX11_drops_11 : decode cX11_drops 11 = .ok (.iload_n 1, 1) := by decide +kernel
theorem dX11_drops_12 : decode cX11_drops 12 = .ok (.invokevirtual 117, 3) := by decide +kernel
theorem dX11_drops_15 : decode cX11_drops 15 = .ok (.ifnull 7, 3) := by decide +kernel
theorem dX11_drops_18 : decode cX11_drops 18 = .ok (.iconst 1, 1) := by decide +kernel
theorem dX11_drops_19 : decode cX11_drops 19 = .ok (.goto 4, 3) := by decide +kernel
theorem dX11_drops_22 : decode cX11_drops 22 = .ok (.iconst 0, 1) := by decide +kernel
theorem dX11_drops_23 : decode cX11_drops 23 = .ok (.istore_n 2, 1) := by decide +kernel
theorem dX11_drops_24 : decode cX11_drops 24 = .ok (.aload_n 0, 1) := by decide +kernel
theorem dX11_drops_25 : decode cX11_drops 25 = .ok (.getfield 16, 3) := by decide +kernel
theorem dX11_drops_28 : decode cX11_drops 28 = .ok (.iconst 0, 1) := by decide +kernel
theorem dX11_drops_29 : decode cX11_drops 29 = .ok (.invokevirtual 337, 3) := by decide +kernel
theorem dX11_drops_32 : decode cX11_drops 32 = .ok (.aload_n 0, 1) := by decide +kernel
theorem dX11_drops_33 : decode cX11_drops 33 = .ok (.iload_n 1, 1) := by decide +kernel
theorem dX11_drops_34 : decode cX11_drops 34 = .ok (.invokevirtual 101, 3) := by decide +kernel
theorem dX11_drops_37 : decode cX11_drops 37 = .ok (.iload_n 2, 1) := by decide +kernel
theorem dX11_drops_38 : decode cX11_drops 38 = .ok (.invokestatic 175, 3) := by decide +kernel
theorem dX11_drops_41 : decode cX11_drops 41 = .ok (.ireturn, 1) := by decide +kernel
theorem dX11_end_0 : decode cX11_end 0 = .ok (.iload_n 1, 1) := by decide +kernel
theorem dX11_end_1 : decode cX11_end 1 = .ok (.ifCond .lt 14, 3) := by decide +kernel
theorem dX11_end_4 : decode cX11_end 4 = .ok (.iload_n 1, 1) := by decide +kernel
theorem dX11_end_5 : decode cX11_end 5 = .ok (.aload_n 0, 1) := by decide +kernel
theorem dX11_end_6 : decode cX11_end 6 = .ok (.getfield 32, 3) := by decide +kernel
theorem dX11_end_9 : decode cX11_end 9 = .ok (.invokevirtual 83, 3) := by decide +kernel
theorem dX11_end_12 : decode cX11_end 12 = .ok (.if_icmp .le 5, 3) := by decide +kernel
theorem dX11_end_15 : decode cX11_end 15 = .ok (.iconst (-1), 1) := by decide +kernel
theorem dX11_end_16 : decode cX11_end 16 = .ok (.ireturn, 1) := by decide +kernel
theorem dX11_end_17 : decode cX11_end 17 = .ok (.aload_n 0, 1) := by decide +kernel
theorem dX11_end_18 : decode cX11_end 18 = .ok (.getfield 32, 3) := by decide +kernel
theorem dX11_end_21 : decode cX11_end 21 = .ok (.iload_n 1, 1) := by decide +kernel
theorem dX11_end_22 : decode cX11_end 22 = .ok (.invokevirtual 90, 3) := by decide +kernel
theorem dX11_end_25 : decode cX11_end 25 = .ok (.iload_n 1, 1) := by decide +kernel
theorem dX11_end_26 : decode cX11_end 26 = .ok (.ireturn, 1) := by decide +kernel
theorem dX11_fault_0 : decode cX11_fault 0 = .ok (.iload_n 1, 1) := by decide +kernel
theorem dX11_fault_1 : decode cX11_fault 1 = .ok (.lookupswitch 43 #[(0, 27), (1, 35)], 27) := by decide +kernel
theorem dX11_fault_28 : decode cX11_fault 28 = .ok (.aload_n 0, 1) := by decide +kernel
theorem dX11_fault_29 : decode cX11_fault 29 = .ok (.getfield 44, 3) := by decide +kernel
theorem dX11_fault_32 : decode cX11_fault 32 = .ok (.invokevirtual 107, 3) := by decide +kernel
theorem dX11_fault_35 : decode cX11_fault 35 = .ok (.ireturn, 1) := by decide +kernel
theorem dX11_fault_36 : decode cX11_fault 36 = .ok (.aload_n 0, 1) := by decide +kernel
theorem dX11_fault_37 : decode cX11_fault 37 = .ok (.getfield 44, 3) := by decide +kernel
theorem dX11_fault_40 : decode cX11_fault 40 = .ok (.invokevirtual 110, 3) := by decide +kernel
theorem dX11_fault_43 : decode cX11_fault 43 = .ok (.ireturn, 1) := by decide +kernel
theorem dX11_fault_44 : decode cX11_fault 44 = .ok (.iconst (-1), 1) := by decide +kernel
theorem dX11_fault_45 : decode cX11_fault 45 = .ok (.ireturn, 1) := by decide +kernel
theorem dX11_feed_0 : decode cX11_feed 0 = .ok (.aload_n 0, 1) := by decide +kernel
theorem dX11_feed_1 : decode cX11_feed 1 = .ok (.getfield 32, 3) := by decide +kernel
theorem dX11_feed_4 : decode cX11_feed 4 = .ok (.invokevirtual 83, 3) := by decide +kernel
theorem dX11_feed_7 : decode cX11_feed 7 = .ok (.bipush 20, 2) := by decide +kernel
theorem dX11_feed_9 : decode cX11_feed 9 = .ok (.iadd, 1) := by decide +kernel
theorem dX11_feed_10 : decode cX11_feed 10 = .ok (.sipush 400, 3) := by decide +kernel
theorem dX11_feed_13 : decode cX11_feed 13 = .ok (.if_icmp .le 5, 3) := by decide +kernel
theorem dX11_feed_16 : decode cX11_feed 16 = .ok (.iconst (-1), 1) := by decide +kernel
theorem dX11_feed_17 : decode cX11_feed 17 = .ok (.ireturn, 1) := by decide +kernel
theorem dX11_feed_18 : decode cX11_feed 18 = .ok (.aload_n 0, 1) := by decide +kernel
theorem dX11_feed_19 : decode cX11_feed 19 = .ok (.getfield 32, 3) := by decide +kernel
theorem dX11_feed_22 : decode cX11_feed 22 = .ok (.iload_n 1, 1) := by decide +kernel
theorem dX11_feed_23 : decode cX11_feed 23 = .ok (.invokevirtual 87, 3) := by decide +kernel
theorem dX11_feed_26 : decode cX11_feed 26 = .ok (.aload_n 0, 1) := by decide +kernel
theorem dX11_feed_27 : decode cX11_feed 27 = .ok (.getfield 32, 3) := by decide +kernel
theorem dX11_feed_30 : decode cX11_feed 30 = .ok (.iload_n 2, 1) := by decide +kernel
theorem dX11_feed_31 : decode cX11_feed 31 = .ok (.invokevirtual 87, 3) := by decide +kernel
theorem dX11_feed_34 : decode cX11_feed 34 = .ok (.aload_n 0, 1) := by decide +kernel
theorem dX11_feed_35 : decode cX11_feed 35 = .ok (.getfield 32, 3) := by decide +kernel
theorem dX11_feed_38 : decode cX11_feed 38 = .ok (.iload_n 3, 1) := by decide +kernel
theorem dX11_feed_39 : decode cX11_feed 39 = .ok (.invokevirtual 87, 3) := by decide +kernel
theorem dX11_feed_42 : decode cX11_feed 42 = .ok (.aload_n 0, 1) := by decide +kernel
theorem dX11_feed_43 : decode cX11_feed 43 = .ok (.getfield 32, 3) := by decide +kernel
theorem dX11_feed_46 : decode cX11_feed 46 = .ok (.iload 4, 2) := by decide +kernel
theorem dX11_feed_48 : decode cX11_feed 48 = .ok (.invokevirtual 87, 3) := by decide +kernel
theorem dX11_feed_51 : decode cX11_feed 51 = .ok (.aload_n 0, 1) := by decide +kernel
theorem dX11_feed_52 : decode cX11_feed 52 = .ok (.getfield 32, 3) := by decide +kernel
theorem dX11_feed_55 : decode cX11_feed 55 = .ok (.iload 5, 2) := by decide +kernel
theorem dX11_feed_57 : decode cX11_feed 57 = .ok (.invokevirtual 87, 3) := by decide +kernel
theorem dX11_feed_60 : decode cX11_feed 60 = .ok (.aload_n 0, 1) := by decide +kernel
theorem dX11_feed_61 : decode cX11_feed 61 = .ok (.getfield 32, 3) := by decide +kernel
theorem dX11_feed_64 : decode cX11_feed 64 = .ok (.invokevirtual 83, 3) := by decide +kernel
theorem dX11_feed_67 : decode cX11_feed 67 = .ok (.ireturn, 1) := by decide +kernel
theorem dX11_filledSlots_0 : decode cX11_filledSlots 0 = .ok (.iconst 0, 1) := by decide +kernel
theorem dX11_filledSlots_1 : decode cX11_filledSlots 1 = .ok (.istore_n 1, 1) := by decide +kernel
theorem dX11_filledSlots_2 : decode cX11_filledSlots 2 = .ok (.iconst 0, 1) := by decide +kernel
theorem dX11_filledSlots_3 : decode cX11_filledSlots 3 = .ok (.istore_n 2, 1) := by decide +kernel
theorem dX11_filledSlots_4 : decode cX11_filledSlots 4 = .ok (.iload_n 2, 1) := by decide +kernel
theorem dX11_filledSlots_5 : decode cX11_filledSlots 5 = .ok (.iconst 3, 1) := by decide +kernel
theorem dX11_filledSlots_6 : decode cX11_filledSlots 6 = .ok (.if_icmp .ge 23, 3) := by decide +kernel
theorem dX11_filledSlots_9 : decode cX11_filledSlots 9 = .ok (.aload_n 0, 1) := by decide +kernel
theorem dX11_filledSlots_10 : decode cX11_filledSlots 10 = .ok (.iload_n 2, 1) := by decide +kernel
theorem dX11_filledSlots_11 : decode cX11_filledSlots 11 = .ok (.invokevirtual 117, 3) := by decide +kernel
theorem dX11_filledSlots_14 : decode cX11_filledSlots 14 = .ok (.ifnull 9, 3) := by decide +kernel
theorem dX11_filledSlots_17 : decode cX11_filledSlots 17 = .ok (.iload_n 1, 1) := by decide +kernel
theorem dX11_filledSlots_18 : decode cX11_filledSlots 18 = .ok (.iconst 1, 1) := by decide +kernel
theorem dX11_filledSlots_19 : decode cX11_filledSlots 19 = .ok (.iload_n 2, 1) := by decide +kernel
theorem dX11_filledSlots_20 : decode cX11_filledSlots 20 = .ok (.ishl, 1) := by decide +kernel
theorem dX11_filledSlots_21 : decode cX11_filledSlots 21 = .ok (.ior, 1) := by decide +kernel
theorem dX11_filledSlots_22 : decode cX11_filledSlots 22 = .ok (.istore_n 1, 1) := by decide +kernel
theorem dX11_filledSlots_23 : decode cX11_filledSlots 23 = .ok (.iinc 2 1, 3) := by decide +kernel
theorem dX11_filledSlots_26 : decode cX11_filledSlots 26 = .ok (.goto (-22), 3) := by decide +kernel
theorem dX11_filledSlots_29 : decode cX11_filledSlots 29 = .ok (.iload_n 1, 1) := by decide +kernel
theorem dX11_filledSlots_30 : decode cX11_filledSlots 30 = .ok (.ireturn, 1) := by decide +kernel
theorem dX11_flip_0 : decode cX11_flip 0 = .ok (.aload_n 0, 1) := by decide +kernel
theorem dX11_flip_1 : decode cX11_flip 1 = .ok (.iload_n 1, 1) := by decide +kernel
theorem dX11_flip_2 : decode cX11_flip 2 = .ok (.invokevirtual 117, 3) := by decide +kernel
theorem dX11_flip_5 : decode cX11_flip 5 = .ok (.astore_n 2, 1) := by decide +kernel
theorem dX11_flip_6 : decode cX11_flip 6 = .ok (.aload_n 2, 1) := by decide +kernel
theorem dX11_flip_7 : decode cX11_flip 7 = .ok (.ifnonnull 6, 3) := by decide +kernel
theorem dX11_flip_10 : decode cX11_flip 10 = .ok (.bipush (-2), 2) := by decide +kernel
theorem dX11_flip_12 : decode cX11_flip 12 = .ok (.ireturn, 1) := by decide +kernel
theorem dX11_flip_13 : decode cX11_flip 13 = .ok (.aload_n 0, 1) := by decide +kernel
theorem dX11_flip_14 : decode cX11_flip 14 = .ok (.getfield 16, 3) := by decide +kernel
theorem dX11_flip_17 : decode cX11_flip 17 = .ok (.aload_n 2, 1) := by decide +kernel
theorem dX11_flip_18 : decode cX11_flip 18 = .ok (.invokevirtual 290, 3) := by decide +kernel
theorem dX11_flip_21 : decode cX11_flip 21 = .ok (.aload_n 0, 1) := by decide +kernel
theorem dX11_flip_22 : decode cX11_flip 22 = .ok (.getfield 16, 3) := by decide +kernel
theorem dX11_flip_25 : decode cX11_flip 25 = .ok (.invokevirtual 320, 3) := by decide +kernel
theorem dX11_flip_28 : decode cX11_flip 28 = .ok (.aload_n 0, 1) := by decide +kernel
theorem dX11_flip_29 : decode cX11_flip 29 = .ok (.iload_n 1, 1) := by decide +kernel
theorem dX11_flip_30 : decode cX11_flip 30 = .ok (.invokevirtual 101, 3) := by decide +kernel
theorem dX11_flip_33 : decode cX11_flip 33 = .ok (.aload_n 0, 1) := by decide +kernel
theorem dX11_flip_34 : decode cX11_flip 34 = .ok (.getfield 51, 3) := by decide +kernel
theorem dX11_flip_37 : decode cX11_flip 37 = .ok (.aload_n 0, 1) := by decide +kernel
theorem dX11_flip_38 : decode cX11_flip 38 = .ok (.getfield 16, 3) := by decide +kernel
theorem dX11_flip_41 : decode cX11_flip 41 = .ok (.invokevirtual 125, 3) := by decide +kernel
theorem dX11_flip_44 : decode cX11_flip 44 = .ok (.ireturn, 1) := by decide +kernel
theorem dX11_init_0 : decode cX11_init 0 = .ok (.aload_n 0, 1) := by decide +kernel
theorem dX11_init_1 : decode cX11_init 1 = .ok (.invokespecial 3, 3) := by decide +kernel
theorem dX11_init_4 : decode cX11_init 4 = .ok (.aload_n 0, 1) := by decide +kernel
theorem dX11_init_5 : decode cX11_init 5 = .ok (.iconst 3, 1) := by decide +kernel
theorem dX11_init_6 : decode cX11_init 6 = .ok (.anewarray 9, 3) := by decide +kernel
theorem dX11_init_9 : decode cX11_init 9 = .ok (.putfield 11, 3) := by decide +kernel
theorem dX11_init_12 : decode cX11_init 12 = .ok (.iconst 0, 1) := by decide +kernel
theorem dX11_init_13 : decode cX11_init 13 = .ok (.istore_n 1, 1) := by decide +kernel
theorem dX11_init_14 : decode cX11_init 14 = .ok (.iload_n 1, 1) := by decide +kernel
theorem dX11_init_15 : decode cX11_init 15 = .ok (.iconst 3, 1) := by decide +kernel
theorem dX11_init_16 : decode cX11_init 16 = .ok (.if_icmp .ge 22, 3) := by decide +kernel
theorem dX11_init_19 : decode cX11_init 19 = .ok (.aload_n 0, 1) := by decide +kernel
theorem dX11_init_20 : decode cX11_init 20 = .ok (.getfield 11, 3) := by decide +kernel
theorem dX11_init_23 : decode cX11_init 23 = .ok (.iload_n 1, 1) := by decide +kernel
theorem dX11_init_24 : decode cX11_init 24 = .ok (.new 9, 3) := by decide +kernel
theorem dX11_init_27 : decode cX11_init 27 = .ok (.dup, 1) := by decide +kernel
theorem dX11_init_28 : decode cX11_init 28 = .ok (.invokespecial 15, 3) := by decide +kernel
theorem dX11_init_31 : decode cX11_init 31 = .ok (.aastore, 1) := by decide +kernel
theorem dX11_init_32 : decode cX11_init 32 = .ok (.iinc 1 1, 3) := by decide +kernel
theorem dX11_init_35 : decode cX11_init 35 = .ok (.goto (-21), 3) := by decide +kernel
theorem dX11_init_38 : decode cX11_init 38 = .ok (.aload_n 0, 1) := by decide +kernel
theorem dX11_init_39 : decode cX11_init 39 = .ok (.new 9, 3) := by decide +kernel
theorem dX11_init_42 : decode cX11_init 42 = .ok (.dup, 1) := by decide +kernel
theorem dX11_init_43 : decode cX11_init 43 = .ok (.invokespecial 15, 3) := by decide +kernel
theorem dX11_init_46 : decode cX11_init 46 = .ok (.putfield 16, 3) := by decide +kernel
theorem dX11_init_49 : decode cX11_init 49 = .ok (.aload_n 0, 1) := by decide +kernel
theorem dX11_init_50 : decode cX11_init 50 = .ok (.new 20, 3) := by decide +kernel
theorem dX11_init_53 : decode cX11_init 53 = .ok (.dup, 1) := by decide +kernel
theorem dX11_init_54 : decode cX11_init 54 = .ok (.invokespecial 22, 3) := by decide +kernel
theorem dX11_init_57 : decode cX11_init 57 = .ok (.putfield 23, 3) := by decide +kernel
theorem dX11_init_60 : decode cX11_init 60 = .ok (.aload_n 0, 1) := by decide +kernel
theorem dX11_init_61 : decode cX11_init 61 = .ok (.new 27, 3) := by decide +kernel
theorem dX11_init_64 : decode cX11_init 64 = .ok (.dup, 1) := by decide +kernel
theorem dX11_init_65 : decode cX11_init 65 = .ok (.sipush 400, 3) := by decide +kernel
theorem dX11_init_68 : decode cX11_init 68 = .ok (.invokespecial 29, 3) := by decide +kernel
theorem dX11_init_71 : decode cX11_init 71 = .ok (.putfield 32, 3) := by decide +kernel
theorem dX11_init_74 : decode cX11_init 74 = .ok (.aload_n 0, 1) := by decide +kernel
theorem dX11_init_75 : decode cX11_init 75 = .ok (.new 27, 3) := by decide +kernel
theorem dX11_init_78 : decode cX11_init 78 = .ok (.dup, 1) := by decide +kernel
theorem dX11_init_79 : decode cX11_init 79 = .ok (.sipush 160, 3) := by decide +kernel
theorem dX11_init_82 : decode cX11_init 82 = .ok (.invokespecial 29, 3) := by decide +kernel
theorem dX11_init_85 : decode cX11_init 85 = .ok (.putfield 36, 3) := by decide +kernel
theorem dX11_init_88 : decode cX11_init 88 = .ok (.aload_n 0, 1) := by decide +kernel
theorem dX11_init_89 : decode cX11_init 89 = .ok (.new 39, 3) := by decide +kernel
theorem dX11_init_92 : decode cX11_init 92 = .ok (.dup, 1) := by decide +kernel
theorem dX11_init_93 : decode cX11_init 93 = .ok (.aload_n 0, 1) := by decide +kernel
theorem dX11_init_94 : decode cX11_init 94 = .ok (.getfield 32, 3) := by decide +kernel
theorem dX11_init_97 : decode cX11_init 97 = .ok (.invokespecial 41, 3) := by decide +kernel
theorem dX11_init_100 : decode cX11_init 100 = .ok (.putfield 44, 3) := by decide +kernel
theorem dX11_init_103 : decode cX11_init 103 = .ok (.aload_n 0, 1) := by decide +kernel
theorem dX11_init_104 : decode cX11_init 104 = .ok (.new 48, 3) := by decide +kernel
theorem dX11_init_107 : decode cX11_init 107 = .ok (.dup, 1) := by decide +kernel
theorem dX11_init_108 : decode cX11_init 108 = .ok (.invokespecial 50, 3) := by decide +kernel
theorem dX11_init_111 : decode cX11_init 111 = .ok (.putfield 51, 3) := by decide +kernel
theorem dX11_init_114 : decode cX11_init 114 = .ok (.aload_n 0, 1) := by decide +kernel
theorem dX11_init_115 : decode cX11_init 115 = .ok (.new 55, 3) := by decide +kernel
theorem dX11_init_118 : decode cX11_init 118 = .ok (.dup, 1) := by decide +kernel
theorem dX11_init_119 : decode cX11_init 119 = .ok (.invokespecial 57, 3) := by decide +kernel
theorem dX11_init_122 : decode cX11_init 122 = .ok (.putfield 58, 3) := by decide +kernel
theorem dX11_init_125 : decode cX11_init 125 = .ok (.aload_n 0, 1) := by decide +kernel
theorem dX11_init_126 : decode cX11_init 126 = .ok (.new 62, 3) := by decide +kernel
theorem dX11_init_129 : decode cX11_init 129 = .ok (.dup, 1) := by decide +kernel
theorem dX11_init_130 : decode cX11_init 130 = .ok (.invokespecial 64, 3) := by decide +kernel
theorem dX11_init_133 : decode cX11_init 133 = .ok (.putfield 65, 3) := by decide +kernel
theorem dX11_init_136 : decode cX11_init 136 = .ok (.aload_n 0, 1) := by decide +kernel
theorem dX11_init_137 : decode cX11_init 137 = .ok (.new 69, 3) := by decide +kernel
theorem dX11_init_140 : decode cX11_init 140 = .ok (.dup, 1) := by decide +kernel
theorem dX11_init_141 : decode cX11_init 141 = .ok (.invokespecial 71, 3) := by decide +kernel
theorem dX11_init_144 : decode cX11_init 144 = .ok (.putfield 72, 3) := by decide +kernel
theorem dX11_init_147 : decode cX11_init 147 = .ok (.aload_n 0, 1) := by decide +kernel
theorem dX11_init_148 : decode cX11_init 148 = .ok (.new 76, 3) := by decide +kernel
theorem dX11_init_151 : decode cX11_init 151 = .ok (.dup, 1) := by decide +kernel
theorem dX11_init_152 : decode cX11_init 152 = .ok (.invokespecial 78, 3) := by decide +kernel
theorem dX11_init_155 : decode cX11_init 155 = .ok (.putfield 79, 3) := by decide +kernel
theorem dX11_init_158 : decode cX11_init 158 = .ok (.return_, 1) := by decide +kernel
theorem dX11_is_0 : decode cX11_is 0 = .ok (.aload_n 0, 1) := by decide +kernel
theorem dX11_is_1 : decode cX11_is 1 = .ok (.iload_n 1, 1) := by decide +kernel
theorem dX11_is_2 : decode cX11_is 2 = .ok (.invokevirtual 117, 3) := by decide +kernel
theorem dX11_is_5 : decode cX11_is 5 = .ok (.astore_n 3, 1) := by decide +kernel
theorem dX11_is_6 : decode cX11_is 6 = .ok (.aload_n 3, 1) := by decide +kernel
theorem dX11_is_7 : decode cX11_is 7 = .ok (.ifnonnull 6, 3) := by decide +kernel
theorem dX11_is_10 : decode cX11_is 10 = .ok (.bipush (-2), 2) := by decide +kernel
theorem dX11_is_12 : decode cX11_is 12 = .ok (.ireturn, 1) := by decide +kernel
theorem dX11_is_13 : decode cX11_is 13 = .ok (.iload_n 2, 1) := by decide +kernel
theorem dX11_is_14 : decode cX11_is 14 = .ok (.tableswitch 149 0 6 #[42, 58, 74, 90, 106, 129, 137], 42) := by decide +kernel
theorem dX11_is_56 : decode cX11_is 56 = .ok (.aload_n 3, 1) := by decide +kernel
theorem dX11_is_57 : decode cX11_is 57 = .ok (.invokevirtual 140, 3) := by decide +kernel
theorem dX11_is_60 : decode cX11_is 60 = .ok (.ifCond .ne 7, 3) := by decide +kernel
theorem dX11_is_63 : decode cX11_is 63 = .ok (.iconst 1, 1) := by decide +kernel
theorem dX11_is_64 : decode cX11_is 64 = .ok (.goto 4, 3) := by decide +kernel
theorem dX11_is_67 : decode cX11_is 67 = .ok (.iconst 0, 1) := by decide +kernel
theorem dX11_is_68 : decode cX11_is 68 = .ok (.invokestatic 175, 3) := by decide +kernel
theorem dX11_is_71 : decode cX11_is 71 = .ok (.ireturn, 1) := by decide +kernel
theorem dX11_is_72 : decode cX11_is 72 = .ok (.aload_n 3, 1) := by decide +kernel
theorem dX11_is_73 : decode cX11_is 73 = .ok (.invokevirtual 104, 3) := by decide +kernel
theorem dX11_is_76 : decode cX11_is 76 = .ok (.ifCond .ne 7, 3) := by decide +kernel
theorem dX11_is_79 : decode cX11_is 79 = .ok (.iconst 1, 1) := by decide +kernel
theorem dX11_is_80 : decode cX11_is 80 = .ok (.goto 4, 3) := by decide +kernel
theorem dX11_is_83 : decode cX11_is 83 = .ok (.iconst 0, 1) := by decide +kernel
theorem dX11_is_84 : decode cX11_is 84 = .ok (.invokestatic 175, 3) := by decide +kernel
theorem dX11_is_87 : decode cX11_is 87 = .ok (.ireturn, 1) := by decide +kernel
theorem dX11_is_88 : decode cX11_is 88 = .ok (.aload_n 3, 1) := by decide +kernel
theorem dX11_is_89 : decode cX11_is 89 = .ok (.invokestatic 179, 3) := by decide +kernel
theorem dX11_is_92 : decode cX11_is 92 = .ok (.ifCond .ne 7, 3) := by decide +kernel
theorem dX11_is_95 : decode cX11_is 95 = .ok (.iconst 1, 1) := by decide +kernel
theorem dX11_is_96 : decode cX11_is 96 = .ok (.goto 4, 3) := by decide +kernel
theorem dX11_is_99 : decode cX11_is 99 = .ok (.iconst 0, 1) := by decide +kernel
theorem dX11_is_100 : decode cX11_is 100 = .ok (.invokestatic 175, 3) := by decide +kernel
theorem dX11_is_103 : decode cX11_is 103 = .ok (.ireturn, 1) := by decide +kernel
theorem dX11_is_104 : decode cX11_is 104 = .ok (.aload_n 3, 1) := by decide +kernel
theorem dX11_is_105 : decode cX11_is 105 = .ok (.invokestatic 182, 3) := by decide +kernel
theorem dX11_is_108 : decode cX11_is 108 = .ok (.ifCond .ne 7, 3) := by decide +kernel
theorem dX11_is_111 : decode cX11_is 111 = .ok (.iconst 1, 1) := by decide +kernel
theorem dX11_is_112 : decode cX11_is 112 = .ok (.goto 4, 3) := by decide +kernel
theorem dX11_is_115 : decode cX11_is 115 = .ok (.iconst 0, 1) := by decide +kernel
theorem dX11_is_116 : decode cX11_is 116 = .ok (.invokestatic 175, 3) := by decide +kernel
theorem dX11_is_119 : decode cX11_is 119 = .ok (.ireturn, 1) := by decide +kernel
theorem dX11_is_120 : decode cX11_is 120 = .ok (.aload_n 3, 1) := by decide +kernel
theorem dX11_is_121 : decode cX11_is 121 = .ok (.invokestatic 185, 3) := by decide +kernel
theorem dX11_is_124 : decode cX11_is 124 = .ok (.ifCond .ne 14, 3) := by decide +kernel
theorem dX11_is_127 : decode cX11_is 127 = .ok (.aload_n 3, 1) := by decide +kernel
theorem dX11_is_128 : decode cX11_is 128 = .ok (.invokestatic 182, 3) := by decide +kernel
theorem dX11_is_131 : decode cX11_is 131 = .ok (.ifCond .ne 7, 3) := by decide +kernel
theorem dX11_is_134 : decode cX11_is 134 = .ok (.iconst 1, 1) := by decide +kernel
theorem dX11_is_135 : decode cX11_is 135 = .ok (.goto 4, 3) := by decide +kernel
theorem dX11_is_138 : decode cX11_is 138 = .ok (.iconst 0, 1) := by decide +kernel
theorem dX11_is_139 : decode cX11_is 139 = .ok (.invokestatic 175, 3) := by decide +kernel
theorem dX11_is_142 : decode cX11_is 142 = .ok (.ireturn, 1) := by decide +kernel
theorem dX11_is_143 : decode cX11_is 143 = .ok (.aload_n 3, 1) := by decide +kernel
theorem dX11_is_144 : decode cX11_is 144 = .ok (.invokestatic 188, 3) := by decide +kernel
theorem dX11_is_147 : decode cX11_is 147 = .ok (.invokestatic 175, 3) := by decide +kernel
theorem dX11_is_150 : decode cX11_is 150 = .ok (.ireturn, 1) := by decide +kernel
theorem dX11_is_151 : decode cX11_is 151 = .ok (.aload_n 0, 1) := by decide +kernel
theorem dX11_is_152 : decode cX11_is 152 = .ok (.getfield 51, 3) := by decide +kernel
theorem dX11_is_155 : decode cX11_is 155 = .ok (.aload_n 3, 1) := by decide +kernel
theorem dX11_is_156 : decode cX11_is 156 = .ok (.invokevirtual 191, 3) := by decide +kernel
theorem dX11_is_159 : decode cX11_is 159 = .ok (.invokestatic 175, 3) := by decide +kernel
theorem dX11_is_162 : decode cX11_is 162 = .ok (.ireturn, 1) := by decide +kernel
theorem dX11_is_163 : decode cX11_is 163 = .ok (.bipush (-2), 2) := by decide +kernel
theorem dX11_is_165 : decode cX11_is 165 = .ok (.ireturn, 1) := by decide +kernel
theorem dX11_isBit_0 : decode cX11_isBit 0 = .ok (.iload_n 0, 1) := by decide +kernel
theorem dX11_isBit_1 : decode cX11_isBit 1 = .ok (.ifCond .eq 8, 3) := by decide +kernel
theorem dX11_isBit_4 : decode cX11_isBit 4 = .ok (.iload_n 0, 1) := by decide +kernel
theorem dX11_isBit_5 : decode cX11_isBit 5 = .ok (.iconst 1, 1) := by decide +kernel
theorem dX11_isBit_6 : decode cX11_isBit 6 = .ok (.if_icmp .ne 7, 3) := by decide +kernel
theorem dX11_isBit_9 : decode cX11_isBit 9 = .ok (.iconst 1, 1) := by decide +kernel
theorem dX11_isBit_10 : decode cX11_isBit 10 = .ok (.goto 4, 3) := by decide +kernel
theorem dX11_isBit_13 : decode cX11_isBit 13 = .ok (.iconst 0, 1) := by decide +kernel
theorem dX11_isBit_14 : decode cX11_isBit 14 = .ok (.ireturn, 1) := by decide +kernel
theorem dX11_isSlot_0 : decode cX11_isSlot 0 = .ok (.iload_n 0, 1) := by decide +kernel
theorem dX11_isSlot_1 : decode cX11_isSlot 1 = .ok (.ifCond .lt 12, 3) := by decide +kernel
theorem dX11_isSlot_4 : decode cX11_isSlot 4 = .ok (.iload_n 0, 1) := by decide +kernel
theorem dX11_isSlot_5 : decode cX11_isSlot 5 = .ok (.iconst 3, 1) := by decide +kernel
theorem dX11_isSlot_6 : decode cX11_isSlot 6 = .ok (.if_icmp .ge 7, 3) := by decide +kernel
theorem dX11_isSlot_9 : decode cX11_isSlot 9 = .ok (.iconst 1, 1) := by decide +kernel
theorem dX11_isSlot_10 : decode cX11_isSlot 10 = .ok (.goto 4, 3) := by decide +kernel
theorem dX11_isSlot_13 : decode cX11_isSlot 13 = .ok (.iconst 0, 1) := by decide +kernel
theorem dX11_isSlot_14 : decode cX11_isSlot 14 = .ok (.ireturn, 1) := by decide +kernel
theorem dX11_joins_0 : decode cX11_joins 0 = .ok (.aload_n 0, 1) := by decide +kernel
theorem dX11_joins_1 : decode cX11_joins 1 = .ok (.iload_n 1, 1) := by decide +kernel
theorem dX11_joins_2 : decode cX11_joins 2 = .ok (.invokevirtual 117, 3) := by decide +kernel
theorem dX11_joins_5 : decode cX11_joins 5 = .ok (.astore 5, 2) := by decide +kernel
theorem dX11_joins_7 : decode cX11_joins 7 = .ok (.aload_n 0, 1) := by decide +kernel
theorem dX11_joins_8 : decode cX11_joins 8 = .ok (.iload_n 2, 1) := by decide +kernel
theorem dX11_joins_9 : decode cX11_joins 9 = .ok (.invokevirtual 117, 3) := by decide +kernel
theorem dX11_joins_12 : decode cX11_joins 12 = .ok (.astore 6, 2) := by decide +kernel
theorem dX11_joins_14 : decode cX11_joins 14 = .ok (.aload 5, 2) := by decide +kernel
theorem dX11_joins_16 : decode cX11_joins 16 = .ok (.ifnull 23, 3) := by decide +kernel
theorem dX11_joins_19 : decode cX11_joins 19 = .ok (.aload 6, 2) := by decide +kernel
theorem dX11_joins_21 : decode cX11_joins 21 = .ok (.ifnull 18, 3) := by decide +kernel
theorem dX11_joins_24 : decode cX11_joins 24 = .ok (.iload_n 3, 1) := by decide +kernel
theorem dX11_joins_25 : decode cX11_joins 25 = .ok (.invokestatic 218, 3) := by decide +kernel
theorem dX11_joins_28 : decode cX11_joins 28 = .ok (.ifCond .eq 11, 3) := by decide +kernel
theorem dX11_joins_31 : decode cX11_joins 31 = .ok (.iload 4, 2) := by decide +kernel
theorem dX11_joins_33 : decode cX11_joins 33 = .ok (.invokestatic 93, 3) := by decide +kernel
theorem dX11_joins_36 : decode cX11_joins 36 = .ok (.ifCond .ne 6, 3) := by decide +kernel
theorem dX11_joins_39 : decode cX11_joins 39 = .ok (.bipush (-2), 2) := by decide +kernel
theorem dX11_joins_41 : decode cX11_joins 41 = .ok (.ireturn, 1) := by decide +kernel
theorem dX11_joins_42 : decode cX11_joins 42 = .ok (.aload 5, 2) := by decide +kernel
theorem dX11_joins_44 : decode cX11_joins 44 = .ok (.invokevirtual 121, 3) := by decide +kernel
theorem dX11_joins_47 : decode cX11_joins 47 = .ok (.aload 6, 2) := by decide +kernel
theorem dX11_joins_49 : decode cX11_joins 49 = .ok (.invokevirtual 121, 3) := by decide +kernel
theorem dX11_joins_52 : decode cX11_joins 52 = .ok (.iadd, 1) := by decide +kernel
theorem dX11_joins_53 : decode cX11_joins 53 = .ok (.bipush 8, 2) := by decide +kernel
theorem dX11_joins_55 : decode cX11_joins 55 = .ok (.if_icmp .le 6, 3) := by decide +kernel
theorem dX11_joins_58 : decode cX11_joins 58 = .ok (.bipush (-5), 2) := by decide +kernel
theorem dX11_joins_60 : decode cX11_joins 60 = .ok (.ireturn, 1) := by decide +kernel
theorem dX11_joins_61 : decode cX11_joins 61 = .ok (.aload_n 0, 1) := by decide +kernel
theorem dX11_joins_62 : decode cX11_joins 62 = .ok (.getfield 16, 3) := by decide +kernel
theorem dX11_joins_65 : decode cX11_joins 65 = .ok (.aload 5, 2) := by decide +kernel
theorem dX11_joins_67 : decode cX11_joins 67 = .ok (.aload 6, 2) := by decide +kernel
theorem dX11_joins_69 : decode cX11_joins 69 = .ok (.iload_n 3, 1) := by decide +kernel
theorem dX11_joins_70 : decode cX11_joins 70 = .ok (.iconst 1, 1) := by decide +kernel
theorem dX11_joins_71 : decode cX11_joins 71 = .ok (.if_icmp .ne 7, 3) := by decide +kernel
theorem dX11_joins_74 : decode cX11_joins 74 = .ok (.iconst 1, 1) := by decide +kernel
theorem dX11_joins_75 : decode cX11_joins 75 = .ok (.goto 4, 3) := by decide +kernel
theorem dX11_joins_78 : decode cX11_joins 78 = .ok (.iconst 0, 1) := by decide +kernel
theorem dX11_joins_79 : decode cX11_joins 79 = .ok (.invokevirtual 326, 3) := by decide +kernel
theorem dX11_joins_82 : decode cX11_joins 82 = .ok (.aload_n 0, 1) := by decide +kernel
theorem dX11_joins_83 : decode cX11_joins 83 = .ok (.iload 4, 2) := by decide +kernel
theorem dX11_joins_85 : decode cX11_joins 85 = .ok (.invokevirtual 101, 3) := by decide +kernel
theorem dX11_joins_88 : decode cX11_joins 88 = .ok (.aload_n 0, 1) := by decide +kernel
theorem dX11_joins_89 : decode cX11_joins 89 = .ok (.getfield 16, 3) := by decide +kernel
theorem dX11_joins_92 : decode cX11_joins 92 = .ok (.invokevirtual 121, 3) := by decide +kernel
theorem dX11_joins_95 : decode cX11_joins 95 = .ok (.ireturn, 1) := by decide +kernel
theorem dX11_jumper_0 : decode cX11_jumper 0 = .ok (.aload_n 0, 1) := by decide +kernel
theorem dX11_jumper_1 : decode cX11_jumper 1 = .ok (.iload_n 1, 1) := by decide +kernel
theorem dX11_jumper_2 : decode cX11_jumper 2 = .ok (.iload_n 3, 1) := by decide +kernel
theorem dX11_jumper_3 : decode cX11_jumper 3 = .ok (.invokevirtual 156, 3) := by decide +kernel
theorem dX11_jumper_6 : decode cX11_jumper 6 = .ok (.astore 4, 2) := by decide +kernel
theorem dX11_jumper_8 : decode cX11_jumper 8 = .ok (.aload 4, 2) := by decide +kernel
theorem dX11_jumper_10 : decode cX11_jumper 10 = .ok (.ifnull 10, 3) := by decide +kernel
theorem dX11_jumper_13 : decode cX11_jumper 13 = .ok (.iload_n 2, 1) := by decide +kernel
theorem dX11_jumper_14 : decode cX11_jumper 14 = .ok (.invokestatic 218, 3) := by decide +kernel
theorem dX11_jumper_17 : decode cX11_jumper 17 = .ok (.ifCond .ne 6, 3) := by decide +kernel
theorem dX11_jumper_20 : decode cX11_jumper 20 = .ok (.bipush (-2), 2) := by decide +kernel
theorem dX11_jumper_22 : decode cX11_jumper 22 = .ok (.ireturn, 1) := by decide +kernel
theorem dX11_jumper_23 : decode cX11_jumper 23 = .ok (.aload_n 0, 1) := by decide +kernel
theorem dX11_jumper_24 : decode cX11_jumper 24 = .ok (.getfield 65, 3) := by decide +kernel
theorem dX11_jumper_27 : decode cX11_jumper 27 = .ok (.aload 4, 2) := by decide +kernel
theorem dX11_jumper_29 : decode cX11_jumper 29 = .ok (.iload_n 2, 1) := by decide +kernel
theorem dX11_jumper_30 : decode cX11_jumper 30 = .ok (.iconst 1, 1) := by decide +kernel
theorem dX11_jumper_31 : decode cX11_jumper 31 = .ok (.if_icmp .ne 7, 3) := by decide +kernel
theorem dX11_jumper_34 : decode cX11_jumper 34 = .ok (.iconst 1, 1) := by decide +kernel
theorem dX11_jumper_35 : decode cX11_jumper 35 = .ok (.goto 4, 3) := by decide +kernel
theorem dX11_jumper_38 : decode cX11_jumper 38 = .ok (.iconst 0, 1) := by decide +kernel
theorem dX11_jumper_39 : decode cX11_jumper 39 = .ok (.iload_n 3, 1) := by decide +kernel
theorem dX11_jumper_40 : decode cX11_jumper 40 = .ok (.invokevirtual 254, 3) := by decide +kernel
theorem dX11_jumper_43 : decode cX11_jumper 43 = .ok (.ireturn, 1) := by decide +kernel
theorem dX11_jumps_0 : decode cX11_jumps 0 = .ok (.aload_n 0, 1) := by decide +kernel
theorem dX11_jumps_1 : decode cX11_jumps 1 = .ok (.iload_n 1, 1) := by decide +kernel
theorem dX11_jumps_2 : decode cX11_jumps 2 = .ok (.invokevirtual 117, 3) := by decide +kernel
theorem dX11_jumps_5 : decode cX11_jumps 5 = .ok (.astore_n 3, 1) := by decide +kernel
theorem dX11_jumps_6 : decode cX11_jumps 6 = .ok (.aload_n 3, 1) := by decide +kernel
theorem dX11_jumps_7 : decode cX11_jumps 7 = .ok (.ifnull 10, 3) := by decide +kernel
theorem dX11_jumps_10 : decode cX11_jumps 10 = .ok (.iload_n 2, 1) := by decide +kernel
theorem dX11_jumps_11 : decode cX11_jumps 11 = .ok (.invokestatic 218, 3) := by decide +kernel
theorem dX11_jumps_14 : decode cX11_jumps 14 = .ok (.ifCond .ne 6, 3) := by decide +kernel
theorem dX11_jumps_17 : decode cX11_jumps 17 = .ok (.bipush (-2), 2) := by decide +kernel
theorem dX11_jumps_19 : decode cX11_jumps 19 = .ok (.ireturn, 1) := by decide +kernel
theorem dX11_jumps_20 : decode cX11_jumps 20 = .ok (.aload_n 0, 1) := by decide +kernel
theorem dX11_jumps_21 : decode cX11_jumps 21 = .ok (.getfield 65, 3) := by decide +kernel
theorem dX11_jumps_24 : decode cX11_jumps 24 = .ok (.aload_n 3, 1) := by decide +kernel
theorem dX11_jumps_25 : decode cX11_jumps 25 = .ok (.iload_n 2, 1) := by decide +kernel
theorem dX11_jumps_26 : decode cX11_jumps 26 = .ok (.iconst 1, 1) := by decide +kernel
theorem dX11_jumps_27 : decode cX11_jumps 27 = .ok (.if_icmp .ne 7, 3) := by decide +kernel
theorem dX11_jumps_30 : decode cX11_jumps 30 = .ok (.iconst 1, 1) := by decide +kernel
theorem dX11_jumps_31 : decode cX11_jumps 31 = .ok (.goto 4, 3) := by decide +kernel
theorem dX11_jumps_34 : decode cX11_jumps 34 = .ok (.iconst 0, 1) := by decide +kernel
theorem dX11_jumps_35 : decode cX11_jumps 35 = .ok (.invokevirtual 250, 3) := by decide +kernel
theorem dX11_jumps_38 : decode cX11_jumps 38 = .ok (.ireturn, 1) := by decide +kernel
theorem dX11_jumpsOf_0 : decode cX11_jumpsOf 0 = .ok (.aload_n 0, 1) := by decide +kernel
theorem dX11_jumpsOf_1 : decode cX11_jumpsOf 1 = .ok (.iload_n 1, 1) := by decide +kernel
theorem dX11_jumpsOf_2 : decode cX11_jumpsOf 2 = .ok (.iload_n 2, 1) := by decide +kernel
theorem dX11_jumpsOf_3 : decode cX11_jumpsOf 3 = .ok (.invokevirtual 212, 3) := by decide +kernel
theorem dX11_jumpsOf_6 : decode cX11_jumpsOf 6 = .ok (.astore_n 3, 1) := by decide +kernel
theorem dX11_jumpsOf_7 : decode cX11_jumpsOf 7 = .ok (.aload_n 3, 1) := by decide +kernel
theorem dX11_jumpsOf_8 : decode cX11_jumpsOf 8 = .ok (.ifnonnull 8, 3) := by decide +kernel
theorem dX11_jumpsOf_11 : decode cX11_jumpsOf 11 = .ok (.bipush (-2), 2) := by decide +kernel
theorem dX11_jumpsOf_13 : decode cX11_jumpsOf 13 = .ok (.goto 8, 3) := by decide +kernel
theorem dX11_jumpsOf_16 : decode cX11_jumpsOf 16 = .ok (.aload_n 3, 1) := by decide +kernel
theorem dX11_jumpsOf_17 : decode cX11_jumpsOf 17 = .ok (.iload_n 2, 1) := by decide +kernel
theorem dX11_jumpsOf_18 : decode cX11_jumpsOf 18 = .ok (.invokevirtual 257, 3) := by decide +kernel
theorem dX11_jumpsOf_21 : decode cX11_jumpsOf 21 = .ok (.ireturn, 1) := by decide +kernel
theorem dX11_line_0 : decode cX11_line 0 = .ok (.aload_n 0, 1) := by decide +kernel
theorem dX11_line_1 : decode cX11_line 1 = .ok (.iload_n 1, 1) := by decide +kernel
theorem dX11_line_2 : decode cX11_line 2 = .ok (.iload_n 3, 1) := by decide +kernel
theorem dX11_line_3 : decode cX11_line 3 = .ok (.invokevirtual 156, 3) := by decide +kernel
theorem dX11_line_6 : decode cX11_line 6 = .ok (.astore 4, 2) := by decide +kernel
theorem dX11_line_8 : decode cX11_line 8 = .ok (.aload 4, 2) := by decide +kernel
theorem dX11_line_10 : decode cX11_line 10 = .ok (.ifnull 7, 3) := by decide +kernel
theorem dX11_line_13 : decode cX11_line 13 = .ok (.iload_n 2, 1) := by decide +kernel
theorem dX11_line_14 : decode cX11_line 14 = .ok (.ifCond .ge 6, 3) := by decide +kernel
theorem dX11_line_17 : decode cX11_line 17 = .ok (.bipush (-2), 2) := by decide +kernel
theorem dX11_line_19 : decode cX11_line 19 = .ok (.ireturn, 1) := by decide +kernel
theorem dX11_line_20 : decode cX11_line 20 = .ok (.aload_n 0, 1) := by decide +kernel
theorem dX11_line_21 : decode cX11_line 21 = .ok (.aload 4, 2) := by decide +kernel
theorem dX11_line_23 : decode cX11_line 23 = .ok (.invokevirtual 201, 3) := by decide +kernel
theorem dX11_line_26 : decode cX11_line 26 = .ok (.aload 4, 2) := by decide +kernel
theorem dX11_line_28 : decode cX11_line 28 = .ok (.iload_n 2, 1) := by decide +kernel
theorem dX11_line_29 : decode cX11_line 29 = .ok (.iload_n 3, 1) := by decide +kernel
theorem dX11_line_30 : decode cX11_line 30 = .ok (.invokevirtual 208, 3) := by decide +kernel
theorem dX11_line_33 : decode cX11_line 33 = .ok (.ireturn, 1) := by decide +kernel
theorem dX11_lines_0 : decode cX11_lines 0 = .ok (.aload_n 0, 1) := by decide +kernel
theorem dX11_lines_1 : decode cX11_lines 1 = .ok (.iload_n 1, 1) := by decide +kernel
theorem dX11_lines_2 : decode cX11_lines 2 = .ok (.invokevirtual 117, 3) := by decide +kernel
theorem dX11_lines_5 : decode cX11_lines 5 = .ok (.astore_n 2, 1) := by decide +kernel
theorem dX11_lines_6 : decode cX11_lines 6 = .ok (.aload_n 2, 1) := by decide +kernel
theorem dX11_lines_7 : decode cX11_lines 7 = .ok (.ifnonnull 8, 3) := by decide +kernel
theorem dX11_lines_10 : decode cX11_lines 10 = .ok (.bipush (-2), 2) := by decide +kernel
theorem dX11_lines_12 : decode cX11_lines 12 = .ok (.goto 11, 3) := by decide +kernel
theorem dX11_lines_15 : decode cX11_lines 15 = .ok (.aload_n 0, 1) := by decide +kernel
theorem dX11_lines_16 : decode cX11_lines 16 = .ok (.aload_n 2, 1) := by decide +kernel
theorem dX11_lines_17 : decode cX11_lines 17 = .ok (.invokevirtual 201, 3) := by decide +kernel
theorem dX11_lines_20 : decode cX11_lines 20 = .ok (.invokevirtual 205, 3) := by decide +kernel
theorem dX11_lines_23 : decode cX11_lines 23 = .ok (.ireturn, 1) := by decide +kernel
theorem dX11_linesOf_0 : decode cX11_linesOf 0 = .ok (.aload_n 0, 1) := by decide +kernel
theorem dX11_linesOf_1 : decode cX11_linesOf 1 = .ok (.getfield 58, 3) := by decide +kernel
theorem dX11_linesOf_4 : decode cX11_linesOf 4 = .ok (.aload_n 1, 1) := by decide +kernel
theorem dX11_linesOf_5 : decode cX11_linesOf 5 = .ok (.invokevirtual 354, 3) := by decide +kernel
theorem dX11_linesOf_8 : decode cX11_linesOf 8 = .ok (.aload_n 0, 1) := by decide +kernel
theorem dX11_linesOf_9 : decode cX11_linesOf 9 = .ok (.getfield 58, 3) := by decide +kernel
theorem dX11_linesOf_12 : decode cX11_linesOf 12 = .ok (.areturn, 1) := by decide +kernel
theorem dX11_look_0 : decode cX11_look 0 = .ok (.aload_n 0, 1) := by decide +kernel
theorem dX11_look_1 : decode cX11_look 1 = .ok (.iload_n 1, 1) := by decide +kernel
theorem dX11_look_2 : decode cX11_look 2 = .ok (.invokevirtual 117, 3) := by decide +kernel
theorem dX11_look_5 : decode cX11_look 5 = .ok (.astore_n 3, 1) := by decide +kernel
theorem dX11_look_6 : decode cX11_look 6 = .ok (.aload_n 3, 1) := by decide +kernel
theorem dX11_look_7 : decode cX11_look 7 = .ok (.ifnonnull 6, 3) := by decide +kernel
theorem dX11_look_10 : decode cX11_look 10 = .ok (.bipush (-2), 2) := by decide +kernel
theorem dX11_look_12 : decode cX11_look 12 = .ok (.ireturn, 1) := by decide +kernel
theorem dX11_look_13 : decode cX11_look 13 = .ok (.iload_n 2, 1) := by decide +kernel
theorem dX11_look_14 : decode cX11_look 14 = .ok (.tableswitch 105 0 8 #[50, 55, 60, 65, 74, 82, 87, 92, 97], 50) := by decide +kernel
theorem dX11_look_64 : decode cX11_look 64 = .ok (.aload_n 3, 1) := by decide +kernel
theorem dX11_look_65 : decode cX11_look 65 = .ok (.invokevirtual 121, 3) := by decide +kernel
theorem dX11_look_68 : decode cX11_look 68 = .ok (.ireturn, 1) := by decide +kernel
theorem dX11_look_69 : decode cX11_look 69 = .ok (.aload_n 3, 1) := by decide +kernel
theorem dX11_look_70 : decode cX11_look 70 = .ok (.invokevirtual 104, 3) := by decide +kernel
theorem dX11_look_73 : decode cX11_look 73 = .ok (.ireturn, 1) := by decide +kernel
theorem dX11_look_74 : decode cX11_look 74 = .ok (.aload_n 3, 1) := by decide +kernel
theorem dX11_look_75 : decode cX11_look 75 = .ok (.invokevirtual 122, 3) := by decide +kernel
theorem dX11_look_78 : decode cX11_look 78 = .ok (.ireturn, 1) := by decide +kernel
theorem dX11_look_79 : decode cX11_look 79 = .ok (.aload_n 0, 1) := by decide +kernel
theorem dX11_look_80 : decode cX11_look 80 = .ok (.getfield 51, 3) := by decide +kernel
theorem dX11_look_83 : decode cX11_look 83 = .ok (.aload_n 3, 1) := by decide +kernel
theorem dX11_look_84 : decode cX11_look 84 = .ok (.invokevirtual 125, 3) := by decide +kernel
theorem dX11_look_87 : decode cX11_look 87 = .ok (.ireturn, 1) := by decide +kernel
theorem dX11_look_88 : decode cX11_look 88 = .ok (.aload_n 3, 1) := by decide +kernel
theorem dX11_look_89 : decode cX11_look 89 = .ok (.invokestatic 129, 3) := by decide +kernel
theorem dX11_look_92 : decode cX11_look 92 = .ok (.invokestatic 134, 3) := by decide +kernel
theorem dX11_look_95 : decode cX11_look 95 = .ok (.ireturn, 1) := by decide +kernel
theorem dX11_look_96 : decode cX11_look 96 = .ok (.aload_n 3, 1) := by decide +kernel
theorem dX11_look_97 : decode cX11_look 97 = .ok (.invokevirtual 140, 3) := by decide +kernel
theorem dX11_look_100 : decode cX11_look 100 = .ok (.ireturn, 1) := by decide +kernel
theorem dX11_look_101 : decode cX11_look 101 = .ok (.aload_n 3, 1) := by decide +kernel
theorem dX11_look_102 : decode cX11_look 102 = .ok (.invokestatic 143, 3) := by decide +kernel
theorem dX11_look_105 : decode cX11_look 105 = .ok (.ireturn, 1) := by decide +kernel
theorem dX11_look_106 : decode cX11_look 106 = .ok (.aload_n 3, 1) := by decide +kernel
theorem dX11_look_107 : decode cX11_look 107 = .ok (.invokestatic 146, 3) := by decide +kernel
theorem dX11_look_110 : decode cX11_look 110 = .ok (.ireturn, 1) := by decide +kernel
theorem dX11_look_111 : decode cX11_look 111 = .ok (.aload_n 3, 1) := by decide +kernel
theorem dX11_look_112 : decode cX11_look 112 = .ok (.invokevirtual 149, 3) := by decide +kernel
theorem dX11_look_115 : decode cX11_look 115 = .ok (.invokevirtual 153, 3) := by decide +kernel
theorem dX11_look_118 : decode cX11_look 118 = .ok (.ireturn, 1) := by decide +kernel
theorem dX11_look_119 : decode cX11_look 119 = .ok (.bipush (-2), 2) := by decide +kernel
theorem dX11_look_121 : decode cX11_look 121 = .ok (.ireturn, 1) := by decide +kernel
theorem dX11_mean_0 : decode cX11_mean 0 = .ok (.aload_n 0, 1) := by decide +kernel
theorem dX11_mean_1 : decode cX11_mean 1 = .ok (.iload_n 1, 1) := by decide +kernel
theorem dX11_mean_2 : decode cX11_mean 2 = .ok (.iload_n 2, 1) := by decide +kernel
theorem dX11_mean_3 : decode cX11_mean 3 = .ok (.invokevirtual 156, 3) := by decide +kernel
theorem dX11_mean_6 : decode cX11_mean 6 = .ok (.astore 4, 2) := by decide +kernel
theorem dX11_mean_8 : decode cX11_mean 8 = .ok (.aload 4, 2) := by decide +kernel
theorem dX11_mean_10 : decode cX11_mean 10 = .ok (.ifnull 10, 3) := by decide +kernel
theorem dX11_mean_13 : decode cX11_mean 13 = .ok (.iload_n 3, 1) := by decide +kernel
theorem dX11_mean_14 : decode cX11_mean 14 = .ok (.invokestatic 218, 3) := by decide +kernel
theorem dX11_mean_17 : decode cX11_mean 17 = .ok (.ifCond .ne 6, 3) := by decide +kernel
theorem dX11_mean_20 : decode cX11_mean 20 = .ok (.bipush (-2), 2) := by decide +kernel
theorem dX11_mean_22 : decode cX11_mean 22 = .ok (.ireturn, 1) := by decide +kernel
theorem dX11_mean_23 : decode cX11_mean 23 = .ok (.aload_n 0, 1) := by decide +kernel
theorem dX11_mean_24 : decode cX11_mean 24 = .ok (.aload 4, 2) := by decide +kernel
theorem dX11_mean_26 : decode cX11_mean 26 = .ok (.invokevirtual 201, 3) := by decide +kernel
theorem dX11_mean_29 : decode cX11_mean 29 = .ok (.invokevirtual 205, 3) := by decide +kernel
theorem dX11_mean_32 : decode cX11_mean 32 = .ok (.istore 5, 2) := by decide +kernel
theorem dX11_mean_34 : decode cX11_mean 34 = .ok (.aload_n 0, 1) := by decide +kernel
theorem dX11_mean_35 : decode cX11_mean 35 = .ok (.getfield 58, 3) := by decide +kernel
theorem dX11_mean_38 : decode cX11_mean 38 = .ok (.aload 4, 2) := by decide +kernel
theorem dX11_mean_40 : decode cX11_mean 40 = .ok (.iload_n 2, 1) := by decide +kernel
theorem dX11_mean_41 : decode cX11_mean 41 = .ok (.invokevirtual 240, 3) := by decide +kernel
theorem dX11_mean_44 : decode cX11_mean 44 = .ok (.istore 6, 2) := by decide +kernel
theorem dX11_mean_46 : decode cX11_mean 46 = .ok (.iload 6, 2) := by decide +kernel
theorem dX11_mean_48 : decode cX11_mean 48 = .ok (.iload 5, 2) := by decide +kernel
theorem dX11_mean_50 : decode cX11_mean 50 = .ok (.invokestatic 243, 3) := by decide +kernel
theorem dX11_mean_53 : decode cX11_mean 53 = .ok (.istore 7, 2) := by decide +kernel
theorem dX11_mean_55 : decode cX11_mean 55 = .ok (.iload 7, 2) := by decide +kernel
theorem dX11_mean_57 : decode cX11_mean 57 = .ok (.ifCond .ne 6, 3) := by decide +kernel
theorem dX11_mean_60 : decode cX11_mean 60 = .ok (.bipush (-2), 2) := by decide +kernel
theorem dX11_mean_62 : decode cX11_mean 62 = .ok (.ireturn, 1) := by decide +kernel
theorem dX11_mean_63 : decode cX11_mean 63 = .ok (.iload_n 3, 1) := by decide +kernel
theorem dX11_mean_64 : decode cX11_mean 64 = .ok (.ifCond .ne 8, 3) := by decide +kernel
theorem dX11_mean_67 : decode cX11_mean 67 = .ok (.iload 6, 2) := by decide +kernel
theorem dX11_mean_69 : decode cX11_mean 69 = .ok (.goto 5, 3) := by decide +kernel
theorem dX11_mean_72 : decode cX11_mean 72 = .ok (.iload 5, 2) := by decide +kernel
theorem dX11_mean_74 : decode cX11_mean 74 = .ok (.iload 7, 2) := by decide +kernel
theorem dX11_mean_76 : decode cX11_mean 76 = .ok (.idiv, 1) := by decide +kernel
theorem dX11_mean_77 : decode cX11_mean 77 = .ok (.ireturn, 1) := by decide +kernel
