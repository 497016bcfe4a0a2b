theorem dX9_size_0 : decode cX9_size 0 = .ok (.aload_n 0, 1) := by decide +kernel
theorem dX9_size_1 : decode cX9_size 1 = .ok (.getfield 30, 3) := by decide +kernel
theorem dX9_size_4 : decode cX9_size 4 = .ok (.ireturn, 1) := by decide +kernel
theorem dX9_startPlaces_0 : decode cX9_startPlaces 0 = .ok (.iconst 0, 1) := by decide +kernel
theorem dX9_startPlaces_1 : decode cX9_startPlaces 1 = .ok (.istore_n 2, 1) := by decide +kernel
theorem dX9_startPlaces_2 : decode cX9_startPlaces 2 = .ok (.iload_n 2, 1) := by decide +kernel
theorem dX9_startPlaces_3 : decode cX9_startPlaces 3 = .ok (.iconst 4, 1) := by decide +kernel
theorem dX9_startPlaces_4 : decode cX9_startPlaces 4 = .ok (.if_icmp .ge 39, 3) := by decide +kernel
theorem dX9_startPlaces_7 : decode cX9_startPlaces 7 = .ok (.iconst 0, 1) := by decide +kernel
theorem dX9_startPlaces_8 : decode cX9_startPlaces 8 = .ok (.istore_n 3, 1) := by decide +kernel
theorem dX9_startPlaces_9 : decode cX9_startPlaces 9 = .ok (.iload_n 3, 1) := by decide +kernel
theorem dX9_startPlaces_10 : decode cX9_startPlaces 10 = .ok (.bipush 8, 2) := by decide +kernel
theorem dX9_startPlaces_12 : decode cX9_startPlaces 12 = .ok (.if_icmp .ge 25, 3) := by decide +kernel
theorem dX9_startPlaces_15 : decode cX9_startPlaces 15 = .ok (.aload_n 0, 1) := by decide +kernel
theorem dX9_startPlaces_16 : decode cX9_startPlaces 16 = .ok (.getfield 24, 3) := by decide +kernel
theorem dX9_startPlaces_19 : decode cX9_startPlaces 19 = .ok (.iload_n 2, 1) := by decide +kernel
theorem dX9_startPlaces_20 : decode cX9_startPlaces 20 = .ok (.bipush 8, 2) := by decide +kernel
theorem dX9_startPlaces_22 : decode cX9_startPlaces 22 = .ok (.imul, 1) := by decide +kernel
theorem dX9_startPlaces_23 : decode cX9_startPlaces 23 = .ok (.iload_n 3, 1) := by decide +kernel
theorem dX9_startPlaces_24 : decode cX9_startPlaces 24 = .ok (.iadd, 1) := by decide +kernel
theorem dX9_startPlaces_25 : decode cX9_startPlaces 25 = .ok (.aload_n 1, 1) := by decide +kernel
theorem dX9_startPlaces_26 : decode cX9_startPlaces 26 = .ok (.iload_n 3, 1) := by decide +kernel
theorem dX9_startPlaces_27 : decode cX9_startPlaces 27 = .ok (.invokevirtual 50, 3) := by decide +kernel
theorem dX9_startPlaces_30 : decode cX9_startPlaces 30 = .ok (.iastore, 1) := by decide +kernel
theorem dX9_startPlaces_31 : decode cX9_startPlaces 31 = .ok (.iinc 3 1, 3) := by decide +kernel
theorem dX9_startPlaces_34 : decode cX9_startPlaces 34 = .ok (.goto (-25), 3) := by decide +kernel
theorem dX9_startPlaces_37 : decode cX9_startPlaces 37 = .ok (.iinc 2 1, 3) := by decide +kernel
theorem dX9_startPlaces_40 : decode cX9_startPlaces 40 = .ok (.goto (-38), 3) := by decide +kernel
theorem dX9_startPlaces_43 : decode cX9_startPlaces 43 = .ok (.return_, 1) := by decide +kernel
theorem dX9_takeOut_0 : decode cX9_takeOut 0 = .ok (.aload_n 0, 1) := by decide +kernel
theorem dX9_takeOut_1 : decode cX9_takeOut 1 = .ok (.getfield 18, 3) := by decide +kernel
theorem dX9_takeOut_4 : decode cX9_takeOut 4 = .ok (.iload_n 1, 1) := by decide +kernel
theorem dX9_takeOut_5 : decode cX9_takeOut 5 = .ok (.iaload, 1) := by decide +kernel
theorem dX9_takeOut_6 : decode cX9_takeOut 6 = .ok (.bipush 8, 2) := by decide +kernel
theorem dX9_takeOut_8 : decode cX9_takeOut 8 = .ok (.imul, 1) := by decide +kernel
theorem dX9_takeOut_9 : decode cX9_takeOut 9 = .ok (.istore_n 2, 1) := by decide +kernel
theorem dX9_takeOut_10 : decode cX9_takeOut 10 = .ok (.iconst 0, 1) := by decide +kernel
theorem dX9_takeOut_11 : decode cX9_takeOut 11 = .ok (.istore_n 3, 1) := by decide +kernel
theorem dX9_takeOut_12 : decode cX9_takeOut 12 = .ok (.iload_n 3, 1) := by decide +kernel
theorem dX9_takeOut_13 : decode cX9_takeOut 13 = .ok (.bipush 8, 2) := by decide +kernel
theorem dX9_takeOut_15 : decode cX9_takeOut 15 = .ok (.if_icmp .ge 28, 3) := by decide +kernel
theorem dX9_takeOut_18 : decode cX9_takeOut 18 = .ok (.aload_n 0, 1) := by decide +kernel
theorem dX9_takeOut_19 : decode cX9_takeOut 19 = .ok (.getfield 24, 3) := by decide +kernel
theorem dX9_takeOut_22 : decode cX9_takeOut 22 = .ok (.iload_n 2, 1) := by decide +kernel
theorem dX9_takeOut_23 : decode cX9_takeOut 23 = .ok (.iload_n 3, 1) := by decide +kernel
theorem dX9_takeOut_24 : decode cX9_takeOut 24 = .ok (.iadd, 1) := by decide +kernel
theorem dX9_takeOut_25 : decode cX9_takeOut 25 = .ok (.aload_n 0, 1) := by decide +kernel
theorem dX9_takeOut_26 : decode cX9_takeOut 26 = .ok (.getfield 27, 3) := by decide +kernel
theorem dX9_takeOut_29 : decode cX9_takeOut 29 = .ok (.iload_n 1, 1) := by decide +kernel
theorem dX9_takeOut_30 : decode cX9_takeOut 30 = .ok (.bipush 8, 2) := by decide +kernel
theorem dX9_takeOut_32 : decode cX9_takeOut 32 = .ok (.imul, 1) := by decide +kernel
theorem dX9_takeOut_33 : decode cX9_takeOut 33 = .ok (.iload_n 3, 1) := by decide +kernel
theorem dX9_takeOut_34 : decode cX9_takeOut 34 = .ok (.iadd, 1) := by decide +kernel
theorem dX9_takeOut_35 : decode cX9_takeOut 35 = .ok (.iaload, 1) := by decide +kernel
theorem dX9_takeOut_36 : decode cX9_takeOut 36 = .ok (.iastore, 1) := by decide +kernel
theorem dX9_takeOut_37 : decode cX9_takeOut 37 = .ok (.iinc 3 1, 3) := by decide +kernel
theorem dX9_takeOut_40 : decode cX9_takeOut 40 = .ok (.goto (-28), 3) := by decide +kernel
theorem dX9_takeOut_43 : decode cX9_takeOut 43 = .ok (.return_, 1) := by decide +kernel
theorem dX9_turnedBy_0 : decode cX9_turnedBy 0 = .ok (.iconst 0, 1) := by decide +kernel
theorem dX9_turnedBy_1 : decode cX9_turnedBy 1 = .ok (.istore_n 3, 1) := by decide +kernel
theorem dX9_turnedBy_2 : decode cX9_turnedBy 2 = .ok (.iconst 0, 1) := by decide +kernel
theorem dX9_turnedBy_3 : decode cX9_turnedBy 3 = .ok (.istore 4, 2) := by decide +kernel
theorem dX9_turnedBy_5 : decode cX9_turnedBy 5 = .ok (.iload 4, 2) := by decide +kernel
theorem dX9_turnedBy_7 : decode cX9_turnedBy 7 = .ok (.aload_n 0, 1) := by decide +kernel
theorem dX9_turnedBy_8 : decode cX9_turnedBy 8 = .ok (.getfield 30, 3) := by decide +kernel
theorem dX9_turnedBy_11 : decode cX9_turnedBy 11 = .ok (.if_icmp .ge 41, 3) := by decide +kernel
theorem dX9_turnedBy_14 : decode cX9_turnedBy 14 = .ok (.aload_n 1, 1) := by decide +kernel
theorem dX9_turnedBy_15 : decode cX9_turnedBy 15 = .ok (.invokevirtual 53, 3) := by decide +kernel
theorem dX9_turnedBy_18 : decode cX9_turnedBy 18 = .ok (.iload_n 2, 1) := by decide +kernel
theorem dX9_turnedBy_19 : decode cX9_turnedBy 19 = .ok (.aload_n 0, 1) := by decide +kernel
theorem dX9_turnedBy_20 : decode cX9_turnedBy 20 = .ok (.getfield 15, 3) := by decide +kernel
theorem dX9_turnedBy_23 : decode cX9_turnedBy 23 = .ok (.iload 4, 2) := by decide +kernel
theorem dX9_turnedBy_25 : decode cX9_turnedBy 25 = .ok (.iaload, 1) := by decide +kernel
theorem dX9_turnedBy_26 : decode cX9_turnedBy 26 = .ok (.aload_n 0, 1) := by decide +kernel
theorem dX9_turnedBy_27 : decode cX9_turnedBy 27 = .ok (.getfield 9, 3) := by decide +kernel
theorem dX9_turnedBy_30 : decode cX9_turnedBy 30 = .ok (.iload 4, 2) := by decide +kernel
theorem dX9_turnedBy_32 : decode cX9_turnedBy 32 = .ok (.iaload, 1) := by decide +kernel
theorem dX9_turnedBy_33 : decode cX9_turnedBy 33 = .ok (.aload_n 1, 1) := by decide +kernel
theorem dX9_turnedBy_34 : decode cX9_turnedBy 34 = .ok (.invokevirtual 34, 3) := by decide +kernel
theorem dX9_turnedBy_37 : decode cX9_turnedBy 37 = .ok (.invokevirtual 57, 3) := by decide +kernel
theorem dX9_turnedBy_40 : decode cX9_turnedBy 40 = .ok (.ifCond .eq 6, 3) := by decide +kernel
theorem dX9_turnedBy_43 : decode cX9_turnedBy 43 = .ok (.iinc 3 1, 3) := by decide +kernel
theorem dX9_turnedBy_46 : decode cX9_turnedBy 46 = .ok (.iinc 4 1, 3) := by decide +kernel
theorem dX9_turnedBy_49 : decode cX9_turnedBy 49 = .ok (.goto (-44), 3) := by decide +kernel
theorem dX9_turnedBy_52 : decode cX9_turnedBy 52 = .ok (.iload_n 3, 1) := by decide +kernel
theorem dX9_turnedBy_53 : decode cX9_turnedBy 53 = .ok (.ireturn, 1) := by decide +kernel
theorem dX9_twoAt_0 : decode cX9_twoAt 0 = .ok (.iload_n 1, 1) := by decide +kernel
theorem dX9_twoAt_1 : decode cX9_twoAt 1 = .ok (.ifCond .lt 30, 3) := by decide +kernel
theorem dX9_twoAt_4 : decode cX9_twoAt 4 = .ok (.iload_n 1, 1) := by decide +kernel
theorem dX9_twoAt_5 : decode cX9_twoAt 5 = .ok (.aload_n 0, 1) := by decide +kernel
theorem dX9_twoAt_6 : decode cX9_twoAt 6 = .ok (.getfield 30, 3) := by decide +kernel
theorem dX9_twoAt_9 : decode cX9_twoAt 9 = .ok (.if_icmp .ge 22, 3) := by decide +kernel
theorem dX9_twoAt_12 : decode cX9_twoAt 12 = .ok (.bipush 10, 2) := by decide +kernel
theorem dX9_twoAt_14 : decode cX9_twoAt 14 = .ok (.aload_n 0, 1) := by decide +kernel
theorem dX9_twoAt_15 : decode cX9_twoAt 15 = .ok (.getfield 9, 3) := by decide +kernel
theorem dX9_twoAt_18 : decode cX9_twoAt 18 = .ok (.iload_n 1, 1) := by decide +kernel
theorem dX9_twoAt_19 : decode cX9_twoAt 19 = .ok (.iaload, 1) := by decide +kernel
theorem dX9_twoAt_20 : decode cX9_twoAt 20 = .ok (.imul, 1) := by decide +kernel
theorem dX9_twoAt_21 : decode cX9_twoAt 21 = .ok (.aload_n 0, 1) := by decide +kernel
theorem dX9_twoAt_22 : decode cX9_twoAt 22 = .ok (.getfield 15, 3) := by decide +kernel
theorem dX9_twoAt_25 : decode cX9_twoAt 25 = .ok (.iload_n 1, 1) := by decide +kernel
theorem dX9_twoAt_26 : decode cX9_twoAt 26 = .ok (.iaload, 1) := by decide +kernel
theorem dX9_twoAt_27 : decode cX9_twoAt 27 = .ok (.iadd, 1) := by decide +kernel
theorem dX9_twoAt_28 : decode cX9_twoAt 28 = .ok (.goto 4, 3) := by decide +kernel
theorem dX9_twoAt_31 : decode cX9_twoAt 31 = .ok (.iconst (-1), 1) := by decide +kernel
theorem dX9_twoAt_32 : decode cX9_twoAt 32 = .ok (.ireturn, 1) := by decide +kernel
theorem dX9_writeRows_0 : decode cX9_writeRows 0 = .ok (.aload_n 3, 1) := by decide +kernel
theorem dX9_writeRows_1 : decode cX9_writeRows 1 = .ok (.invokevirtual 88, 3) := by decide +kernel
theorem dX9_writeRows_4 : decode cX9_writeRows 4 = .ok (.iconst 0, 1) := by decide +kernel
theorem dX9_writeRows_5 : decode cX9_writeRows 5 = .ok (.istore 4, 2) := by decide +kernel
theorem dX9_writeRows_7 : decode cX9_writeRows 7 = .ok (.iload 4, 2) := by decide +kernel
theorem dX9_writeRows_9 : decode cX9_writeRows 9 = .ok (.iload_n 2, 1) := by decide +kernel
theorem dX9_writeRows_10 : decode cX9_writeRows 10 = .ok (.if_icmp .ge 77, 3) := by decide +kernel
theorem dX9_writeRows_13 : decode cX9_writeRows 13 = .ok (.iload 4, 2) := by decide +kernel
theorem dX9_writeRows_15 : decode cX9_writeRows 15 = .ok (.iconst 4, 1) := by decide +kernel
theorem dX9_writeRows_16 : decode cX9_writeRows 16 = .ok (.if_icmp .ge 71, 3) := by decide +kernel
theorem dX9_writeRows_19 : decode cX9_writeRows 19 = .ok (.aload_n 3, 1) := by decide +kernel
theorem dX9_writeRows_20 : decode cX9_writeRows 20 = .ok (.invokevirtual 91, 3) := by decide +kernel
theorem dX9_writeRows_23 : decode cX9_writeRows 23 = .ok (.istore 5, 2) := by decide +kernel
theorem dX9_writeRows_25 : decode cX9_writeRows 25 = .ok (.aload_n 1, 1) := by decide +kernel
theorem dX9_writeRows_26 : decode cX9_writeRows 26 = .ok (.invokevirtual 94, 3) := by decide +kernel
theorem dX9_writeRows_29 : decode cX9_writeRows 29 = .ok (.istore 6, 2) := by decide +kernel
theorem dX9_writeRows_31 : decode cX9_writeRows 31 = .ok (.iconst 0, 1) := by decide +kernel
theorem dX9_writeRows_32 : decode cX9_writeRows 32 = .ok (.istore 7, 2) := by decide +kernel
theorem dX9_writeRows_34 : decode cX9_writeRows 34 = .ok (.iload 7, 2) := by decide +kernel
theorem dX9_writeRows_36 : decode cX9_writeRows 36 = .ok (.aload_n 1, 1) := by decide +kernel
theorem dX9_writeRows_37 : decode cX9_writeRows 37 = .ok (.invokevirtual 34, 3) := by decide +kernel
theorem dX9_writeRows_40 : decode cX9_writeRows 40 = .ok (.if_icmp .ge 41, 3) := by decide +kernel
theorem dX9_writeRows_43 : decode cX9_writeRows 43 = .ok (.aload_n 0, 1) := by decide +kernel
theorem dX9_writeRows_44 : decode cX9_writeRows 44 = .ok (.aload_n 1, 1) := by decide +kernel
theorem dX9_writeRows_45 : decode cX9_writeRows 45 = .ok (.iload 4, 2) := by decide +kernel
theorem dX9_writeRows_47 : decode cX9_writeRows 47 = .ok (.iload 6, 2) := by decide +kernel
theorem dX9_writeRows_49 : decode cX9_writeRows 49 = .ok (.invokevirtual 97, 3) := by decide +kernel
theorem dX9_writeRows_52 : decode cX9_writeRows 52 = .ok (.istore 8, 2) := by decide +kernel
theorem dX9_writeRows_54 : decode cX9_writeRows 54 = .ok (.aload_n 3, 1) := by decide +kernel
theorem dX9_writeRows_55 : decode cX9_writeRows 55 = .ok (.iload 5, 2) := by decide +kernel
theorem dX9_writeRows_57 : decode cX9_writeRows 57 = .ok (.iload 7, 2) := by decide +kernel
theorem dX9_writeRows_59 : decode cX9_writeRows 59 = .ok (.iload 8, 2) := by decide +kernel
theorem dX9_writeRows_61 : decode cX9_writeRows 61 = .ok (.invokevirtual 101, 3) := by decide +kernel
theorem dX9_writeRows_64 : decode cX9_writeRows 64 = .ok (.iload 6, 2) := by decide +kernel
theorem dX9_writeRows_66 : decode cX9_writeRows 66 = .ok (.iconst 1, 1) := by decide +kernel
theorem dX9_writeRows_67 : decode cX9_writeRows 67 = .ok (.iload 8, 2) := by decide +kernel
theorem dX9_writeRows_69 : decode cX9_writeRows 69 = .ok (.ishl, 1) := by decide +kernel
theorem dX9_writeRows_70 : decode cX9_writeRows 70 = .ok (.iconst (-1), 1) := by decide +kernel
theorem dX9_writeRows_71 : decode cX9_writeRows 71 = .ok (.ixor, 1) := by decide +kernel
theorem dX9_writeRows_72 : decode cX9_writeRows 72 = .ok (.iand, 1) := by decide +kernel
theorem dX9_writeRows_73 : decode cX9_writeRows 73 = .ok (.istore 6, 2) := by decide +kernel
theorem dX9_writeRows_75 : decode cX9_writeRows 75 = .ok (.iinc 7 1, 3) := by decide +kernel
theorem dX9_writeRows_78 : decode cX9_writeRows 78 = .ok (.goto (-44), 3) := by decide +kernel
theorem dX9_writeRows_81 : decode cX9_writeRows 81 = .ok (.iinc 4 1, 3) := by decide +kernel
theorem dX9_writeRows_84 : decode cX9_writeRows 84 = .ok (.goto (-77), 3) := by decide +kernel
theorem dX9_writeRows_87 : decode cX9_writeRows 87 = .ok (.return_, 1) := by decide +kernel
