theorem dX12_flip_0 : decode cX12_flip 0 = .ok (.aload_n 0, 1) := by decide +kernel
theorem dX12_flip_1 : decode cX12_flip 1 = .ok (.iload_n 1, 1) := by decide +kernel
theorem dX12_flip_2 : decode cX12_flip 2 = .ok (.invokevirtual 80, 3) := by decide +kernel
theorem dX12_flip_5 : decode cX12_flip 5 = .ok (.ifCond .ne 6, 3) := by decide +kernel
theorem dX12_flip_8 : decode cX12_flip 8 = .ok (.bipush (-2), 2) := by decide +kernel
theorem dX12_flip_10 : decode cX12_flip 10 = .ok (.ireturn, 1) := by decide +kernel
theorem dX12_flip_11 : decode cX12_flip 11 = .ok (.aload_n 0, 1) := by decide +kernel
theorem dX12_flip_12 : decode cX12_flip 12 = .ok (.invokevirtual 113, 3) := by decide +kernel
theorem dX12_flip_15 : decode cX12_flip 15 = .ok (.iconst 0, 1) := by decide +kernel
theorem dX12_flip_16 : decode cX12_flip 16 = .ok (.istore_n 2, 1) := by decide +kernel
theorem dX12_flip_17 : decode cX12_flip 17 = .ok (.iload_n 2, 1) := by decide +kernel
theorem dX12_flip_18 : decode cX12_flip 18 = .ok (.aload_n 0, 1) := by decide +kernel
theorem dX12_flip_19 : decode cX12_flip 19 = .ok (.iload_n 1, 1) := by decide +kernel
theorem dX12_flip_20 : decode cX12_flip 20 = .ok (.invokevirtual 76, 3) := by decide +kernel
theorem dX12_flip_23 : decode cX12_flip 23 = .ok (.if_icmp .ge 21, 3) := by decide +kernel
theorem dX12_flip_26 : decode cX12_flip 26 = .ok (.aload_n 0, 1) := by decide +kernel
theorem dX12_flip_27 : decode cX12_flip 27 = .ok (.getfield 53, 3) := by decide +kernel
theorem dX12_flip_30 : decode cX12_flip 30 = .ok (.iload_n 2, 1) := by decide +kernel
theorem dX12_flip_31 : decode cX12_flip 31 = .ok (.aload_n 0, 1) := by decide +kernel
theorem dX12_flip_32 : decode cX12_flip 32 = .ok (.iload_n 1, 1) := by decide +kernel
theorem dX12_flip_33 : decode cX12_flip 33 = .ok (.iload_n 2, 1) := by decide +kernel
theorem dX12_flip_34 : decode cX12_flip 34 = .ok (.invokevirtual 97, 3) := by decide +kernel
theorem dX12_flip_37 : decode cX12_flip 37 = .ok (.iastore, 1) := by decide +kernel
theorem dX12_flip_38 : decode cX12_flip 38 = .ok (.iinc 2 1, 3) := by decide +kernel
theorem dX12_flip_41 : decode cX12_flip 41 = .ok (.goto (-24), 3) := by decide +kernel
theorem dX12_flip_44 : decode cX12_flip 44 = .ok (.iconst 0, 1) := by decide +kernel
theorem dX12_flip_45 : decode cX12_flip 45 = .ok (.istore_n 2, 1) := by decide +kernel
theorem dX12_flip_46 : decode cX12_flip 46 = .ok (.iload_n 2, 1) := by decide +kernel
theorem dX12_flip_47 : decode cX12_flip 47 = .ok (.aload_n 0, 1) := by decide +kernel
theorem dX12_flip_48 : decode cX12_flip 48 = .ok (.iload_n 1, 1) := by decide +kernel
theorem dX12_flip_49 : decode cX12_flip 49 = .ok (.invokevirtual 76, 3) := by decide +kernel
theorem dX12_flip_52 : decode cX12_flip 52 = .ok (.if_icmp .ge 23, 3) := by decide +kernel
theorem dX12_flip_55 : decode cX12_flip 55 = .ok (.aload_n 0, 1) := by decide +kernel
theorem dX12_flip_56 : decode cX12_flip 56 = .ok (.iload_n 1, 1) := by decide +kernel
theorem dX12_flip_57 : decode cX12_flip 57 = .ok (.iconst 1, 1) := by decide +kernel
theorem dX12_flip_58 : decode cX12_flip 58 = .ok (.iload_n 2, 1) := by decide +kernel
theorem dX12_flip_59 : decode cX12_flip 59 = .ok (.iadd, 1) := by decide +kernel
theorem dX12_flip_60 : decode cX12_flip 60 = .ok (.aload_n 0, 1) := by decide +kernel
theorem dX12_flip_61 : decode cX12_flip 61 = .ok (.getfield 53, 3) := by decide +kernel
theorem dX12_flip_64 : decode cX12_flip 64 = .ok (.iload_n 2, 1) := by decide +kernel
theorem dX12_flip_65 : decode cX12_flip 65 = .ok (.iaload, 1) := by decide +kernel
theorem dX12_flip_66 : decode cX12_flip 66 = .ok (.invokevirtual 109, 3) := by decide +kernel
theorem dX12_flip_69 : decode cX12_flip 69 = .ok (.iinc 2 1, 3) := by decide +kernel
theorem dX12_flip_72 : decode cX12_flip 72 = .ok (.goto (-26), 3) := by decide +kernel
theorem dX12_flip_75 : decode cX12_flip 75 = .ok (.iconst 0, 1) := by decide +kernel
theorem dX12_flip_76 : decode cX12_flip 76 = .ok (.istore_n 2, 1) := by decide +kernel
theorem dX12_flip_77 : decode cX12_flip 77 = .ok (.iload_n 2, 1) := by decide +kernel
theorem dX12_flip_78 : decode cX12_flip 78 = .ok (.aload_n 0, 1) := by decide +kernel
theorem dX12_flip_79 : decode cX12_flip 79 = .ok (.iload_n 1, 1) := by decide +kernel
theorem dX12_flip_80 : decode cX12_flip 80 = .ok (.invokevirtual 83, 3) := by decide +kernel
theorem dX12_flip_83 : decode cX12_flip 83 = .ok (.if_icmp .ge 84, 3) := by decide +kernel
theorem dX12_flip_86 : decode cX12_flip 86 = .ok (.iconst 0, 1) := by decide +kernel
theorem dX12_flip_87 : decode cX12_flip 87 = .ok (.istore_n 3, 1) := by decide +kernel
theorem dX12_flip_88 : decode cX12_flip 88 = .ok (.iload_n 3, 1) := by decide +kernel
theorem dX12_flip_89 : decode cX12_flip 89 = .ok (.aload_n 0, 1) := by decide +kernel
theorem dX12_flip_90 : decode cX12_flip 90 = .ok (.iload_n 1, 1) := by decide +kernel
theorem dX12_flip_91 : decode cX12_flip 91 = .ok (.invokevirtual 76, 3) := by decide +kernel
theorem dX12_flip_94 : decode cX12_flip 94 = .ok (.if_icmp .ge 30, 3) := by decide +kernel
theorem dX12_flip_97 : decode cX12_flip 97 = .ok (.aload_n 0, 1) := by decide +kernel
theorem dX12_flip_98 : decode cX12_flip 98 = .ok (.getfield 53, 3) := by decide +kernel
theorem dX12_flip_101 : decode cX12_flip 101 = .ok (.iload_n 3, 1) := by decide +kernel
theorem dX12_flip_102 : decode cX12_flip 102 = .ok (.aload_n 0, 1) := by decide +kernel
theorem dX12_flip_103 : decode cX12_flip 103 = .ok (.iload_n 1, 1) := by decide +kernel
theorem dX12_flip_104 : decode cX12_flip 104 = .ok (.iload_n 2, 1) := by decide +kernel
theorem dX12_flip_105 : decode cX12_flip 105 = .ok (.aload_n 0, 1) := by decide +kernel
theorem dX12_flip_106 : decode cX12_flip 106 = .ok (.iload_n 1, 1) := by decide +kernel
theorem dX12_flip_107 : decode cX12_flip 107 = .ok (.invokevirtual 76, 3) := by decide +kernel
theorem dX12_flip_110 : decode cX12_flip 110 = .ok (.iconst 1, 1) := by decide +kernel
theorem dX12_flip_111 : decode cX12_flip 111 = .ok (.isub, 1) := by decide +kernel
theorem dX12_flip_112 : decode cX12_flip 112 = .ok (.iload_n 3, 1) := by decide +kernel
theorem dX12_flip_113 : decode cX12_flip 113 = .ok (.isub, 1) := by decide +kernel
theorem dX12_flip_114 : decode cX12_flip 114 = .ok (.invokevirtual 291, 3) := by decide +kernel
theorem dX12_flip_117 : decode cX12_flip 117 = .ok (.iastore, 1) := by decide +kernel
theorem dX12_flip_118 : decode cX12_flip 118 = .ok (.iinc 3 1, 3) := by decide +kernel
theorem dX12_flip_121 : decode cX12_flip 121 = .ok (.goto (-33), 3) := by decide +kernel
theorem dX12_flip_124 : decode cX12_flip 124 = .ok (.iconst 0, 1) := by decide +kernel
theorem dX12_flip_125 : decode cX12_flip 125 = .ok (.istore_n 3, 1) := by decide +kernel
theorem dX12_flip_126 : decode cX12_flip 126 = .ok (.iload_n 3, 1) := by decide +kernel
theorem dX12_flip_127 : decode cX12_flip 127 = .ok (.aload_n 0, 1) := by decide +kernel
theorem dX12_flip_128 : decode cX12_flip 128 = .ok (.iload_n 1, 1) := by decide +kernel
theorem dX12_flip_129 : decode cX12_flip 129 = .ok (.invokevirtual 76, 3) := by decide +kernel
theorem dX12_flip_132 : decode cX12_flip 132 = .ok (.if_icmp .ge 29, 3) := by decide +kernel
theorem dX12_flip_135 : decode cX12_flip 135 = .ok (.aload_n 0, 1) := by decide +kernel
theorem dX12_flip_136 : decode cX12_flip 136 = .ok (.iload_n 1, 1) := by decide +kernel
theorem dX12_flip_137 : decode cX12_flip 137 = .ok (.bipush 10, 2) := by decide +kernel
theorem dX12_flip_139 : decode cX12_flip 139 = .ok (.bipush 8, 2) := by decide +kernel
theorem dX12_flip_141 : decode cX12_flip 141 = .ok (.iload_n 2, 1) := by decide +kernel
theorem dX12_flip_142 : decode cX12_flip 142 = .ok (.imul, 1) := by decide +kernel
theorem dX12_flip_143 : decode cX12_flip 143 = .ok (.iadd, 1) := by decide +kernel
theorem dX12_flip_144 : decode cX12_flip 144 = .ok (.iload_n 3, 1) := by decide +kernel
theorem dX12_flip_145 : decode cX12_flip 145 = .ok (.iadd, 1) := by decide +kernel
theorem dX12_flip_146 : decode cX12_flip 146 = .ok (.aload_n 0, 1) := by decide +kernel
theorem dX12_flip_147 : decode cX12_flip 147 = .ok (.getfield 53, 3) := by decide +kernel
theorem dX12_flip_150 : decode cX12_flip 150 = .ok (.iload_n 3, 1) := by decide +kernel
theorem dX12_flip_151 : decode cX12_flip 151 = .ok (.iaload, 1) := by decide +kernel
theorem dX12_flip_152 : decode cX12_flip 152 = .ok (.invokevirtual 109, 3) := by decide +kernel
theorem dX12_flip_155 : decode cX12_flip 155 = .ok (.iinc 3 1, 3) := by decide +kernel
theorem dX12_flip_158 : decode cX12_flip 158 = .ok (.goto (-32), 3) := by decide +kernel
theorem dX12_flip_161 : decode cX12_flip 161 = .ok (.iinc 2 1, 3) := by decide +kernel
theorem dX12_flip_164 : decode cX12_flip 164 = .ok (.goto (-87), 3) := by decide +kernel
theorem dX12_flip_167 : decode cX12_flip 167 = .ok (.aload_n 0, 1) := by decide +kernel
theorem dX12_flip_168 : decode cX12_flip 168 = .ok (.aload_n 0, 1) := by decide +kernel
theorem dX12_flip_169 : decode cX12_flip 169 = .ok (.iload_n 1, 1) := by decide +kernel
theorem dX12_flip_170 : decode cX12_flip 170 = .ok (.invokevirtual 218, 3) := by decide +kernel
theorem dX12_flip_173 : decode cX12_flip 173 = .ok (.invokevirtual 202, 3) := by decide +kernel
theorem dX12_flip_176 : decode cX12_flip 176 = .ok (.ireturn, 1) := by decide +kernel
theorem dX12_hangs_0 : decode cX12_hangs 0 = .ok (.iconst 0, 1) := by decide +kernel
theorem dX12_hangs_1 : decode cX12_hangs 1 = .ok (.istore_n 2, 1) := by decide +kernel
theorem dX12_hangs_2 : decode cX12_hangs 2 = .ok (.iconst 0, 1) := by decide +kernel
theorem dX12_hangs_3 : decode cX12_hangs 3 = .ok (.istore_n 3, 1) := by decide +kernel
theorem dX12_hangs_4 : decode cX12_hangs 4 = .ok (.iconst 0, 1) := by decide +kernel
theorem dX12_hangs_5 : decode cX12_hangs 5 = .ok (.istore 4, 2) := by decide +kernel
theorem dX12_hangs_7 : decode cX12_hangs 7 = .ok (.iload 4, 2) := by decide +kernel
theorem dX12_hangs_9 : decode cX12_hangs 9 = .ok (.aload_n 0, 1) := by decide +kernel
theorem dX12_hangs_10 : decode cX12_hangs 10 = .ok (.iload_n 1, 1) := by decide +kernel
theorem dX12_hangs_11 : decode cX12_hangs 11 = .ok (.invokevirtual 76, 3) := by decide +kernel
theorem dX12_hangs_14 : decode cX12_hangs 14 = .ok (.if_icmp .ge 105, 3) := by decide +kernel
theorem dX12_hangs_17 : decode cX12_hangs 17 = .ok (.iload_n 3, 1) := by decide +kernel
theorem dX12_hangs_18 : decode cX12_hangs 18 = .ok (.iload 4, 2) := by decide +kernel
theorem dX12_hangs_20 : decode cX12_hangs 20 = .ok (.invokestatic 89, 3) := by decide +kernel
theorem dX12_hangs_23 : decode cX12_hangs 23 = .ok (.ifCond .eq 6, 3) := by decide +kernel
theorem dX12_hangs_26 : decode cX12_hangs 26 = .ok (.goto 87, 3) := by decide +kernel
theorem dX12_hangs_29 : decode cX12_hangs 29 = .ok (.iinc 2 1, 3) := by decide +kernel
theorem dX12_hangs_32 : decode cX12_hangs 32 = .ok (.iconst 1, 1) := by decide +kernel
theorem dX12_hangs_33 : decode cX12_hangs 33 = .ok (.iload 4, 2) := by decide +kernel
theorem dX12_hangs_35 : decode cX12_hangs 35 = .ok (.ishl, 1) := by decide +kernel
theorem dX12_hangs_36 : decode cX12_hangs 36 = .ok (.istore 5, 2) := by decide +kernel
theorem dX12_hangs_38 : decode cX12_hangs 38 = .ok (.iconst 0, 1) := by decide +kernel
theorem dX12_hangs_39 : decode cX12_hangs 39 = .ok (.istore 6, 2) := by decide +kernel
theorem dX12_hangs_41 : decode cX12_hangs 41 = .ok (.iload 6, 2) := by decide +kernel
theorem dX12_hangs_43 : decode cX12_hangs 43 = .ok (.iload 5, 2) := by decide +kernel
theorem dX12_hangs_45 : decode cX12_hangs 45 = .ok (.if_icmp .eq 63, 3) := by decide +kernel
theorem dX12_hangs_48 : decode cX12_hangs 48 = .ok (.iload 5, 2) := by decide +kernel
theorem dX12_hangs_50 : decode cX12_hangs 50 = .ok (.istore 6, 2) := by decide +kernel
theorem dX12_hangs_52 : decode cX12_hangs 52 = .ok (.iconst 0, 1) := by decide +kernel
theorem dX12_hangs_53 : decode cX12_hangs 53 = .ok (.istore 7, 2) := by decide +kernel
theorem dX12_hangs_55 : decode cX12_hangs 55 = .ok (.iload 7, 2) := by decide +kernel
theorem dX12_hangs_57 : decode cX12_hangs 57 = .ok (.aload_n 0, 1) := by decide +kernel
theorem dX12_hangs_58 : decode cX12_hangs 58 = .ok (.iload_n 1, 1) := by decide +kernel
theorem dX12_hangs_59 : decode cX12_hangs 59 = .ok (.invokevirtual 76, 3) := by decide +kernel
theorem dX12_hangs_62 : decode cX12_hangs 62 = .ok (.if_icmp .ge 43, 3) := by decide +kernel
theorem dX12_hangs_65 : decode cX12_hangs 65 = .ok (.iload 5, 2) := by decide +kernel
theorem dX12_hangs_67 : decode cX12_hangs 67 = .ok (.iload 6, 2) := by decide +kernel
theorem dX12_hangs_69 : decode cX12_hangs 69 = .ok (.iload 7, 2) := by decide +kernel
theorem dX12_hangs_71 : decode cX12_hangs 71 = .ok (.invokestatic 89, 3) := by decide +kernel
theorem dX12_hangs_74 : decode cX12_hangs 74 = .ok (.ifCond .eq 21, 3) := by decide +kernel
theorem dX12_hangs_77 : decode cX12_hangs 77 = .ok (.aload_n 0, 1) := by decide +kernel
theorem dX12_hangs_78 : decode cX12_hangs 78 = .ok (.iload_n 1, 1) := by decide +kernel
theorem dX12_hangs_79 : decode cX12_hangs 79 = .ok (.iload 7, 2) := by decide +kernel
theorem dX12_hangs_81 : decode cX12_hangs 81 = .ok (.invokevirtual 86, 3) := by decide +kernel
theorem dX12_hangs_84 : decode cX12_hangs 84 = .ok (.aload_n 0, 1) := by decide +kernel
theorem dX12_hangs_85 : decode cX12_hangs 85 = .ok (.iload_n 1, 1) := by decide +kernel
theorem dX12_hangs_86 : decode cX12_hangs 86 = .ok (.iload 7, 2) := by decide +kernel
theorem dX12_hangs_88 : decode cX12_hangs 88 = .ok (.invokevirtual 97, 3) := by decide +kernel
theorem dX12_hangs_91 : decode cX12_hangs 91 = .ok (.ior, 1) := by decide +kernel
theorem dX12_hangs_92 : decode cX12_hangs 92 = .ok (.goto 4, 3) := by decide +kernel
theorem dX12_hangs_95 : decode cX12_hangs 95 = .ok (.iconst 0, 1) := by decide +kernel
theorem dX12_hangs_96 : decode cX12_hangs 96 = .ok (.ior, 1) := by decide +kernel
theorem dX12_hangs_97 : decode cX12_hangs 97 = .ok (.istore 5, 2) := by decide +kernel
theorem dX12_hangs_99 : decode cX12_hangs 99 = .ok (.iinc 7 1, 3) := by decide +kernel
theorem dX12_hangs_102 : decode cX12_hangs 102 = .ok (.goto (-47), 3) := by decide +kernel
theorem dX12_hangs_105 : decode cX12_hangs 105 = .ok (.goto (-64), 3) := by decide +kernel
theorem dX12_hangs_108 : decode cX12_hangs 108 = .ok (.iload_n 3, 1) := by decide +kernel
theorem dX12_hangs_109 : decode cX12_hangs 109 = .ok (.iload 5, 2) := by decide +kernel
theorem dX12_hangs_111 : decode cX12_hangs 111 = .ok (.ior, 1) := by decide +kernel
theorem dX12_hangs_112 : decode cX12_hangs 112 = .ok (.istore_n 3, 1) := by decide +kernel
theorem dX12_hangs_113 : decode cX12_hangs 113 = .ok (.iinc 4 1, 3) := by decide +kernel
theorem dX12_hangs_116 : decode cX12_hangs 116 = .ok (.goto (-109), 3) := by decide +kernel
theorem dX12_hangs_119 : decode cX12_hangs 119 = .ok (.iload_n 2, 1) := by decide +kernel
theorem dX12_hangs_120 : decode cX12_hangs 120 = .ok (.ireturn, 1) := by decide +kernel
theorem dX12_has_0 : decode cX12_has 0 = .ok (.iload_n 0, 1) := by decide +kernel
theorem dX12_has_1 : decode cX12_has 1 = .ok (.iload_n 1, 1) := by decide +kernel
theorem dX12_has_2 : decode cX12_has 2 = .ok (.ishr, 1) := by decide +kernel
theorem dX12_has_3 : decode cX12_has 3 = .ok (.iconst 1, 1) := by decide +kernel
theorem dX12_has_4 : decode cX12_has 4 = .ok (.iand, 1) := by decide +kernel
theorem dX12_has_5 : decode cX12_has 5 = .ok (.iconst 1, 1) := by decide +kernel
theorem dX12_has_6 : decode cX12_has 6 = .ok (.if_icmp .ne 7, 3) := by decide +kernel
theorem dX12_has_9 : decode cX12_has 9 = .ok (.iconst 1, 1) := by decide +kernel
theorem dX12_has_10 : decode cX12_has 10 = .ok (.goto 4, 3) := by decide +kernel
theorem dX12_has_13 : decode cX12_has 13 = .ok (.iconst 0, 1) := by decide +kernel
theorem dX12_has_14 : decode cX12_has 14 = .ok (.ireturn, 1) := by decide +kernel
theorem dX12_hasEnd_0 : decode cX12_hasEnd 0 = .ok (.iconst 0, 1) := by decide +kernel
theorem dX12_hasEnd_1 : decode cX12_hasEnd 1 = .ok (.istore 4, 2) := by decide +kernel
theorem dX12_hasEnd_3 : decode cX12_hasEnd 3 = .ok (.iload 4, 2) := by decide +kernel
theorem dX12_hasEnd_5 : decode cX12_hasEnd 5 = .ok (.aload_n 0, 1) := by decide +kernel
theorem dX12_hasEnd_6 : decode cX12_hasEnd 6 = .ok (.iload_n 1, 1) := by decide +kernel
theorem dX12_hasEnd_7 : decode cX12_hasEnd 7 = .ok (.invokevirtual 76, 3) := by decide +kernel
theorem dX12_hasEnd_10 : decode cX12_hasEnd 10 = .ok (.if_icmp .ge 59, 3) := by decide +kernel
theorem dX12_hasEnd_13 : decode cX12_hasEnd 13 = .ok (.iload_n 2, 1) := by decide +kernel
theorem dX12_hasEnd_14 : decode cX12_hasEnd 14 = .ok (.iconst 1, 1) := by decide +kernel
theorem dX12_hasEnd_15 : decode cX12_hasEnd 15 = .ok (.iload 4, 2) := by decide +kernel
theorem dX12_hasEnd_17 : decode cX12_hasEnd 17 = .ok (.ishl, 1) := by decide +kernel
theorem dX12_hasEnd_18 : decode cX12_hasEnd 18 = .ok (.iconst (-1), 1) := by decide +kernel
theorem dX12_hasEnd_19 : decode cX12_hasEnd 19 = .ok (.ixor, 1) := by decide +kernel
theorem dX12_hasEnd_20 : decode cX12_hasEnd 20 = .ok (.iand, 1) := by decide +kernel
theorem dX12_hasEnd_21 : decode cX12_hasEnd 21 = .ok (.istore 5, 2) := by decide +kernel
theorem dX12_hasEnd_23 : decode cX12_hasEnd 23 = .ok (.iload_n 2, 1) := by decide +kernel
theorem dX12_hasEnd_24 : decode cX12_hasEnd 24 = .ok (.iload 4, 2) := by decide +kernel
theorem dX12_hasEnd_26 : decode cX12_hasEnd 26 = .ok (.invokestatic 89, 3) := by decide +kernel
theorem dX12_hasEnd_29 : decode cX12_hasEnd 29 = .ok (.ifCond .eq 34, 3) := by decide +kernel
theorem dX12_hasEnd_32 : decode cX12_hasEnd 32 = .ok (.iload 5, 2) := by decide +kernel
theorem dX12_hasEnd_34 : decode cX12_hasEnd 34 = .ok (.iload_n 3, 1) := by decide +kernel
theorem dX12_hasEnd_35 : decode cX12_hasEnd 35 = .ok (.ifCond .eq 13, 3) := by decide +kernel
theorem dX12_hasEnd_38 : decode cX12_hasEnd 38 = .ok (.aload_n 0, 1) := by decide +kernel
theorem dX12_hasEnd_39 : decode cX12_hasEnd 39 = .ok (.iload_n 1, 1) := by decide +kernel
theorem dX12_hasEnd_40 : decode cX12_hasEnd 40 = .ok (.iload 4, 2) := by decide +kernel
theorem dX12_hasEnd_42 : decode cX12_hasEnd 42 = .ok (.invokevirtual 97, 3) := by decide +kernel
theorem dX12_hasEnd_45 : decode cX12_hasEnd 45 = .ok (.goto 10, 3) := by decide +kernel
theorem dX12_hasEnd_48 : decode cX12_hasEnd 48 = .ok (.aload_n 0, 1) := by decide +kernel
theorem dX12_hasEnd_49 : decode cX12_hasEnd 49 = .ok (.iload_n 1, 1) := by decide +kernel
theorem dX12_hasEnd_50 : decode cX12_hasEnd 50 = .ok (.iload 4, 2) := by decide +kernel
theorem dX12_hasEnd_52 : decode cX12_hasEnd 52 = .ok (.invokevirtual 86, 3) := by decide +kernel
theorem dX12_hasEnd_55 : decode cX12_hasEnd 55 = .ok (.iconst (-1), 1) := by decide +kernel
theorem dX12_hasEnd_56 : decode cX12_hasEnd 56 = .ok (.ixor, 1) := by decide +kernel
theorem dX12_hasEnd_57 : decode cX12_hasEnd 57 = .ok (.iand, 1) := by decide +kernel
theorem dX12_hasEnd_58 : decode cX12_hasEnd 58 = .ok (.ifCond .ne 5, 3) := by decide +kernel
theorem dX12_hasEnd_61 : decode cX12_hasEnd 61 = .ok (.iconst 1, 1) := by decide +kernel
theorem dX12_hasEnd_62 : decode cX12_hasEnd 62 = .ok (.ireturn, 1) := by decide +kernel
theorem dX12_hasEnd_63 : decode cX12_hasEnd 63 = .ok (.iinc 4 1, 3) := by decide +kernel
theorem dX12_hasEnd_66 : decode cX12_hasEnd 66 = .ok (.goto (-63), 3) := by decide +kernel
theorem dX12_hasEnd_69 : decode cX12_hasEnd 69 = .ok (.iconst 0, 1) := by decide +kernel
theorem dX12_hasEnd_70 : decode cX12_hasEnd 70 = .ok (.ireturn, 1) := by decide +kernel
theorem dX12_height_0 : decode cX12_height 0 = .ok (.iconst 0, 1) := by decide +kernel
theorem dX12_height_1 : decode cX12_height 1 = .ok (.istore_n 2, 1) := by decide +kernel
theorem dX12_height_2 : decode cX12_height 2 = .ok (.iconst 0, 1) := by decide +kernel
theorem dX12_height_3 : decode cX12_height 3 = .ok (.istore_n 3, 1) := by decide +kernel
theorem dX12_height_4 : decode cX12_height 4 = .ok (.iload_n 3, 1) := by decide +kernel
theorem dX12_height_5 : decode cX12_height 5 = .ok (.aload_n 0, 1) := by decide +kernel
theorem dX12_height_6 : decode cX12_height 6 = .ok (.iload_n 1, 1) := by decide +kernel
theorem dX12_height_7 : decode cX12_height 7 = .ok (.invokevirtual 76, 3) := by decide +kernel
theorem dX12_height_10 : decode cX12_height 10 = .ok (.if_icmp .ge 21, 3) := by decide +kernel
theorem dX12_height_13 : decode cX12_height 13 = .ok (.iload_n 2, 1) := by decide +kernel
theorem dX12_height_14 : decode cX12_height 14 = .ok (.aload_n 0, 1) := by decide +kernel
theorem dX12_height_15 : decode cX12_height 15 = .ok (.iload_n 1, 1) := by decide +kernel
theorem dX12_height_16 : decode cX12_height 16 = .ok (.iload_n 3, 1) := by decide +kernel
theorem dX12_height_17 : decode cX12_height 17 = .ok (.iconst 1, 1) := by decide +kernel
theorem dX12_height_18 : decode cX12_height 18 = .ok (.invokevirtual 208, 3) := by decide +kernel
theorem dX12_height_21 : decode cX12_height 21 = .ok (.invokestatic 212, 3) := by decide +kernel
theorem dX12_height_24 : decode cX12_height 24 = .ok (.istore_n 2, 1) := by decide +kernel
theorem dX12_height_25 : decode cX12_height 25 = .ok (.iinc 3 1, 3) := by decide +kernel
theorem dX12_height_28 : decode cX12_height 28 = .ok (.goto (-24), 3) := by decide +kernel
theorem dX12_height_31 : decode cX12_height 31 = .ok (.iload_n 2, 1) := by decide +kernel
theorem dX12_height_32 : decode cX12_height 32 = .ok (.ireturn, 1) := by decide +kernel
theorem dX12_here_0 : decode cX12_here 0 = .ok (.aload_n 0, 1) := by decide +kernel
theorem dX12_here_1 : decode cX12_here 1 = .ok (.getfield 143, 3) := by decide +kernel
theorem dX12_here_4 : decode cX12_here 4 = .ok (.ifCond .eq 5, 3) := by decide +kernel
theorem dX12_here_7 : decode cX12_here 7 = .ok (.iload_n 1, 1) := by decide +kernel
theorem dX12_here_8 : decode cX12_here 8 = .ok (.ireturn, 1) := by decide +kernel
theorem dX12_here_9 : decode cX12_here 9 = .ok (.aload_n 0, 1) := by decide +kernel
theorem dX12_here_10 : decode cX12_here 10 = .ok (.getfield 135, 3) := by decide +kernel
theorem dX12_here_13 : decode cX12_here 13 = .ok (.iconst 2, 1) := by decide +kernel
theorem dX12_here_14 : decode cX12_here 14 = .ok (.if_icmp .eq 11, 3) := by decide +kernel
theorem dX12_here_17 : decode cX12_here 17 = .ok (.aload_n 0, 1) := by decide +kernel
theorem dX12_here_18 : decode cX12_here 18 = .ok (.iconst 1, 1) := by decide +kernel
theorem dX12_here_19 : decode cX12_here 19 = .ok (.invokevirtual 163, 3) := by decide +kernel
theorem dX12_here_22 : decode cX12_here 22 = .ok (.goto 23, 3) := by decide +kernel
theorem dX12_here_25 : decode cX12_here 25 = .ok (.aload_n 0, 1) := by decide +kernel
theorem dX12_here_26 : decode cX12_here 26 = .ok (.getfield 132, 3) := by decide +kernel
theorem dX12_here_29 : decode cX12_here 29 = .ok (.i2l, 1) := by decide +kernel
theorem dX12_here_30 : decode cX12_here 30 = .ok (.iload_n 1, 1) := by decide +kernel
theorem dX12_here_31 : decode cX12_here 31 = .ok (.i2l, 1) := by decide +kernel
theorem dX12_here_32 : decode cX12_here 32 = .ok (.iload_n 2, 1) := by decide +kernel
theorem dX12_here_33 : decode cX12_here 33 = .ok (.i2l, 1) := by decide +kernel
theorem dX12_here_34 : decode cX12_here 34 = .ok (.invokestatic 64, 3) := by decide +kernel
theorem dX12_here_37 : decode cX12_here 37 = .ok (.ifCond .ne 8, 3) := by decide +kernel
theorem dX12_here_40 : decode cX12_here 40 = .ok (.aload_n 0, 1) := by decide +kernel
theorem dX12_here_41 : decode cX12_here 41 = .ok (.iconst 2, 1) := by decide +kernel
theorem dX12_here_42 : decode cX12_here 42 = .ok (.invokevirtual 163, 3) := by decide +kernel
theorem dX12_here_45 : decode cX12_here 45 = .ok (.aload_n 0, 1) := by decide +kernel
theorem dX12_here_46 : decode cX12_here 46 = .ok (.getfield 143, 3) := by decide +kernel
theorem dX12_here_49 : decode cX12_here 49 = .ok (.ifCond .eq 7, 3) := by decide +kernel
theorem dX12_here_52 : decode cX12_here 52 = .ok (.iload_n 1, 1) := by decide +kernel
theorem dX12_here_53 : decode cX12_here 53 = .ok (.goto 7, 3) := by decide +kernel
theorem dX12_here_56 : decode cX12_here 56 = .ok (.aload_n 0, 1) := by decide +kernel
theorem dX12_here_57 : decode cX12_here 57 = .ok (.getfield 132, 3) := by decide +kernel
theorem dX12_here_60 : decode cX12_here 60 = .ok (.ireturn, 1) := by decide +kernel
theorem dX12_in_0 : decode cX12_in 0 = .ok (.lload_n 0, 1) := by decide +kernel
theorem dX12_in_1 : decode cX12_in 1 = .ok (.lload_n 2, 1) := by decide +kernel
theorem dX12_in_2 : decode cX12_in 2 = .ok (.lcmp, 1) := by decide +kernel
theorem dX12_in_3 : decode cX12_in 3 = .ok (.ifCond .lt 14, 3) := by decide +kernel
theorem dX12_in_6 : decode cX12_in 6 = .ok (.lload_n 0, 1) := by decide +kernel
theorem dX12_in_7 : decode cX12_in 7 = .ok (.lload 4, 2) := by decide +kernel
theorem dX12_in_9 : decode cX12_in 9 = .ok (.lcmp, 1) := by decide +kernel
theorem dX12_in_10 : decode cX12_in 10 = .ok (.ifCond .gt 7, 3) := by decide +kernel
theorem dX12_in_13 : decode cX12_in 13 = .ok (.iconst 1, 1) := by decide +kernel
theorem dX12_in_14 : decode cX12_in 14 = .ok (.goto 4, 3) := by decide +kernel
theorem dX12_in_17 : decode cX12_in 17 = .ok (.iconst 0, 1) := by decide +kernel
theorem dX12_in_18 : decode cX12_in 18 = .ok (.ireturn, 1) := by decide +kernel
theorem dX12_init_0 : decode cX12_init 0 = .ok (.aload_n 0, 1) := by decide +kernel
theorem dX12_init_1 : decode cX12_init 1 = .ok (.invokespecial 1, 3) := by decide +kernel
theorem dX12_init_4 : decode cX12_init 4 = .ok (.aload_n 0, 1) := by decide +kernel
theorem dX12_init_5 : decode cX12_init 5 = .ok (.sipush 174, 3) := by decide +kernel
theorem dX12_init_8 : decode cX12_init 8 = .ok (.newarray .int, 2) := by decide +kernel
theorem dX12_init_10 : decode cX12_init 10 = .ok (.putfield 7, 3) := by decide +kernel
theorem dX12_init_13 : decode cX12_init 13 = .ok (.aload_n 0, 1) := by decide +kernel
theorem dX12_init_14 : decode cX12_init 14 = .ok (.sipush 174, 3) := by decide +kernel
theorem dX12_init_17 : decode cX12_init 17 = .ok (.newarray .int, 2) := by decide +kernel
theorem dX12_init_19 : decode cX12_init 19 = .ok (.putfield 13, 3) := by decide +kernel
theorem dX12_init_22 : decode cX12_init 22 = .ok (.aload_n 0, 1) := by decide +kernel
theorem dX12_init_23 : decode cX12_init 23 = .ok (.sipush 1740, 3) := by decide +kernel
theorem dX12_init_26 : decode cX12_init 26 = .ok (.newarray .int, 2) := by decide +kernel
theorem dX12_init_28 : decode cX12_init 28 = .ok (.putfield 16, 3) := by decide +kernel
theorem dX12_init_31 : decode cX12_init 31 = .ok (.aload_n 0, 1) := by decide +kernel
theorem dX12_init_32 : decode cX12_init 32 = .ok (.sipush 400, 3) := by decide +kernel
theorem dX12_init_35 : decode cX12_init 35 = .ok (.newarray .int, 2) := by decide +kernel
theorem dX12_init_37 : decode cX12_init 37 = .ok (.putfield 19, 3) := by decide +kernel
theorem dX12_init_40 : decode cX12_init 40 = .ok (.aload_n 0, 1) := by decide +kernel
theorem dX12_init_41 : decode cX12_init 41 = .ok (.iconst (-1), 1) := by decide +kernel
theorem dX12_init_42 : decode cX12_init 42 = .ok (.putfield 22, 3) := by decide +kernel
theorem dX12_init_45 : decode cX12_init 45 = .ok (.aload_n 0, 1) := by decide +kernel
theorem dX12_init_46 : decode cX12_init 46 = .ok (.bipush 8, 2) := by decide +kernel
theorem dX12_init_48 : decode cX12_init 48 = .ok (.newarray .int, 2) := by decide +kernel
theorem dX12_init_50 : decode cX12_init 50 = .ok (.putfield 26, 3) := by decide +kernel
theorem dX12_init_53 : decode cX12_init 53 = .ok (.aload_n 0, 1) := by decide +kernel
theorem dX12_init_54 : decode cX12_init 54 = .ok (.sipush 256, 3) := by decide +kernel
theorem dX12_init_57 : decode cX12_init 57 = .ok (.newarray .int, 2) := by decide +kernel
theorem dX12_init_59 : decode cX12_init 59 = .ok (.putfield 29, 3) := by decide +kernel
theorem dX12_init_62 : decode cX12_init 62 = .ok (.aload_n 0, 1) := by decide +kernel
theorem dX12_init_63 : decode cX12_init 63 = .ok (.sipush 256, 3) := by decide +kernel
theorem dX12_init_66 : decode cX12_init 66 = .ok (.newarray .int, 2) := by decide +kernel
theorem dX12_init_68 : decode cX12_init 68 = .ok (.putfield 32, 3) := by decide +kernel
theorem dX12_init_71 : decode cX12_init 71 = .ok (.aload_n 0, 1) := by decide +kernel
theorem dX12_init_72 : decode cX12_init 72 = .ok (.bipush 8, 2) := by decide +kernel
theorem dX12_init_74 : decode cX12_init 74 = .ok (.newarray .int, 2) := by decide +kernel
theorem dX12_init_76 : decode cX12_init 76 = .ok (.putfield 35, 3) := by decide +kernel
theorem dX12_init_79 : decode cX12_init 79 = .ok (.aload_n 0, 1) := by decide +kernel
theorem dX12_init_80 : decode cX12_init 80 = .ok (.sipush 2048, 3) := by decide +kernel
theorem dX12_init_83 : decode cX12_init 83 = .ok (.newarray .int, 2) := by decide +kernel
theorem dX12_init_85 : decode cX12_init 85 = .ok (.putfield 38, 3) := by decide +kernel
theorem dX12_init_88 : decode cX12_init 88 = .ok (.aload_n 0, 1) := by decide +kernel
theorem dX12_init_89 : decode cX12_init 89 = .ok (.bipush 56, 2) := by decide +kernel
theorem dX12_init_91 : decode cX12_init 91 = .ok (.newarray .int, 2) := by decide +kernel
theorem dX12_init_93 : decode cX12_init 93 = .ok (.putfield 41, 3) := by decide +kernel
theorem dX12_init_96 : decode cX12_init 96 = .ok (.aload_n 0, 1) := by decide +kernel
theorem dX12_init_97 : decode cX12_init 97 = .ok (.bipush 56, 2) := by decide +kernel
theorem dX12_init_99 : decode cX12_init 99 = .ok (.newarray .int, 2) := by decide +kernel
theorem dX12_init_101 : decode cX12_init 101 = .ok (.putfield 44, 3) := by decide +kernel
theorem dX12_init_104 : decode cX12_init 104 = .ok (.aload_n 0, 1) := by decide +kernel
theorem dX12_init_105 : decode cX12_init 105 = .ok (.bipush 32, 2) := by decide +kernel
theorem dX12_init_107 : decode cX12_init 107 = .ok (.newarray .int, 2) := by decide +kernel
theorem dX12_init_109 : decode cX12_init 109 = .ok (.putfield 47, 3) := by decide +kernel
theorem dX12_init_112 : decode cX12_init 112 = .ok (.aload_n 0, 1) := by decide +kernel
theorem dX12_init_113 : decode cX12_init 113 = .ok (.bipush 56, 2) := by decide +kernel
theorem dX12_init_115 : decode cX12_init 115 = .ok (.newarray .int, 2) := by decide +kernel
theorem dX12_init_117 : decode cX12_init 117 = .ok (.putfield 50, 3) := by decide +kernel
theorem dX12_init_120 : decode cX12_init 120 = .ok (.aload_n 0, 1) := by decide +kernel
theorem dX12_init_121 : decode cX12_init 121 = .ok (.bipush 8, 2) := by decide +kernel
theorem dX12_init_123 : decode cX12_init 123 = .ok (.newarray .int, 2) := by decide +kernel
theorem dX12_init_125 : decode cX12_init 125 = .ok (.putfield 53, 3) := by decide +kernel
theorem dX12_init_128 : decode cX12_init 128 = .ok (.aload_n 0, 1) := by decide +kernel
theorem dX12_init_129 : decode cX12_init 129 = .ok (.bipush 8, 2) := by decide +kernel
theorem dX12_init_131 : decode cX12_init 131 = .ok (.newarray .int, 2) := by decide +kernel
theorem dX12_init_133 : decode cX12_init 133 = .ok (.putfield 56, 3) := by decide +kernel
theorem dX12_init_136 : decode cX12_init 136 = .ok (.aload_n 0, 1) := by decide +kernel
theorem dX12_init_137 : decode cX12_init 137 = .ok (.sipush 400, 3) := by decide +kernel
theorem dX12_init_140 : decode cX12_init 140 = .ok (.newarray .int, 2) := by decide +kernel
theorem dX12_init_142 : decode cX12_init 142 = .ok (.putfield 59, 3) := by decide +kernel
theorem dX12_init_145 : decode cX12_init 145 = .ok (.return_, 1) := by decide +kernel
theorem dX12_is_0 : decode cX12_is 0 = .ok (.aload_n 0, 1) := by decide +kernel
theorem dX12_is_1 : decode cX12_is 1 = .ok (.iload_n 1, 1) := by decide +kernel
theorem dX12_is_2 : decode cX12_is 2 = .ok (.invokevirtual 80, 3) := by decide +kernel
theorem dX12_is_5 : decode cX12_is 5 = .ok (.ifCond .eq 15, 3) := by decide +kernel
theorem dX12_is_8 : decode cX12_is 8 = .ok (.iload_n 2, 1) := by decide +kernel
theorem dX12_is_9 : decode cX12_is 9 = .ok (.i2l, 1) := by decide +kernel
theorem dX12_is_10 : decode cX12_is 10 = .ok (.lconst 0, 1) := by decide +kernel
theorem dX12_is_11 : decode cX12_is 11 = .ok (.ldc2_w 277, 3) := by decide +kernel
theorem dX12_is_14 : decode cX12_is 14 = .ok (.invokestatic 64, 3) := by decide +kernel
theorem dX12_is_17 : decode cX12_is 17 = .ok (.ifCond .ne 8, 3) := by decide +kernel
theorem dX12_is_20 : decode cX12_is 20 = .ok (.bipush (-2), 2) := by decide +kernel
theorem dX12_is_22 : decode cX12_is 22 = .ok (.goto 17, 3) := by decide +kernel
theorem dX12_is_25 : decode cX12_is 25 = .ok (.aload_n 0, 1) := by decide +kernel
theorem dX12_is_26 : decode cX12_is 26 = .ok (.iload_n 1, 1) := by decide +kernel
theorem dX12_is_27 : decode cX12_is 27 = .ok (.iload_n 2, 1) := by decide +kernel
theorem dX12_is_28 : decode cX12_is 28 = .ok (.invokevirtual 279, 3) := by decide +kernel
theorem dX12_is_31 : decode cX12_is 31 = .ok (.ifCond .eq 7, 3) := by decide +kernel
theorem dX12_is_34 : decode cX12_is 34 = .ok (.iconst 1, 1) := by decide +kernel
theorem dX12_is_35 : decode cX12_is 35 = .ok (.goto 4, 3) := by decide +kernel
theorem dX12_is_38 : decode cX12_is 38 = .ok (.iconst 0, 1) := by decide +kernel
theorem dX12_is_39 : decode cX12_is 39 = .ok (.ireturn, 1) := by decide +kernel
theorem dX12_isAnti_0 : decode cX12_isAnti 0 = .ok (.iconst 0, 1) := by decide +kernel
theorem dX12_isAnti_1 : decode cX12_isAnti 1 = .ok (.istore_n 3, 1) := by decide +kernel
theorem dX12_isAnti_2 : decode cX12_isAnti 2 = .ok (.iload_n 3, 1) := by decide +kernel
theorem dX12_isAnti_3 : decode cX12_isAnti 3 = .ok (.aload_n 0, 1) := by decide +kernel
theorem dX12_isAnti_4 : decode cX12_isAnti 4 = .ok (.iload_n 1, 1) := by decide +kernel
theorem dX12_isAnti_5 : decode cX12_isAnti 5 = .ok (.invokevirtual 76, 3) := by decide +kernel
theorem dX12_isAnti_8 : decode cX12_isAnti 8 = .ok (.if_icmp .ge 30, 3) := by decide +kernel
theorem dX12_isAnti_11 : decode cX12_isAnti 11 = .ok (.iload_n 2, 1) := by decide +kernel
theorem dX12_isAnti_12 : decode cX12_isAnti 12 = .ok (.iload_n 3, 1) := by decide +kernel
theorem dX12_isAnti_13 : decode cX12_isAnti 13 = .ok (.invokestatic 89, 3) := by decide +kernel
theorem dX12_isAnti_16 : decode cX12_isAnti 16 = .ok (.ifCond .eq 16, 3) := by decide +kernel
theorem dX12_isAnti_19 : decode cX12_isAnti 19 = .ok (.aload_n 0, 1) := by decide +kernel
theorem dX12_isAnti_20 : decode cX12_isAnti 20 = .ok (.iload_n 1, 1) := by decide +kernel
theorem dX12_isAnti_21 : decode cX12_isAnti 21 = .ok (.iload_n 3, 1) := by decide +kernel
theorem dX12_isAnti_22 : decode cX12_isAnti 22 = .ok (.invokevirtual 86, 3) := by decide +kernel
theorem dX12_isAnti_25 : decode cX12_isAnti 25 = .ok (.iload_n 2, 1) := by decide +kernel
theorem dX12_isAnti_26 : decode cX12_isAnti 26 = .ok (.iand, 1) := by decide +kernel
theorem dX12_isAnti_27 : decode cX12_isAnti 27 = .ok (.ifCond .eq 5, 3) := by decide +kernel
theorem dX12_isAnti_30 : decode cX12_isAnti 30 = .ok (.iconst 0, 1) := by decide +kernel
theorem dX12_isAnti_31 : decode cX12_isAnti 31 = .ok (.ireturn, 1) := by decide +kernel
theorem dX12_isAnti_32 : decode cX12_isAnti 32 = .ok (.iinc 3 1, 3) := by decide +kernel
theorem dX12_isAnti_35 : decode cX12_isAnti 35 = .ok (.goto (-33), 3) := by decide +kernel
theorem dX12_isAnti_38 : decode cX12_isAnti 38 = .ok (.iconst 1, 1) := by decide +kernel
theorem dX12_isAnti_39 : decode cX12_isAnti 39 = .ok (.ireturn, 1) := by decide +kernel
theorem dX12_isAt_0 : decode cX12_isAt 0 = .ok (.aload_n 0, 1) := by decide +kernel
theorem dX12_isAt_1 : decode cX12_isAt 1 = .ok (.getfield 123, 3) := by decide +kernel
theorem dX12_isAt_4 : decode cX12_isAt 4 = .ok (.aload_n 0, 1) := by decide +kernel
theorem dX12_isAt_5 : decode cX12_isAt 5 = .ok (.getfield 120, 3) := by decide +kernel
theorem dX12_isAt_8 : decode cX12_isAt 8 = .ok (.if_icmp .ge 27, 3) := by decide +kernel
theorem dX12_isAt_11 : decode cX12_isAt 11 = .ok (.aload_n 0, 1) := by decide +kernel
theorem dX12_isAt_12 : decode cX12_isAt 12 = .ok (.getfield 19, 3) := by decide +kernel
theorem dX12_isAt_15 : decode cX12_isAt 15 = .ok (.aload_n 0, 1) := by decide +kernel
theorem dX12_isAt_16 : decode cX12_isAt 16 = .ok (.getfield 123, 3) := by decide +kernel
theorem dX12_isAt_19 : decode cX12_isAt 19 = .ok (.iaload, 1) := by decide +kernel
theorem dX12_isAt_20 : decode cX12_isAt 20 = .ok (.i2l, 1) := by decide +kernel
theorem dX12_isAt_21 : decode cX12_isAt 21 = .ok (.iload_n 1, 1) := by decide +kernel
theorem dX12_isAt_22 : decode cX12_isAt 22 = .ok (.i2l, 1) := by decide +kernel
theorem dX12_isAt_23 : decode cX12_isAt 23 = .ok (.iload_n 2, 1) := by decide +kernel
theorem dX12_isAt_24 : decode cX12_isAt 24 = .ok (.i2l, 1) := by decide +kernel
theorem dX12_isAt_25 : decode cX12_isAt 25 = .ok (.invokestatic 64, 3) := by decide +kernel
theorem dX12_isAt_28 : decode cX12_isAt 28 = .ok (.ifCond .eq 7, 3) := by decide +kernel
theorem dX12_isAt_31 : decode cX12_isAt 31 = .ok (.iconst 1, 1) := by decide +kernel
theorem dX12_isAt_32 : decode cX12_isAt 32 = .ok (.goto 4, 3) := by decide +kernel
theorem dX12_isAt_35 : decode cX12_isAt 35 = .ok (.iconst 0, 1) := by decide +kernel
theorem dX12_isAt_36 : decode cX12_isAt 36 = .ok (.ireturn, 1) := by decide +kernel
theorem dX12_isBelow_0 : decode cX12_isBelow 0 = .ok (.aload_n 0, 1) := by decide +kernel
theorem dX12_isBelow_1 : decode cX12_isBelow 1 = .ok (.iload_n 1, 1) := by decide +kernel
theorem dX12_isBelow_2 : decode cX12_isBelow 2 = .ok (.iload_n 3, 1) := by decide +kernel
theorem dX12_isBelow_3 : decode cX12_isBelow 3 = .ok (.invokevirtual 86, 3) := by decide +kernel
theorem dX12_isBelow_6 : decode cX12_isBelow 6 = .ok (.iload_n 2, 1) := by decide +kernel
theorem dX12_isBelow_7 : decode cX12_isBelow 7 = .ok (.invokestatic 89, 3) := by decide +kernel
theorem dX12_isBelow_10 : decode cX12_isBelow 10 = .ok (.ireturn, 1) := by decide +kernel
theorem dX12_isCover_0 : decode cX12_isCover 0 = .ok (.aload_n 0, 1) := by decide +kernel
theorem dX12_isCover_1 : decode cX12_isCover 1 = .ok (.iload_n 1, 1) := by decide +kernel
theorem dX12_isCover_2 : decode cX12_isCover 2 = .ok (.iload_n 2, 1) := by decide +kernel
theorem dX12_isCover_3 : decode cX12_isCover 3 = .ok (.iload_n 3, 1) := by decide +kernel
theorem dX12_isCover_4 : decode cX12_isCover 4 = .ok (.invokevirtual 93, 3) := by decide +kernel
theorem dX12_isCover_7 : decode cX12_isCover 7 = .ok (.ifCond .eq 23, 3) := by decide +kernel
theorem dX12_isCover_10 : decode cX12_isCover 10 = .ok (.aload_n 0, 1) := by decide +kernel
theorem dX12_isCover_11 : decode cX12_isCover 11 = .ok (.iload_n 1, 1) := by decide +kernel
theorem dX12_isCover_12 : decode cX12_isCover 12 = .ok (.iload_n 2, 1) := by decide +kernel
theorem dX12_isCover_13 : decode cX12_isCover 13 = .ok (.invokevirtual 97, 3) := by decide +kernel
theorem dX12_isCover_16 : decode cX12_isCover 16 = .ok (.aload_n 0, 1) := by decide +kernel
theorem dX12_isCover_17 : decode cX12_isCover 17 = .ok (.iload_n 1, 1) := by decide +kernel
theorem dX12_isCover_18 : decode cX12_isCover 18 = .ok (.iload_n 3, 1) := by decide +kernel
theorem dX12_isCover_19 : decode cX12_isCover 19 = .ok (.invokevirtual 86, 3) := by decide +kernel
theorem dX12_isCover_22 : decode cX12_isCover 22 = .ok (.iand, 1) := by decide +kernel
theorem dX12_isCover_23 : decode cX12_isCover 23 = .ok (.ifCond .ne 7, 3) := by decide +kernel
theorem dX12_isCover_26 : decode cX12_isCover 26 = .ok (.iconst 1, 1) := by decide +kernel
theorem dX12_isCover_27 : decode cX12_isCover 27 = .ok (.goto 4, 3) := by decide +kernel
theorem dX12_isCover_30 : decode cX12_isCover 30 = .ok (.iconst 0, 1) := by decide +kernel
theorem dX12_isCover_31 : decode cX12_isCover 31 = .ok (.ireturn, 1) := by decide +kernel
theorem dX12_isIdeal_0 : decode cX12_isIdeal 0 = .ok (.iconst 0, 1) := by decide +kernel
theorem dX12_isIdeal_1 : decode cX12_isIdeal 1 = .ok (.istore_n 3, 1) := by decide +kernel
theorem dX12_isIdeal_2 : decode cX12_isIdeal 2 = .ok (.iload_n 3, 1) := by decide +kernel
theorem dX12_isIdeal_3 : decode cX12_isIdeal 3 = .ok (.aload_n 0, 1) := by decide +kernel
theorem dX12_isIdeal_4 : decode cX12_isIdeal 4 = .ok (.iload_n 1, 1) := by decide +kernel
theorem dX12_isIdeal_5 : decode cX12_isIdeal 5 = .ok (.invokevirtual 76, 3) := by decide +kernel
theorem dX12_isIdeal_8 : decode cX12_isIdeal 8 = .ok (.if_icmp .ge 32, 3) := by decide +kernel
theorem dX12_isIdeal_11 : decode cX12_isIdeal 11 = .ok (.iload_n 2, 1) := by decide +kernel
theorem dX12_isIdeal_12 : decode cX12_isIdeal 12 = .ok (.iload_n 3, 1) := by decide +kernel
theorem dX12_isIdeal_13 : decode cX12_isIdeal 13 = .ok (.invokestatic 89, 3) := by decide +kernel
theorem dX12_isIdeal_16 : decode cX12_isIdeal 16 = .ok (.ifCond .eq 18, 3) := by decide +kernel
theorem dX12_isIdeal_19 : decode cX12_isIdeal 19 = .ok (.aload_n 0, 1) := by decide +kernel
theorem dX12_isIdeal_20 : decode cX12_isIdeal 20 = .ok (.iload_n 1, 1) := by decide +kernel
theorem dX12_isIdeal_21 : decode cX12_isIdeal 21 = .ok (.iload_n 3, 1) := by decide +kernel
theorem dX12_isIdeal_22 : decode cX12_isIdeal 22 = .ok (.invokevirtual 86, 3) := by decide +kernel
theorem dX12_isIdeal_25 : decode cX12_isIdeal 25 = .ok (.iload_n 2, 1) := by decide +kernel
theorem dX12_isIdeal_26 : decode cX12_isIdeal 26 = .ok (.iconst (-1), 1) := by decide +kernel
theorem dX12_isIdeal_27 : decode cX12_isIdeal 27 = .ok (.ixor, 1) := by decide +kernel
theorem dX12_isIdeal_28 : decode cX12_isIdeal 28 = .ok (.iand, 1) := by decide +kernel
theorem dX12_isIdeal_29 : decode cX12_isIdeal 29 = .ok (.ifCond .eq 5, 3) := by decide +kernel
theorem dX12_isIdeal_32 : decode cX12_isIdeal 32 = .ok (.iconst 0, 1) := by decide +kernel
theorem dX12_isIdeal_33 : decode cX12_isIdeal 33 = .ok (.ireturn, 1) := by decide +kernel
theorem dX12_isIdeal_34 : decode cX12_isIdeal 34 = .ok (.iinc 3 1, 3) := by decide +kernel
theorem dX12_isIdeal_37 : decode cX12_isIdeal 37 = .ok (.goto (-35), 3) := by decide +kernel
theorem dX12_isIdeal_40 : decode cX12_isIdeal 40 = .ok (.iconst 1, 1) := by decide +kernel
theorem dX12_isIdeal_41 : decode cX12_isIdeal 41 = .ok (.ireturn, 1) := by decide +kernel
theorem dX12_isLattice_0 : decode cX12_isLattice 0 = .ok (.iconst 0, 1) := by decide +kernel
theorem dX12_isLattice_1 : decode cX12_isLattice 1 = .ok (.istore_n 2, 1) := by decide +kernel
theorem dX12_isLattice_2 : decode cX12_isLattice 2 = .ok (.iload_n 2, 1) := by decide +kernel
theorem dX12_isLattice_3 : decode cX12_isLattice 3 = .ok (.aload_n 0, 1) := by decide +kernel
theorem dX12_isLattice_4 : decode cX12_isLattice 4 = .ok (.iload_n 1, 1) := by decide +kernel
theorem dX12_isLattice_5 : decode cX12_isLattice 5 = .ok (.invokevirtual 76, 3) := by decide +kernel
theorem dX12_isLattice_8 : decode cX12_isLattice 8 = .ok (.if_icmp .ge 92, 3) := by decide +kernel
theorem dX12_isLattice_11 : decode cX12_isLattice 11 = .ok (.iconst 0, 1) := by decide +kernel
theorem dX12_isLattice_12 : decode cX12_isLattice 12 = .ok (.istore_n 3, 1) := by decide +kernel
theorem dX12_isLattice_13 : decode cX12_isLattice 13 = .ok (.iload_n 3, 1) := by decide +kernel
theorem dX12_isLattice_14 : decode cX12_isLattice 14 = .ok (.iload_n 2, 1) := by decide +kernel
theorem dX12_isLattice_15 : decode cX12_isLattice 15 = .ok (.if_icmp .ge 79, 3) := by decide +kernel
theorem dX12_isLattice_18 : decode cX12_isLattice 18 = .ok (.aload_n 0, 1) := by decide +kernel
theorem dX12_isLattice_19 : decode cX12_isLattice 19 = .ok (.iload_n 1, 1) := by decide +kernel
theorem dX12_isLattice_20 : decode cX12_isLattice 20 = .ok (.iload_n 2, 1) := by decide +kernel
theorem dX12_isLattice_21 : decode cX12_isLattice 21 = .ok (.invokevirtual 97, 3) := by decide +kernel
theorem dX12_isLattice_24 : decode cX12_isLattice 24 = .ok (.iconst 1, 1) := by decide +kernel
theorem dX12_isLattice_25 : decode cX12_isLattice 25 = .ok (.iload_n 2, 1) := by decide +kernel
theorem dX12_isLattice_26 : decode cX12_isLattice 26 = .ok (.ishl, 1) := by decide +kernel
theorem dX12_isLattice_27 : decode cX12_isLattice 27 = .ok (.ior, 1) := by decide +kernel
theorem dX12_isLattice_28 : decode cX12_isLattice 28 = .ok (.aload_n 0, 1) := by decide +kernel
theorem dX12_isLattice_29 : decode cX12_isLattice 29 = .ok (.iload_n 1, 1) := by decide +kernel
theorem dX12_isLattice_30 : decode cX12_isLattice 30 = .ok (.iload_n 3, 1) := by decide +kernel
theorem dX12_isLattice_31 : decode cX12_isLattice 31 = .ok (.invokevirtual 97, 3) := by decide +kernel
theorem dX12_isLattice_34 : decode cX12_isLattice 34 = .ok (.iconst 1, 1) := by decide +kernel
theorem dX12_isLattice_35 : decode cX12_isLattice 35 = .ok (.iload_n 3, 1) := by decide +kernel
theorem dX12_isLattice_36 : decode cX12_isLattice 36 = .ok (.ishl, 1) := by decide +kernel
theorem dX12_isLattice_37 : decode cX12_isLattice 37 = .ok (.ior, 1) := by decide +kernel
theorem dX12_isLattice_38 : decode cX12_isLattice 38 = .ok (.iand, 1) := by decide +kernel
theorem dX12_isLattice_39 : decode cX12_isLattice 39 = .ok (.istore 4, 2) := by decide +kernel
theorem dX12_isLattice_41 : decode cX12_isLattice 41 = .ok (.aload_n 0, 1) := by decide +kernel
theorem dX12_isLattice_42 : decode cX12_isLattice 42 = .ok (.iload_n 1, 1) := by decide +kernel
theorem dX12_isLattice_43 : decode cX12_isLattice 43 = .ok (.iload_n 2, 1) := by decide +kernel
theorem dX12_isLattice_44 : decode cX12_isLattice 44 = .ok (.invokevirtual 86, 3) := by decide +kernel
theorem dX12_isLattice_47 : decode cX12_isLattice 47 = .ok (.iconst 1, 1) := by decide +kernel
theorem dX12_isLattice_48 : decode cX12_isLattice 48 = .ok (.iload_n 2, 1) := by decide +kernel
theorem dX12_isLattice_49 : decode cX12_isLattice 49 = .ok (.ishl, 1) := by decide +kernel
theorem dX12_isLattice_50 : decode cX12_isLattice 50 = .ok (.ior, 1) := by decide +kernel
theorem dX12_isLattice_51 : decode cX12_isLattice 51 = .ok (.aload_n 0, 1) := by decide +kernel
theorem dX12_isLattice_52 : decode cX12_isLattice 52 = .ok (.iload_n 1, 1) := by decide +kernel
theorem dX12_isLattice_53 : decode cX12_isLattice 53 = .ok (.iload_n 3, 1) := by decide +kernel
theorem dX12_isLattice_54 : decode cX12_isLattice 54 = .ok (.invokevirtual 86, 3) := by decide +kernel
theorem dX12_isLattice_57 : decode cX12_isLattice 57 = .ok (.iconst 1, 1) := by decide +kernel
theorem dX12_isLattice_58 : decode cX12_isLattice 58 = .ok (.iload_n 3, 1) := by decide +kernel
theorem dX12_isLattice_59 : decode cX12_isLattice 59 = .ok (.ishl, 1) := by decide +kernel
theorem dX12_isLattice_60 : decode cX12_isLattice 60 = .ok (.ior, 1) := by decide +kernel
theorem dX12_isLattice_61 : decode cX12_isLattice 61 = .ok (.iand, 1) := by decide +kernel
theorem dX12_isLattice_62 : decode cX12_isLattice 62 = .ok (.istore 5, 2) := by decide +kernel
theorem dX12_isLattice_64 : decode cX12_isLattice 64 = .ok (.aload_n 0, 1) := by decide +kernel
theorem dX12_isLattice_65 : decode cX12_isLattice 65 = .ok (.iload_n 1, 1) := by decide +kernel
theorem dX12_isLattice_66 : decode cX12_isLattice 66 = .ok (.iload 4, 2) := by decide +kernel
theorem dX12_isLattice_68 : decode cX12_isLattice 68 = .ok (.iconst 1, 1) := by decide +kernel
theorem dX12_isLattice_69 : decode cX12_isLattice 69 = .ok (.invokevirtual 261, 3) := by decide +kernel
theorem dX12_isLattice_72 : decode cX12_isLattice 72 = .ok (.ifCond .eq 14, 3) := by decide +kernel
theorem dX12_isLattice_75 : decode cX12_isLattice 75 = .ok (.aload_n 0, 1) := by decide +kernel
theorem dX12_isLattice_76 : decode cX12_isLattice 76 = .ok (.iload_n 1, 1) := by decide +kernel
theorem dX12_isLattice_77 : decode cX12_isLattice 77 = .ok (.iload 5, 2) := by decide +kernel
theorem dX12_isLattice_79 : decode cX12_isLattice 79 = .ok (.iconst 0, 1) := by decide +kernel
theorem dX12_isLattice_80 : decode cX12_isLattice 80 = .ok (.invokevirtual 261, 3) := by decide +kernel
theorem dX12_isLattice_83 : decode cX12_isLattice 83 = .ok (.ifCond .ne 5, 3) := by decide +kernel
theorem dX12_isLattice_86 : decode cX12_isLattice 86 = .ok (.iconst 0, 1) := by decide +kernel
theorem dX12_isLattice_87 : decode cX12_isLattice 87 = .ok (.ireturn, 1) := by decide +kernel
theorem dX12_isLattice_88 : decode cX12_isLattice 88 = .ok (.iinc 3 1, 3) := by decide +kernel
theorem dX12_isLattice_91 : decode cX12_isLattice 91 = .ok (.goto (-78), 3) := by decide +kernel
theorem dX12_isLattice_94 : decode cX12_isLattice 94 = .ok (.iinc 2 1, 3) := by decide +kernel
theorem dX12_isLattice_97 : decode cX12_isLattice 97 = .ok (.goto (-95), 3) := by decide +kernel
theorem dX12_isLattice_100 : decode cX12_isLattice 100 = .ok (.iconst 1, 1) := by decide +kernel
theorem dX12_isLattice_101 : decode cX12_isLattice 101 = .ok (.ireturn, 1) := by decide +kernel
theorem dX12_isLevelled_0 : decode cX12_isLevelled 0 = .ok (.iconst 0, 1) := by decide +kernel
theorem dX12_isLevelled_1 : decode cX12_isLevelled 1 = .ok (.istore_n 2, 1) := by decide +kernel
theorem dX12_isLevelled_2 : decode cX12_isLevelled 2 = .ok (.iload_n 2, 1) := by decide +kernel
theorem dX12_isLevelled_3 : decode cX12_isLevelled 3 = .ok (.aload_n 0, 1) := by decide +kernel
theorem dX12_isLevelled_4 : decode cX12_isLevelled 4 = .ok (.iload_n 1, 1) := by decide +kernel
theorem dX12_isLevelled_5 : decode cX12_isLevelled 5 = .ok (.invokevirtual 76, 3) := by decide +kernel
theorem dX12_isLevelled_8 : decode cX12_isLevelled 8 = .ok (.if_icmp .ge 57, 3) := by decide +kernel
theorem dX12_isLevelled_11 : decode cX12_isLevelled 11 = .ok (.iconst 0, 1) := by decide +kernel
theorem dX12_isLevelled_12 : decode cX12_isLevelled 12 = .ok (.istore_n 3, 1) := by decide +kernel
theorem dX12_isLevelled_13 : decode cX12_isLevelled 13 = .ok (.iload_n 3, 1) := by decide +kernel
theorem dX12_isLevelled_14 : decode cX12_isLevelled 14 = .ok (.aload_n 0, 1) := by decide +kernel
theorem dX12_isLevelled_15 : decode cX12_isLevelled 15 = .ok (.iload_n 1, 1) := by decide +kernel
theorem dX12_isLevelled_16 : decode cX12_isLevelled 16 = .ok (.invokevirtual 76, 3) := by decide +kernel
theorem dX12_isLevelled_19 : decode cX12_isLevelled 19 = .ok (.if_icmp .ge 40, 3) := by decide +kernel
theorem dX12_isLevelled_22 : decode cX12_isLevelled 22 = .ok (.aload_n 0, 1) := by decide +kernel
theorem dX12_isLevelled_23 : decode cX12_isLevelled 23 = .ok (.iload_n 1, 1) := by decide +kernel
theorem dX12_isLevelled_24 : decode cX12_isLevelled 24 = .ok (.iload_n 2, 1) := by decide +kernel
theorem dX12_isLevelled_25 : decode cX12_isLevelled 25 = .ok (.iload_n 3, 1) := by decide +kernel
theorem dX12_isLevelled_26 : decode cX12_isLevelled 26 = .ok (.invokevirtual 236, 3) := by decide +kernel
theorem dX12_isLevelled_29 : decode cX12_isLevelled 29 = .ok (.ifCond .eq 24, 3) := by decide +kernel
theorem dX12_isLevelled_32 : decode cX12_isLevelled 32 = .ok (.aload_n 0, 1) := by decide +kernel
theorem dX12_isLevelled_33 : decode cX12_isLevelled 33 = .ok (.iload_n 1, 1) := by decide +kernel
theorem dX12_isLevelled_34 : decode cX12_isLevelled 34 = .ok (.iload_n 3, 1) := by decide +kernel
theorem dX12_isLevelled_35 : decode cX12_isLevelled 35 = .ok (.iconst 0, 1) := by decide +kernel
theorem dX12_isLevelled_36 : decode cX12_isLevelled 36 = .ok (.invokevirtual 208, 3) := by decide +kernel
theorem dX12_isLevelled_39 : decode cX12_isLevelled 39 = .ok (.aload_n 0, 1) := by decide +kernel
theorem dX12_isLevelled_40 : decode cX12_isLevelled 40 = .ok (.iload_n 1, 1) := by decide +kernel
theorem dX12_isLevelled_41 : decode cX12_isLevelled 41 = .ok (.iload_n 2, 1) := by decide +kernel
theorem dX12_isLevelled_42 : decode cX12_isLevelled 42 = .ok (.iconst 0, 1) := by decide +kernel
theorem dX12_isLevelled_43 : decode cX12_isLevelled 43 = .ok (.invokevirtual 208, 3) := by decide +kernel
theorem dX12_isLevelled_46 : decode cX12_isLevelled 46 = .ok (.iconst 1, 1) := by decide +kernel
theorem dX12_isLevelled_47 : decode cX12_isLevelled 47 = .ok (.iadd, 1) := by decide +kernel
theorem dX12_isLevelled_48 : decode cX12_isLevelled 48 = .ok (.if_icmp .eq 5, 3) := by decide +kernel
theorem dX12_isLevelled_51 : decode cX12_isLevelled 51 = .ok (.iconst 0, 1) := by decide +kernel
theorem dX12_isLevelled_52 : decode cX12_isLevelled 52 = .ok (.ireturn, 1) := by decide +kernel
theorem dX12_isLevelled_53 : decode cX12_isLevelled 53 = .ok (.iinc 3 1, 3) := by decide +kernel
theorem dX12_isLevelled_56 : decode cX12_isLevelled 56 = .ok (.goto (-43), 3) := by decide +kernel
theorem dX12_isLevelled_59 : decode cX12_isLevelled 59 = .ok (.iinc 2 1, 3) := by decide +kernel
theorem dX12_isLevelled_62 : decode cX12_isLevelled 62 = .ok (.goto (-60), 3) := by decide +kernel
theorem dX12_isLevelled_65 : decode cX12_isLevelled 65 = .ok (.iconst 1, 1) := by decide +kernel
theorem dX12_isLevelled_66 : decode cX12_isLevelled 66 = .ok (.ireturn, 1) := by decide +kernel
theorem dX12_isLine_0 : decode cX12_isLine 0 = .ok (.iconst 0, 1) := by decide +kernel
theorem dX12_isLine_1 : decode cX12_isLine 1 = .ok (.istore_n 3, 1) := by decide +kernel
theorem dX12_isLine_2 : decode cX12_isLine 2 = .ok (.iconst 0, 1) := by decide +kernel
theorem dX12_isLine_3 : decode cX12_isLine 3 = .ok (.istore 4, 2) := by decide +kernel
theorem dX12_isLine_5 : decode cX12_isLine 5 = .ok (.iload 4, 2) := by decide +kernel
theorem dX12_isLine_7 : decode cX12_isLine 7 = .ok (.aload_n 0, 1) := by decide +kernel
theorem dX12_isLine_8 : decode cX12_isLine 8 = .ok (.iload_n 1, 1) := by decide +kernel
theorem dX12_isLine_9 : decode cX12_isLine 9 = .ok (.invokevirtual 76, 3) := by decide +kernel
theorem dX12_isLine_12 : decode cX12_isLine 12 = .ok (.if_icmp .ge 42, 3) := by decide +kernel
theorem dX12_isLine_15 : decode cX12_isLine 15 = .ok (.aload_n 0, 1) := by decide +kernel
theorem dX12_isLine_16 : decode cX12_isLine 16 = .ok (.iload_n 1, 1) := by decide +kernel
theorem dX12_isLine_17 : decode cX12_isLine 17 = .ok (.iload_n 2, 1) := by decide +kernel
theorem dX12_isLine_18 : decode cX12_isLine 18 = .ok (.iload 4, 2) := by decide +kernel
theorem dX12_isLine_20 : decode cX12_isLine 20 = .ok (.invokevirtual 291, 3) := by decide +kernel
theorem dX12_isLine_23 : decode cX12_isLine 23 = .ok (.istore 5, 2) := by decide +kernel
theorem dX12_isLine_25 : decode cX12_isLine 25 = .ok (.aload_n 0, 1) := by decide +kernel
theorem dX12_isLine_26 : decode cX12_isLine 26 = .ok (.iload_n 1, 1) := by decide +kernel
theorem dX12_isLine_27 : decode cX12_isLine 27 = .ok (.iload 5, 2) := by decide +kernel
theorem dX12_isLine_29 : decode cX12_isLine 29 = .ok (.invokevirtual 86, 3) := by decide +kernel
theorem dX12_isLine_32 : decode cX12_isLine 32 = .ok (.iload_n 3, 1) := by decide +kernel
theorem dX12_isLine_33 : decode cX12_isLine 33 = .ok (.iconst (-1), 1) := by decide +kernel
theorem dX12_isLine_34 : decode cX12_isLine 34 = .ok (.ixor, 1) := by decide +kernel
theorem dX12_isLine_35 : decode cX12_isLine 35 = .ok (.iand, 1) := by decide +kernel
theorem dX12_isLine_36 : decode cX12_isLine 36 = .ok (.ifCond .eq 5, 3) := by decide +kernel
theorem dX12_isLine_39 : decode cX12_isLine 39 = .ok (.iconst 0, 1) := by decide +kernel
theorem dX12_isLine_40 : decode cX12_isLine 40 = .ok (.ireturn, 1) := by decide +kernel
theorem dX12_isLine_41 : decode cX12_isLine 41 = .ok (.iload_n 3, 1) := by decide +kernel
theorem dX12_isLine_42 : decode cX12_isLine 42 = .ok (.iconst 1, 1) := by decide +kernel
theorem dX12_isLine_43 : decode cX12_isLine 43 = .ok (.iload 5, 2) := by decide +kernel
theorem dX12_isLine_45 : decode cX12_isLine 45 = .ok (.ishl, 1) := by decide +kernel
theorem dX12_isLine_46 : decode cX12_isLine 46 = .ok (.ior, 1) := by decide +kernel
theorem dX12_isLine_47 : decode cX12_isLine 47 = .ok (.istore_n 3, 1) := by decide +kernel
theorem dX12_isLine_48 : decode cX12_isLine 48 = .ok (.iinc 4 1, 3) := by decide +kernel
theorem dX12_isLine_51 : decode cX12_isLine 51 = .ok (.goto (-46), 3) := by decide +kernel
theorem dX12_isLine_54 : decode cX12_isLine 54 = .ok (.iconst 1, 1) := by decide +kernel
theorem dX12_isLine_55 : decode cX12_isLine 55 = .ok (.ireturn, 1) := by decide +kernel
theorem dX12_isN_0 : decode cX12_isN 0 = .ok (.aload_n 0, 1) := by decide +kernel
theorem dX12_isN_1 : decode cX12_isN 1 = .ok (.iload_n 1, 1) := by decide +kernel
theorem dX12_isN_2 : decode cX12_isN 2 = .ok (.iload_n 2, 1) := by decide +kernel
theorem dX12_isN_3 : decode cX12_isN 3 = .ok (.iload 4, 2) := by decide +kernel
theorem dX12_isN_5 : decode cX12_isN 5 = .ok (.invokevirtual 93, 3) := by decide +kernel
theorem dX12_isN_8 : decode cX12_isN 8 = .ok (.ifCond .eq 62, 3) := by decide +kernel
theorem dX12_isN_11 : decode cX12_isN 11 = .ok (.aload_n 0, 1) := by decide +kernel
theorem dX12_isN_12 : decode cX12_isN 12 = .ok (.iload_n 1, 1) := by decide +kernel
theorem dX12_isN_13 : decode cX12_isN 13 = .ok (.iload_n 3, 1) := by decide +kernel
theorem dX12_isN_14 : decode cX12_isN 14 = .ok (.iload 4, 2) := by decide +kernel
theorem dX12_isN_16 : decode cX12_isN 16 = .ok (.invokevirtual 93, 3) := by decide +kernel
theorem dX12_isN_19 : decode cX12_isN 19 = .ok (.ifCond .eq 51, 3) := by decide +kernel
theorem dX12_isN_22 : decode cX12_isN 22 = .ok (.aload_n 0, 1) := by decide +kernel
theorem dX12_isN_23 : decode cX12_isN 23 = .ok (.iload_n 1, 1) := by decide +kernel
theorem dX12_isN_24 : decode cX12_isN 24 = .ok (.iload_n 3, 1) := by decide +kernel
theorem dX12_isN_25 : decode cX12_isN 25 = .ok (.iload 5, 2) := by decide +kernel
theorem dX12_isN_27 : decode cX12_isN 27 = .ok (.invokevirtual 93, 3) := by decide +kernel
theorem dX12_isN_30 : decode cX12_isN 30 = .ok (.ifCond .eq 40, 3) := by decide +kernel
theorem dX12_isN_33 : decode cX12_isN 33 = .ok (.aload_n 0, 1) := by decide +kernel
theorem dX12_isN_34 : decode cX12_isN 34 = .ok (.iload_n 1, 1) := by decide +kernel
theorem dX12_isN_35 : decode cX12_isN 35 = .ok (.iload_n 2, 1) := by decide +kernel
theorem dX12_isN_36 : decode cX12_isN 36 = .ok (.iload_n 3, 1) := by decide +kernel
theorem dX12_isN_37 : decode cX12_isN 37 = .ok (.invokevirtual 227, 3) := by decide +kernel
theorem dX12_isN_40 : decode cX12_isN 40 = .ok (.ifCond .eq 30, 3) := by decide +kernel
theorem dX12_isN_43 : decode cX12_isN 43 = .ok (.aload_n 0, 1) := by decide +kernel
theorem dX12_isN_44 : decode cX12_isN 44 = .ok (.iload_n 1, 1) := by decide +kernel
theorem dX12_isN_45 : decode cX12_isN 45 = .ok (.iload_n 2, 1) := by decide +kernel
theorem dX12_isN_46 : decode cX12_isN 46 = .ok (.iload 5, 2) := by decide +kernel
theorem dX12_isN_48 : decode cX12_isN 48 = .ok (.invokevirtual 227, 3) := by decide +kernel
theorem dX12_isN_51 : decode cX12_isN 51 = .ok (.ifCond .eq 19, 3) := by decide +kernel
theorem dX12_isN_54 : decode cX12_isN 54 = .ok (.aload_n 0, 1) := by decide +kernel
theorem dX12_isN_55 : decode cX12_isN 55 = .ok (.iload_n 1, 1) := by decide +kernel
theorem dX12_isN_56 : decode cX12_isN 56 = .ok (.iload 4, 2) := by decide +kernel
theorem dX12_isN_58 : decode cX12_isN 58 = .ok (.iload 5, 2) := by decide +kernel
theorem dX12_isN_60 : decode cX12_isN 60 = .ok (.invokevirtual 227, 3) := by decide +kernel
theorem dX12_isN_63 : decode cX12_isN 63 = .ok (.ifCond .eq 7, 3) := by decide +kernel
theorem dX12_isN_66 : decode cX12_isN 66 = .ok (.iconst 1, 1) := by decide +kernel
theorem dX12_isN_67 : decode cX12_isN 67 = .ok (.goto 4, 3) := by decide +kernel
theorem dX12_isN_70 : decode cX12_isN 70 = .ok (.iconst 0, 1) := by decide +kernel
theorem dX12_isN_71 : decode cX12_isN 71 = .ok (.ireturn, 1) := by decide +kernel
theorem dX12_isOfKind_0 : decode cX12_isOfKind 0 = .ok (.iload_n 2, 1) := by decide +kernel
theorem dX12_isOfKind_1 : decode cX12_isOfKind 1 = .ok (.iconst 2, 1) := by decide +kernel
theorem dX12_isOfKind_2 : decode cX12_isOfKind 2 = .ok (.if_icmp .ne 18, 3) := by decide +kernel
theorem dX12_isOfKind_5 : decode cX12_isOfKind 5 = .ok (.aload_n 0, 1) := by decide +kernel
theorem dX12_isOfKind_6 : decode cX12_isOfKind 6 = .ok (.iload_n 1, 1) := by decide +kernel
theorem dX12_isOfKind_7 : decode cX12_isOfKind 7 = .ok (.iload_n 3, 1) := by decide +kernel
theorem dX12_isOfKind_8 : decode cX12_isOfKind 8 = .ok (.iload 4, 2) := by decide +kernel
theorem dX12_isOfKind_10 : decode cX12_isOfKind 10 = .ok (.iload 5, 2) := by decide +kernel
theorem dX12_isOfKind_12 : decode cX12_isOfKind 12 = .ok (.iload 6, 2) := by decide +kernel
theorem dX12_isOfKind_14 : decode cX12_isOfKind 14 = .ok (.invokevirtual 247, 3) := by decide +kernel
theorem dX12_isOfKind_17 : decode cX12_isOfKind 17 = .ok (.goto 35, 3) := by decide +kernel
theorem dX12_isOfKind_20 : decode cX12_isOfKind 20 = .ok (.iload_n 2, 1) := by decide +kernel
theorem dX12_isOfKind_21 : decode cX12_isOfKind 21 = .ok (.iconst 3, 1) := by decide +kernel
theorem dX12_isOfKind_22 : decode cX12_isOfKind 22 = .ok (.if_icmp .ne 18, 3) := by decide +kernel
theorem dX12_isOfKind_25 : decode cX12_isOfKind 25 = .ok (.aload_n 0, 1) := by decide +kernel
theorem dX12_isOfKind_26 : decode cX12_isOfKind 26 = .ok (.iload_n 1, 1) := by decide +kernel
theorem dX12_isOfKind_27 : decode cX12_isOfKind 27 = .ok (.iload_n 3, 1) := by decide +kernel
theorem dX12_isOfKind_28 : decode cX12_isOfKind 28 = .ok (.iload 4, 2) := by decide +kernel
theorem dX12_isOfKind_30 : decode cX12_isOfKind 30 = .ok (.iload 5, 2) := by decide +kernel
theorem dX12_isOfKind_32 : decode cX12_isOfKind 32 = .ok (.iload 6, 2) := by decide +kernel
theorem dX12_isOfKind_34 : decode cX12_isOfKind 34 = .ok (.invokevirtual 251, 3) := by decide +kernel
theorem dX12_isOfKind_37 : decode cX12_isOfKind 37 = .ok (.goto 15, 3) := by decide +kernel
theorem dX12_isOfKind_40 : decode cX12_isOfKind 40 = .ok (.aload_n 0, 1) := by decide +kernel
theorem dX12_isOfKind_41 : decode cX12_isOfKind 41 = .ok (.iload_n 1, 1) := by decide +kernel
theorem dX12_isOfKind_42 : decode cX12_isOfKind 42 = .ok (.iload_n 3, 1) := by decide +kernel
theorem dX12_isOfKind_43 : decode cX12_isOfKind 43 = .ok (.iload 4, 2) := by decide +kernel
theorem dX12_isOfKind_45 : decode cX12_isOfKind 45 = .ok (.iload 5, 2) := by decide +kernel
theorem dX12_isOfKind_47 : decode cX12_isOfKind 47 = .ok (.iload 6, 2) := by decide +kernel
theorem dX12_isOfKind_49 : decode cX12_isOfKind 49 = .ok (.invokevirtual 254, 3) := by decide +kernel
theorem dX12_isOfKind_52 : decode cX12_isOfKind 52 = .ok (.ireturn, 1) := by decide +kernel
theorem dX12_isOrder_0 : decode cX12_isOrder 0 = .ok (.iload_n 1, 1) := by decide +kernel
theorem dX12_isOrder_1 : decode cX12_isOrder 1 = .ok (.invokestatic 72, 3) := by decide +kernel
theorem dX12_isOrder_4 : decode cX12_isOrder 4 = .ok (.ifCond .eq 15, 3) := by decide +kernel
theorem dX12_isOrder_7 : decode cX12_isOrder 7 = .ok (.aload_n 0, 1) := by decide +kernel
theorem dX12_isOrder_8 : decode cX12_isOrder 8 = .ok (.iload_n 1, 1) := by decide +kernel
theorem dX12_isOrder_9 : decode cX12_isOrder 9 = .ok (.invokevirtual 76, 3) := by decide +kernel
theorem dX12_isOrder_12 : decode cX12_isOrder 12 = .ok (.ifCond .le 7, 3) := by decide +kernel
theorem dX12_isOrder_15 : decode cX12_isOrder 15 = .ok (.iconst 1, 1) := by decide +kernel
theorem dX12_isOrder_16 : decode cX12_isOrder 16 = .ok (.goto 4, 3) := by decide +kernel
theorem dX12_isOrder_19 : decode cX12_isOrder 19 = .ok (.iconst 0, 1) := by decide +kernel
theorem dX12_isOrder_20 : decode cX12_isOrder 20 = .ok (.ireturn, 1) := by decide +kernel
theorem dX12_isRealizer_0 : decode cX12_isRealizer 0 = .ok (.aload_n 0, 1) := by decide +kernel
theorem dX12_isRealizer_1 : decode cX12_isRealizer 1 = .ok (.iload_n 1, 1) := by decide +kernel
theorem dX12_isRealizer_2 : decode cX12_isRealizer 2 = .ok (.invokevirtual 83, 3) := by decide +kernel
theorem dX12_isRealizer_5 : decode cX12_isRealizer 5 = .ok (.ifCond .le 15, 3) := by decide +kernel
theorem dX12_isRealizer_8 : decode cX12_isRealizer 8 = .ok (.aload_n 0, 1) := by decide +kernel
theorem dX12_isRealizer_9 : decode cX12_isRealizer 9 = .ok (.iload_n 1, 1) := by decide +kernel
theorem dX12_isRealizer_10 : decode cX12_isRealizer 10 = .ok (.invokevirtual 333, 3) := by decide +kernel
theorem dX12_isRealizer_13 : decode cX12_isRealizer 13 = .ok (.ifCond .eq 7, 3) := by decide +kernel
theorem dX12_isRealizer_16 : decode cX12_isRealizer 16 = .ok (.iconst 1, 1) := by decide +kernel
theorem dX12_isRealizer_17 : decode cX12_isRealizer 17 = .ok (.goto 4, 3) := by decide +kernel
theorem dX12_isRealizer_20 : decode cX12_isRealizer 20 = .ok (.iconst 0, 1) := by decide +kernel
theorem dX12_isRealizer_21 : decode cX12_isRealizer 21 = .ok (.istore_n 2, 1) := by decide +kernel
theorem dX12_isRealizer_22 : decode cX12_isRealizer 22 = .ok (.iconst 0, 1) := by decide +kernel
theorem dX12_isRealizer_23 : decode cX12_isRealizer 23 = .ok (.istore_n 3, 1) := by decide +kernel
theorem dX12_isRealizer_24 : decode cX12_isRealizer 24 = .ok (.iload_n 3, 1) := by decide +kernel
theorem dX12_isRealizer_25 : decode cX12_isRealizer 25 = .ok (.aload_n 0, 1) := by decide +kernel
theorem dX12_isRealizer_26 : decode cX12_isRealizer 26 = .ok (.iload_n 1, 1) := by decide +kernel
theorem dX12_isRealizer_27 : decode cX12_isRealizer 27 = .ok (.invokevirtual 76, 3) := by decide +kernel
theorem dX12_isRealizer_30 : decode cX12_isRealizer 30 = .ok (.if_icmp .ge 34, 3) := by decide +kernel
theorem dX12_isRealizer_33 : decode cX12_isRealizer 33 = .ok (.iload_n 2, 1) := by decide +kernel
theorem dX12_isRealizer_34 : decode cX12_isRealizer 34 = .ok (.ifCond .eq 30, 3) := by decide +kernel
theorem dX12_isRealizer_37 : decode cX12_isRealizer 37 = .ok (.aload_n 0, 1) := by decide +kernel
theorem dX12_isRealizer_38 : decode cX12_isRealizer 38 = .ok (.iload_n 1, 1) := by decide +kernel
theorem dX12_isRealizer_39 : decode cX12_isRealizer 39 = .ok (.iload_n 3, 1) := by decide +kernel
theorem dX12_isRealizer_40 : decode cX12_isRealizer 40 = .ok (.invokevirtual 330, 3) := by decide +kernel
theorem dX12_isRealizer_43 : decode cX12_isRealizer 43 = .ok (.aload_n 0, 1) := by decide +kernel
theorem dX12_isRealizer_44 : decode cX12_isRealizer 44 = .ok (.iload_n 1, 1) := by decide +kernel
theorem dX12_isRealizer_45 : decode cX12_isRealizer 45 = .ok (.iload_n 3, 1) := by decide +kernel
theorem dX12_isRealizer_46 : decode cX12_isRealizer 46 = .ok (.invokevirtual 86, 3) := by decide +kernel
theorem dX12_isRealizer_49 : decode cX12_isRealizer 49 = .ok (.if_icmp .ne 7, 3) := by decide +kernel
theorem dX12_isRealizer_52 : decode cX12_isRealizer 52 = .ok (.iconst 1, 1) := by decide +kernel
theorem dX12_isRealizer_53 : decode cX12_isRealizer 53 = .ok (.goto 4, 3) := by decide +kernel
theorem dX12_isRealizer_56 : decode cX12_isRealizer 56 = .ok (.iconst 0, 1) := by decide +kernel
theorem dX12_isRealizer_57 : decode cX12_isRealizer 57 = .ok (.istore_n 2, 1) := by decide +kernel
theorem dX12_isRealizer_58 : decode cX12_isRealizer 58 = .ok (.iinc 3 1, 3) := by decide +kernel
theorem dX12_isRealizer_61 : decode cX12_isRealizer 61 = .ok (.goto (-37), 3) := by decide +kernel
theorem dX12_isRealizer_64 : decode cX12_isRealizer 64 = .ok (.iload_n 2, 1) := by decide +kernel
theorem dX12_isRealizer_65 : decode cX12_isRealizer 65 = .ok (.ireturn, 1) := by decide +kernel
theorem dX12_isRow_0 : decode cX12_isRow 0 = .ok (.aload_n 0, 1) := by decide +kernel
theorem dX12_isRow_1 : decode cX12_isRow 1 = .ok (.iload_n 1, 1) := by decide +kernel
theorem dX12_isRow_2 : decode cX12_isRow 2 = .ok (.invokevirtual 80, 3) := by decide +kernel
theorem dX12_isRow_5 : decode cX12_isRow 5 = .ok (.ifCond .eq 24, 3) := by decide +kernel
theorem dX12_isRow_8 : decode cX12_isRow 8 = .ok (.iload_n 2, 1) := by decide +kernel
theorem dX12_isRow_9 : decode cX12_isRow 9 = .ok (.i2l, 1) := by decide +kernel
theorem dX12_isRow_10 : decode cX12_isRow 10 = .ok (.lconst 0, 1) := by decide +kernel
theorem dX12_isRow_11 : decode cX12_isRow 11 = .ok (.aload_n 0, 1) := by decide +kernel
theorem dX12_isRow_12 : decode cX12_isRow 12 = .ok (.iload_n 1, 1) := by decide +kernel
theorem dX12_isRow_13 : decode cX12_isRow 13 = .ok (.invokevirtual 83, 3) := by decide +kernel
theorem dX12_isRow_16 : decode cX12_isRow 16 = .ok (.iconst 1, 1) := by decide +kernel
theorem dX12_isRow_17 : decode cX12_isRow 17 = .ok (.isub, 1) := by decide +kernel
theorem dX12_isRow_18 : decode cX12_isRow 18 = .ok (.i2l, 1) := by decide +kernel
theorem dX12_isRow_19 : decode cX12_isRow 19 = .ok (.invokestatic 64, 3) := by decide +kernel
theorem dX12_isRow_22 : decode cX12_isRow 22 = .ok (.ifCond .eq 7, 3) := by decide +kernel
theorem dX12_isRow_25 : decode cX12_isRow 25 = .ok (.iconst 1, 1) := by decide +kernel
theorem dX12_isRow_26 : decode cX12_isRow 26 = .ok (.goto 4, 3) := by decide +kernel
theorem dX12_isRow_29 : decode cX12_isRow 29 = .ok (.iconst 0, 1) := by decide +kernel
theorem dX12_isRow_30 : decode cX12_isRow 30 = .ok (.ireturn, 1) := by decide +kernel
theorem dX12_isSign_0 : decode cX12_isSign 0 = .ok (.aload_n 0, 1) := by decide +kernel
theorem dX12_isSign_1 : decode cX12_isSign 1 = .ok (.getfield 143, 3) := by decide +kernel
theorem dX12_isSign_4 : decode cX12_isSign 4 = .ok (.ifCond .ne 28, 3) := by decide +kernel
theorem dX12_isSign_7 : decode cX12_isSign 7 = .ok (.aload_n 0, 1) := by decide +kernel
theorem dX12_isSign_8 : decode cX12_isSign 8 = .ok (.getfield 135, 3) := by decide +kernel
theorem dX12_isSign_11 : decode cX12_isSign 11 = .ok (.iconst 3, 1) := by decide +kernel
theorem dX12_isSign_12 : decode cX12_isSign 12 = .ok (.if_icmp .ne 20, 3) := by decide +kernel
theorem dX12_isSign_15 : decode cX12_isSign 15 = .ok (.aload_n 0, 1) := by decide +kernel
theorem dX12_isSign_16 : decode cX12_isSign 16 = .ok (.getfield 19, 3) := by decide +kernel
theorem dX12_isSign_19 : decode cX12_isSign 19 = .ok (.aload_n 0, 1) := by decide +kernel
theorem dX12_isSign_20 : decode cX12_isSign 20 = .ok (.getfield 129, 3) := by decide +kernel
theorem dX12_isSign_23 : decode cX12_isSign 23 = .ok (.iaload, 1) := by decide +kernel
theorem dX12_isSign_24 : decode cX12_isSign 24 = .ok (.iload_n 1, 1) := by decide +kernel
theorem dX12_isSign_25 : decode cX12_isSign 25 = .ok (.if_icmp .ne 7, 3) := by decide +kernel
theorem dX12_isSign_28 : decode cX12_isSign 28 = .ok (.iconst 1, 1) := by decide +kernel
theorem dX12_isSign_29 : decode cX12_isSign 29 = .ok (.goto 4, 3) := by decide +kernel
theorem dX12_isSign_32 : decode cX12_isSign 32 = .ok (.iconst 0, 1) := by decide +kernel
theorem dX12_isSign_33 : decode cX12_isSign 33 = .ok (.ireturn, 1) := by decide +kernel
theorem dX12_isSlot_0 : decode cX12_isSlot 0 = .ok (.iload_n 0, 1) := by decide +kernel
theorem dX12_isSlot_1 : decode cX12_isSlot 1 = .ok (.i2l, 1) := by decide +kernel
theorem dX12_isSlot_2 : decode cX12_isSlot 2 = .ok (.lconst 0, 1) := by decide +kernel
theorem dX12_isSlot_3 : decode cX12_isSlot 3 = .ok (.ldc2_w 62, 3) := by decide +kernel
theorem dX12_isSlot_6 : decode cX12_isSlot 6 = .ok (.invokestatic 64, 3) := by decide +kernel
theorem dX12_isSlot_9 : decode cX12_isSlot 9 = .ok (.ireturn, 1) := by decide +kernel
theorem dX12_isSo_0 : decode cX12_isSo 0 = .ok (.iload_n 2, 1) := by decide +kernel
theorem dX12_isSo_1 : decode cX12_isSo 1 = .ok (.tableswitch 112 0 5 #[39, 54, 68, 75, 82, 106], 39) := by decide +kernel
theorem dX12_isSo_40 : decode cX12_isSo 40 = .ok (.aload_n 0, 1) := by decide +kernel
theorem dX12_isSo_41 : decode cX12_isSo 41 = .ok (.iload_n 1, 1) := by decide +kernel
theorem dX12_isSo_42 : decode cX12_isSo 42 = .ok (.iconst 5, 1) := by decide +kernel
theorem dX12_isSo_43 : decode cX12_isSo 43 = .ok (.invokevirtual 265, 3) := by decide +kernel
theorem dX12_isSo_46 : decode cX12_isSo 46 = .ok (.ifCond .ne 7, 3) := by decide +kernel
theorem dX12_isSo_49 : decode cX12_isSo 49 = .ok (.iconst 1, 1) := by decide +kernel
theorem dX12_isSo_50 : decode cX12_isSo 50 = .ok (.goto 4, 3) := by decide +kernel
theorem dX12_isSo_53 : decode cX12_isSo 53 = .ok (.iconst 0, 1) := by decide +kernel
theorem dX12_isSo_54 : decode cX12_isSo 54 = .ok (.ireturn, 1) := by decide +kernel
theorem dX12_isSo_55 : decode cX12_isSo 55 = .ok (.aload_n 0, 1) := by decide +kernel
theorem dX12_isSo_56 : decode cX12_isSo 56 = .ok (.iload_n 1, 1) := by decide +kernel
theorem dX12_isSo_57 : decode cX12_isSo 57 = .ok (.invokevirtual 199, 3) := by decide +kernel
theorem dX12_isSo_60 : decode cX12_isSo 60 = .ok (.ifCond .ne 7, 3) := by decide +kernel
theorem dX12_isSo_63 : decode cX12_isSo 63 = .ok (.iconst 1, 1) := by decide +kernel
theorem dX12_isSo_64 : decode cX12_isSo 64 = .ok (.goto 4, 3) := by decide +kernel
theorem dX12_isSo_67 : decode cX12_isSo 67 = .ok (.iconst 0, 1) := by decide +kernel
theorem dX12_isSo_68 : decode cX12_isSo 68 = .ok (.ireturn, 1) := by decide +kernel
theorem dX12_isSo_69 : decode cX12_isSo 69 = .ok (.aload_n 0, 1) := by decide +kernel
theorem dX12_isSo_70 : decode cX12_isSo 70 = .ok (.iload_n 1, 1) := by decide +kernel
theorem dX12_isSo_71 : decode cX12_isSo 71 = .ok (.iconst 2, 1) := by decide +kernel
theorem dX12_isSo_72 : decode cX12_isSo 72 = .ok (.invokevirtual 268, 3) := by decide +kernel
theorem dX12_isSo_75 : decode cX12_isSo 75 = .ok (.ireturn, 1) := by decide +kernel
theorem dX12_isSo_76 : decode cX12_isSo 76 = .ok (.aload_n 0, 1) := by decide +kernel
theorem dX12_isSo_77 : decode cX12_isSo 77 = .ok (.iload_n 1, 1) := by decide +kernel
theorem dX12_isSo_78 : decode cX12_isSo 78 = .ok (.iconst 3, 1) := by decide +kernel
theorem dX12_isSo_79 : decode cX12_isSo 79 = .ok (.invokevirtual 268, 3) := by decide +kernel
theorem dX12_isSo_82 : decode cX12_isSo 82 = .ok (.ireturn, 1) := by decide +kernel
theorem dX12_isSo_83 : decode cX12_isSo 83 = .ok (.aload_n 0, 1) := by decide +kernel
theorem dX12_isSo_84 : decode cX12_isSo 84 = .ok (.iload_n 1, 1) := by decide +kernel
theorem dX12_isSo_85 : decode cX12_isSo 85 = .ok (.iconst 3, 1) := by decide +kernel
theorem dX12_isSo_86 : decode cX12_isSo 86 = .ok (.invokevirtual 268, 3) := by decide +kernel
theorem dX12_isSo_89 : decode cX12_isSo 89 = .ok (.ifCond .eq 16, 3) := by decide +kernel
theorem dX12_isSo_92 : decode cX12_isSo 92 = .ok (.aload_n 0, 1) := by decide +kernel
theorem dX12_isSo_93 : decode cX12_isSo 93 = .ok (.iload_n 1, 1) := by decide +kernel
theorem dX12_isSo_94 : decode cX12_isSo 94 = .ok (.iconst 4, 1) := by decide +kernel
theorem dX12_isSo_95 : decode cX12_isSo 95 = .ok (.invokevirtual 268, 3) := by decide +kernel
theorem dX12_isSo_98 : decode cX12_isSo 98 = .ok (.ifCond .eq 7, 3) := by decide +kernel
theorem dX12_isSo_101 : decode cX12_isSo 101 = .ok (.iconst 1, 1) := by decide +kernel
theorem dX12_isSo_102 : decode cX12_isSo 102 = .ok (.goto 4, 3) := by decide +kernel
theorem dX12_isSo_105 : decode cX12_isSo 105 = .ok (.iconst 0, 1) := by decide +kernel
theorem dX12_isSo_106 : decode cX12_isSo 106 = .ok (.ireturn, 1) := by decide +kernel
theorem dX12_isSo_107 : decode cX12_isSo 107 = .ok (.aload_n 0, 1) := by decide +kernel
theorem dX12_isSo_108 : decode cX12_isSo 108 = .ok (.iload_n 1, 1) := by decide +kernel
theorem dX12_isSo_109 : decode cX12_isSo 109 = .ok (.invokevirtual 271, 3) := by decide +kernel
theorem dX12_isSo_112 : decode cX12_isSo 112 = .ok (.ireturn, 1) := by decide +kernel
theorem dX12_isSo_113 : decode cX12_isSo 113 = .ok (.aload_n 0, 1) := by decide +kernel
theorem dX12_isSo_114 : decode cX12_isSo 114 = .ok (.iload_n 1, 1) := by decide +kernel
theorem dX12_isSo_115 : decode cX12_isSo 115 = .ok (.invokevirtual 274, 3) := by decide +kernel
theorem dX12_isSo_118 : decode cX12_isSo 118 = .ok (.ireturn, 1) := by decide +kernel
theorem dX12_isThing_0 : decode cX12_isThing 0 = .ok (.aload_n 0, 1) := by decide +kernel
theorem dX12_isThing_1 : decode cX12_isThing 1 = .ok (.iload_n 1, 1) := by decide +kernel
theorem dX12_isThing_2 : decode cX12_isThing 2 = .ok (.invokevirtual 80, 3) := by decide +kernel
theorem dX12_isThing_5 : decode cX12_isThing 5 = .ok (.ifCond .eq 24, 3) := by decide +kernel
theorem dX12_isThing_8 : decode cX12_isThing 8 = .ok (.iload_n 2, 1) := by decide +kernel
theorem dX12_isThing_9 : decode cX12_isThing 9 = .ok (.i2l, 1) := by decide +kernel
theorem dX12_isThing_10 : decode cX12_isThing 10 = .ok (.lconst 0, 1) := by decide +kernel
theorem dX12_isThing_11 : decode cX12_isThing 11 = .ok (.aload_n 0, 1) := by decide +kernel
theorem dX12_isThing_12 : decode cX12_isThing 12 = .ok (.iload_n 1, 1) := by decide +kernel
theorem dX12_isThing_13 : decode cX12_isThing 13 = .ok (.invokevirtual 76, 3) := by decide +kernel
theorem dX12_isThing_16 : decode cX12_isThing 16 = .ok (.iconst 1, 1) := by decide +kernel
theorem dX12_isThing_17 : decode cX12_isThing 17 = .ok (.isub, 1) := by decide +kernel
theorem dX12_isThing_18 : decode cX12_isThing 18 = .ok (.i2l, 1) := by decide +kernel
theorem dX12_isThing_19 : decode cX12_isThing 19 = .ok (.invokestatic 64, 3) := by decide +kernel
theorem dX12_isThing_22 : decode cX12_isThing 22 = .ok (.ifCond .eq 7, 3) := by decide +kernel
theorem dX12_isThing_25 : decode cX12_isThing 25 = .ok (.iconst 1, 1) := by decide +kernel
theorem dX12_isThing_26 : decode cX12_isThing 26 = .ok (.goto 4, 3) := by decide +kernel
theorem dX12_isThing_29 : decode cX12_isThing 29 = .ok (.iconst 0, 1) := by decide +kernel
theorem dX12_isThing_30 : decode cX12_isThing 30 = .ok (.ireturn, 1) := by decide +kernel
theorem dX12_isThreeAndOne_0 : decode cX12_isThreeAndOne 0 = .ok (.aload_n 0, 1) := by decide +kernel
theorem dX12_isThreeAndOne_1 : decode cX12_isThreeAndOne 1 = .ok (.iload_n 1, 1) := by decide +kernel
theorem dX12_isThreeAndOne_2 : decode cX12_isThreeAndOne 2 = .ok (.iload_n 2, 1) := by decide +kernel
theorem dX12_isThreeAndOne_3 : decode cX12_isThreeAndOne 3 = .ok (.iload_n 3, 1) := by decide +kernel
theorem dX12_isThreeAndOne_4 : decode cX12_isThreeAndOne 4 = .ok (.invokevirtual 93, 3) := by decide +kernel
theorem dX12_isThreeAndOne_7 : decode cX12_isThreeAndOne 7 = .ok (.ifCond .eq 52, 3) := by decide +kernel
theorem dX12_isThreeAndOne_10 : decode cX12_isThreeAndOne 10 = .ok (.aload_n 0, 1) := by decide +kernel
theorem dX12_isThreeAndOne_11 : decode cX12_isThreeAndOne 11 = .ok (.iload_n 1, 1) := by decide +kernel
theorem dX12_isThreeAndOne_12 : decode cX12_isThreeAndOne 12 = .ok (.iload_n 3, 1) := by decide +kernel
theorem dX12_isThreeAndOne_13 : decode cX12_isThreeAndOne 13 = .ok (.iload 4, 2) := by decide +kernel
theorem dX12_isThreeAndOne_15 : decode cX12_isThreeAndOne 15 = .ok (.invokevirtual 93, 3) := by decide +kernel
theorem dX12_isThreeAndOne_18 : decode cX12_isThreeAndOne 18 = .ok (.ifCond .eq 41, 3) := by decide +kernel
theorem dX12_isThreeAndOne_21 : decode cX12_isThreeAndOne 21 = .ok (.aload_n 0, 1) := by decide +kernel
theorem dX12_isThreeAndOne_22 : decode cX12_isThreeAndOne 22 = .ok (.iload_n 1, 1) := by decide +kernel
theorem dX12_isThreeAndOne_23 : decode cX12_isThreeAndOne 23 = .ok (.iload_n 2, 1) := by decide +kernel
theorem dX12_isThreeAndOne_24 : decode cX12_isThreeAndOne 24 = .ok (.iload 5, 2) := by decide +kernel
theorem dX12_isThreeAndOne_26 : decode cX12_isThreeAndOne 26 = .ok (.invokevirtual 227, 3) := by decide +kernel
theorem dX12_isThreeAndOne_29 : decode cX12_isThreeAndOne 29 = .ok (.ifCond .eq 30, 3) := by decide +kernel
theorem dX12_isThreeAndOne_32 : decode cX12_isThreeAndOne 32 = .ok (.aload_n 0, 1) := by decide +kernel
theorem dX12_isThreeAndOne_33 : decode cX12_isThreeAndOne 33 = .ok (.iload_n 1, 1) := by decide +kernel
theorem dX12_isThreeAndOne_34 : decode cX12_isThreeAndOne 34 = .ok (.iload_n 3, 1) := by decide +kernel
theorem dX12_isThreeAndOne_35 : decode cX12_isThreeAndOne 35 = .ok (.iload 5, 2) := by decide +kernel
theorem dX12_isThreeAndOne_37 : decode cX12_isThreeAndOne 37 = .ok (.invokevirtual 227, 3) := by decide +kernel
theorem dX12_isThreeAndOne_40 : decode cX12_isThreeAndOne 40 = .ok (.ifCond .eq 19, 3) := by decide +kernel
theorem dX12_isThreeAndOne_43 : decode cX12_isThreeAndOne 43 = .ok (.aload_n 0, 1) := by decide +kernel
theorem dX12_isThreeAndOne_44 : decode cX12_isThreeAndOne 44 = .ok (.iload_n 1, 1) := by decide +kernel
theorem dX12_isThreeAndOne_45 : decode cX12_isThreeAndOne 45 = .ok (.iload 4, 2) := by decide +kernel
theorem dX12_isThreeAndOne_47 : decode cX12_isThreeAndOne 47 = .ok (.iload 5, 2) := by decide +kernel
theorem dX12_isThreeAndOne_49 : decode cX12_isThreeAndOne 49 = .ok (.invokevirtual 227, 3) := by decide +kernel
theorem dX12_isThreeAndOne_52 : decode cX12_isThreeAndOne 52 = .ok (.ifCond .eq 7, 3) := by decide +kernel
theorem dX12_isThreeAndOne_55 : decode cX12_isThreeAndOne 55 = .ok (.iconst 1, 1) := by decide +kernel
theorem dX12_isThreeAndOne_56 : decode cX12_isThreeAndOne 56 = .ok (.goto 4, 3) := by decide +kernel
theorem dX12_isThreeAndOne_59 : decode cX12_isThreeAndOne 59 = .ok (.iconst 0, 1) := by decide +kernel
theorem dX12_isThreeAndOne_60 : decode cX12_isThreeAndOne 60 = .ok (.ireturn, 1) := by decide +kernel
theorem dX12_isTwoAndTwo_0 : decode cX12_isTwoAndTwo 0 = .ok (.aload_n 0, 1) := by decide +kernel
theorem dX12_isTwoAndTwo_1 : decode cX12_isTwoAndTwo 1 = .ok (.iload_n 1, 1) := by decide +kernel
theorem dX12_isTwoAndTwo_2 : decode cX12_isTwoAndTwo 2 = .ok (.iload_n 2, 1) := by decide +kernel
theorem dX12_isTwoAndTwo_3 : decode cX12_isTwoAndTwo 3 = .ok (.iload_n 3, 1) := by decide +kernel
theorem dX12_isTwoAndTwo_4 : decode cX12_isTwoAndTwo 4 = .ok (.invokevirtual 93, 3) := by decide +kernel
theorem dX12_isTwoAndTwo_7 : decode cX12_isTwoAndTwo 7 = .ok (.ifCond .eq 63, 3) := by decide +kernel
theorem dX12_isTwoAndTwo_10 : decode cX12_isTwoAndTwo 10 = .ok (.aload_n 0, 1) := by decide +kernel
theorem dX12_isTwoAndTwo_11 : decode cX12_isTwoAndTwo 11 = .ok (.iload_n 1, 1) := by decide +kernel
theorem dX12_isTwoAndTwo_12 : decode cX12_isTwoAndTwo 12 = .ok (.iload 4, 2) := by decide +kernel
theorem dX12_isTwoAndTwo_14 : decode cX12_isTwoAndTwo 14 = .ok (.iload 5, 2) := by decide +kernel
theorem dX12_isTwoAndTwo_16 : decode cX12_isTwoAndTwo 16 = .ok (.invokevirtual 93, 3) := by decide +kernel
theorem dX12_isTwoAndTwo_19 : decode cX12_isTwoAndTwo 19 = .ok (.ifCond .eq 51, 3) := by decide +kernel
theorem dX12_isTwoAndTwo_22 : decode cX12_isTwoAndTwo 22 = .ok (.aload_n 0, 1) := by decide +kernel
theorem dX12_isTwoAndTwo_23 : decode cX12_isTwoAndTwo 23 = .ok (.iload_n 1, 1) := by decide +kernel
theorem dX12_isTwoAndTwo_24 : decode cX12_isTwoAndTwo 24 = .ok (.iload_n 2, 1) := by decide +kernel
theorem dX12_isTwoAndTwo_25 : decode cX12_isTwoAndTwo 25 = .ok (.iload 4, 2) := by decide +kernel
theorem dX12_isTwoAndTwo_27 : decode cX12_isTwoAndTwo 27 = .ok (.invokevirtual 227, 3) := by decide +kernel
theorem dX12_isTwoAndTwo_30 : decode cX12_isTwoAndTwo 30 = .ok (.ifCond .eq 40, 3) := by decide +kernel
theorem dX12_isTwoAndTwo_33 : decode cX12_isTwoAndTwo 33 = .ok (.aload_n 0, 1) := by decide +kernel
theorem dX12_isTwoAndTwo_34 : decode cX12_isTwoAndTwo 34 = .ok (.iload_n 1, 1) := by decide +kernel
theorem dX12_isTwoAndTwo_35 : decode cX12_isTwoAndTwo 35 = .ok (.iload_n 2, 1) := by decide +kernel
theorem dX12_isTwoAndTwo_36 : decode cX12_isTwoAndTwo 36 = .ok (.iload 5, 2) := by decide +kernel
theorem dX12_isTwoAndTwo_38 : decode cX12_isTwoAndTwo 38 = .ok (.invokevirtual 227, 3) := by decide +kernel
theorem dX12_isTwoAndTwo_41 : decode cX12_isTwoAndTwo 41 = .ok (.ifCond .eq 29, 3) := by decide +kernel
theorem dX12_isTwoAndTwo_44 : decode cX12_isTwoAndTwo 44 = .ok (.aload_n 0, 1) := by decide +kernel
theorem dX12_isTwoAndTwo_45 : decode cX12_isTwoAndTwo 45 = .ok (.iload_n 1, 1) := by decide +kernel
theorem dX12_isTwoAndTwo_46 : decode cX12_isTwoAndTwo 46 = .ok (.iload_n 3, 1) := by decide +kernel
theorem dX12_isTwoAndTwo_47 : decode cX12_isTwoAndTwo 47 = .ok (.iload 4, 2) := by decide +kernel
theorem dX12_isTwoAndTwo_49 : decode cX12_isTwoAndTwo 49 = .ok (.invokevirtual 227, 3) := by decide +kernel
theorem dX12_isTwoAndTwo_52 : decode cX12_isTwoAndTwo 52 = .ok (.ifCond .eq 18, 3) := by decide +kernel
theorem dX12_isTwoAndTwo_55 : decode cX12_isTwoAndTwo 55 = .ok (.aload_n 0, 1) := by decide +kernel
theorem dX12_isTwoAndTwo_56 : decode cX12_isTwoAndTwo 56 = .ok (.iload_n 1, 1) := by decide +kernel
theorem dX12_isTwoAndTwo_57 : decode cX12_isTwoAndTwo 57 = .ok (.iload_n 3, 1) := by decide +kernel
theorem dX12_isTwoAndTwo_58 : decode cX12_isTwoAndTwo 58 = .ok (.iload 5, 2) := by decide +kernel
theorem dX12_isTwoAndTwo_60 : decode cX12_isTwoAndTwo 60 = .ok (.invokevirtual 227, 3) := by decide +kernel
theorem dX12_isTwoAndTwo_63 : decode cX12_isTwoAndTwo 63 = .ok (.ifCond .eq 7, 3) := by decide +kernel
theorem dX12_isTwoAndTwo_66 : decode cX12_isTwoAndTwo 66 = .ok (.iconst 1, 1) := by decide +kernel
theorem dX12_isTwoAndTwo_67 : decode cX12_isTwoAndTwo 67 = .ok (.goto 4, 3) := by decide +kernel
theorem dX12_isTwoAndTwo_70 : decode cX12_isTwoAndTwo 70 = .ok (.iconst 0, 1) := by decide +kernel
theorem dX12_isTwoAndTwo_71 : decode cX12_isTwoAndTwo 71 = .ok (.ireturn, 1) := by decide +kernel
theorem dX12_isWithout_0 : decode cX12_isWithout 0 = .ok (.aload_n 0, 1) := by decide +kernel
theorem dX12_isWithout_1 : decode cX12_isWithout 1 = .ok (.iload_n 1, 1) := by decide +kernel
theorem dX12_isWithout_2 : decode cX12_isWithout 2 = .ok (.invokevirtual 76, 3) := by decide +kernel
theorem dX12_isWithout_5 : decode cX12_isWithout 5 = .ok (.istore_n 3, 1) := by decide +kernel
theorem dX12_isWithout_6 : decode cX12_isWithout 6 = .ok (.iconst 0, 1) := by decide +kernel
theorem dX12_isWithout_7 : decode cX12_isWithout 7 = .ok (.istore 4, 2) := by decide +kernel
theorem dX12_isWithout_9 : decode cX12_isWithout 9 = .ok (.iload 4, 2) := by decide +kernel
theorem dX12_isWithout_11 : decode cX12_isWithout 11 = .ok (.iload_n 3, 1) := by decide +kernel
theorem dX12_isWithout_12 : decode cX12_isWithout 12 = .ok (.iload_n 3, 1) := by decide +kernel
theorem dX12_isWithout_13 : decode cX12_isWithout 13 = .ok (.imul, 1) := by decide +kernel
theorem dX12_isWithout_14 : decode cX12_isWithout 14 = .ok (.iload_n 3, 1) := by decide +kernel
theorem dX12_isWithout_15 : decode cX12_isWithout 15 = .ok (.imul, 1) := by decide +kernel
theorem dX12_isWithout_16 : decode cX12_isWithout 16 = .ok (.iload_n 3, 1) := by decide +kernel
theorem dX12_isWithout_17 : decode cX12_isWithout 17 = .ok (.imul, 1) := by decide +kernel
theorem dX12_isWithout_18 : decode cX12_isWithout 18 = .ok (.if_icmp .ge 46, 3) := by decide +kernel
theorem dX12_isWithout_21 : decode cX12_isWithout 21 = .ok (.aload_n 0, 1) := by decide +kernel
theorem dX12_isWithout_22 : decode cX12_isWithout 22 = .ok (.iload_n 1, 1) := by decide +kernel
theorem dX12_isWithout_23 : decode cX12_isWithout 23 = .ok (.iload_n 2, 1) := by decide +kernel
theorem dX12_isWithout_24 : decode cX12_isWithout 24 = .ok (.iload 4, 2) := by decide +kernel
theorem dX12_isWithout_26 : decode cX12_isWithout 26 = .ok (.iload_n 3, 1) := by decide +kernel
theorem dX12_isWithout_27 : decode cX12_isWithout 27 = .ok (.idiv, 1) := by decide +kernel
theorem dX12_isWithout_28 : decode cX12_isWithout 28 = .ok (.iload_n 3, 1) := by decide +kernel
theorem dX12_isWithout_29 : decode cX12_isWithout 29 = .ok (.idiv, 1) := by decide +kernel
theorem dX12_isWithout_30 : decode cX12_isWithout 30 = .ok (.iload_n 3, 1) := by decide +kernel
theorem dX12_isWithout_31 : decode cX12_isWithout 31 = .ok (.idiv, 1) := by decide +kernel
theorem dX12_isWithout_32 : decode cX12_isWithout 32 = .ok (.iload 4, 2) := by decide +kernel
theorem dX12_isWithout_34 : decode cX12_isWithout 34 = .ok (.iload_n 3, 1) := by decide +kernel
theorem dX12_isWithout_35 : decode cX12_isWithout 35 = .ok (.idiv, 1) := by decide +kernel
theorem dX12_isWithout_36 : decode cX12_isWithout 36 = .ok (.iload_n 3, 1) := by decide +kernel
theorem dX12_isWithout_37 : decode cX12_isWithout 37 = .ok (.idiv, 1) := by decide +kernel
theorem dX12_isWithout_38 : decode cX12_isWithout 38 = .ok (.iload_n 3, 1) := by decide +kernel
theorem dX12_isWithout_39 : decode cX12_isWithout 39 = .ok (.irem, 1) := by decide +kernel
theorem dX12_isWithout_40 : decode cX12_isWithout 40 = .ok (.iload 4, 2) := by decide +kernel
theorem dX12_isWithout_42 : decode cX12_isWithout 42 = .ok (.iload_n 3, 1) := by decide +kernel
theorem dX12_isWithout_43 : decode cX12_isWithout 43 = .ok (.idiv, 1) := by decide +kernel
theorem dX12_isWithout_44 : decode cX12_isWithout 44 = .ok (.iload_n 3, 1) := by decide +kernel
theorem dX12_isWithout_45 : decode cX12_isWithout 45 = .ok (.irem, 1) := by decide +kernel
theorem dX12_isWithout_46 : decode cX12_isWithout 46 = .ok (.iload 4, 2) := by decide +kernel
theorem dX12_isWithout_48 : decode cX12_isWithout 48 = .ok (.iload_n 3, 1) := by decide +kernel
theorem dX12_isWithout_49 : decode cX12_isWithout 49 = .ok (.irem, 1) := by decide +kernel
theorem dX12_isWithout_50 : decode cX12_isWithout 50 = .ok (.invokevirtual 257, 3) := by decide +kernel
theorem dX12_isWithout_53 : decode cX12_isWithout 53 = .ok (.ifCond .eq 5, 3) := by decide +kernel
theorem dX12_isWithout_56 : decode cX12_isWithout 56 = .ok (.iconst 0, 1) := by decide +kernel
theorem dX12_isWithout_57 : decode cX12_isWithout 57 = .ok (.ireturn, 1) := by decide +kernel
theorem dX12_isWithout_58 : decode cX12_isWithout 58 = .ok (.iinc 4 1, 3) := by decide +kernel
theorem dX12_isWithout_61 : decode cX12_isWithout 61 = .ok (.goto (-52), 3) := by decide +kernel
theorem dX12_isWithout_64 : decode cX12_isWithout 64 = .ok (.iconst 1, 1) := by decide +kernel
theorem dX12_isWithout_65 : decode cX12_isWithout 65 = .ok (.ireturn, 1) := by decide +kernel
theorem dX12_isWord_0 : decode cX12_isWord 0 = .ok (.aload_n 0, 1) := by decide +kernel
theorem dX12_isWord_1 : decode cX12_isWord 1 = .ok (.getfield 143, 3) := by decide +kernel
theorem dX12_isWord_4 : decode cX12_isWord 4 = .ok (.ifCond .ne 31, 3) := by decide +kernel
theorem dX12_isWord_7 : decode cX12_isWord 7 = .ok (.aload_n 0, 1) := by decide +kernel
theorem dX12_isWord_8 : decode cX12_isWord 8 = .ok (.getfield 135, 3) := by decide +kernel
theorem dX12_isWord_11 : decode cX12_isWord 11 = .ok (.iconst 1, 1) := by decide +kernel
theorem dX12_isWord_12 : decode cX12_isWord 12 = .ok (.if_icmp .ne 23, 3) := by decide +kernel
theorem dX12_isWord_15 : decode cX12_isWord 15 = .ok (.aload_n 0, 1) := by decide +kernel
theorem dX12_isWord_16 : decode cX12_isWord 16 = .ok (.getfield 123, 3) := by decide +kernel
theorem dX12_isWord_19 : decode cX12_isWord 19 = .ok (.aload_n 0, 1) := by decide +kernel
theorem dX12_isWord_20 : decode cX12_isWord 20 = .ok (.getfield 129, 3) := by decide +kernel
theorem dX12_isWord_23 : decode cX12_isWord 23 = .ok (.isub, 1) := by decide +kernel
theorem dX12_isWord_24 : decode cX12_isWord 24 = .ok (.aload_n 1, 1) := by decide +kernel
theorem dX12_isWord_25 : decode cX12_isWord 25 = .ok (.invokevirtual 153, 3) := by decide +kernel
theorem dX12_isWord_28 : decode cX12_isWord 28 = .ok (.if_icmp .ne 7, 3) := by decide +kernel
theorem dX12_isWord_31 : decode cX12_isWord 31 = .ok (.iconst 1, 1) := by decide +kernel
theorem dX12_isWord_32 : decode cX12_isWord 32 = .ok (.goto 4, 3) := by decide +kernel
theorem dX12_isWord_35 : decode cX12_isWord 35 = .ok (.iconst 0, 1) := by decide +kernel
theorem dX12_isWord_36 : decode cX12_isWord 36 = .ok (.istore_n 2, 1) := by decide +kernel
theorem dX12_isWord_37 : decode cX12_isWord 37 = .ok (.iconst 0, 1) := by decide +kernel
theorem dX12_isWord_38 : decode cX12_isWord 38 = .ok (.istore_n 3, 1) := by decide +kernel
theorem dX12_isWord_39 : decode cX12_isWord 39 = .ok (.iload_n 3, 1) := by decide +kernel
theorem dX12_isWord_40 : decode cX12_isWord 40 = .ok (.aload_n 1, 1) := by decide +kernel
theorem dX12_isWord_41 : decode cX12_isWord 41 = .ok (.invokevirtual 153, 3) := by decide +kernel
theorem dX12_isWord_44 : decode cX12_isWord 44 = .ok (.if_icmp .ge 38, 3) := by decide +kernel
theorem dX12_isWord_47 : decode cX12_isWord 47 = .ok (.iload_n 2, 1) := by decide +kernel
theorem dX12_isWord_48 : decode cX12_isWord 48 = .ok (.ifCond .eq 34, 3) := by decide +kernel
theorem dX12_isWord_51 : decode cX12_isWord 51 = .ok (.aload_n 0, 1) := by decide +kernel
theorem dX12_isWord_52 : decode cX12_isWord 52 = .ok (.getfield 19, 3) := by decide +kernel
theorem dX12_isWord_55 : decode cX12_isWord 55 = .ok (.aload_n 0, 1) := by decide +kernel
theorem dX12_isWord_56 : decode cX12_isWord 56 = .ok (.getfield 129, 3) := by decide +kernel
theorem dX12_isWord_59 : decode cX12_isWord 59 = .ok (.iload_n 3, 1) := by decide +kernel
theorem dX12_isWord_60 : decode cX12_isWord 60 = .ok (.iadd, 1) := by decide +kernel
theorem dX12_isWord_61 : decode cX12_isWord 61 = .ok (.iaload, 1) := by decide +kernel
theorem dX12_isWord_62 : decode cX12_isWord 62 = .ok (.aload_n 1, 1) := by decide +kernel
theorem dX12_isWord_63 : decode cX12_isWord 63 = .ok (.iload_n 3, 1) := by decide +kernel
theorem dX12_isWord_64 : decode cX12_isWord 64 = .ok (.invokevirtual 159, 3) := by decide +kernel
theorem dX12_isWord_67 : decode cX12_isWord 67 = .ok (.if_icmp .ne 7, 3) := by decide +kernel
theorem dX12_isWord_70 : decode cX12_isWord 70 = .ok (.iconst 1, 1) := by decide +kernel
theorem dX12_isWord_71 : decode cX12_isWord 71 = .ok (.goto 4, 3) := by decide +kernel
theorem dX12_isWord_74 : decode cX12_isWord 74 = .ok (.iconst 0, 1) := by decide +kernel
theorem dX12_isWord_75 : decode cX12_isWord 75 = .ok (.istore_n 2, 1) := by decide +kernel
theorem dX12_isWord_76 : decode cX12_isWord 76 = .ok (.iinc 3 1, 3) := by decide +kernel
theorem dX12_isWord_79 : decode cX12_isWord 79 = .ok (.goto (-40), 3) := by decide +kernel
theorem dX12_isWord_82 : decode cX12_isWord 82 = .ok (.iload_n 2, 1) := by decide +kernel
theorem dX12_isWord_83 : decode cX12_isWord 83 = .ok (.ireturn, 1) := by decide +kernel
theorem dX12_joins_0 : decode cX12_joins 0 = .ok (.aload_n 0, 1) := by decide +kernel
theorem dX12_joins_1 : decode cX12_joins 1 = .ok (.iload_n 1, 1) := by decide +kernel
theorem dX12_joins_2 : decode cX12_joins 2 = .ok (.invokevirtual 80, 3) := by decide +kernel
theorem dX12_joins_5 : decode cX12_joins 5 = .ok (.ifCond .eq 29, 3) := by decide +kernel
theorem dX12_joins_8 : decode cX12_joins 8 = .ok (.aload_n 0, 1) := by decide +kernel
theorem dX12_joins_9 : decode cX12_joins 9 = .ok (.iload_n 2, 1) := by decide +kernel
theorem dX12_joins_10 : decode cX12_joins 10 = .ok (.invokevirtual 80, 3) := by decide +kernel
theorem dX12_joins_13 : decode cX12_joins 13 = .ok (.ifCond .eq 21, 3) := by decide +kernel
theorem dX12_joins_16 : decode cX12_joins 16 = .ok (.iload_n 3, 1) := by decide +kernel
theorem dX12_joins_17 : decode cX12_joins 17 = .ok (.i2l, 1) := by decide +kernel
theorem dX12_joins_18 : decode cX12_joins 18 = .ok (.lconst 0, 1) := by decide +kernel
theorem dX12_joins_19 : decode cX12_joins 19 = .ok (.lconst 1, 1) := by decide +kernel
theorem dX12_joins_20 : decode cX12_joins 20 = .ok (.invokestatic 64, 3) := by decide +kernel
theorem dX12_joins_23 : decode cX12_joins 23 = .ok (.ifCond .eq 11, 3) := by decide +kernel
theorem dX12_joins_26 : decode cX12_joins 26 = .ok (.iload 4, 2) := by decide +kernel
theorem dX12_joins_28 : decode cX12_joins 28 = .ok (.invokestatic 72, 3) := by decide +kernel
theorem dX12_joins_31 : decode cX12_joins 31 = .ok (.ifCond .ne 6, 3) := by decide +kernel
theorem dX12_joins_34 : decode cX12_joins 34 = .ok (.bipush (-2), 2) := by decide +kernel
theorem dX12_joins_36 : decode cX12_joins 36 = .ok (.ireturn, 1) := by decide +kernel
theorem dX12_joins_37 : decode cX12_joins 37 = .ok (.aload_n 0, 1) := by decide +kernel
theorem dX12_joins_38 : decode cX12_joins 38 = .ok (.iload_n 1, 1) := by decide +kernel
theorem dX12_joins_39 : decode cX12_joins 39 = .ok (.invokevirtual 76, 3) := by decide +kernel
theorem dX12_joins_42 : decode cX12_joins 42 = .ok (.istore 5, 2) := by decide +kernel
theorem dX12_joins_44 : decode cX12_joins 44 = .ok (.aload_n 0, 1) := by decide +kernel
theorem dX12_joins_45 : decode cX12_joins 45 = .ok (.iload_n 2, 1) := by decide +kernel
theorem dX12_joins_46 : decode cX12_joins 46 = .ok (.invokevirtual 76, 3) := by decide +kernel
theorem dX12_joins_49 : decode cX12_joins 49 = .ok (.istore 6, 2) := by decide +kernel
theorem dX12_joins_51 : decode cX12_joins 51 = .ok (.iload 5, 2) := by decide +kernel
theorem dX12_joins_53 : decode cX12_joins 53 = .ok (.iload 6, 2) := by decide +kernel
theorem dX12_joins_55 : decode cX12_joins 55 = .ok (.iadd, 1) := by decide +kernel
theorem dX12_joins_56 : decode cX12_joins 56 = .ok (.bipush 8, 2) := by decide +kernel
theorem dX12_joins_58 : decode cX12_joins 58 = .ok (.if_icmp .le 6, 3) := by decide +kernel
theorem dX12_joins_61 : decode cX12_joins 61 = .ok (.bipush (-5), 2) := by decide +kernel
theorem dX12_joins_63 : decode cX12_joins 63 = .ok (.ireturn, 1) := by decide +kernel
theorem dX12_joins_64 : decode cX12_joins 64 = .ok (.aload_n 0, 1) := by decide +kernel
theorem dX12_joins_65 : decode cX12_joins 65 = .ok (.invokevirtual 113, 3) := by decide +kernel
theorem dX12_joins_68 : decode cX12_joins 68 = .ok (.iconst 0, 1) := by decide +kernel
theorem dX12_joins_69 : decode cX12_joins 69 = .ok (.istore 7, 2) := by decide +kernel
theorem dX12_joins_71 : decode cX12_joins 71 = .ok (.iload 7, 2) := by decide +kernel
theorem dX12_joins_73 : decode cX12_joins 73 = .ok (.iload 5, 2) := by decide +kernel
theorem dX12_joins_75 : decode cX12_joins 75 = .ok (.iload 6, 2) := by decide +kernel
theorem dX12_joins_77 : decode cX12_joins 77 = .ok (.iadd, 1) := by decide +kernel
theorem dX12_joins_78 : decode cX12_joins 78 = .ok (.if_icmp .ge 62, 3) := by decide +kernel
theorem dX12_joins_81 : decode cX12_joins 81 = .ok (.aload_n 0, 1) := by decide +kernel
theorem dX12_joins_82 : decode cX12_joins 82 = .ok (.getfield 53, 3) := by decide +kernel
theorem dX12_joins_85 : decode cX12_joins 85 = .ok (.iload 7, 2) := by decide +kernel
theorem dX12_joins_87 : decode cX12_joins 87 = .ok (.iload 7, 2) := by decide +kernel
theorem dX12_joins_89 : decode cX12_joins 89 = .ok (.iload 5, 2) := by decide +kernel
theorem dX12_joins_91 : decode cX12_joins 91 = .ok (.if_icmp .ge 13, 3) := by decide +kernel
theorem dX12_joins_94 : decode cX12_joins 94 = .ok (.aload_n 0, 1) := by decide +kernel
theorem dX12_joins_95 : decode cX12_joins 95 = .ok (.iload_n 1, 1) := by decide +kernel
theorem dX12_joins_96 : decode cX12_joins 96 = .ok (.iload 7, 2) := by decide +kernel
theorem dX12_joins_98 : decode cX12_joins 98 = .ok (.invokevirtual 86, 3) := by decide +kernel
theorem dX12_joins_101 : decode cX12_joins 101 = .ok (.goto 32, 3) := by decide +kernel
theorem dX12_joins_104 : decode cX12_joins 104 = .ok (.aload_n 0, 1) := by decide +kernel
theorem dX12_joins_105 : decode cX12_joins 105 = .ok (.iload_n 2, 1) := by decide +kernel
theorem dX12_joins_106 : decode cX12_joins 106 = .ok (.iload 7, 2) := by decide +kernel
theorem dX12_joins_108 : decode cX12_joins 108 = .ok (.iload 5, 2) := by decide +kernel
theorem dX12_joins_110 : decode cX12_joins 110 = .ok (.isub, 1) := by decide +kernel
theorem dX12_joins_111 : decode cX12_joins 111 = .ok (.invokevirtual 86, 3) := by decide +kernel
theorem dX12_joins_114 : decode cX12_joins 114 = .ok (.iload 5, 2) := by decide +kernel
theorem dX12_joins_116 : decode cX12_joins 116 = .ok (.ishl, 1) := by decide +kernel
theorem dX12_joins_117 : decode cX12_joins 117 = .ok (.iload_n 3, 1) := by decide +kernel
theorem dX12_joins_118 : decode cX12_joins 118 = .ok (.iconst 1, 1) := by decide +kernel
theorem dX12_joins_119 : decode cX12_joins 119 = .ok (.if_icmp .ne 12, 3) := by decide +kernel
theorem dX12_joins_122 : decode cX12_joins 122 = .ok (.iconst 1, 1) := by decide +kernel
theorem dX12_joins_123 : decode cX12_joins 123 = .ok (.iload 5, 2) := by decide +kernel
theorem dX12_joins_125 : decode cX12_joins 125 = .ok (.ishl, 1) := by decide +kernel
theorem dX12_joins_126 : decode cX12_joins 126 = .ok (.iconst 1, 1) := by decide +kernel
theorem dX12_joins_127 : decode cX12_joins 127 = .ok (.isub, 1) := by decide +kernel
theorem dX12_joins_128 : decode cX12_joins 128 = .ok (.goto 4, 3) := by decide +kernel
theorem dX12_joins_131 : decode cX12_joins 131 = .ok (.iconst 0, 1) := by decide +kernel
theorem dX12_joins_132 : decode cX12_joins 132 = .ok (.ior, 1) := by decide +kernel
theorem dX12_joins_133 : decode cX12_joins 133 = .ok (.iastore, 1) := by decide +kernel
theorem dX12_joins_134 : decode cX12_joins 134 = .ok (.iinc 7 1, 3) := by decide +kernel
theorem dX12_joins_137 : decode cX12_joins 137 = .ok (.goto (-66), 3) := by decide +kernel
theorem dX12_joins_140 : decode cX12_joins 140 = .ok (.aload_n 0, 1) := by decide +kernel
theorem dX12_joins_141 : decode cX12_joins 141 = .ok (.iload 4, 2) := by decide +kernel
theorem dX12_joins_143 : decode cX12_joins 143 = .ok (.invokevirtual 116, 3) := by decide +kernel
theorem dX12_joins_146 : decode cX12_joins 146 = .ok (.aload_n 0, 1) := by decide +kernel
theorem dX12_joins_147 : decode cX12_joins 147 = .ok (.iload 4, 2) := by decide +kernel
theorem dX12_joins_149 : decode cX12_joins 149 = .ok (.iconst 0, 1) := by decide +kernel
theorem dX12_joins_150 : decode cX12_joins 150 = .ok (.iload 5, 2) := by decide +kernel
theorem dX12_joins_152 : decode cX12_joins 152 = .ok (.iload 6, 2) := by decide +kernel
theorem dX12_joins_154 : decode cX12_joins 154 = .ok (.iadd, 1) := by decide +kernel
theorem dX12_joins_155 : decode cX12_joins 155 = .ok (.invokevirtual 109, 3) := by decide +kernel
theorem dX12_joins_158 : decode cX12_joins 158 = .ok (.iconst 0, 1) := by decide +kernel
theorem dX12_joins_159 : decode cX12_joins 159 = .ok (.istore 7, 2) := by decide +kernel
theorem dX12_joins_161 : decode cX12_joins 161 = .ok (.iload 7, 2) := by decide +kernel
theorem dX12_joins_163 : decode cX12_joins 163 = .ok (.iload 5, 2) := by decide +kernel
theorem dX12_joins_165 : decode cX12_joins 165 = .ok (.iload 6, 2) := by decide +kernel
theorem dX12_joins_167 : decode cX12_joins 167 = .ok (.iadd, 1) := by decide +kernel
theorem dX12_joins_168 : decode cX12_joins 168 = .ok (.if_icmp .ge 26, 3) := by decide +kernel
theorem dX12_joins_171 : decode cX12_joins 171 = .ok (.aload_n 0, 1) := by decide +kernel
theorem dX12_joins_172 : decode cX12_joins 172 = .ok (.iload 4, 2) := by decide +kernel
theorem dX12_joins_174 : decode cX12_joins 174 = .ok (.iconst 1, 1) := by decide +kernel
theorem dX12_joins_175 : decode cX12_joins 175 = .ok (.iload 7, 2) := by decide +kernel
theorem dX12_joins_177 : decode cX12_joins 177 = .ok (.iadd, 1) := by decide +kernel
theorem dX12_joins_178 : decode cX12_joins 178 = .ok (.aload_n 0, 1) := by decide +kernel
theorem dX12_joins_179 : decode cX12_joins 179 = .ok (.getfield 53, 3) := by decide +kernel
theorem dX12_joins_182 : decode cX12_joins 182 = .ok (.iload 7, 2) := by decide +kernel
theorem dX12_joins_184 : decode cX12_joins 184 = .ok (.iaload, 1) := by decide +kernel
theorem dX12_joins_185 : decode cX12_joins 185 = .ok (.invokevirtual 109, 3) := by decide +kernel
theorem dX12_joins_188 : decode cX12_joins 188 = .ok (.iinc 7 1, 3) := by decide +kernel
theorem dX12_joins_191 : decode cX12_joins 191 = .ok (.goto (-30), 3) := by decide +kernel
theorem dX12_joins_194 : decode cX12_joins 194 = .ok (.aload_n 0, 1) := by decide +kernel
theorem dX12_joins_195 : decode cX12_joins 195 = .ok (.iload 5, 2) := by decide +kernel
theorem dX12_joins_197 : decode cX12_joins 197 = .ok (.iload 6, 2) := by decide +kernel
theorem dX12_joins_199 : decode cX12_joins 199 = .ok (.iadd, 1) := by decide +kernel
theorem dX12_joins_200 : decode cX12_joins 200 = .ok (.invokevirtual 202, 3) := by decide +kernel
theorem dX12_joins_203 : decode cX12_joins 203 = .ok (.ireturn, 1) := by decide +kernel
theorem dX12_jumper_0 : decode cX12_jumper 0 = .ok (.aload_n 0, 1) := by decide +kernel
theorem dX12_jumper_1 : decode cX12_jumper 1 = .ok (.iload_n 1, 1) := by decide +kernel
theorem dX12_jumper_2 : decode cX12_jumper 2 = .ok (.invokevirtual 80, 3) := by decide +kernel
theorem dX12_jumper_5 : decode cX12_jumper 5 = .ok (.ifCond .eq 30, 3) := by decide +kernel
theorem dX12_jumper_8 : decode cX12_jumper 8 = .ok (.iload_n 2, 1) := by decide +kernel
theorem dX12_jumper_9 : decode cX12_jumper 9 = .ok (.i2l, 1) := by decide +kernel
theorem dX12_jumper_10 : decode cX12_jumper 10 = .ok (.lconst 0, 1) := by decide +kernel
theorem dX12_jumper_11 : decode cX12_jumper 11 = .ok (.lconst 1, 1) := by decide +kernel
theorem dX12_jumper_12 : decode cX12_jumper 12 = .ok (.invokestatic 64, 3) := by decide +kernel
theorem dX12_jumper_15 : decode cX12_jumper 15 = .ok (.ifCond .eq 20, 3) := by decide +kernel
theorem dX12_jumper_18 : decode cX12_jumper 18 = .ok (.iload_n 3, 1) := by decide +kernel
theorem dX12_jumper_19 : decode cX12_jumper 19 = .ok (.i2l, 1) := by decide +kernel
theorem dX12_jumper_20 : decode cX12_jumper 20 = .ok (.lconst 0, 1) := by decide +kernel
theorem dX12_jumper_21 : decode cX12_jumper 21 = .ok (.aload_n 0, 1) := by decide +kernel
theorem dX12_jumper_22 : decode cX12_jumper 22 = .ok (.iload_n 1, 1) := by decide +kernel
theorem dX12_jumper_23 : decode cX12_jumper 23 = .ok (.invokevirtual 76, 3) := by decide +kernel
theorem dX12_jumper_26 : decode cX12_jumper 26 = .ok (.iconst 1, 1) := by decide +kernel
theorem dX12_jumper_27 : decode cX12_jumper 27 = .ok (.isub, 1) := by decide +kernel
theorem dX12_jumper_28 : decode cX12_jumper 28 = .ok (.i2l, 1) := by decide +kernel
theorem dX12_jumper_29 : decode cX12_jumper 29 = .ok (.invokestatic 64, 3) := by decide +kernel
theorem dX12_jumper_32 : decode cX12_jumper 32 = .ok (.ifCond .ne 6, 3) := by decide +kernel
theorem dX12_jumper_35 : decode cX12_jumper 35 = .ok (.bipush (-2), 2) := by decide +kernel
theorem dX12_jumper_37 : decode cX12_jumper 37 = .ok (.ireturn, 1) := by decide +kernel
theorem dX12_jumper_38 : decode cX12_jumper 38 = .ok (.aload_n 0, 1) := by decide +kernel
theorem dX12_jumper_39 : decode cX12_jumper 39 = .ok (.iload_n 1, 1) := by decide +kernel
theorem dX12_jumper_40 : decode cX12_jumper 40 = .ok (.iload_n 2, 1) := by decide +kernel
theorem dX12_jumper_41 : decode cX12_jumper 41 = .ok (.iconst 1, 1) := by decide +kernel
theorem dX12_jumper_42 : decode cX12_jumper 42 = .ok (.if_icmp .ne 7, 3) := by decide +kernel
theorem dX12_jumper_45 : decode cX12_jumper 45 = .ok (.iconst 1, 1) := by decide +kernel
theorem dX12_jumper_46 : decode cX12_jumper 46 = .ok (.goto 4, 3) := by decide +kernel
theorem dX12_jumper_49 : decode cX12_jumper 49 = .ok (.iconst 0, 1) := by decide +kernel
theorem dX12_jumper_50 : decode cX12_jumper 50 = .ok (.invokevirtual 317, 3) := by decide +kernel
theorem dX12_jumper_53 : decode cX12_jumper 53 = .ok (.istore 4, 2) := by decide +kernel
theorem dX12_jumper_55 : decode cX12_jumper 55 = .ok (.aload_n 0, 1) := by decide +kernel
theorem dX12_jumper_56 : decode cX12_jumper 56 = .ok (.getfield 35, 3) := by decide +kernel
theorem dX12_jumper_59 : decode cX12_jumper 59 = .ok (.iload_n 3, 1) := by decide +kernel
theorem dX12_jumper_60 : decode cX12_jumper 60 = .ok (.iaload, 1) := by decide +kernel
theorem dX12_jumper_61 : decode cX12_jumper 61 = .ok (.ireturn, 1) := by decide +kernel
theorem dX12_jumps_0 : decode cX12_jumps 0 = .ok (.aload_n 0, 1) := by decide +kernel
theorem dX12_jumps_1 : decode cX12_jumps 1 = .ok (.iload_n 1, 1) := by decide +kernel
theorem dX12_jumps_2 : decode cX12_jumps 2 = .ok (.invokevirtual 80, 3) := by decide +kernel
theorem dX12_jumps_5 : decode cX12_jumps 5 = .ok (.ifCond .eq 31, 3) := by decide +kernel
theorem dX12_jumps_8 : decode cX12_jumps 8 = .ok (.iload_n 2, 1) := by decide +kernel
theorem dX12_jumps_9 : decode cX12_jumps 9 = .ok (.i2l, 1) := by decide +kernel
theorem dX12_jumps_10 : decode cX12_jumps 10 = .ok (.lconst 0, 1) := by decide +kernel
theorem dX12_jumps_11 : decode cX12_jumps 11 = .ok (.lconst 1, 1) := by decide +kernel
theorem dX12_jumps_12 : decode cX12_jumps 12 = .ok (.invokestatic 64, 3) := by decide +kernel
theorem dX12_jumps_15 : decode cX12_jumps 15 = .ok (.ifCond .eq 21, 3) := by decide +kernel
theorem dX12_jumps_18 : decode cX12_jumps 18 = .ok (.aload_n 0, 1) := by decide +kernel
theorem dX12_jumps_19 : decode cX12_jumps 19 = .ok (.iload_n 1, 1) := by decide +kernel
theorem dX12_jumps_20 : decode cX12_jumps 20 = .ok (.iload_n 2, 1) := by decide +kernel
theorem dX12_jumps_21 : decode cX12_jumps 21 = .ok (.iconst 1, 1) := by decide +kernel
theorem dX12_jumps_22 : decode cX12_jumps 22 = .ok (.if_icmp .ne 7, 3) := by decide +kernel
theorem dX12_jumps_25 : decode cX12_jumps 25 = .ok (.iconst 1, 1) := by decide +kernel
theorem dX12_jumps_26 : decode cX12_jumps 26 = .ok (.goto 4, 3) := by decide +kernel
theorem dX12_jumps_29 : decode cX12_jumps 29 = .ok (.iconst 0, 1) := by decide +kernel
theorem dX12_jumps_30 : decode cX12_jumps 30 = .ok (.invokevirtual 317, 3) := by decide +kernel
theorem dX12_jumps_33 : decode cX12_jumps 33 = .ok (.goto 5, 3) := by decide +kernel
theorem dX12_jumps_36 : decode cX12_jumps 36 = .ok (.bipush (-2), 2) := by decide +kernel
theorem dX12_jumps_38 : decode cX12_jumps 38 = .ok (.ireturn, 1) := by decide +kernel
theorem dX12_jumpsOf_0 : decode cX12_jumpsOf 0 = .ok (.aload_n 0, 1) := by decide +kernel
theorem dX12_jumpsOf_1 : decode cX12_jumpsOf 1 = .ok (.iload_n 1, 1) := by decide +kernel
theorem dX12_jumpsOf_2 : decode cX12_jumpsOf 2 = .ok (.iload_n 2, 1) := by decide +kernel
theorem dX12_jumpsOf_3 : decode cX12_jumpsOf 3 = .ok (.invokevirtual 295, 3) := by decide +kernel
theorem dX12_jumpsOf_6 : decode cX12_jumpsOf 6 = .ok (.ifCond .ne 6, 3) := by decide +kernel
theorem dX12_jumpsOf_9 : decode cX12_jumpsOf 9 = .ok (.bipush (-2), 2) := by decide +kernel
theorem dX12_jumpsOf_11 : decode cX12_jumpsOf 11 = .ok (.ireturn, 1) := by decide +kernel
theorem dX12_jumpsOf_12 : decode cX12_jumpsOf 12 = .ok (.iconst 0, 1) := by decide +kernel
theorem dX12_jumpsOf_13 : decode cX12_jumpsOf 13 = .ok (.istore_n 3, 1) := by decide +kernel
theorem dX12_jumpsOf_14 : decode cX12_jumpsOf 14 = .ok (.iconst 1, 1) := by decide +kernel
theorem dX12_jumpsOf_15 : decode cX12_jumpsOf 15 = .ok (.istore 4, 2) := by decide +kernel
theorem dX12_jumpsOf_17 : decode cX12_jumpsOf 17 = .ok (.iload 4, 2) := by decide +kernel
theorem dX12_jumpsOf_19 : decode cX12_jumpsOf 19 = .ok (.aload_n 0, 1) := by decide +kernel
theorem dX12_jumpsOf_20 : decode cX12_jumpsOf 20 = .ok (.iload_n 1, 1) := by decide +kernel
theorem dX12_jumpsOf_21 : decode cX12_jumpsOf 21 = .ok (.invokevirtual 76, 3) := by decide +kernel
theorem dX12_jumpsOf_24 : decode cX12_jumpsOf 24 = .ok (.if_icmp .ge 43, 3) := by decide +kernel
theorem dX12_jumpsOf_27 : decode cX12_jumpsOf 27 = .ok (.iload_n 3, 1) := by decide +kernel
theorem dX12_jumpsOf_28 : decode cX12_jumpsOf 28 = .ok (.aload_n 0, 1) := by decide +kernel
theorem dX12_jumpsOf_29 : decode cX12_jumpsOf 29 = .ok (.iload_n 1, 1) := by decide +kernel
theorem dX12_jumpsOf_30 : decode cX12_jumpsOf 30 = .ok (.aload_n 0, 1) := by decide +kernel
theorem dX12_jumpsOf_31 : decode cX12_jumpsOf 31 = .ok (.iload_n 1, 1) := by decide +kernel
theorem dX12_jumpsOf_32 : decode cX12_jumpsOf 32 = .ok (.iload_n 2, 1) := by decide +kernel
theorem dX12_jumpsOf_33 : decode cX12_jumpsOf 33 = .ok (.iload 4, 2) := by decide +kernel
theorem dX12_jumpsOf_35 : decode cX12_jumpsOf 35 = .ok (.iconst 1, 1) := by decide +kernel
theorem dX12_jumpsOf_36 : decode cX12_jumpsOf 36 = .ok (.isub, 1) := by decide +kernel
theorem dX12_jumpsOf_37 : decode cX12_jumpsOf 37 = .ok (.invokevirtual 291, 3) := by decide +kernel
theorem dX12_jumpsOf_40 : decode cX12_jumpsOf 40 = .ok (.aload_n 0, 1) := by decide +kernel
theorem dX12_jumpsOf_41 : decode cX12_jumpsOf 41 = .ok (.iload_n 1, 1) := by decide +kernel
theorem dX12_jumpsOf_42 : decode cX12_jumpsOf 42 = .ok (.iload_n 2, 1) := by decide +kernel
theorem dX12_jumpsOf_43 : decode cX12_jumpsOf 43 = .ok (.iload 4, 2) := by decide +kernel
theorem dX12_jumpsOf_45 : decode cX12_jumpsOf 45 = .ok (.invokevirtual 291, 3) := by decide +kernel
theorem dX12_jumpsOf_48 : decode cX12_jumpsOf 48 = .ok (.invokevirtual 93, 3) := by decide +kernel
theorem dX12_jumpsOf_51 : decode cX12_jumpsOf 51 = .ok (.ifCond .eq 7, 3) := by decide +kernel
theorem dX12_jumpsOf_54 : decode cX12_jumpsOf 54 = .ok (.iconst 0, 1) := by decide +kernel
theorem dX12_jumpsOf_55 : decode cX12_jumpsOf 55 = .ok (.goto 4, 3) := by decide +kernel
theorem dX12_jumpsOf_58 : decode cX12_jumpsOf 58 = .ok (.iconst 1, 1) := by decide +kernel
theorem dX12_jumpsOf_59 : decode cX12_jumpsOf 59 = .ok (.iadd, 1) := by decide +kernel
theorem dX12_jumpsOf_60 : decode cX12_jumpsOf 60 = .ok (.istore_n 3, 1) := by decide +kernel
theorem dX12_jumpsOf_61 : decode cX12_jumpsOf 61 = .ok (.iinc 4 1, 3) := by decide +kernel
theorem dX12_jumpsOf_64 : decode cX12_jumpsOf 64 = .ok (.goto (-47), 3) := by decide +kernel
theorem dX12_jumpsOf_67 : decode cX12_jumpsOf 67 = .ok (.iload_n 3, 1) := by decide +kernel
theorem dX12_jumpsOf_68 : decode cX12_jumpsOf 68 = .ok (.ireturn, 1) := by decide +kernel
theorem dX12_keeps_0 : decode cX12_keeps 0 = .ok (.aload_n 0, 1) := by decide +kernel
theorem dX12_keeps_1 : decode cX12_keeps 1 = .ok (.getfield 103, 3) := by decide +kernel
theorem dX12_keeps_4 : decode cX12_keeps 4 = .ok (.bipush 10, 2) := by decide +kernel
theorem dX12_keeps_6 : decode cX12_keeps 6 = .ok (.if_icmp .ne 44, 3) := by decide +kernel
theorem dX12_keeps_9 : decode cX12_keeps 9 = .ok (.iconst 0, 1) := by decide +kernel
theorem dX12_keeps_10 : decode cX12_keeps 10 = .ok (.istore_n 2, 1) := by decide +kernel
theorem dX12_keeps_11 : decode cX12_keeps 11 = .ok (.iload_n 2, 1) := by decide +kernel
theorem dX12_keeps_12 : decode cX12_keeps 12 = .ok (.sipush 1566, 3) := by decide +kernel
theorem dX12_keeps_15 : decode cX12_keeps 15 = .ok (.if_icmp .ge 25, 3) := by decide +kernel
theorem dX12_keeps_18 : decode cX12_keeps 18 = .ok (.aload_n 0, 1) := by decide +kernel
theorem dX12_keeps_19 : decode cX12_keeps 19 = .ok (.getfield 16, 3) := by decide +kernel
theorem dX12_keeps_22 : decode cX12_keeps 22 = .ok (.iload_n 2, 1) := by decide +kernel
theorem dX12_keeps_23 : decode cX12_keeps 23 = .ok (.aload_n 0, 1) := by decide +kernel
theorem dX12_keeps_24 : decode cX12_keeps 24 = .ok (.getfield 16, 3) := by decide +kernel
theorem dX12_keeps_27 : decode cX12_keeps 27 = .ok (.iload_n 2, 1) := by decide +kernel
theorem dX12_keeps_28 : decode cX12_keeps 28 = .ok (.sipush 174, 3) := by decide +kernel
theorem dX12_keeps_31 : decode cX12_keeps 31 = .ok (.iadd, 1) := by decide +kernel
theorem dX12_keeps_32 : decode cX12_keeps 32 = .ok (.iaload, 1) := by decide +kernel
theorem dX12_keeps_33 : decode cX12_keeps 33 = .ok (.iastore, 1) := by decide +kernel
theorem dX12_keeps_34 : decode cX12_keeps 34 = .ok (.iinc 2 1, 3) := by decide +kernel
theorem dX12_keeps_37 : decode cX12_keeps 37 = .ok (.goto (-26), 3) := by decide +kernel
theorem dX12_keeps_40 : decode cX12_keeps 40 = .ok (.aload_n 0, 1) := by decide +kernel
theorem dX12_keeps_41 : decode cX12_keeps 41 = .ok (.dup, 1) := by decide +kernel
theorem dX12_keeps_42 : decode cX12_keeps 42 = .ok (.getfield 103, 3) := by decide +kernel
theorem dX12_keeps_45 : decode cX12_keeps 45 = .ok (.iconst 1, 1) := by decide +kernel
theorem dX12_keeps_46 : decode cX12_keeps 46 = .ok (.isub, 1) := by decide +kernel
theorem dX12_keeps_47 : decode cX12_keeps 47 = .ok (.putfield 103, 3) := by decide +kernel
theorem dX12_keeps_50 : decode cX12_keeps 50 = .ok (.iconst 0, 1) := by decide +kernel
theorem dX12_keeps_51 : decode cX12_keeps 51 = .ok (.istore_n 2, 1) := by decide +kernel
theorem dX12_keeps_52 : decode cX12_keeps 52 = .ok (.iload_n 2, 1) := by decide +kernel
theorem dX12_keeps_53 : decode cX12_keeps 53 = .ok (.sipush 174, 3) := by decide +kernel
theorem dX12_keeps_56 : decode cX12_keeps 56 = .ok (.if_icmp .ge 30, 3) := by decide +kernel
theorem dX12_keeps_59 : decode cX12_keeps 59 = .ok (.aload_n 0, 1) := by decide +kernel
theorem dX12_keeps_60 : decode cX12_keeps 60 = .ok (.getfield 16, 3) := by decide +kernel
theorem dX12_keeps_63 : decode cX12_keeps 63 = .ok (.sipush 174, 3) := by decide +kernel
theorem dX12_keeps_66 : decode cX12_keeps 66 = .ok (.aload_n 0, 1) := by decide +kernel
theorem dX12_keeps_67 : decode cX12_keeps 67 = .ok (.getfield 103, 3) := by decide +kernel
theorem dX12_keeps_70 : decode cX12_keeps 70 = .ok (.imul, 1) := by decide +kernel
theorem dX12_keeps_71 : decode cX12_keeps 71 = .ok (.iload_n 2, 1) := by decide +kernel
theorem dX12_keeps_72 : decode cX12_keeps 72 = .ok (.iadd, 1) := by decide +kernel
theorem dX12_keeps_73 : decode cX12_keeps 73 = .ok (.aload_n 0, 1) := by decide +kernel
theorem dX12_keeps_74 : decode cX12_keeps 74 = .ok (.getfield 13, 3) := by decide +kernel
theorem dX12_keeps_77 : decode cX12_keeps 77 = .ok (.iload_n 2, 1) := by decide +kernel
theorem dX12_keeps_78 : decode cX12_keeps 78 = .ok (.iaload, 1) := by decide +kernel
theorem dX12_keeps_79 : decode cX12_keeps 79 = .ok (.iastore, 1) := by decide +kernel
theorem dX12_keeps_80 : decode cX12_keeps 80 = .ok (.iinc 2 1, 3) := by decide +kernel
theorem dX12_keeps_83 : decode cX12_keeps 83 = .ok (.goto (-31), 3) := by decide +kernel
theorem dX12_keeps_86 : decode cX12_keeps 86 = .ok (.aload_n 0, 1) := by decide +kernel
theorem dX12_keeps_87 : decode cX12_keeps 87 = .ok (.dup, 1) := by decide +kernel
theorem dX12_keeps_88 : decode cX12_keeps 88 = .ok (.getfield 103, 3) := by decide +kernel
theorem dX12_keeps_91 : decode cX12_keeps 91 = .ok (.iconst 1, 1) := by decide +kernel
theorem dX12_keeps_92 : decode cX12_keeps 92 = .ok (.iadd, 1) := by decide +kernel
theorem dX12_keeps_93 : decode cX12_keeps 93 = .ok (.putfield 103, 3) := by decide +kernel
theorem dX12_keeps_96 : decode cX12_keeps 96 = .ok (.iload_n 1, 1) := by decide +kernel
theorem dX12_keeps_97 : decode cX12_keeps 97 = .ok (.ireturn, 1) := by decide +kernel
theorem dX12_lays_0 : decode cX12_lays 0 = .ok (.aload_n 0, 1) := by decide +kernel
theorem dX12_lays_1 : decode cX12_lays 1 = .ok (.getfield 7, 3) := by decide +kernel
theorem dX12_lays_4 : decode cX12_lays 4 = .ok (.bipush 58, 2) := by decide +kernel
theorem dX12_lays_6 : decode cX12_lays 6 = .ok (.iload_n 1, 1) := by decide +kernel
theorem dX12_lays_7 : decode cX12_lays 7 = .ok (.imul, 1) := by decide +kernel
theorem dX12_lays_8 : decode cX12_lays 8 = .ok (.iload_n 2, 1) := by decide +kernel
theorem dX12_lays_9 : decode cX12_lays 9 = .ok (.iadd, 1) := by decide +kernel
theorem dX12_lays_10 : decode cX12_lays 10 = .ok (.iload_n 3, 1) := by decide +kernel
theorem dX12_lays_11 : decode cX12_lays 11 = .ok (.iastore, 1) := by decide +kernel
theorem dX12_lays_12 : decode cX12_lays 12 = .ok (.return_, 1) := by decide +kernel
theorem dX12_laysJumper_0 : decode cX12_laysJumper 0 = .ok (.aload_n 0, 1) := by decide +kernel
theorem dX12_laysJumper_1 : decode cX12_laysJumper 1 = .ok (.iload_n 1, 1) := by decide +kernel
theorem dX12_laysJumper_2 : decode cX12_laysJumper 2 = .ok (.iload_n 2, 1) := by decide +kernel
theorem dX12_laysJumper_3 : decode cX12_laysJumper 3 = .ok (.invokevirtual 313, 3) := by decide +kernel
theorem dX12_laysJumper_6 : decode cX12_laysJumper 6 = .ok (.iconst (-1), 1) := by decide +kernel
theorem dX12_laysJumper_7 : decode cX12_laysJumper 7 = .ok (.istore_n 3, 1) := by decide +kernel
theorem dX12_laysJumper_8 : decode cX12_laysJumper 8 = .ok (.iconst 0, 1) := by decide +kernel
theorem dX12_laysJumper_9 : decode cX12_laysJumper 9 = .ok (.istore 4, 2) := by decide +kernel
theorem dX12_laysJumper_11 : decode cX12_laysJumper 11 = .ok (.iload 4, 2) := by decide +kernel
theorem dX12_laysJumper_13 : decode cX12_laysJumper 13 = .ok (.aload_n 0, 1) := by decide +kernel
theorem dX12_laysJumper_14 : decode cX12_laysJumper 14 = .ok (.iload_n 1, 1) := by decide +kernel
theorem dX12_laysJumper_15 : decode cX12_laysJumper 15 = .ok (.invokevirtual 76, 3) := by decide +kernel
theorem dX12_laysJumper_18 : decode cX12_laysJumper 18 = .ok (.if_icmp .ge 81, 3) := by decide +kernel
theorem dX12_laysJumper_21 : decode cX12_laysJumper 21 = .ok (.aload_n 0, 1) := by decide +kernel
theorem dX12_laysJumper_22 : decode cX12_laysJumper 22 = .ok (.iload_n 1, 1) := by decide +kernel
theorem dX12_laysJumper_23 : decode cX12_laysJumper 23 = .ok (.iload 4, 2) := by decide +kernel
theorem dX12_laysJumper_25 : decode cX12_laysJumper 25 = .ok (.invokevirtual 86, 3) := by decide +kernel
theorem dX12_laysJumper_28 : decode cX12_laysJumper 28 = .ok (.ifCond .ne 21, 3) := by decide +kernel
theorem dX12_laysJumper_31 : decode cX12_laysJumper 31 = .ok (.aload_n 0, 1) := by decide +kernel
theorem dX12_laysJumper_32 : decode cX12_laysJumper 32 = .ok (.getfield 38, 3) := by decide +kernel
theorem dX12_laysJumper_35 : decode cX12_laysJumper 35 = .ok (.bipush 8, 2) := by decide +kernel
theorem dX12_laysJumper_37 : decode cX12_laysJumper 37 = .ok (.iconst 1, 1) := by decide +kernel
theorem dX12_laysJumper_38 : decode cX12_laysJumper 38 = .ok (.iload 4, 2) := by decide +kernel
theorem dX12_laysJumper_40 : decode cX12_laysJumper 40 = .ok (.ishl, 1) := by decide +kernel
theorem dX12_laysJumper_41 : decode cX12_laysJumper 41 = .ok (.imul, 1) := by decide +kernel
theorem dX12_laysJumper_42 : decode cX12_laysJumper 42 = .ok (.iload 4, 2) := by decide +kernel
theorem dX12_laysJumper_44 : decode cX12_laysJumper 44 = .ok (.iadd, 1) := by decide +kernel
theorem dX12_laysJumper_45 : decode cX12_laysJumper 45 = .ok (.iaload, 1) := by decide +kernel
theorem dX12_laysJumper_46 : decode cX12_laysJumper 46 = .ok (.goto 4, 3) := by decide +kernel
theorem dX12_laysJumper_49 : decode cX12_laysJumper 49 = .ok (.iconst (-1), 1) := by decide +kernel
theorem dX12_laysJumper_50 : decode cX12_laysJumper 50 = .ok (.istore 5, 2) := by decide +kernel
theorem dX12_laysJumper_52 : decode cX12_laysJumper 52 = .ok (.iload 5, 2) := by decide +kernel
theorem dX12_laysJumper_54 : decode cX12_laysJumper 54 = .ok (.iconst (-1), 1) := by decide +kernel
theorem dX12_laysJumper_55 : decode cX12_laysJumper 55 = .ok (.if_icmp .eq 38, 3) := by decide +kernel
theorem dX12_laysJumper_58 : decode cX12_laysJumper 58 = .ok (.iload_n 3, 1) := by decide +kernel
theorem dX12_laysJumper_59 : decode cX12_laysJumper 59 = .ok (.iconst (-1), 1) := by decide +kernel
theorem dX12_laysJumper_60 : decode cX12_laysJumper 60 = .ok (.if_icmp .eq 22, 3) := by decide +kernel
theorem dX12_laysJumper_63 : decode cX12_laysJumper 63 = .ok (.iload_n 2, 1) := by decide +kernel
theorem dX12_laysJumper_64 : decode cX12_laysJumper 64 = .ok (.ifCond .eq 12, 3) := by decide +kernel
theorem dX12_laysJumper_67 : decode cX12_laysJumper 67 = .ok (.iload 5, 2) := by decide +kernel
theorem dX12_laysJumper_69 : decode cX12_laysJumper 69 = .ok (.iload_n 3, 1) := by decide +kernel
theorem dX12_laysJumper_70 : decode cX12_laysJumper 70 = .ok (.if_icmp .le 23, 3) := by decide +kernel
theorem dX12_laysJumper_73 : decode cX12_laysJumper 73 = .ok (.goto 9, 3) := by decide +kernel
theorem dX12_laysJumper_76 : decode cX12_laysJumper 76 = .ok (.iload 5, 2) := by decide +kernel
theorem dX12_laysJumper_78 : decode cX12_laysJumper 78 = .ok (.iload_n 3, 1) := by decide +kernel
theorem dX12_laysJumper_79 : decode cX12_laysJumper 79 = .ok (.if_icmp .ge 14, 3) := by decide +kernel
theorem dX12_laysJumper_82 : decode cX12_laysJumper 82 = .ok (.iload 5, 2) := by decide +kernel
theorem dX12_laysJumper_84 : decode cX12_laysJumper 84 = .ok (.istore_n 3, 1) := by decide +kernel
theorem dX12_laysJumper_85 : decode cX12_laysJumper 85 = .ok (.aload_n 0, 1) := by decide +kernel
theorem dX12_laysJumper_86 : decode cX12_laysJumper 86 = .ok (.getfield 35, 3) := by decide +kernel
theorem dX12_laysJumper_89 : decode cX12_laysJumper 89 = .ok (.iconst 0, 1) := by decide +kernel
theorem dX12_laysJumper_90 : decode cX12_laysJumper 90 = .ok (.iload 4, 2) := by decide +kernel
theorem dX12_laysJumper_92 : decode cX12_laysJumper 92 = .ok (.iastore, 1) := by decide +kernel
theorem dX12_laysJumper_93 : decode cX12_laysJumper 93 = .ok (.iinc 4 1, 3) := by decide +kernel
theorem dX12_laysJumper_96 : decode cX12_laysJumper 96 = .ok (.goto (-85), 3) := by decide +kernel
theorem dX12_laysJumper_99 : decode cX12_laysJumper 99 = .ok (.iconst 1, 1) := by decide +kernel
theorem dX12_laysJumper_100 : decode cX12_laysJumper 100 = .ok (.aload_n 0, 1) := by decide +kernel
theorem dX12_laysJumper_101 : decode cX12_laysJumper 101 = .ok (.getfield 35, 3) := by decide +kernel
theorem dX12_laysJumper_104 : decode cX12_laysJumper 104 = .ok (.iconst 0, 1) := by decide +kernel
theorem dX12_laysJumper_105 : decode cX12_laysJumper 105 = .ok (.iaload, 1) := by decide +kernel
theorem dX12_laysJumper_106 : decode cX12_laysJumper 106 = .ok (.ishl, 1) := by decide +kernel
theorem dX12_laysJumper_107 : decode cX12_laysJumper 107 = .ok (.istore 4, 2) := by decide +kernel
theorem dX12_laysJumper_109 : decode cX12_laysJumper 109 = .ok (.iload_n 3, 1) := by decide +kernel
theorem dX12_laysJumper_110 : decode cX12_laysJumper 110 = .ok (.istore 5, 2) := by decide +kernel
theorem dX12_laysJumper_112 : decode cX12_laysJumper 112 = .ok (.iconst 1, 1) := by decide +kernel
theorem dX12_laysJumper_113 : decode cX12_laysJumper 113 = .ok (.istore 6, 2) := by decide +kernel
theorem dX12_laysJumper_115 : decode cX12_laysJumper 115 = .ok (.iload 6, 2) := by decide +kernel
theorem dX12_laysJumper_117 : decode cX12_laysJumper 117 = .ok (.aload_n 0, 1) := by decide +kernel
theorem dX12_laysJumper_118 : decode cX12_laysJumper 118 = .ok (.iload_n 1, 1) := by decide +kernel
theorem dX12_laysJumper_119 : decode cX12_laysJumper 119 = .ok (.invokevirtual 76, 3) := by decide +kernel
theorem dX12_laysJumper_122 : decode cX12_laysJumper 122 = .ok (.if_icmp .ge 133, 3) := by decide +kernel
theorem dX12_laysJumper_125 : decode cX12_laysJumper 125 = .ok (.iconst 0, 1) := by decide +kernel
theorem dX12_laysJumper_126 : decode cX12_laysJumper 126 = .ok (.istore 7, 2) := by decide +kernel
theorem dX12_laysJumper_128 : decode cX12_laysJumper 128 = .ok (.aload_n 0, 1) := by decide +kernel
theorem dX12_laysJumper_129 : decode cX12_laysJumper 129 = .ok (.getfield 35, 3) := by decide +kernel
theorem dX12_laysJumper_132 : decode cX12_laysJumper 132 = .ok (.iload 6, 2) := by decide +kernel
theorem dX12_laysJumper_134 : decode cX12_laysJumper 134 = .ok (.iconst 1, 1) := by decide +kernel
theorem dX12_laysJumper_135 : decode cX12_laysJumper 135 = .ok (.isub, 1) := by decide +kernel
theorem dX12_laysJumper_136 : decode cX12_laysJumper 136 = .ok (.iaload, 1) := by decide +kernel
theorem dX12_laysJumper_137 : decode cX12_laysJumper 137 = .ok (.istore 8, 2) := by decide +kernel
theorem dX12_laysJumper_139 : decode cX12_laysJumper 139 = .ok (.iload 4, 2) := by decide +kernel
theorem dX12_laysJumper_141 : decode cX12_laysJumper 141 = .ok (.iload 7, 2) := by decide +kernel
theorem dX12_laysJumper_143 : decode cX12_laysJumper 143 = .ok (.invokestatic 89, 3) := by decide +kernel
theorem dX12_laysJumper_146 : decode cX12_laysJumper 146 = .ok (.ifCond .ne 59, 3) := by decide +kernel
theorem dX12_laysJumper_149 : decode cX12_laysJumper 149 = .ok (.aload_n 0, 1) := by decide +kernel
theorem dX12_laysJumper_150 : decode cX12_laysJumper 150 = .ok (.iload_n 1, 1) := by decide +kernel
theorem dX12_laysJumper_151 : decode cX12_laysJumper 151 = .ok (.iload 7, 2) := by decide +kernel
theorem dX12_laysJumper_153 : decode cX12_laysJumper 153 = .ok (.invokevirtual 86, 3) := by decide +kernel
theorem dX12_laysJumper_156 : decode cX12_laysJumper 156 = .ok (.iload 4, 2) := by decide +kernel
theorem dX12_laysJumper_158 : decode cX12_laysJumper 158 = .ok (.iconst (-1), 1) := by decide +kernel
theorem dX12_laysJumper_159 : decode cX12_laysJumper 159 = .ok (.ixor, 1) := by decide +kernel
theorem dX12_laysJumper_160 : decode cX12_laysJumper 160 = .ok (.iand, 1) := by decide +kernel
theorem dX12_laysJumper_161 : decode cX12_laysJumper 161 = .ok (.ifCond .ne 44, 3) := by decide +kernel
theorem dX12_laysJumper_164 : decode cX12_laysJumper 164 = .ok (.aload_n 0, 1) := by decide +kernel
theorem dX12_laysJumper_165 : decode cX12_laysJumper 165 = .ok (.getfield 38, 3) := by decide +kernel
theorem dX12_laysJumper_168 : decode cX12_laysJumper 168 = .ok (.bipush 8, 2) := by decide +kernel
theorem dX12_laysJumper_170 : decode cX12_laysJumper 170 = .ok (.iload 4, 2) := by decide +kernel
theorem dX12_laysJumper_172 : decode cX12_laysJumper 172 = .ok (.iconst 1, 1) := by decide +kernel
theorem dX12_laysJumper_173 : decode cX12_laysJumper 173 = .ok (.iload 7, 2) := by decide +kernel
theorem dX12_laysJumper_175 : decode cX12_laysJumper 175 = .ok (.ishl, 1) := by decide +kernel
theorem dX12_laysJumper_176 : decode cX12_laysJumper 176 = .ok (.ior, 1) := by decide +kernel
theorem dX12_laysJumper_177 : decode cX12_laysJumper 177 = .ok (.imul, 1) := by decide +kernel
theorem dX12_laysJumper_178 : decode cX12_laysJumper 178 = .ok (.iload 7, 2) := by decide +kernel
theorem dX12_laysJumper_180 : decode cX12_laysJumper 180 = .ok (.iadd, 1) := by decide +kernel
theorem dX12_laysJumper_181 : decode cX12_laysJumper 181 = .ok (.iaload, 1) := by decide +kernel
theorem dX12_laysJumper_182 : decode cX12_laysJumper 182 = .ok (.aload_n 0, 1) := by decide +kernel
theorem dX12_laysJumper_183 : decode cX12_laysJumper 183 = .ok (.iload_n 1, 1) := by decide +kernel
theorem dX12_laysJumper_184 : decode cX12_laysJumper 184 = .ok (.iload 8, 2) := by decide +kernel
theorem dX12_laysJumper_186 : decode cX12_laysJumper 186 = .ok (.iload 7, 2) := by decide +kernel
theorem dX12_laysJumper_188 : decode cX12_laysJumper 188 = .ok (.invokevirtual 93, 3) := by decide +kernel
theorem dX12_laysJumper_191 : decode cX12_laysJumper 191 = .ok (.ifCond .eq 7, 3) := by decide +kernel
theorem dX12_laysJumper_194 : decode cX12_laysJumper 194 = .ok (.iconst 0, 1) := by decide +kernel
theorem dX12_laysJumper_195 : decode cX12_laysJumper 195 = .ok (.goto 4, 3) := by decide +kernel
theorem dX12_laysJumper_198 : decode cX12_laysJumper 198 = .ok (.iconst 1, 1) := by decide +kernel
theorem dX12_laysJumper_199 : decode cX12_laysJumper 199 = .ok (.iadd, 1) := by decide +kernel
theorem dX12_laysJumper_200 : decode cX12_laysJumper 200 = .ok (.iload 5, 2) := by decide +kernel
theorem dX12_laysJumper_202 : decode cX12_laysJumper 202 = .ok (.if_icmp .eq 9, 3) := by decide +kernel
theorem dX12_laysJumper_205 : decode cX12_laysJumper 205 = .ok (.iinc 7 1, 3) := by decide +kernel
theorem dX12_laysJumper_208 : decode cX12_laysJumper 208 = .ok (.goto (-69), 3) := by decide +kernel
theorem dX12_laysJumper_211 : decode cX12_laysJumper 211 = .ok (.aload_n 0, 1) := by decide +kernel
theorem dX12_laysJumper_212 : decode cX12_laysJumper 212 = .ok (.getfield 38, 3) := by decide +kernel
theorem dX12_laysJumper_215 : decode cX12_laysJumper 215 = .ok (.bipush 8, 2) := by decide +kernel
theorem dX12_laysJumper_217 : decode cX12_laysJumper 217 = .ok (.iload 4, 2) := by decide +kernel
theorem dX12_laysJumper_219 : decode cX12_laysJumper 219 = .ok (.iconst 1, 1) := by decide +kernel
theorem dX12_laysJumper_220 : decode cX12_laysJumper 220 = .ok (.iload 7, 2) := by decide +kernel
theorem dX12_laysJumper_222 : decode cX12_laysJumper 222 = .ok (.ishl, 1) := by decide +kernel
theorem dX12_laysJumper_223 : decode cX12_laysJumper 223 = .ok (.ior, 1) := by decide +kernel
theorem dX12_laysJumper_224 : decode cX12_laysJumper 224 = .ok (.imul, 1) := by decide +kernel
theorem dX12_laysJumper_225 : decode cX12_laysJumper 225 = .ok (.iload 7, 2) := by decide +kernel
theorem dX12_laysJumper_227 : decode cX12_laysJumper 227 = .ok (.iadd, 1) := by decide +kernel
theorem dX12_laysJumper_228 : decode cX12_laysJumper 228 = .ok (.iaload, 1) := by decide +kernel
theorem dX12_laysJumper_229 : decode cX12_laysJumper 229 = .ok (.istore 5, 2) := by decide +kernel
theorem dX12_laysJumper_231 : decode cX12_laysJumper 231 = .ok (.aload_n 0, 1) := by decide +kernel
theorem dX12_laysJumper_232 : decode cX12_laysJumper 232 = .ok (.getfield 35, 3) := by decide +kernel
theorem dX12_laysJumper_235 : decode cX12_laysJumper 235 = .ok (.iload 6, 2) := by decide +kernel
theorem dX12_laysJumper_237 : decode cX12_laysJumper 237 = .ok (.iload 7, 2) := by decide +kernel
theorem dX12_laysJumper_239 : decode cX12_laysJumper 239 = .ok (.iastore, 1) := by decide +kernel
theorem dX12_laysJumper_240 : decode cX12_laysJumper 240 = .ok (.iload 4, 2) := by decide +kernel
theorem dX12_laysJumper_242 : decode cX12_laysJumper 242 = .ok (.iconst 1, 1) := by decide +kernel
theorem dX12_laysJumper_243 : decode cX12_laysJumper 243 = .ok (.iload 7, 2) := by decide +kernel
theorem dX12_laysJumper_245 : decode cX12_laysJumper 245 = .ok (.ishl, 1) := by decide +kernel
theorem dX12_laysJumper_246 : decode cX12_laysJumper 246 = .ok (.ior, 1) := by decide +kernel
theorem dX12_laysJumper_247 : decode cX12_laysJumper 247 = .ok (.istore 4, 2) := by decide +kernel
theorem dX12_laysJumper_249 : decode cX12_laysJumper 249 = .ok (.iinc 6 1, 3) := by decide +kernel
theorem dX12_laysJumper_252 : decode cX12_laysJumper 252 = .ok (.goto (-137), 3) := by decide +kernel
theorem dX12_laysJumper_255 : decode cX12_laysJumper 255 = .ok (.iload_n 3, 1) := by decide +kernel
theorem dX12_laysJumper_256 : decode cX12_laysJumper 256 = .ok (.ireturn, 1) := by decide +kernel
