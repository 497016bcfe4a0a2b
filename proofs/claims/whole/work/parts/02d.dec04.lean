theorem dX12_laysLeaps_0 : decode cX12_laysLeaps 0 = .ok (.aload_n 0, 1) := by decide +kernel
theorem dX12_laysLeaps_1 : decode cX12_laysLeaps 1 = .ok (.iload_n 1, 1) := by decide +kernel
theorem dX12_laysLeaps_2 : decode cX12_laysLeaps 2 = .ok (.invokevirtual 285, 3) := by decide +kernel
theorem dX12_laysLeaps_5 : decode cX12_laysLeaps 5 = .ok (.aload_n 0, 1) := by decide +kernel
theorem dX12_laysLeaps_6 : decode cX12_laysLeaps 6 = .ok (.getfield 282, 3) := by decide +kernel
theorem dX12_laysLeaps_9 : decode cX12_laysLeaps 9 = .ok (.istore_n 3, 1) := by decide +kernel
theorem dX12_laysLeaps_10 : decode cX12_laysLeaps 10 = .ok (.iload_n 3, 1) := by decide +kernel
theorem dX12_laysLeaps_11 : decode cX12_laysLeaps 11 = .ok (.ifCond .le 179, 3) := by decide +kernel
theorem dX12_laysLeaps_14 : decode cX12_laysLeaps 14 = .ok (.iconst 0, 1) := by decide +kernel
theorem dX12_laysLeaps_15 : decode cX12_laysLeaps 15 = .ok (.istore 4, 2) := by decide +kernel
theorem dX12_laysLeaps_17 : decode cX12_laysLeaps 17 = .ok (.iload 4, 2) := by decide +kernel
theorem dX12_laysLeaps_19 : decode cX12_laysLeaps 19 = .ok (.aload_n 0, 1) := by decide +kernel
theorem dX12_laysLeaps_20 : decode cX12_laysLeaps 20 = .ok (.iload_n 1, 1) := by decide +kernel
theorem dX12_laysLeaps_21 : decode cX12_laysLeaps 21 = .ok (.invokevirtual 76, 3) := by decide +kernel
theorem dX12_laysLeaps_24 : decode cX12_laysLeaps 24 = .ok (.if_icmp .ge 160, 3) := by decide +kernel
theorem dX12_laysLeaps_27 : decode cX12_laysLeaps 27 = .ok (.iload_n 3, 1) := by decide +kernel
theorem dX12_laysLeaps_28 : decode cX12_laysLeaps 28 = .ok (.aload_n 0, 1) := by decide +kernel
theorem dX12_laysLeaps_29 : decode cX12_laysLeaps 29 = .ok (.getfield 282, 3) := by decide +kernel
theorem dX12_laysLeaps_32 : decode cX12_laysLeaps 32 = .ok (.if_icmp .ne 7, 3) := by decide +kernel
theorem dX12_laysLeaps_35 : decode cX12_laysLeaps 35 = .ok (.iconst 0, 1) := by decide +kernel
theorem dX12_laysLeaps_36 : decode cX12_laysLeaps 36 = .ok (.goto 4, 3) := by decide +kernel
theorem dX12_laysLeaps_39 : decode cX12_laysLeaps 39 = .ok (.iconst (-1), 1) := by decide +kernel
theorem dX12_laysLeaps_40 : decode cX12_laysLeaps 40 = .ok (.istore 5, 2) := by decide +kernel
theorem dX12_laysLeaps_42 : decode cX12_laysLeaps 42 = .ok (.iconst 0, 1) := by decide +kernel
theorem dX12_laysLeaps_43 : decode cX12_laysLeaps 43 = .ok (.istore 6, 2) := by decide +kernel
theorem dX12_laysLeaps_45 : decode cX12_laysLeaps 45 = .ok (.iload 6, 2) := by decide +kernel
theorem dX12_laysLeaps_47 : decode cX12_laysLeaps 47 = .ok (.aload_n 0, 1) := by decide +kernel
theorem dX12_laysLeaps_48 : decode cX12_laysLeaps 48 = .ok (.iload_n 1, 1) := by decide +kernel
theorem dX12_laysLeaps_49 : decode cX12_laysLeaps 49 = .ok (.invokevirtual 76, 3) := by decide +kernel
theorem dX12_laysLeaps_52 : decode cX12_laysLeaps 52 = .ok (.if_icmp .ge 112, 3) := by decide +kernel
theorem dX12_laysLeaps_55 : decode cX12_laysLeaps 55 = .ok (.iload_n 3, 1) := by decide +kernel
theorem dX12_laysLeaps_56 : decode cX12_laysLeaps 56 = .ok (.iload 6, 2) := by decide +kernel
theorem dX12_laysLeaps_58 : decode cX12_laysLeaps 58 = .ok (.invokestatic 89, 3) := by decide +kernel
theorem dX12_laysLeaps_61 : decode cX12_laysLeaps 61 = .ok (.ifCond .ne 97, 3) := by decide +kernel
theorem dX12_laysLeaps_64 : decode cX12_laysLeaps 64 = .ok (.aload_n 0, 1) := by decide +kernel
theorem dX12_laysLeaps_65 : decode cX12_laysLeaps 65 = .ok (.iload_n 1, 1) := by decide +kernel
theorem dX12_laysLeaps_66 : decode cX12_laysLeaps 66 = .ok (.iload 6, 2) := by decide +kernel
theorem dX12_laysLeaps_68 : decode cX12_laysLeaps 68 = .ok (.invokevirtual 86, 3) := by decide +kernel
theorem dX12_laysLeaps_71 : decode cX12_laysLeaps 71 = .ok (.iload_n 3, 1) := by decide +kernel
theorem dX12_laysLeaps_72 : decode cX12_laysLeaps 72 = .ok (.iconst (-1), 1) := by decide +kernel
theorem dX12_laysLeaps_73 : decode cX12_laysLeaps 73 = .ok (.ixor, 1) := by decide +kernel
theorem dX12_laysLeaps_74 : decode cX12_laysLeaps 74 = .ok (.iand, 1) := by decide +kernel
theorem dX12_laysLeaps_75 : decode cX12_laysLeaps 75 = .ok (.ifCond .eq 6, 3) := by decide +kernel
theorem dX12_laysLeaps_78 : decode cX12_laysLeaps 78 = .ok (.goto 80, 3) := by decide +kernel
theorem dX12_laysLeaps_81 : decode cX12_laysLeaps 81 = .ok (.aload_n 0, 1) := by decide +kernel
theorem dX12_laysLeaps_82 : decode cX12_laysLeaps 82 = .ok (.getfield 38, 3) := by decide +kernel
theorem dX12_laysLeaps_85 : decode cX12_laysLeaps 85 = .ok (.bipush 8, 2) := by decide +kernel
theorem dX12_laysLeaps_87 : decode cX12_laysLeaps 87 = .ok (.iload_n 3, 1) := by decide +kernel
theorem dX12_laysLeaps_88 : decode cX12_laysLeaps 88 = .ok (.iconst 1, 1) := by decide +kernel
theorem dX12_laysLeaps_89 : decode cX12_laysLeaps 89 = .ok (.iload 6, 2) := by decide +kernel
theorem dX12_laysLeaps_91 : decode cX12_laysLeaps 91 = .ok (.ishl, 1) := by decide +kernel
theorem dX12_laysLeaps_92 : decode cX12_laysLeaps 92 = .ok (.ior, 1) := by decide +kernel
theorem dX12_laysLeaps_93 : decode cX12_laysLeaps 93 = .ok (.imul, 1) := by decide +kernel
theorem dX12_laysLeaps_94 : decode cX12_laysLeaps 94 = .ok (.iload 6, 2) := by decide +kernel
theorem dX12_laysLeaps_96 : decode cX12_laysLeaps 96 = .ok (.iadd, 1) := by decide +kernel
theorem dX12_laysLeaps_97 : decode cX12_laysLeaps 97 = .ok (.iaload, 1) := by decide +kernel
theorem dX12_laysLeaps_98 : decode cX12_laysLeaps 98 = .ok (.istore 7, 2) := by decide +kernel
theorem dX12_laysLeaps_100 : decode cX12_laysLeaps 100 = .ok (.iload 7, 2) := by decide +kernel
theorem dX12_laysLeaps_102 : decode cX12_laysLeaps 102 = .ok (.aload_n 0, 1) := by decide +kernel
theorem dX12_laysLeaps_103 : decode cX12_laysLeaps 103 = .ok (.iload_n 1, 1) := by decide +kernel
theorem dX12_laysLeaps_104 : decode cX12_laysLeaps 104 = .ok (.iload 4, 2) := by decide +kernel
theorem dX12_laysLeaps_106 : decode cX12_laysLeaps 106 = .ok (.iload 6, 2) := by decide +kernel
theorem dX12_laysLeaps_108 : decode cX12_laysLeaps 108 = .ok (.invokevirtual 93, 3) := by decide +kernel
theorem dX12_laysLeaps_111 : decode cX12_laysLeaps 111 = .ok (.ifCond .eq 7, 3) := by decide +kernel
theorem dX12_laysLeaps_114 : decode cX12_laysLeaps 114 = .ok (.iconst 0, 1) := by decide +kernel
theorem dX12_laysLeaps_115 : decode cX12_laysLeaps 115 = .ok (.goto 4, 3) := by decide +kernel
theorem dX12_laysLeaps_118 : decode cX12_laysLeaps 118 = .ok (.iconst 1, 1) := by decide +kernel
theorem dX12_laysLeaps_119 : decode cX12_laysLeaps 119 = .ok (.iadd, 1) := by decide +kernel
theorem dX12_laysLeaps_120 : decode cX12_laysLeaps 120 = .ok (.istore 8, 2) := by decide +kernel
theorem dX12_laysLeaps_122 : decode cX12_laysLeaps 122 = .ok (.iload 5, 2) := by decide +kernel
theorem dX12_laysLeaps_124 : decode cX12_laysLeaps 124 = .ok (.iconst (-1), 1) := by decide +kernel
theorem dX12_laysLeaps_125 : decode cX12_laysLeaps 125 = .ok (.if_icmp .eq 24, 3) := by decide +kernel
theorem dX12_laysLeaps_128 : decode cX12_laysLeaps 128 = .ok (.iload_n 2, 1) := by decide +kernel
theorem dX12_laysLeaps_129 : decode cX12_laysLeaps 129 = .ok (.ifCond .eq 13, 3) := by decide +kernel
theorem dX12_laysLeaps_132 : decode cX12_laysLeaps 132 = .ok (.iload 8, 2) := by decide +kernel
theorem dX12_laysLeaps_134 : decode cX12_laysLeaps 134 = .ok (.iload 5, 2) := by decide +kernel
theorem dX12_laysLeaps_136 : decode cX12_laysLeaps 136 = .ok (.if_icmp .le 18, 3) := by decide +kernel
theorem dX12_laysLeaps_139 : decode cX12_laysLeaps 139 = .ok (.goto 10, 3) := by decide +kernel
theorem dX12_laysLeaps_142 : decode cX12_laysLeaps 142 = .ok (.iload 8, 2) := by decide +kernel
theorem dX12_laysLeaps_144 : decode cX12_laysLeaps 144 = .ok (.iload 5, 2) := by decide +kernel
theorem dX12_laysLeaps_146 : decode cX12_laysLeaps 146 = .ok (.if_icmp .ge 8, 3) := by decide +kernel
theorem dX12_laysLeaps_149 : decode cX12_laysLeaps 149 = .ok (.iload 8, 2) := by decide +kernel
theorem dX12_laysLeaps_151 : decode cX12_laysLeaps 151 = .ok (.goto 5, 3) := by decide +kernel
theorem dX12_laysLeaps_154 : decode cX12_laysLeaps 154 = .ok (.iload 5, 2) := by decide +kernel
theorem dX12_laysLeaps_156 : decode cX12_laysLeaps 156 = .ok (.istore 5, 2) := by decide +kernel
theorem dX12_laysLeaps_158 : decode cX12_laysLeaps 158 = .ok (.iinc 6 1, 3) := by decide +kernel
theorem dX12_laysLeaps_161 : decode cX12_laysLeaps 161 = .ok (.goto (-116), 3) := by decide +kernel
theorem dX12_laysLeaps_164 : decode cX12_laysLeaps 164 = .ok (.aload_n 0, 1) := by decide +kernel
theorem dX12_laysLeaps_165 : decode cX12_laysLeaps 165 = .ok (.getfield 38, 3) := by decide +kernel
theorem dX12_laysLeaps_168 : decode cX12_laysLeaps 168 = .ok (.bipush 8, 2) := by decide +kernel
theorem dX12_laysLeaps_170 : decode cX12_laysLeaps 170 = .ok (.iload_n 3, 1) := by decide +kernel
theorem dX12_laysLeaps_171 : decode cX12_laysLeaps 171 = .ok (.imul, 1) := by decide +kernel
theorem dX12_laysLeaps_172 : decode cX12_laysLeaps 172 = .ok (.iload 4, 2) := by decide +kernel
theorem dX12_laysLeaps_174 : decode cX12_laysLeaps 174 = .ok (.iadd, 1) := by decide +kernel
theorem dX12_laysLeaps_175 : decode cX12_laysLeaps 175 = .ok (.iload 5, 2) := by decide +kernel
theorem dX12_laysLeaps_177 : decode cX12_laysLeaps 177 = .ok (.iastore, 1) := by decide +kernel
theorem dX12_laysLeaps_178 : decode cX12_laysLeaps 178 = .ok (.iinc 4 1, 3) := by decide +kernel
theorem dX12_laysLeaps_181 : decode cX12_laysLeaps 181 = .ok (.goto (-164), 3) := by decide +kernel
theorem dX12_laysLeaps_184 : decode cX12_laysLeaps 184 = .ok (.iinc 3 (-1), 3) := by decide +kernel
theorem dX12_laysLeaps_187 : decode cX12_laysLeaps 187 = .ok (.goto (-177), 3) := by decide +kernel
theorem dX12_laysLeaps_190 : decode cX12_laysLeaps 190 = .ok (.return_, 1) := by decide +kernel
theorem dX12_laysLine_0 : decode cX12_laysLine 0 = .ok (.aload_n 0, 1) := by decide +kernel
theorem dX12_laysLine_1 : decode cX12_laysLine 1 = .ok (.iload_n 1, 1) := by decide +kernel
theorem dX12_laysLine_2 : decode cX12_laysLine 2 = .ok (.invokevirtual 285, 3) := by decide +kernel
theorem dX12_laysLine_5 : decode cX12_laysLine 5 = .ok (.iload_n 2, 1) := by decide +kernel
theorem dX12_laysLine_6 : decode cX12_laysLine 6 = .ok (.aload_n 0, 1) := by decide +kernel
theorem dX12_laysLine_7 : decode cX12_laysLine 7 = .ok (.getfield 29, 3) := by decide +kernel
theorem dX12_laysLine_10 : decode cX12_laysLine 10 = .ok (.aload_n 0, 1) := by decide +kernel
theorem dX12_laysLine_11 : decode cX12_laysLine 11 = .ok (.getfield 282, 3) := by decide +kernel
theorem dX12_laysLine_14 : decode cX12_laysLine 14 = .ok (.iaload, 1) := by decide +kernel
theorem dX12_laysLine_15 : decode cX12_laysLine 15 = .ok (.if_icmp .lt 5, 3) := by decide +kernel
theorem dX12_laysLine_18 : decode cX12_laysLine 18 = .ok (.iconst 0, 1) := by decide +kernel
theorem dX12_laysLine_19 : decode cX12_laysLine 19 = .ok (.ireturn, 1) := by decide +kernel
theorem dX12_laysLine_20 : decode cX12_laysLine 20 = .ok (.iload_n 2, 1) := by decide +kernel
theorem dX12_laysLine_21 : decode cX12_laysLine 21 = .ok (.istore_n 3, 1) := by decide +kernel
theorem dX12_laysLine_22 : decode cX12_laysLine 22 = .ok (.iconst 0, 1) := by decide +kernel
theorem dX12_laysLine_23 : decode cX12_laysLine 23 = .ok (.istore 4, 2) := by decide +kernel
theorem dX12_laysLine_25 : decode cX12_laysLine 25 = .ok (.iconst 0, 1) := by decide +kernel
theorem dX12_laysLine_26 : decode cX12_laysLine 26 = .ok (.istore 5, 2) := by decide +kernel
theorem dX12_laysLine_28 : decode cX12_laysLine 28 = .ok (.iload 5, 2) := by decide +kernel
theorem dX12_laysLine_30 : decode cX12_laysLine 30 = .ok (.aload_n 0, 1) := by decide +kernel
theorem dX12_laysLine_31 : decode cX12_laysLine 31 = .ok (.iload_n 1, 1) := by decide +kernel
theorem dX12_laysLine_32 : decode cX12_laysLine 32 = .ok (.invokevirtual 76, 3) := by decide +kernel
theorem dX12_laysLine_35 : decode cX12_laysLine 35 = .ok (.if_icmp .ge 122, 3) := by decide +kernel
theorem dX12_laysLine_38 : decode cX12_laysLine 38 = .ok (.iconst 0, 1) := by decide +kernel
theorem dX12_laysLine_39 : decode cX12_laysLine 39 = .ok (.istore 6, 2) := by decide +kernel
theorem dX12_laysLine_41 : decode cX12_laysLine 41 = .ok (.iconst 0, 1) := by decide +kernel
theorem dX12_laysLine_42 : decode cX12_laysLine 42 = .ok (.istore 7, 2) := by decide +kernel
theorem dX12_laysLine_44 : decode cX12_laysLine 44 = .ok (.iload 7, 2) := by decide +kernel
theorem dX12_laysLine_46 : decode cX12_laysLine 46 = .ok (.ifCond .ne 87, 3) := by decide +kernel
theorem dX12_laysLine_49 : decode cX12_laysLine 49 = .ok (.iload 4, 2) := by decide +kernel
theorem dX12_laysLine_51 : decode cX12_laysLine 51 = .ok (.iload 6, 2) := by decide +kernel
theorem dX12_laysLine_53 : decode cX12_laysLine 53 = .ok (.invokestatic 89, 3) := by decide +kernel
theorem dX12_laysLine_56 : decode cX12_laysLine 56 = .ok (.ifCond .ne 22, 3) := by decide +kernel
theorem dX12_laysLine_59 : decode cX12_laysLine 59 = .ok (.aload_n 0, 1) := by decide +kernel
theorem dX12_laysLine_60 : decode cX12_laysLine 60 = .ok (.iload_n 1, 1) := by decide +kernel
theorem dX12_laysLine_61 : decode cX12_laysLine 61 = .ok (.iload 6, 2) := by decide +kernel
theorem dX12_laysLine_63 : decode cX12_laysLine 63 = .ok (.invokevirtual 86, 3) := by decide +kernel
theorem dX12_laysLine_66 : decode cX12_laysLine 66 = .ok (.iload 4, 2) := by decide +kernel
theorem dX12_laysLine_68 : decode cX12_laysLine 68 = .ok (.iconst (-1), 1) := by decide +kernel
theorem dX12_laysLine_69 : decode cX12_laysLine 69 = .ok (.ixor, 1) := by decide +kernel
theorem dX12_laysLine_70 : decode cX12_laysLine 70 = .ok (.iand, 1) := by decide +kernel
theorem dX12_laysLine_71 : decode cX12_laysLine 71 = .ok (.ifCond .ne 7, 3) := by decide +kernel
theorem dX12_laysLine_74 : decode cX12_laysLine 74 = .ok (.iconst 1, 1) := by decide +kernel
theorem dX12_laysLine_75 : decode cX12_laysLine 75 = .ok (.goto 4, 3) := by decide +kernel
theorem dX12_laysLine_78 : decode cX12_laysLine 78 = .ok (.iconst 0, 1) := by decide +kernel
theorem dX12_laysLine_79 : decode cX12_laysLine 79 = .ok (.istore 8, 2) := by decide +kernel
theorem dX12_laysLine_81 : decode cX12_laysLine 81 = .ok (.iload 8, 2) := by decide +kernel
theorem dX12_laysLine_83 : decode cX12_laysLine 83 = .ok (.ifCond .eq 18, 3) := by decide +kernel
theorem dX12_laysLine_86 : decode cX12_laysLine 86 = .ok (.aload_n 0, 1) := by decide +kernel
theorem dX12_laysLine_87 : decode cX12_laysLine 87 = .ok (.getfield 32, 3) := by decide +kernel
theorem dX12_laysLine_90 : decode cX12_laysLine 90 = .ok (.iload 4, 2) := by decide +kernel
theorem dX12_laysLine_92 : decode cX12_laysLine 92 = .ok (.iconst 1, 1) := by decide +kernel
theorem dX12_laysLine_93 : decode cX12_laysLine 93 = .ok (.iload 6, 2) := by decide +kernel
theorem dX12_laysLine_95 : decode cX12_laysLine 95 = .ok (.ishl, 1) := by decide +kernel
theorem dX12_laysLine_96 : decode cX12_laysLine 96 = .ok (.ior, 1) := by decide +kernel
theorem dX12_laysLine_97 : decode cX12_laysLine 97 = .ok (.iaload, 1) := by decide +kernel
theorem dX12_laysLine_98 : decode cX12_laysLine 98 = .ok (.goto 4, 3) := by decide +kernel
theorem dX12_laysLine_101 : decode cX12_laysLine 101 = .ok (.iconst 0, 1) := by decide +kernel
theorem dX12_laysLine_102 : decode cX12_laysLine 102 = .ok (.istore 9, 2) := by decide +kernel
theorem dX12_laysLine_104 : decode cX12_laysLine 104 = .ok (.iload_n 3, 1) := by decide +kernel
theorem dX12_laysLine_105 : decode cX12_laysLine 105 = .ok (.iload 9, 2) := by decide +kernel
theorem dX12_laysLine_107 : decode cX12_laysLine 107 = .ok (.if_icmp .ge 7, 3) := by decide +kernel
theorem dX12_laysLine_110 : decode cX12_laysLine 110 = .ok (.iconst 1, 1) := by decide +kernel
theorem dX12_laysLine_111 : decode cX12_laysLine 111 = .ok (.goto 4, 3) := by decide +kernel
theorem dX12_laysLine_114 : decode cX12_laysLine 114 = .ok (.iconst 0, 1) := by decide +kernel
theorem dX12_laysLine_115 : decode cX12_laysLine 115 = .ok (.istore 7, 2) := by decide +kernel
theorem dX12_laysLine_117 : decode cX12_laysLine 117 = .ok (.iload 7, 2) := by decide +kernel
theorem dX12_laysLine_119 : decode cX12_laysLine 119 = .ok (.ifCond .ne 11, 3) := by decide +kernel
theorem dX12_laysLine_122 : decode cX12_laysLine 122 = .ok (.iload_n 3, 1) := by decide +kernel
theorem dX12_laysLine_123 : decode cX12_laysLine 123 = .ok (.iload 9, 2) := by decide +kernel
theorem dX12_laysLine_125 : decode cX12_laysLine 125 = .ok (.isub, 1) := by decide +kernel
theorem dX12_laysLine_126 : decode cX12_laysLine 126 = .ok (.istore_n 3, 1) := by decide +kernel
theorem dX12_laysLine_127 : decode cX12_laysLine 127 = .ok (.iinc 6 1, 3) := by decide +kernel
theorem dX12_laysLine_130 : decode cX12_laysLine 130 = .ok (.goto (-86), 3) := by decide +kernel
theorem dX12_laysLine_133 : decode cX12_laysLine 133 = .ok (.aload_n 0, 1) := by decide +kernel
theorem dX12_laysLine_134 : decode cX12_laysLine 134 = .ok (.getfield 35, 3) := by decide +kernel
theorem dX12_laysLine_137 : decode cX12_laysLine 137 = .ok (.iload 5, 2) := by decide +kernel
theorem dX12_laysLine_139 : decode cX12_laysLine 139 = .ok (.iload 6, 2) := by decide +kernel
theorem dX12_laysLine_141 : decode cX12_laysLine 141 = .ok (.iastore, 1) := by decide +kernel
theorem dX12_laysLine_142 : decode cX12_laysLine 142 = .ok (.iload 4, 2) := by decide +kernel
theorem dX12_laysLine_144 : decode cX12_laysLine 144 = .ok (.iconst 1, 1) := by decide +kernel
theorem dX12_laysLine_145 : decode cX12_laysLine 145 = .ok (.iload 6, 2) := by decide +kernel
theorem dX12_laysLine_147 : decode cX12_laysLine 147 = .ok (.ishl, 1) := by decide +kernel
theorem dX12_laysLine_148 : decode cX12_laysLine 148 = .ok (.ior, 1) := by decide +kernel
theorem dX12_laysLine_149 : decode cX12_laysLine 149 = .ok (.istore 4, 2) := by decide +kernel
theorem dX12_laysLine_151 : decode cX12_laysLine 151 = .ok (.iinc 5 1, 3) := by decide +kernel
theorem dX12_laysLine_154 : decode cX12_laysLine 154 = .ok (.goto (-126), 3) := by decide +kernel
theorem dX12_laysLine_157 : decode cX12_laysLine 157 = .ok (.iconst 1, 1) := by decide +kernel
theorem dX12_laysLine_158 : decode cX12_laysLine 158 = .ok (.ireturn, 1) := by decide +kernel
theorem dX12_laysLines_0 : decode cX12_laysLines 0 = .ok (.aload_n 0, 1) := by decide +kernel
theorem dX12_laysLines_1 : decode cX12_laysLines 1 = .ok (.iconst 1, 1) := by decide +kernel
theorem dX12_laysLines_2 : decode cX12_laysLines 2 = .ok (.aload_n 0, 1) := by decide +kernel
theorem dX12_laysLines_3 : decode cX12_laysLines 3 = .ok (.iload_n 1, 1) := by decide +kernel
theorem dX12_laysLines_4 : decode cX12_laysLines 4 = .ok (.invokevirtual 76, 3) := by decide +kernel
theorem dX12_laysLines_7 : decode cX12_laysLines 7 = .ok (.ishl, 1) := by decide +kernel
theorem dX12_laysLines_8 : decode cX12_laysLines 8 = .ok (.iconst 1, 1) := by decide +kernel
theorem dX12_laysLines_9 : decode cX12_laysLines 9 = .ok (.isub, 1) := by decide +kernel
theorem dX12_laysLines_10 : decode cX12_laysLines 10 = .ok (.putfield 282, 3) := by decide +kernel
theorem dX12_laysLines_13 : decode cX12_laysLines 13 = .ok (.iconst 0, 1) := by decide +kernel
theorem dX12_laysLines_14 : decode cX12_laysLines 14 = .ok (.istore_n 2, 1) := by decide +kernel
theorem dX12_laysLines_15 : decode cX12_laysLines 15 = .ok (.iload_n 2, 1) := by decide +kernel
theorem dX12_laysLines_16 : decode cX12_laysLines 16 = .ok (.aload_n 0, 1) := by decide +kernel
theorem dX12_laysLines_17 : decode cX12_laysLines 17 = .ok (.getfield 282, 3) := by decide +kernel
theorem dX12_laysLines_20 : decode cX12_laysLines 20 = .ok (.if_icmp .gt 92, 3) := by decide +kernel
theorem dX12_laysLines_23 : decode cX12_laysLines 23 = .ok (.aload_n 0, 1) := by decide +kernel
theorem dX12_laysLines_24 : decode cX12_laysLines 24 = .ok (.getfield 29, 3) := by decide +kernel
theorem dX12_laysLines_27 : decode cX12_laysLines 27 = .ok (.iload_n 2, 1) := by decide +kernel
theorem dX12_laysLines_28 : decode cX12_laysLines 28 = .ok (.iload_n 2, 1) := by decide +kernel
theorem dX12_laysLines_29 : decode cX12_laysLines 29 = .ok (.ifCond .ne 7, 3) := by decide +kernel
theorem dX12_laysLines_32 : decode cX12_laysLines 32 = .ok (.iconst 1, 1) := by decide +kernel
theorem dX12_laysLines_33 : decode cX12_laysLines 33 = .ok (.goto 4, 3) := by decide +kernel
theorem dX12_laysLines_36 : decode cX12_laysLines 36 = .ok (.iconst 0, 1) := by decide +kernel
theorem dX12_laysLines_37 : decode cX12_laysLines 37 = .ok (.iastore, 1) := by decide +kernel
theorem dX12_laysLines_38 : decode cX12_laysLines 38 = .ok (.iconst 0, 1) := by decide +kernel
theorem dX12_laysLines_39 : decode cX12_laysLines 39 = .ok (.istore_n 3, 1) := by decide +kernel
theorem dX12_laysLines_40 : decode cX12_laysLines 40 = .ok (.iload_n 3, 1) := by decide +kernel
theorem dX12_laysLines_41 : decode cX12_laysLines 41 = .ok (.aload_n 0, 1) := by decide +kernel
theorem dX12_laysLines_42 : decode cX12_laysLines 42 = .ok (.iload_n 1, 1) := by decide +kernel
theorem dX12_laysLines_43 : decode cX12_laysLines 43 = .ok (.invokevirtual 76, 3) := by decide +kernel
theorem dX12_laysLines_46 : decode cX12_laysLines 46 = .ok (.if_icmp .ge 60, 3) := by decide +kernel
theorem dX12_laysLines_49 : decode cX12_laysLines 49 = .ok (.iload_n 2, 1) := by decide +kernel
theorem dX12_laysLines_50 : decode cX12_laysLines 50 = .ok (.iconst 1, 1) := by decide +kernel
theorem dX12_laysLines_51 : decode cX12_laysLines 51 = .ok (.iload_n 3, 1) := by decide +kernel
theorem dX12_laysLines_52 : decode cX12_laysLines 52 = .ok (.ishl, 1) := by decide +kernel
theorem dX12_laysLines_53 : decode cX12_laysLines 53 = .ok (.iconst (-1), 1) := by decide +kernel
theorem dX12_laysLines_54 : decode cX12_laysLines 54 = .ok (.ixor, 1) := by decide +kernel
theorem dX12_laysLines_55 : decode cX12_laysLines 55 = .ok (.iand, 1) := by decide +kernel
theorem dX12_laysLines_56 : decode cX12_laysLines 56 = .ok (.istore 4, 2) := by decide +kernel
theorem dX12_laysLines_58 : decode cX12_laysLines 58 = .ok (.aload_n 0, 1) := by decide +kernel
theorem dX12_laysLines_59 : decode cX12_laysLines 59 = .ok (.getfield 29, 3) := by decide +kernel
theorem dX12_laysLines_62 : decode cX12_laysLines 62 = .ok (.iload_n 2, 1) := by decide +kernel
theorem dX12_laysLines_63 : decode cX12_laysLines 63 = .ok (.dup2, 1) := by decide +kernel
theorem dX12_laysLines_64 : decode cX12_laysLines 64 = .ok (.iaload, 1) := by decide +kernel
theorem dX12_laysLines_65 : decode cX12_laysLines 65 = .ok (.iload_n 2, 1) := by decide +kernel
theorem dX12_laysLines_66 : decode cX12_laysLines 66 = .ok (.iload_n 3, 1) := by decide +kernel
theorem dX12_laysLines_67 : decode cX12_laysLines 67 = .ok (.invokestatic 89, 3) := by decide +kernel
theorem dX12_laysLines_70 : decode cX12_laysLines 70 = .ok (.ifCond .eq 27, 3) := by decide +kernel
theorem dX12_laysLines_73 : decode cX12_laysLines 73 = .ok (.aload_n 0, 1) := by decide +kernel
theorem dX12_laysLines_74 : decode cX12_laysLines 74 = .ok (.iload_n 1, 1) := by decide +kernel
theorem dX12_laysLines_75 : decode cX12_laysLines 75 = .ok (.iload_n 3, 1) := by decide +kernel
theorem dX12_laysLines_76 : decode cX12_laysLines 76 = .ok (.invokevirtual 86, 3) := by decide +kernel
theorem dX12_laysLines_79 : decode cX12_laysLines 79 = .ok (.iload 4, 2) := by decide +kernel
theorem dX12_laysLines_81 : decode cX12_laysLines 81 = .ok (.iconst (-1), 1) := by decide +kernel
theorem dX12_laysLines_82 : decode cX12_laysLines 82 = .ok (.ixor, 1) := by decide +kernel
theorem dX12_laysLines_83 : decode cX12_laysLines 83 = .ok (.iand, 1) := by decide +kernel
theorem dX12_laysLines_84 : decode cX12_laysLines 84 = .ok (.ifCond .ne 13, 3) := by decide +kernel
theorem dX12_laysLines_87 : decode cX12_laysLines 87 = .ok (.aload_n 0, 1) := by decide +kernel
theorem dX12_laysLines_88 : decode cX12_laysLines 88 = .ok (.getfield 29, 3) := by decide +kernel
theorem dX12_laysLines_91 : decode cX12_laysLines 91 = .ok (.iload 4, 2) := by decide +kernel
theorem dX12_laysLines_93 : decode cX12_laysLines 93 = .ok (.iaload, 1) := by decide +kernel
theorem dX12_laysLines_94 : decode cX12_laysLines 94 = .ok (.goto 4, 3) := by decide +kernel
theorem dX12_laysLines_97 : decode cX12_laysLines 97 = .ok (.iconst 0, 1) := by decide +kernel
theorem dX12_laysLines_98 : decode cX12_laysLines 98 = .ok (.iadd, 1) := by decide +kernel
theorem dX12_laysLines_99 : decode cX12_laysLines 99 = .ok (.iastore, 1) := by decide +kernel
theorem dX12_laysLines_100 : decode cX12_laysLines 100 = .ok (.iinc 3 1, 3) := by decide +kernel
theorem dX12_laysLines_103 : decode cX12_laysLines 103 = .ok (.goto (-63), 3) := by decide +kernel
theorem dX12_laysLines_106 : decode cX12_laysLines 106 = .ok (.iinc 2 1, 3) := by decide +kernel
theorem dX12_laysLines_109 : decode cX12_laysLines 109 = .ok (.goto (-94), 3) := by decide +kernel
theorem dX12_laysLines_112 : decode cX12_laysLines 112 = .ok (.aload_n 0, 1) := by decide +kernel
theorem dX12_laysLines_113 : decode cX12_laysLines 113 = .ok (.getfield 282, 3) := by decide +kernel
theorem dX12_laysLines_116 : decode cX12_laysLines 116 = .ok (.istore_n 2, 1) := by decide +kernel
theorem dX12_laysLines_117 : decode cX12_laysLines 117 = .ok (.iload_n 2, 1) := by decide +kernel
theorem dX12_laysLines_118 : decode cX12_laysLines 118 = .ok (.ifCond .lt 89, 3) := by decide +kernel
theorem dX12_laysLines_121 : decode cX12_laysLines 121 = .ok (.aload_n 0, 1) := by decide +kernel
theorem dX12_laysLines_122 : decode cX12_laysLines 122 = .ok (.getfield 32, 3) := by decide +kernel
theorem dX12_laysLines_125 : decode cX12_laysLines 125 = .ok (.iload_n 2, 1) := by decide +kernel
theorem dX12_laysLines_126 : decode cX12_laysLines 126 = .ok (.iload_n 2, 1) := by decide +kernel
theorem dX12_laysLines_127 : decode cX12_laysLines 127 = .ok (.aload_n 0, 1) := by decide +kernel
theorem dX12_laysLines_128 : decode cX12_laysLines 128 = .ok (.getfield 282, 3) := by decide +kernel
theorem dX12_laysLines_131 : decode cX12_laysLines 131 = .ok (.if_icmp .ne 7, 3) := by decide +kernel
theorem dX12_laysLines_134 : decode cX12_laysLines 134 = .ok (.iconst 1, 1) := by decide +kernel
theorem dX12_laysLines_135 : decode cX12_laysLines 135 = .ok (.goto 4, 3) := by decide +kernel
theorem dX12_laysLines_138 : decode cX12_laysLines 138 = .ok (.iconst 0, 1) := by decide +kernel
theorem dX12_laysLines_139 : decode cX12_laysLines 139 = .ok (.iastore, 1) := by decide +kernel
theorem dX12_laysLines_140 : decode cX12_laysLines 140 = .ok (.iconst 0, 1) := by decide +kernel
theorem dX12_laysLines_141 : decode cX12_laysLines 141 = .ok (.istore_n 3, 1) := by decide +kernel
theorem dX12_laysLines_142 : decode cX12_laysLines 142 = .ok (.iload_n 3, 1) := by decide +kernel
theorem dX12_laysLines_143 : decode cX12_laysLines 143 = .ok (.aload_n 0, 1) := by decide +kernel
theorem dX12_laysLines_144 : decode cX12_laysLines 144 = .ok (.iload_n 1, 1) := by decide +kernel
theorem dX12_laysLines_145 : decode cX12_laysLines 145 = .ok (.invokevirtual 76, 3) := by decide +kernel
theorem dX12_laysLines_148 : decode cX12_laysLines 148 = .ok (.if_icmp .ge 53, 3) := by decide +kernel
theorem dX12_laysLines_151 : decode cX12_laysLines 151 = .ok (.aload_n 0, 1) := by decide +kernel
theorem dX12_laysLines_152 : decode cX12_laysLines 152 = .ok (.getfield 32, 3) := by decide +kernel
theorem dX12_laysLines_155 : decode cX12_laysLines 155 = .ok (.iload_n 2, 1) := by decide +kernel
theorem dX12_laysLines_156 : decode cX12_laysLines 156 = .ok (.dup2, 1) := by decide +kernel
theorem dX12_laysLines_157 : decode cX12_laysLines 157 = .ok (.iaload, 1) := by decide +kernel
theorem dX12_laysLines_158 : decode cX12_laysLines 158 = .ok (.iload_n 2, 1) := by decide +kernel
theorem dX12_laysLines_159 : decode cX12_laysLines 159 = .ok (.iload_n 3, 1) := by decide +kernel
theorem dX12_laysLines_160 : decode cX12_laysLines 160 = .ok (.invokestatic 89, 3) := by decide +kernel
theorem dX12_laysLines_163 : decode cX12_laysLines 163 = .ok (.ifCond .ne 29, 3) := by decide +kernel
theorem dX12_laysLines_166 : decode cX12_laysLines 166 = .ok (.aload_n 0, 1) := by decide +kernel
theorem dX12_laysLines_167 : decode cX12_laysLines 167 = .ok (.iload_n 1, 1) := by decide +kernel
theorem dX12_laysLines_168 : decode cX12_laysLines 168 = .ok (.iload_n 3, 1) := by decide +kernel
theorem dX12_laysLines_169 : decode cX12_laysLines 169 = .ok (.invokevirtual 86, 3) := by decide +kernel
theorem dX12_laysLines_172 : decode cX12_laysLines 172 = .ok (.iload_n 2, 1) := by decide +kernel
theorem dX12_laysLines_173 : decode cX12_laysLines 173 = .ok (.iconst (-1), 1) := by decide +kernel
theorem dX12_laysLines_174 : decode cX12_laysLines 174 = .ok (.ixor, 1) := by decide +kernel
theorem dX12_laysLines_175 : decode cX12_laysLines 175 = .ok (.iand, 1) := by decide +kernel
theorem dX12_laysLines_176 : decode cX12_laysLines 176 = .ok (.ifCond .ne 16, 3) := by decide +kernel
theorem dX12_laysLines_179 : decode cX12_laysLines 179 = .ok (.aload_n 0, 1) := by decide +kernel
theorem dX12_laysLines_180 : decode cX12_laysLines 180 = .ok (.getfield 32, 3) := by decide +kernel
theorem dX12_laysLines_183 : decode cX12_laysLines 183 = .ok (.iload_n 2, 1) := by decide +kernel
theorem dX12_laysLines_184 : decode cX12_laysLines 184 = .ok (.iconst 1, 1) := by decide +kernel
theorem dX12_laysLines_185 : decode cX12_laysLines 185 = .ok (.iload_n 3, 1) := by decide +kernel
theorem dX12_laysLines_186 : decode cX12_laysLines 186 = .ok (.ishl, 1) := by decide +kernel
theorem dX12_laysLines_187 : decode cX12_laysLines 187 = .ok (.ior, 1) := by decide +kernel
theorem dX12_laysLines_188 : decode cX12_laysLines 188 = .ok (.iaload, 1) := by decide +kernel
theorem dX12_laysLines_189 : decode cX12_laysLines 189 = .ok (.goto 4, 3) := by decide +kernel
theorem dX12_laysLines_192 : decode cX12_laysLines 192 = .ok (.iconst 0, 1) := by decide +kernel
theorem dX12_laysLines_193 : decode cX12_laysLines 193 = .ok (.iadd, 1) := by decide +kernel
theorem dX12_laysLines_194 : decode cX12_laysLines 194 = .ok (.iastore, 1) := by decide +kernel
theorem dX12_laysLines_195 : decode cX12_laysLines 195 = .ok (.iinc 3 1, 3) := by decide +kernel
theorem dX12_laysLines_198 : decode cX12_laysLines 198 = .ok (.goto (-56), 3) := by decide +kernel
theorem dX12_laysLines_201 : decode cX12_laysLines 201 = .ok (.iinc 2 (-1), 3) := by decide +kernel
theorem dX12_laysLines_204 : decode cX12_laysLines 204 = .ok (.goto (-87), 3) := by decide +kernel
theorem dX12_laysLines_207 : decode cX12_laysLines 207 = .ok (.return_, 1) := by decide +kernel
theorem dX12_laysPlace_0 : decode cX12_laysPlace 0 = .ok (.iconst 0, 1) := by decide +kernel
theorem dX12_laysPlace_1 : decode cX12_laysPlace 1 = .ok (.istore 5, 2) := by decide +kernel
theorem dX12_laysPlace_3 : decode cX12_laysPlace 3 = .ok (.iload 5, 2) := by decide +kernel
theorem dX12_laysPlace_5 : decode cX12_laysPlace 5 = .ok (.aload_n 0, 1) := by decide +kernel
theorem dX12_laysPlace_6 : decode cX12_laysPlace 6 = .ok (.iload_n 1, 1) := by decide +kernel
theorem dX12_laysPlace_7 : decode cX12_laysPlace 7 = .ok (.invokevirtual 76, 3) := by decide +kernel
theorem dX12_laysPlace_10 : decode cX12_laysPlace 10 = .ok (.if_icmp .ge 28, 3) := by decide +kernel
theorem dX12_laysPlace_13 : decode cX12_laysPlace 13 = .ok (.aload_n 0, 1) := by decide +kernel
theorem dX12_laysPlace_14 : decode cX12_laysPlace 14 = .ok (.getfield 47, 3) := by decide +kernel
theorem dX12_laysPlace_17 : decode cX12_laysPlace 17 = .ok (.bipush 8, 2) := by decide +kernel
theorem dX12_laysPlace_19 : decode cX12_laysPlace 19 = .ok (.iload_n 2, 1) := by decide +kernel
theorem dX12_laysPlace_20 : decode cX12_laysPlace 20 = .ok (.imul, 1) := by decide +kernel
theorem dX12_laysPlace_21 : decode cX12_laysPlace 21 = .ok (.iload 5, 2) := by decide +kernel
theorem dX12_laysPlace_23 : decode cX12_laysPlace 23 = .ok (.iadd, 1) := by decide +kernel
theorem dX12_laysPlace_24 : decode cX12_laysPlace 24 = .ok (.aload_n 0, 1) := by decide +kernel
theorem dX12_laysPlace_25 : decode cX12_laysPlace 25 = .ok (.iload_n 1, 1) := by decide +kernel
theorem dX12_laysPlace_26 : decode cX12_laysPlace 26 = .ok (.iload 5, 2) := by decide +kernel
theorem dX12_laysPlace_28 : decode cX12_laysPlace 28 = .ok (.invokevirtual 86, 3) := by decide +kernel
theorem dX12_laysPlace_31 : decode cX12_laysPlace 31 = .ok (.iastore, 1) := by decide +kernel
theorem dX12_laysPlace_32 : decode cX12_laysPlace 32 = .ok (.iinc 5 1, 3) := by decide +kernel
theorem dX12_laysPlace_35 : decode cX12_laysPlace 35 = .ok (.goto (-32), 3) := by decide +kernel
theorem dX12_laysPlace_38 : decode cX12_laysPlace 38 = .ok (.iconst 0, 1) := by decide +kernel
theorem dX12_laysPlace_39 : decode cX12_laysPlace 39 = .ok (.istore 5, 2) := by decide +kernel
theorem dX12_laysPlace_41 : decode cX12_laysPlace 41 = .ok (.iload 5, 2) := by decide +kernel
theorem dX12_laysPlace_43 : decode cX12_laysPlace 43 = .ok (.iload_n 3, 1) := by decide +kernel
theorem dX12_laysPlace_44 : decode cX12_laysPlace 44 = .ok (.if_icmp .ge 47, 3) := by decide +kernel
theorem dX12_laysPlace_47 : decode cX12_laysPlace 47 = .ok (.aload 4, 2) := by decide +kernel
theorem dX12_laysPlace_49 : decode cX12_laysPlace 49 = .ok (.iload 5, 2) := by decide +kernel
theorem dX12_laysPlace_51 : decode cX12_laysPlace 51 = .ok (.iaload, 1) := by decide +kernel
theorem dX12_laysPlace_52 : decode cX12_laysPlace 52 = .ok (.iload_n 2, 1) := by decide +kernel
theorem dX12_laysPlace_53 : decode cX12_laysPlace 53 = .ok (.if_icmp .ne 32, 3) := by decide +kernel
theorem dX12_laysPlace_56 : decode cX12_laysPlace 56 = .ok (.aload_n 0, 1) := by decide +kernel
theorem dX12_laysPlace_57 : decode cX12_laysPlace 57 = .ok (.getfield 47, 3) := by decide +kernel
theorem dX12_laysPlace_60 : decode cX12_laysPlace 60 = .ok (.bipush 8, 2) := by decide +kernel
theorem dX12_laysPlace_62 : decode cX12_laysPlace 62 = .ok (.iload_n 2, 1) := by decide +kernel
theorem dX12_laysPlace_63 : decode cX12_laysPlace 63 = .ok (.imul, 1) := by decide +kernel
theorem dX12_laysPlace_64 : decode cX12_laysPlace 64 = .ok (.aload_n 0, 1) := by decide +kernel
theorem dX12_laysPlace_65 : decode cX12_laysPlace 65 = .ok (.getfield 41, 3) := by decide +kernel
theorem dX12_laysPlace_68 : decode cX12_laysPlace 68 = .ok (.iload 5, 2) := by decide +kernel
theorem dX12_laysPlace_70 : decode cX12_laysPlace 70 = .ok (.iaload, 1) := by decide +kernel
theorem dX12_laysPlace_71 : decode cX12_laysPlace 71 = .ok (.iadd, 1) := by decide +kernel
theorem dX12_laysPlace_72 : decode cX12_laysPlace 72 = .ok (.dup2, 1) := by decide +kernel
theorem dX12_laysPlace_73 : decode cX12_laysPlace 73 = .ok (.iaload, 1) := by decide +kernel
theorem dX12_laysPlace_74 : decode cX12_laysPlace 74 = .ok (.iconst 1, 1) := by decide +kernel
theorem dX12_laysPlace_75 : decode cX12_laysPlace 75 = .ok (.aload_n 0, 1) := by decide +kernel
theorem dX12_laysPlace_76 : decode cX12_laysPlace 76 = .ok (.getfield 44, 3) := by decide +kernel
theorem dX12_laysPlace_79 : decode cX12_laysPlace 79 = .ok (.iload 5, 2) := by decide +kernel
theorem dX12_laysPlace_81 : decode cX12_laysPlace 81 = .ok (.iaload, 1) := by decide +kernel
theorem dX12_laysPlace_82 : decode cX12_laysPlace 82 = .ok (.ishl, 1) := by decide +kernel
theorem dX12_laysPlace_83 : decode cX12_laysPlace 83 = .ok (.ior, 1) := by decide +kernel
theorem dX12_laysPlace_84 : decode cX12_laysPlace 84 = .ok (.iastore, 1) := by decide +kernel
theorem dX12_laysPlace_85 : decode cX12_laysPlace 85 = .ok (.iinc 5 1, 3) := by decide +kernel
theorem dX12_laysPlace_88 : decode cX12_laysPlace 88 = .ok (.goto (-47), 3) := by decide +kernel
theorem dX12_laysPlace_91 : decode cX12_laysPlace 91 = .ok (.return_, 1) := by decide +kernel
theorem dX12_laysRow_0 : decode cX12_laysRow 0 = .ok (.iconst 0, 1) := by decide +kernel
theorem dX12_laysRow_1 : decode cX12_laysRow 1 = .ok (.istore_n 3, 1) := by decide +kernel
theorem dX12_laysRow_2 : decode cX12_laysRow 2 = .ok (.iconst 0, 1) := by decide +kernel
theorem dX12_laysRow_3 : decode cX12_laysRow 3 = .ok (.istore 4, 2) := by decide +kernel
theorem dX12_laysRow_5 : decode cX12_laysRow 5 = .ok (.iload 4, 2) := by decide +kernel
theorem dX12_laysRow_7 : decode cX12_laysRow 7 = .ok (.aload_n 0, 1) := by decide +kernel
theorem dX12_laysRow_8 : decode cX12_laysRow 8 = .ok (.iload_n 1, 1) := by decide +kernel
theorem dX12_laysRow_9 : decode cX12_laysRow 9 = .ok (.invokevirtual 76, 3) := by decide +kernel
theorem dX12_laysRow_12 : decode cX12_laysRow 12 = .ok (.if_icmp .ge 84, 3) := by decide +kernel
theorem dX12_laysRow_15 : decode cX12_laysRow 15 = .ok (.iconst 0, 1) := by decide +kernel
theorem dX12_laysRow_16 : decode cX12_laysRow 16 = .ok (.istore 5, 2) := by decide +kernel
theorem dX12_laysRow_18 : decode cX12_laysRow 18 = .ok (.iload 5, 2) := by decide +kernel
theorem dX12_laysRow_20 : decode cX12_laysRow 20 = .ok (.aload_n 0, 1) := by decide +kernel
theorem dX12_laysRow_21 : decode cX12_laysRow 21 = .ok (.iload_n 1, 1) := by decide +kernel
theorem dX12_laysRow_22 : decode cX12_laysRow 22 = .ok (.invokevirtual 76, 3) := by decide +kernel
theorem dX12_laysRow_25 : decode cX12_laysRow 25 = .ok (.if_icmp .ge 37, 3) := by decide +kernel
theorem dX12_laysRow_28 : decode cX12_laysRow 28 = .ok (.iload_n 3, 1) := by decide +kernel
theorem dX12_laysRow_29 : decode cX12_laysRow 29 = .ok (.iload 5, 2) := by decide +kernel
theorem dX12_laysRow_31 : decode cX12_laysRow 31 = .ok (.invokestatic 89, 3) := by decide +kernel
theorem dX12_laysRow_34 : decode cX12_laysRow 34 = .ok (.ifCond .ne 22, 3) := by decide +kernel
theorem dX12_laysRow_37 : decode cX12_laysRow 37 = .ok (.aload_n 0, 1) := by decide +kernel
theorem dX12_laysRow_38 : decode cX12_laysRow 38 = .ok (.getfield 47, 3) := by decide +kernel
theorem dX12_laysRow_41 : decode cX12_laysRow 41 = .ok (.bipush 8, 2) := by decide +kernel
theorem dX12_laysRow_43 : decode cX12_laysRow 43 = .ok (.iload_n 2, 1) := by decide +kernel
theorem dX12_laysRow_44 : decode cX12_laysRow 44 = .ok (.imul, 1) := by decide +kernel
theorem dX12_laysRow_45 : decode cX12_laysRow 45 = .ok (.iload 5, 2) := by decide +kernel
theorem dX12_laysRow_47 : decode cX12_laysRow 47 = .ok (.iadd, 1) := by decide +kernel
theorem dX12_laysRow_48 : decode cX12_laysRow 48 = .ok (.iaload, 1) := by decide +kernel
theorem dX12_laysRow_49 : decode cX12_laysRow 49 = .ok (.iload_n 3, 1) := by decide +kernel
theorem dX12_laysRow_50 : decode cX12_laysRow 50 = .ok (.iconst (-1), 1) := by decide +kernel
theorem dX12_laysRow_51 : decode cX12_laysRow 51 = .ok (.ixor, 1) := by decide +kernel
theorem dX12_laysRow_52 : decode cX12_laysRow 52 = .ok (.iand, 1) := by decide +kernel
theorem dX12_laysRow_53 : decode cX12_laysRow 53 = .ok (.ifCond .eq 9, 3) := by decide +kernel
theorem dX12_laysRow_56 : decode cX12_laysRow 56 = .ok (.iinc 5 1, 3) := by decide +kernel
theorem dX12_laysRow_59 : decode cX12_laysRow 59 = .ok (.goto (-41), 3) := by decide +kernel
theorem dX12_laysRow_62 : decode cX12_laysRow 62 = .ok (.iload 5, 2) := by decide +kernel
theorem dX12_laysRow_64 : decode cX12_laysRow 64 = .ok (.aload_n 0, 1) := by decide +kernel
theorem dX12_laysRow_65 : decode cX12_laysRow 65 = .ok (.iload_n 1, 1) := by decide +kernel
theorem dX12_laysRow_66 : decode cX12_laysRow 66 = .ok (.invokevirtual 76, 3) := by decide +kernel
theorem dX12_laysRow_69 : decode cX12_laysRow 69 = .ok (.if_icmp .ne 5, 3) := by decide +kernel
theorem dX12_laysRow_72 : decode cX12_laysRow 72 = .ok (.iconst 0, 1) := by decide +kernel
theorem dX12_laysRow_73 : decode cX12_laysRow 73 = .ok (.ireturn, 1) := by decide +kernel
theorem dX12_laysRow_74 : decode cX12_laysRow 74 = .ok (.aload_n 0, 1) := by decide +kernel
theorem dX12_laysRow_75 : decode cX12_laysRow 75 = .ok (.getfield 35, 3) := by decide +kernel
theorem dX12_laysRow_78 : decode cX12_laysRow 78 = .ok (.iload 4, 2) := by decide +kernel
theorem dX12_laysRow_80 : decode cX12_laysRow 80 = .ok (.iload 5, 2) := by decide +kernel
theorem dX12_laysRow_82 : decode cX12_laysRow 82 = .ok (.iastore, 1) := by decide +kernel
theorem dX12_laysRow_83 : decode cX12_laysRow 83 = .ok (.iload_n 3, 1) := by decide +kernel
theorem dX12_laysRow_84 : decode cX12_laysRow 84 = .ok (.iconst 1, 1) := by decide +kernel
theorem dX12_laysRow_85 : decode cX12_laysRow 85 = .ok (.iload 5, 2) := by decide +kernel
theorem dX12_laysRow_87 : decode cX12_laysRow 87 = .ok (.ishl, 1) := by decide +kernel
theorem dX12_laysRow_88 : decode cX12_laysRow 88 = .ok (.ior, 1) := by decide +kernel
theorem dX12_laysRow_89 : decode cX12_laysRow 89 = .ok (.istore_n 3, 1) := by decide +kernel
theorem dX12_laysRow_90 : decode cX12_laysRow 90 = .ok (.iinc 4 1, 3) := by decide +kernel
theorem dX12_laysRow_93 : decode cX12_laysRow 93 = .ok (.goto (-88), 3) := by decide +kernel
theorem dX12_laysRow_96 : decode cX12_laysRow 96 = .ok (.iconst 1, 1) := by decide +kernel
theorem dX12_laysRow_97 : decode cX12_laysRow 97 = .ok (.ireturn, 1) := by decide +kernel
theorem dX12_laysTwos_0 : decode cX12_laysTwos 0 = .ok (.aload_n 0, 1) := by decide +kernel
theorem dX12_laysTwos_1 : decode cX12_laysTwos 1 = .ok (.iconst 0, 1) := by decide +kernel
theorem dX12_laysTwos_2 : decode cX12_laysTwos 2 = .ok (.putfield 321, 3) := by decide +kernel
theorem dX12_laysTwos_5 : decode cX12_laysTwos 5 = .ok (.iconst 0, 1) := by decide +kernel
theorem dX12_laysTwos_6 : decode cX12_laysTwos 6 = .ok (.istore_n 2, 1) := by decide +kernel
theorem dX12_laysTwos_7 : decode cX12_laysTwos 7 = .ok (.iload_n 2, 1) := by decide +kernel
theorem dX12_laysTwos_8 : decode cX12_laysTwos 8 = .ok (.aload_n 0, 1) := by decide +kernel
theorem dX12_laysTwos_9 : decode cX12_laysTwos 9 = .ok (.iload_n 1, 1) := by decide +kernel
theorem dX12_laysTwos_10 : decode cX12_laysTwos 10 = .ok (.invokevirtual 76, 3) := by decide +kernel
theorem dX12_laysTwos_13 : decode cX12_laysTwos 13 = .ok (.if_icmp .ge 102, 3) := by decide +kernel
theorem dX12_laysTwos_16 : decode cX12_laysTwos 16 = .ok (.iconst 0, 1) := by decide +kernel
theorem dX12_laysTwos_17 : decode cX12_laysTwos 17 = .ok (.istore_n 3, 1) := by decide +kernel
theorem dX12_laysTwos_18 : decode cX12_laysTwos 18 = .ok (.iload_n 3, 1) := by decide +kernel
theorem dX12_laysTwos_19 : decode cX12_laysTwos 19 = .ok (.aload_n 0, 1) := by decide +kernel
theorem dX12_laysTwos_20 : decode cX12_laysTwos 20 = .ok (.iload_n 1, 1) := by decide +kernel
theorem dX12_laysTwos_21 : decode cX12_laysTwos 21 = .ok (.invokevirtual 76, 3) := by decide +kernel
theorem dX12_laysTwos_24 : decode cX12_laysTwos 24 = .ok (.if_icmp .ge 85, 3) := by decide +kernel
theorem dX12_laysTwos_27 : decode cX12_laysTwos 27 = .ok (.aload_n 0, 1) := by decide +kernel
theorem dX12_laysTwos_28 : decode cX12_laysTwos 28 = .ok (.iload_n 1, 1) := by decide +kernel
theorem dX12_laysTwos_29 : decode cX12_laysTwos 29 = .ok (.iload_n 2, 1) := by decide +kernel
theorem dX12_laysTwos_30 : decode cX12_laysTwos 30 = .ok (.iload_n 3, 1) := by decide +kernel
theorem dX12_laysTwos_31 : decode cX12_laysTwos 31 = .ok (.invokevirtual 227, 3) := by decide +kernel
theorem dX12_laysTwos_34 : decode cX12_laysTwos 34 = .ok (.ifCond .eq 69, 3) := by decide +kernel
theorem dX12_laysTwos_37 : decode cX12_laysTwos 37 = .ok (.aload_n 0, 1) := by decide +kernel
theorem dX12_laysTwos_38 : decode cX12_laysTwos 38 = .ok (.iload_n 1, 1) := by decide +kernel
theorem dX12_laysTwos_39 : decode cX12_laysTwos 39 = .ok (.iload_n 2, 1) := by decide +kernel
theorem dX12_laysTwos_40 : decode cX12_laysTwos 40 = .ok (.invokevirtual 86, 3) := by decide +kernel
theorem dX12_laysTwos_43 : decode cX12_laysTwos 43 = .ok (.aload_n 0, 1) := by decide +kernel
theorem dX12_laysTwos_44 : decode cX12_laysTwos 44 = .ok (.iload_n 1, 1) := by decide +kernel
theorem dX12_laysTwos_45 : decode cX12_laysTwos 45 = .ok (.iload_n 3, 1) := by decide +kernel
theorem dX12_laysTwos_46 : decode cX12_laysTwos 46 = .ok (.invokevirtual 86, 3) := by decide +kernel
theorem dX12_laysTwos_49 : decode cX12_laysTwos 49 = .ok (.iconst (-1), 1) := by decide +kernel
theorem dX12_laysTwos_50 : decode cX12_laysTwos 50 = .ok (.ixor, 1) := by decide +kernel
theorem dX12_laysTwos_51 : decode cX12_laysTwos 51 = .ok (.iand, 1) := by decide +kernel
theorem dX12_laysTwos_52 : decode cX12_laysTwos 52 = .ok (.ifCond .ne 51, 3) := by decide +kernel
theorem dX12_laysTwos_55 : decode cX12_laysTwos 55 = .ok (.aload_n 0, 1) := by decide +kernel
theorem dX12_laysTwos_56 : decode cX12_laysTwos 56 = .ok (.iload_n 1, 1) := by decide +kernel
theorem dX12_laysTwos_57 : decode cX12_laysTwos 57 = .ok (.iload_n 3, 1) := by decide +kernel
theorem dX12_laysTwos_58 : decode cX12_laysTwos 58 = .ok (.invokevirtual 97, 3) := by decide +kernel
theorem dX12_laysTwos_61 : decode cX12_laysTwos 61 = .ok (.aload_n 0, 1) := by decide +kernel
theorem dX12_laysTwos_62 : decode cX12_laysTwos 62 = .ok (.iload_n 1, 1) := by decide +kernel
theorem dX12_laysTwos_63 : decode cX12_laysTwos 63 = .ok (.iload_n 2, 1) := by decide +kernel
theorem dX12_laysTwos_64 : decode cX12_laysTwos 64 = .ok (.invokevirtual 97, 3) := by decide +kernel
theorem dX12_laysTwos_67 : decode cX12_laysTwos 67 = .ok (.iconst (-1), 1) := by decide +kernel
theorem dX12_laysTwos_68 : decode cX12_laysTwos 68 = .ok (.ixor, 1) := by decide +kernel
theorem dX12_laysTwos_69 : decode cX12_laysTwos 69 = .ok (.iand, 1) := by decide +kernel
theorem dX12_laysTwos_70 : decode cX12_laysTwos 70 = .ok (.ifCond .ne 33, 3) := by decide +kernel
theorem dX12_laysTwos_73 : decode cX12_laysTwos 73 = .ok (.aload_n 0, 1) := by decide +kernel
theorem dX12_laysTwos_74 : decode cX12_laysTwos 74 = .ok (.getfield 41, 3) := by decide +kernel
theorem dX12_laysTwos_77 : decode cX12_laysTwos 77 = .ok (.aload_n 0, 1) := by decide +kernel
theorem dX12_laysTwos_78 : decode cX12_laysTwos 78 = .ok (.getfield 321, 3) := by decide +kernel
theorem dX12_laysTwos_81 : decode cX12_laysTwos 81 = .ok (.iload_n 2, 1) := by decide +kernel
theorem dX12_laysTwos_82 : decode cX12_laysTwos 82 = .ok (.iastore, 1) := by decide +kernel
theorem dX12_laysTwos_83 : decode cX12_laysTwos 83 = .ok (.aload_n 0, 1) := by decide +kernel
theorem dX12_laysTwos_84 : decode cX12_laysTwos 84 = .ok (.getfield 44, 3) := by decide +kernel
theorem dX12_laysTwos_87 : decode cX12_laysTwos 87 = .ok (.aload_n 0, 1) := by decide +kernel
theorem dX12_laysTwos_88 : decode cX12_laysTwos 88 = .ok (.getfield 321, 3) := by decide +kernel
theorem dX12_laysTwos_91 : decode cX12_laysTwos 91 = .ok (.iload_n 3, 1) := by decide +kernel
theorem dX12_laysTwos_92 : decode cX12_laysTwos 92 = .ok (.iastore, 1) := by decide +kernel
theorem dX12_laysTwos_93 : decode cX12_laysTwos 93 = .ok (.aload_n 0, 1) := by decide +kernel
theorem dX12_laysTwos_94 : decode cX12_laysTwos 94 = .ok (.dup, 1) := by decide +kernel
theorem dX12_laysTwos_95 : decode cX12_laysTwos 95 = .ok (.getfield 321, 3) := by decide +kernel
theorem dX12_laysTwos_98 : decode cX12_laysTwos 98 = .ok (.iconst 1, 1) := by decide +kernel
theorem dX12_laysTwos_99 : decode cX12_laysTwos 99 = .ok (.iadd, 1) := by decide +kernel
theorem dX12_laysTwos_100 : decode cX12_laysTwos 100 = .ok (.putfield 321, 3) := by decide +kernel
theorem dX12_laysTwos_103 : decode cX12_laysTwos 103 = .ok (.iinc 3 1, 3) := by decide +kernel
theorem dX12_laysTwos_106 : decode cX12_laysTwos 106 = .ok (.goto (-88), 3) := by decide +kernel
theorem dX12_laysTwos_109 : decode cX12_laysTwos 109 = .ok (.iinc 2 1, 3) := by decide +kernel
theorem dX12_laysTwos_112 : decode cX12_laysTwos 112 = .ok (.goto (-105), 3) := by decide +kernel
theorem dX12_laysTwos_115 : decode cX12_laysTwos 115 = .ok (.return_, 1) := by decide +kernel
theorem dX12_lies_0 : decode cX12_lies 0 = .ok (.aload_n 0, 1) := by decide +kernel
theorem dX12_lies_1 : decode cX12_lies 1 = .ok (.iload_n 1, 1) := by decide +kernel
theorem dX12_lies_2 : decode cX12_lies 2 = .ok (.iload_n 2, 1) := by decide +kernel
theorem dX12_lies_3 : decode cX12_lies 3 = .ok (.invokevirtual 86, 3) := by decide +kernel
theorem dX12_lies_6 : decode cX12_lies 6 = .ok (.iconst 1, 1) := by decide +kernel
theorem dX12_lies_7 : decode cX12_lies 7 = .ok (.iload_n 2, 1) := by decide +kernel
theorem dX12_lies_8 : decode cX12_lies 8 = .ok (.ishl, 1) := by decide +kernel
theorem dX12_lies_9 : decode cX12_lies 9 = .ok (.ior, 1) := by decide +kernel
theorem dX12_lies_10 : decode cX12_lies 10 = .ok (.istore 4, 2) := by decide +kernel
theorem dX12_lies_12 : decode cX12_lies 12 = .ok (.aload_n 0, 1) := by decide +kernel
theorem dX12_lies_13 : decode cX12_lies 13 = .ok (.iload_n 1, 1) := by decide +kernel
theorem dX12_lies_14 : decode cX12_lies 14 = .ok (.iload_n 3, 1) := by decide +kernel
theorem dX12_lies_15 : decode cX12_lies 15 = .ok (.invokevirtual 97, 3) := by decide +kernel
theorem dX12_lies_18 : decode cX12_lies 18 = .ok (.iconst 1, 1) := by decide +kernel
theorem dX12_lies_19 : decode cX12_lies 19 = .ok (.iload_n 3, 1) := by decide +kernel
theorem dX12_lies_20 : decode cX12_lies 20 = .ok (.ishl, 1) := by decide +kernel
theorem dX12_lies_21 : decode cX12_lies 21 = .ok (.ior, 1) := by decide +kernel
theorem dX12_lies_22 : decode cX12_lies 22 = .ok (.istore 5, 2) := by decide +kernel
theorem dX12_lies_24 : decode cX12_lies 24 = .ok (.iconst 0, 1) := by decide +kernel
theorem dX12_lies_25 : decode cX12_lies 25 = .ok (.istore 6, 2) := by decide +kernel
theorem dX12_lies_27 : decode cX12_lies 27 = .ok (.iload 6, 2) := by decide +kernel
theorem dX12_lies_29 : decode cX12_lies 29 = .ok (.aload_n 0, 1) := by decide +kernel
theorem dX12_lies_30 : decode cX12_lies 30 = .ok (.iload_n 1, 1) := by decide +kernel
theorem dX12_lies_31 : decode cX12_lies 31 = .ok (.invokevirtual 76, 3) := by decide +kernel
theorem dX12_lies_34 : decode cX12_lies 34 = .ok (.if_icmp .ge 38, 3) := by decide +kernel
theorem dX12_lies_37 : decode cX12_lies 37 = .ok (.iload 5, 2) := by decide +kernel
theorem dX12_lies_39 : decode cX12_lies 39 = .ok (.iload 6, 2) := by decide +kernel
theorem dX12_lies_41 : decode cX12_lies 41 = .ok (.invokestatic 89, 3) := by decide +kernel
theorem dX12_lies_44 : decode cX12_lies 44 = .ok (.ifCond .eq 22, 3) := by decide +kernel
theorem dX12_lies_47 : decode cX12_lies 47 = .ok (.aload_n 0, 1) := by decide +kernel
theorem dX12_lies_48 : decode cX12_lies 48 = .ok (.iload_n 1, 1) := by decide +kernel
theorem dX12_lies_49 : decode cX12_lies 49 = .ok (.iconst 1, 1) := by decide +kernel
theorem dX12_lies_50 : decode cX12_lies 50 = .ok (.iload 6, 2) := by decide +kernel
theorem dX12_lies_52 : decode cX12_lies 52 = .ok (.iadd, 1) := by decide +kernel
theorem dX12_lies_53 : decode cX12_lies 53 = .ok (.aload_n 0, 1) := by decide +kernel
theorem dX12_lies_54 : decode cX12_lies 54 = .ok (.iload_n 1, 1) := by decide +kernel
theorem dX12_lies_55 : decode cX12_lies 55 = .ok (.iload 6, 2) := by decide +kernel
theorem dX12_lies_57 : decode cX12_lies 57 = .ok (.invokevirtual 86, 3) := by decide +kernel
theorem dX12_lies_60 : decode cX12_lies 60 = .ok (.iload 4, 2) := by decide +kernel
theorem dX12_lies_62 : decode cX12_lies 62 = .ok (.ior, 1) := by decide +kernel
theorem dX12_lies_63 : decode cX12_lies 63 = .ok (.invokevirtual 109, 3) := by decide +kernel
theorem dX12_lies_66 : decode cX12_lies 66 = .ok (.iinc 6 1, 3) := by decide +kernel
theorem dX12_lies_69 : decode cX12_lies 69 = .ok (.goto (-42), 3) := by decide +kernel
theorem dX12_lies_72 : decode cX12_lies 72 = .ok (.return_, 1) := by decide +kernel
theorem dX12_line_0 : decode cX12_line 0 = .ok (.aload_n 0, 1) := by decide +kernel
theorem dX12_line_1 : decode cX12_line 1 = .ok (.iload_n 1, 1) := by decide +kernel
theorem dX12_line_2 : decode cX12_line 2 = .ok (.invokevirtual 80, 3) := by decide +kernel
theorem dX12_line_5 : decode cX12_line 5 = .ok (.ifCond .eq 24, 3) := by decide +kernel
theorem dX12_line_8 : decode cX12_line 8 = .ok (.iload_n 2, 1) := by decide +kernel
theorem dX12_line_9 : decode cX12_line 9 = .ok (.ifCond .lt 20, 3) := by decide +kernel
theorem dX12_line_12 : decode cX12_line 12 = .ok (.iload_n 3, 1) := by decide +kernel
theorem dX12_line_13 : decode cX12_line 13 = .ok (.i2l, 1) := by decide +kernel
theorem dX12_line_14 : decode cX12_line 14 = .ok (.lconst 0, 1) := by decide +kernel
theorem dX12_line_15 : decode cX12_line 15 = .ok (.aload_n 0, 1) := by decide +kernel
theorem dX12_line_16 : decode cX12_line 16 = .ok (.iload_n 1, 1) := by decide +kernel
theorem dX12_line_17 : decode cX12_line 17 = .ok (.invokevirtual 76, 3) := by decide +kernel
theorem dX12_line_20 : decode cX12_line 20 = .ok (.iconst 1, 1) := by decide +kernel
theorem dX12_line_21 : decode cX12_line 21 = .ok (.isub, 1) := by decide +kernel
theorem dX12_line_22 : decode cX12_line 22 = .ok (.i2l, 1) := by decide +kernel
theorem dX12_line_23 : decode cX12_line 23 = .ok (.invokestatic 64, 3) := by decide +kernel
theorem dX12_line_26 : decode cX12_line 26 = .ok (.ifCond .ne 6, 3) := by decide +kernel
theorem dX12_line_29 : decode cX12_line 29 = .ok (.bipush (-2), 2) := by decide +kernel
theorem dX12_line_31 : decode cX12_line 31 = .ok (.ireturn, 1) := by decide +kernel
theorem dX12_line_32 : decode cX12_line 32 = .ok (.aload_n 0, 1) := by decide +kernel
theorem dX12_line_33 : decode cX12_line 33 = .ok (.iload_n 1, 1) := by decide +kernel
theorem dX12_line_34 : decode cX12_line 34 = .ok (.iload_n 2, 1) := by decide +kernel
theorem dX12_line_35 : decode cX12_line 35 = .ok (.invokevirtual 288, 3) := by decide +kernel
theorem dX12_line_38 : decode cX12_line 38 = .ok (.ifCond .eq 12, 3) := by decide +kernel
theorem dX12_line_41 : decode cX12_line 41 = .ok (.aload_n 0, 1) := by decide +kernel
theorem dX12_line_42 : decode cX12_line 42 = .ok (.getfield 35, 3) := by decide +kernel
theorem dX12_line_45 : decode cX12_line 45 = .ok (.iload_n 3, 1) := by decide +kernel
theorem dX12_line_46 : decode cX12_line 46 = .ok (.iaload, 1) := by decide +kernel
theorem dX12_line_47 : decode cX12_line 47 = .ok (.goto 4, 3) := by decide +kernel
theorem dX12_line_50 : decode cX12_line 50 = .ok (.iconst (-1), 1) := by decide +kernel
theorem dX12_line_51 : decode cX12_line 51 = .ok (.ireturn, 1) := by decide +kernel
theorem dX12_lines_0 : decode cX12_lines 0 = .ok (.aload_n 0, 1) := by decide +kernel
theorem dX12_lines_1 : decode cX12_lines 1 = .ok (.iload_n 1, 1) := by decide +kernel
theorem dX12_lines_2 : decode cX12_lines 2 = .ok (.invokevirtual 80, 3) := by decide +kernel
theorem dX12_lines_5 : decode cX12_lines 5 = .ok (.ifCond .ne 6, 3) := by decide +kernel
theorem dX12_lines_8 : decode cX12_lines 8 = .ok (.bipush (-2), 2) := by decide +kernel
theorem dX12_lines_10 : decode cX12_lines 10 = .ok (.ireturn, 1) := by decide +kernel
theorem dX12_lines_11 : decode cX12_lines 11 = .ok (.aload_n 0, 1) := by decide +kernel
theorem dX12_lines_12 : decode cX12_lines 12 = .ok (.iload_n 1, 1) := by decide +kernel
theorem dX12_lines_13 : decode cX12_lines 13 = .ok (.invokevirtual 285, 3) := by decide +kernel
theorem dX12_lines_16 : decode cX12_lines 16 = .ok (.aload_n 0, 1) := by decide +kernel
theorem dX12_lines_17 : decode cX12_lines 17 = .ok (.getfield 29, 3) := by decide +kernel
theorem dX12_lines_20 : decode cX12_lines 20 = .ok (.aload_n 0, 1) := by decide +kernel
theorem dX12_lines_21 : decode cX12_lines 21 = .ok (.getfield 282, 3) := by decide +kernel
theorem dX12_lines_24 : decode cX12_lines 24 = .ok (.iaload, 1) := by decide +kernel
theorem dX12_lines_25 : decode cX12_lines 25 = .ok (.ireturn, 1) := by decide +kernel
theorem dX12_look_0 : decode cX12_look 0 = .ok (.aload_n 0, 1) := by decide +kernel
theorem dX12_look_1 : decode cX12_look 1 = .ok (.iload_n 1, 1) := by decide +kernel
theorem dX12_look_2 : decode cX12_look 2 = .ok (.invokevirtual 80, 3) := by decide +kernel
theorem dX12_look_5 : decode cX12_look 5 = .ok (.ifCond .eq 15, 3) := by decide +kernel
theorem dX12_look_8 : decode cX12_look 8 = .ok (.iload_n 2, 1) := by decide +kernel
theorem dX12_look_9 : decode cX12_look 9 = .ok (.i2l, 1) := by decide +kernel
theorem dX12_look_10 : decode cX12_look 10 = .ok (.lconst 0, 1) := by decide +kernel
theorem dX12_look_11 : decode cX12_look 11 = .ok (.ldc2_w 234, 3) := by decide +kernel
theorem dX12_look_14 : decode cX12_look 14 = .ok (.invokestatic 64, 3) := by decide +kernel
theorem dX12_look_17 : decode cX12_look 17 = .ok (.ifCond .ne 6, 3) := by decide +kernel
theorem dX12_look_20 : decode cX12_look 20 = .ok (.bipush (-2), 2) := by decide +kernel
theorem dX12_look_22 : decode cX12_look 22 = .ok (.ireturn, 1) := by decide +kernel
theorem dX12_look_23 : decode cX12_look 23 = .ok (.iconst 0, 1) := by decide +kernel
theorem dX12_look_24 : decode cX12_look 24 = .ok (.istore_n 3, 1) := by decide +kernel
theorem dX12_look_25 : decode cX12_look 25 = .ok (.iconst 0, 1) := by decide +kernel
theorem dX12_look_26 : decode cX12_look 26 = .ok (.istore 4, 2) := by decide +kernel
theorem dX12_look_28 : decode cX12_look 28 = .ok (.iconst 0, 1) := by decide +kernel
theorem dX12_look_29 : decode cX12_look 29 = .ok (.istore 5, 2) := by decide +kernel
theorem dX12_look_31 : decode cX12_look 31 = .ok (.iconst 0, 1) := by decide +kernel
theorem dX12_look_32 : decode cX12_look 32 = .ok (.istore 6, 2) := by decide +kernel
theorem dX12_look_34 : decode cX12_look 34 = .ok (.iload 6, 2) := by decide +kernel
theorem dX12_look_36 : decode cX12_look 36 = .ok (.aload_n 0, 1) := by decide +kernel
theorem dX12_look_37 : decode cX12_look 37 = .ok (.iload_n 1, 1) := by decide +kernel
theorem dX12_look_38 : decode cX12_look 38 = .ok (.invokevirtual 76, 3) := by decide +kernel
theorem dX12_look_41 : decode cX12_look 41 = .ok (.if_icmp .ge 77, 3) := by decide +kernel
theorem dX12_look_44 : decode cX12_look 44 = .ok (.iconst 0, 1) := by decide +kernel
theorem dX12_look_45 : decode cX12_look 45 = .ok (.istore 7, 2) := by decide +kernel
theorem dX12_look_47 : decode cX12_look 47 = .ok (.iload 7, 2) := by decide +kernel
theorem dX12_look_49 : decode cX12_look 49 = .ok (.aload_n 0, 1) := by decide +kernel
theorem dX12_look_50 : decode cX12_look 50 = .ok (.iload_n 1, 1) := by decide +kernel
theorem dX12_look_51 : decode cX12_look 51 = .ok (.invokevirtual 76, 3) := by decide +kernel
theorem dX12_look_54 : decode cX12_look 54 = .ok (.if_icmp .ge 58, 3) := by decide +kernel
theorem dX12_look_57 : decode cX12_look 57 = .ok (.iload_n 3, 1) := by decide +kernel
theorem dX12_look_58 : decode cX12_look 58 = .ok (.aload_n 0, 1) := by decide +kernel
theorem dX12_look_59 : decode cX12_look 59 = .ok (.iload_n 1, 1) := by decide +kernel
theorem dX12_look_60 : decode cX12_look 60 = .ok (.iload 7, 2) := by decide +kernel
theorem dX12_look_62 : decode cX12_look 62 = .ok (.iload 6, 2) := by decide +kernel
theorem dX12_look_64 : decode cX12_look 64 = .ok (.invokevirtual 236, 3) := by decide +kernel
theorem dX12_look_67 : decode cX12_look 67 = .ok (.ifCond .eq 7, 3) := by decide +kernel
theorem dX12_look_70 : decode cX12_look 70 = .ok (.iconst 1, 1) := by decide +kernel
theorem dX12_look_71 : decode cX12_look 71 = .ok (.goto 4, 3) := by decide +kernel
theorem dX12_look_74 : decode cX12_look 74 = .ok (.iconst 0, 1) := by decide +kernel
theorem dX12_look_75 : decode cX12_look 75 = .ok (.iadd, 1) := by decide +kernel
theorem dX12_look_76 : decode cX12_look 76 = .ok (.istore_n 3, 1) := by decide +kernel
theorem dX12_look_77 : decode cX12_look 77 = .ok (.iload 4, 2) := by decide +kernel
theorem dX12_look_79 : decode cX12_look 79 = .ok (.iload 7, 2) := by decide +kernel
theorem dX12_look_81 : decode cX12_look 81 = .ok (.iload 6, 2) := by decide +kernel
theorem dX12_look_83 : decode cX12_look 83 = .ok (.if_icmp .ge 19, 3) := by decide +kernel
theorem dX12_look_86 : decode cX12_look 86 = .ok (.aload_n 0, 1) := by decide +kernel
theorem dX12_look_87 : decode cX12_look 87 = .ok (.iload_n 1, 1) := by decide +kernel
theorem dX12_look_88 : decode cX12_look 88 = .ok (.iload 7, 2) := by decide +kernel
theorem dX12_look_90 : decode cX12_look 90 = .ok (.iload 6, 2) := by decide +kernel
theorem dX12_look_92 : decode cX12_look 92 = .ok (.invokevirtual 227, 3) := by decide +kernel
theorem dX12_look_95 : decode cX12_look 95 = .ok (.ifCond .eq 7, 3) := by decide +kernel
theorem dX12_look_98 : decode cX12_look 98 = .ok (.iconst 1, 1) := by decide +kernel
theorem dX12_look_99 : decode cX12_look 99 = .ok (.goto 4, 3) := by decide +kernel
theorem dX12_look_102 : decode cX12_look 102 = .ok (.iconst 0, 1) := by decide +kernel
theorem dX12_look_103 : decode cX12_look 103 = .ok (.iadd, 1) := by decide +kernel
theorem dX12_look_104 : decode cX12_look 104 = .ok (.istore 4, 2) := by decide +kernel
theorem dX12_look_106 : decode cX12_look 106 = .ok (.iinc 7 1, 3) := by decide +kernel
theorem dX12_look_109 : decode cX12_look 109 = .ok (.goto (-62), 3) := by decide +kernel
theorem dX12_look_112 : decode cX12_look 112 = .ok (.iinc 6 1, 3) := by decide +kernel
theorem dX12_look_115 : decode cX12_look 115 = .ok (.goto (-81), 3) := by decide +kernel
theorem dX12_look_118 : decode cX12_look 118 = .ok (.iconst 0, 1) := by decide +kernel
theorem dX12_look_119 : decode cX12_look 119 = .ok (.istore 6, 2) := by decide +kernel
theorem dX12_look_121 : decode cX12_look 121 = .ok (.iload 6, 2) := by decide +kernel
theorem dX12_look_123 : decode cX12_look 123 = .ok (.iconst 1, 1) := by decide +kernel
theorem dX12_look_124 : decode cX12_look 124 = .ok (.aload_n 0, 1) := by decide +kernel
theorem dX12_look_125 : decode cX12_look 125 = .ok (.iload_n 1, 1) := by decide +kernel
theorem dX12_look_126 : decode cX12_look 126 = .ok (.invokevirtual 76, 3) := by decide +kernel
theorem dX12_look_129 : decode cX12_look 129 = .ok (.ishl, 1) := by decide +kernel
theorem dX12_look_130 : decode cX12_look 130 = .ok (.if_icmp .ge 29, 3) := by decide +kernel
theorem dX12_look_133 : decode cX12_look 133 = .ok (.iload 5, 2) := by decide +kernel
theorem dX12_look_135 : decode cX12_look 135 = .ok (.aload_n 0, 1) := by decide +kernel
theorem dX12_look_136 : decode cX12_look 136 = .ok (.iload_n 1, 1) := by decide +kernel
theorem dX12_look_137 : decode cX12_look 137 = .ok (.iload 6, 2) := by decide +kernel
theorem dX12_look_139 : decode cX12_look 139 = .ok (.invokevirtual 239, 3) := by decide +kernel
theorem dX12_look_142 : decode cX12_look 142 = .ok (.ifCond .eq 7, 3) := by decide +kernel
theorem dX12_look_145 : decode cX12_look 145 = .ok (.iconst 1, 1) := by decide +kernel
theorem dX12_look_146 : decode cX12_look 146 = .ok (.goto 4, 3) := by decide +kernel
theorem dX12_look_149 : decode cX12_look 149 = .ok (.iconst 0, 1) := by decide +kernel
theorem dX12_look_150 : decode cX12_look 150 = .ok (.iadd, 1) := by decide +kernel
theorem dX12_look_151 : decode cX12_look 151 = .ok (.istore 5, 2) := by decide +kernel
theorem dX12_look_153 : decode cX12_look 153 = .ok (.iinc 6 1, 3) := by decide +kernel
theorem dX12_look_156 : decode cX12_look 156 = .ok (.goto (-35), 3) := by decide +kernel
theorem dX12_look_159 : decode cX12_look 159 = .ok (.iload_n 2, 1) := by decide +kernel
theorem dX12_look_160 : decode cX12_look 160 = .ok (.tableswitch 89 0 7 #[48, 54, 60, 62, 68, 77, 80, 83], 48) := by decide +kernel
theorem dX12_look_208 : decode cX12_look 208 = .ok (.aload_n 0, 1) := by decide +kernel
theorem dX12_look_209 : decode cX12_look 209 = .ok (.iload_n 1, 1) := by decide +kernel
theorem dX12_look_210 : decode cX12_look 210 = .ok (.invokevirtual 76, 3) := by decide +kernel
theorem dX12_look_213 : decode cX12_look 213 = .ok (.ireturn, 1) := by decide +kernel
theorem dX12_look_214 : decode cX12_look 214 = .ok (.aload_n 0, 1) := by decide +kernel
theorem dX12_look_215 : decode cX12_look 215 = .ok (.iload_n 1, 1) := by decide +kernel
theorem dX12_look_216 : decode cX12_look 216 = .ok (.invokevirtual 199, 3) := by decide +kernel
theorem dX12_look_219 : decode cX12_look 219 = .ok (.ireturn, 1) := by decide +kernel
theorem dX12_look_220 : decode cX12_look 220 = .ok (.iload_n 3, 1) := by decide +kernel
theorem dX12_look_221 : decode cX12_look 221 = .ok (.ireturn, 1) := by decide +kernel
theorem dX12_look_222 : decode cX12_look 222 = .ok (.aload_n 0, 1) := by decide +kernel
theorem dX12_look_223 : decode cX12_look 223 = .ok (.iload_n 1, 1) := by decide +kernel
theorem dX12_look_224 : decode cX12_look 224 = .ok (.invokevirtual 218, 3) := by decide +kernel
theorem dX12_look_227 : decode cX12_look 227 = .ok (.ireturn, 1) := by decide +kernel
theorem dX12_look_228 : decode cX12_look 228 = .ok (.aload_n 0, 1) := by decide +kernel
theorem dX12_look_229 : decode cX12_look 229 = .ok (.iload_n 1, 1) := by decide +kernel
theorem dX12_look_230 : decode cX12_look 230 = .ok (.invokevirtual 224, 3) := by decide +kernel
theorem dX12_look_233 : decode cX12_look 233 = .ok (.invokestatic 100, 3) := by decide +kernel
theorem dX12_look_236 : decode cX12_look 236 = .ok (.ireturn, 1) := by decide +kernel
theorem dX12_look_237 : decode cX12_look 237 = .ok (.iload 4, 2) := by decide +kernel
theorem dX12_look_239 : decode cX12_look 239 = .ok (.ireturn, 1) := by decide +kernel
theorem dX12_look_240 : decode cX12_look 240 = .ok (.iload 5, 2) := by decide +kernel
theorem dX12_look_242 : decode cX12_look 242 = .ok (.ireturn, 1) := by decide +kernel
theorem dX12_look_243 : decode cX12_look 243 = .ok (.aload_n 0, 1) := by decide +kernel
theorem dX12_look_244 : decode cX12_look 244 = .ok (.iload_n 1, 1) := by decide +kernel
theorem dX12_look_245 : decode cX12_look 245 = .ok (.invokevirtual 242, 3) := by decide +kernel
theorem dX12_look_248 : decode cX12_look 248 = .ok (.ireturn, 1) := by decide +kernel
theorem dX12_look_249 : decode cX12_look 249 = .ok (.aload_n 0, 1) := by decide +kernel
theorem dX12_look_250 : decode cX12_look 250 = .ok (.iload_n 1, 1) := by decide +kernel
theorem dX12_look_251 : decode cX12_look 251 = .ok (.invokevirtual 83, 3) := by decide +kernel
theorem dX12_look_254 : decode cX12_look 254 = .ok (.ireturn, 1) := by decide +kernel
theorem dX12_many_0 : decode cX12_many 0 = .ok (.aload_n 0, 1) := by decide +kernel
theorem dX12_many_1 : decode cX12_many 1 = .ok (.iload_n 1, 1) := by decide +kernel
theorem dX12_many_2 : decode cX12_many 2 = .ok (.iconst 0, 1) := by decide +kernel
theorem dX12_many_3 : decode cX12_many 3 = .ok (.invokevirtual 68, 3) := by decide +kernel
theorem dX12_many_6 : decode cX12_many 6 = .ok (.ireturn, 1) := by decide +kernel
theorem dX12_mean_0 : decode cX12_mean 0 = .ok (.aload_n 0, 1) := by decide +kernel
theorem dX12_mean_1 : decode cX12_mean 1 = .ok (.iload_n 1, 1) := by decide +kernel
theorem dX12_mean_2 : decode cX12_mean 2 = .ok (.iload_n 2, 1) := by decide +kernel
theorem dX12_mean_3 : decode cX12_mean 3 = .ok (.invokevirtual 215, 3) := by decide +kernel
theorem dX12_mean_6 : decode cX12_mean 6 = .ok (.ifCond .eq 13, 3) := by decide +kernel
theorem dX12_mean_9 : decode cX12_mean 9 = .ok (.iload_n 3, 1) := by decide +kernel
theorem dX12_mean_10 : decode cX12_mean 10 = .ok (.i2l, 1) := by decide +kernel
theorem dX12_mean_11 : decode cX12_mean 11 = .ok (.lconst 0, 1) := by decide +kernel
theorem dX12_mean_12 : decode cX12_mean 12 = .ok (.lconst 1, 1) := by decide +kernel
theorem dX12_mean_13 : decode cX12_mean 13 = .ok (.invokestatic 64, 3) := by decide +kernel
theorem dX12_mean_16 : decode cX12_mean 16 = .ok (.ifCond .ne 6, 3) := by decide +kernel
theorem dX12_mean_19 : decode cX12_mean 19 = .ok (.bipush (-2), 2) := by decide +kernel
theorem dX12_mean_21 : decode cX12_mean 21 = .ok (.ireturn, 1) := by decide +kernel
theorem dX12_mean_22 : decode cX12_mean 22 = .ok (.aload_n 0, 1) := by decide +kernel
theorem dX12_mean_23 : decode cX12_mean 23 = .ok (.iload_n 1, 1) := by decide +kernel
theorem dX12_mean_24 : decode cX12_mean 24 = .ok (.invokevirtual 285, 3) := by decide +kernel
theorem dX12_mean_27 : decode cX12_mean 27 = .ok (.iconst 0, 1) := by decide +kernel
theorem dX12_mean_28 : decode cX12_mean 28 = .ok (.istore 4, 2) := by decide +kernel
theorem dX12_mean_30 : decode cX12_mean 30 = .ok (.iconst 0, 1) := by decide +kernel
theorem dX12_mean_31 : decode cX12_mean 31 = .ok (.istore 5, 2) := by decide +kernel
theorem dX12_mean_33 : decode cX12_mean 33 = .ok (.iload 5, 2) := by decide +kernel
theorem dX12_mean_35 : decode cX12_mean 35 = .ok (.aload_n 0, 1) := by decide +kernel
theorem dX12_mean_36 : decode cX12_mean 36 = .ok (.iload_n 1, 1) := by decide +kernel
theorem dX12_mean_37 : decode cX12_mean 37 = .ok (.invokevirtual 76, 3) := by decide +kernel
theorem dX12_mean_40 : decode cX12_mean 40 = .ok (.if_icmp .ge 25, 3) := by decide +kernel
theorem dX12_mean_43 : decode cX12_mean 43 = .ok (.iload 4, 2) := by decide +kernel
theorem dX12_mean_45 : decode cX12_mean 45 = .ok (.iload 5, 2) := by decide +kernel
theorem dX12_mean_47 : decode cX12_mean 47 = .ok (.aload_n 0, 1) := by decide +kernel
theorem dX12_mean_48 : decode cX12_mean 48 = .ok (.iload_n 1, 1) := by decide +kernel
theorem dX12_mean_49 : decode cX12_mean 49 = .ok (.iload_n 2, 1) := by decide +kernel
theorem dX12_mean_50 : decode cX12_mean 50 = .ok (.iload 5, 2) := by decide +kernel
theorem dX12_mean_52 : decode cX12_mean 52 = .ok (.invokevirtual 304, 3) := by decide +kernel
theorem dX12_mean_55 : decode cX12_mean 55 = .ok (.imul, 1) := by decide +kernel
theorem dX12_mean_56 : decode cX12_mean 56 = .ok (.iadd, 1) := by decide +kernel
theorem dX12_mean_57 : decode cX12_mean 57 = .ok (.istore 4, 2) := by decide +kernel
theorem dX12_mean_59 : decode cX12_mean 59 = .ok (.iinc 5 1, 3) := by decide +kernel
theorem dX12_mean_62 : decode cX12_mean 62 = .ok (.goto (-29), 3) := by decide +kernel
theorem dX12_mean_65 : decode cX12_mean 65 = .ok (.aload_n 0, 1) := by decide +kernel
theorem dX12_mean_66 : decode cX12_mean 66 = .ok (.getfield 29, 3) := by decide +kernel
theorem dX12_mean_69 : decode cX12_mean 69 = .ok (.aload_n 0, 1) := by decide +kernel
theorem dX12_mean_70 : decode cX12_mean 70 = .ok (.getfield 282, 3) := by decide +kernel
theorem dX12_mean_73 : decode cX12_mean 73 = .ok (.iaload, 1) := by decide +kernel
theorem dX12_mean_74 : decode cX12_mean 74 = .ok (.iload 4, 2) := by decide +kernel
theorem dX12_mean_76 : decode cX12_mean 76 = .ok (.invokestatic 307, 3) := by decide +kernel
theorem dX12_mean_79 : decode cX12_mean 79 = .ok (.istore 5, 2) := by decide +kernel
theorem dX12_mean_81 : decode cX12_mean 81 = .ok (.iload_n 3, 1) := by decide +kernel
theorem dX12_mean_82 : decode cX12_mean 82 = .ok (.ifCond .ne 11, 3) := by decide +kernel
theorem dX12_mean_85 : decode cX12_mean 85 = .ok (.iload 4, 2) := by decide +kernel
theorem dX12_mean_87 : decode cX12_mean 87 = .ok (.iload 5, 2) := by decide +kernel
theorem dX12_mean_89 : decode cX12_mean 89 = .ok (.idiv, 1) := by decide +kernel
theorem dX12_mean_90 : decode cX12_mean 90 = .ok (.goto 15, 3) := by decide +kernel
theorem dX12_mean_93 : decode cX12_mean 93 = .ok (.aload_n 0, 1) := by decide +kernel
theorem dX12_mean_94 : decode cX12_mean 94 = .ok (.getfield 29, 3) := by decide +kernel
theorem dX12_mean_97 : decode cX12_mean 97 = .ok (.aload_n 0, 1) := by decide +kernel
theorem dX12_mean_98 : decode cX12_mean 98 = .ok (.getfield 282, 3) := by decide +kernel
theorem dX12_mean_101 : decode cX12_mean 101 = .ok (.iaload, 1) := by decide +kernel
theorem dX12_mean_102 : decode cX12_mean 102 = .ok (.iload 5, 2) := by decide +kernel
theorem dX12_mean_104 : decode cX12_mean 104 = .ok (.idiv, 1) := by decide +kernel
theorem dX12_mean_105 : decode cX12_mean 105 = .ok (.ireturn, 1) := by decide +kernel
theorem dX12_must_0 : decode cX12_must 0 = .ok (.iload_n 1, 1) := by decide +kernel
theorem dX12_must_1 : decode cX12_must 1 = .ok (.ifCond .ne 8, 3) := by decide +kernel
theorem dX12_must_4 : decode cX12_must 4 = .ok (.aload_n 0, 1) := by decide +kernel
theorem dX12_must_5 : decode cX12_must 5 = .ok (.iconst 1, 1) := by decide +kernel
theorem dX12_must_6 : decode cX12_must 6 = .ok (.invokevirtual 163, 3) := by decide +kernel
theorem dX12_must_9 : decode cX12_must 9 = .ok (.aload_n 0, 1) := by decide +kernel
theorem dX12_must_10 : decode cX12_must 10 = .ok (.invokevirtual 166, 3) := by decide +kernel
theorem dX12_must_13 : decode cX12_must 13 = .ok (.return_, 1) := by decide +kernel
theorem dX12_names_0 : decode cX12_names 0 = .ok (.iload_n 3, 1) := by decide +kernel
theorem dX12_names_1 : decode cX12_names 1 = .ok (.aload_n 0, 1) := by decide +kernel
theorem dX12_names_2 : decode cX12_names 2 = .ok (.iload_n 1, 1) := by decide +kernel
theorem dX12_names_3 : decode cX12_names 3 = .ok (.invokevirtual 76, 3) := by decide +kernel
theorem dX12_names_6 : decode cX12_names 6 = .ok (.if_icmp .ne 5, 3) := by decide +kernel
theorem dX12_names_9 : decode cX12_names 9 = .ok (.iconst 1, 1) := by decide +kernel
theorem dX12_names_10 : decode cX12_names 10 = .ok (.ireturn, 1) := by decide +kernel
theorem dX12_names_11 : decode cX12_names 11 = .ok (.iconst 0, 1) := by decide +kernel
theorem dX12_names_12 : decode cX12_names 12 = .ok (.istore 6, 2) := by decide +kernel
theorem dX12_names_14 : decode cX12_names 14 = .ok (.iconst 0, 1) := by decide +kernel
theorem dX12_names_15 : decode cX12_names 15 = .ok (.istore 7, 2) := by decide +kernel
theorem dX12_names_17 : decode cX12_names 17 = .ok (.iload 7, 2) := by decide +kernel
theorem dX12_names_19 : decode cX12_names 19 = .ok (.aload_n 0, 1) := by decide +kernel
theorem dX12_names_20 : decode cX12_names 20 = .ok (.iload_n 1, 1) := by decide +kernel
theorem dX12_names_21 : decode cX12_names 21 = .ok (.invokevirtual 76, 3) := by decide +kernel
theorem dX12_names_24 : decode cX12_names 24 = .ok (.if_icmp .ge 155, 3) := by decide +kernel
theorem dX12_names_27 : decode cX12_names 27 = .ok (.iload 4, 2) := by decide +kernel
theorem dX12_names_29 : decode cX12_names 29 = .ok (.iload 7, 2) := by decide +kernel
theorem dX12_names_31 : decode cX12_names 31 = .ok (.invokestatic 89, 3) := by decide +kernel
theorem dX12_names_34 : decode cX12_names 34 = .ok (.ifCond .ne 7, 3) := by decide +kernel
theorem dX12_names_37 : decode cX12_names 37 = .ok (.iconst 1, 1) := by decide +kernel
theorem dX12_names_38 : decode cX12_names 38 = .ok (.goto 4, 3) := by decide +kernel
theorem dX12_names_41 : decode cX12_names 41 = .ok (.iconst 0, 1) := by decide +kernel
theorem dX12_names_42 : decode cX12_names 42 = .ok (.istore 8, 2) := by decide +kernel
theorem dX12_names_44 : decode cX12_names 44 = .ok (.iconst 0, 1) := by decide +kernel
theorem dX12_names_45 : decode cX12_names 45 = .ok (.istore 9, 2) := by decide +kernel
theorem dX12_names_47 : decode cX12_names 47 = .ok (.iload 9, 2) := by decide +kernel
theorem dX12_names_49 : decode cX12_names 49 = .ok (.iload_n 3, 1) := by decide +kernel
theorem dX12_names_50 : decode cX12_names 50 = .ok (.if_icmp .ge 71, 3) := by decide +kernel
theorem dX12_names_53 : decode cX12_names 53 = .ok (.iload 8, 2) := by decide +kernel
theorem dX12_names_55 : decode cX12_names 55 = .ok (.ifCond .eq 66, 3) := by decide +kernel
theorem dX12_names_58 : decode cX12_names 58 = .ok (.aload_n 0, 1) := by decide +kernel
theorem dX12_names_59 : decode cX12_names 59 = .ok (.iload_n 1, 1) := by decide +kernel
theorem dX12_names_60 : decode cX12_names 60 = .ok (.iload 9, 2) := by decide +kernel
theorem dX12_names_62 : decode cX12_names 62 = .ok (.iload_n 3, 1) := by decide +kernel
theorem dX12_names_63 : decode cX12_names 63 = .ok (.invokevirtual 93, 3) := by decide +kernel
theorem dX12_names_66 : decode cX12_names 66 = .ok (.aload_n 0, 1) := by decide +kernel
theorem dX12_names_67 : decode cX12_names 67 = .ok (.iload_n 2, 1) := by decide +kernel
theorem dX12_names_68 : decode cX12_names 68 = .ok (.aload_n 0, 1) := by decide +kernel
theorem dX12_names_69 : decode cX12_names 69 = .ok (.getfield 56, 3) := by decide +kernel
theorem dX12_names_72 : decode cX12_names 72 = .ok (.iload 9, 2) := by decide +kernel
theorem dX12_names_74 : decode cX12_names 74 = .ok (.iaload, 1) := by decide +kernel
theorem dX12_names_75 : decode cX12_names 75 = .ok (.iload 7, 2) := by decide +kernel
theorem dX12_names_77 : decode cX12_names 77 = .ok (.invokevirtual 93, 3) := by decide +kernel
theorem dX12_names_80 : decode cX12_names 80 = .ok (.if_icmp .ne 32, 3) := by decide +kernel
theorem dX12_names_83 : decode cX12_names 83 = .ok (.aload_n 0, 1) := by decide +kernel
theorem dX12_names_84 : decode cX12_names 84 = .ok (.iload_n 1, 1) := by decide +kernel
theorem dX12_names_85 : decode cX12_names 85 = .ok (.iload_n 3, 1) := by decide +kernel
theorem dX12_names_86 : decode cX12_names 86 = .ok (.iload 9, 2) := by decide +kernel
theorem dX12_names_88 : decode cX12_names 88 = .ok (.invokevirtual 93, 3) := by decide +kernel
theorem dX12_names_91 : decode cX12_names 91 = .ok (.aload_n 0, 1) := by decide +kernel
theorem dX12_names_92 : decode cX12_names 92 = .ok (.iload_n 2, 1) := by decide +kernel
theorem dX12_names_93 : decode cX12_names 93 = .ok (.iload 7, 2) := by decide +kernel
theorem dX12_names_95 : decode cX12_names 95 = .ok (.aload_n 0, 1) := by decide +kernel
theorem dX12_names_96 : decode cX12_names 96 = .ok (.getfield 56, 3) := by decide +kernel
theorem dX12_names_99 : decode cX12_names 99 = .ok (.iload 9, 2) := by decide +kernel
theorem dX12_names_101 : decode cX12_names 101 = .ok (.iaload, 1) := by decide +kernel
theorem dX12_names_102 : decode cX12_names 102 = .ok (.invokevirtual 93, 3) := by decide +kernel
theorem dX12_names_105 : decode cX12_names 105 = .ok (.if_icmp .ne 7, 3) := by decide +kernel
theorem dX12_names_108 : decode cX12_names 108 = .ok (.iconst 1, 1) := by decide +kernel
theorem dX12_names_109 : decode cX12_names 109 = .ok (.goto 4, 3) := by decide +kernel
theorem dX12_names_112 : decode cX12_names 112 = .ok (.iconst 0, 1) := by decide +kernel
theorem dX12_names_113 : decode cX12_names 113 = .ok (.istore 8, 2) := by decide +kernel
theorem dX12_names_115 : decode cX12_names 115 = .ok (.iinc 9 1, 3) := by decide +kernel
theorem dX12_names_118 : decode cX12_names 118 = .ok (.goto (-71), 3) := by decide +kernel
theorem dX12_names_121 : decode cX12_names 121 = .ok (.iload 8, 2) := by decide +kernel
theorem dX12_names_123 : decode cX12_names 123 = .ok (.ifCond .ne 6, 3) := by decide +kernel
theorem dX12_names_126 : decode cX12_names 126 = .ok (.goto 47, 3) := by decide +kernel
theorem dX12_names_129 : decode cX12_names 129 = .ok (.aload_n 0, 1) := by decide +kernel
theorem dX12_names_130 : decode cX12_names 130 = .ok (.getfield 56, 3) := by decide +kernel
theorem dX12_names_133 : decode cX12_names 133 = .ok (.iload_n 3, 1) := by decide +kernel
theorem dX12_names_134 : decode cX12_names 134 = .ok (.iload 7, 2) := by decide +kernel
theorem dX12_names_136 : decode cX12_names 136 = .ok (.iastore, 1) := by decide +kernel
theorem dX12_names_137 : decode cX12_names 137 = .ok (.iload 6, 2) := by decide +kernel
theorem dX12_names_139 : decode cX12_names 139 = .ok (.aload_n 0, 1) := by decide +kernel
theorem dX12_names_140 : decode cX12_names 140 = .ok (.iload_n 1, 1) := by decide +kernel
theorem dX12_names_141 : decode cX12_names 141 = .ok (.iload_n 2, 1) := by decide +kernel
theorem dX12_names_142 : decode cX12_names 142 = .ok (.iload_n 3, 1) := by decide +kernel
theorem dX12_names_143 : decode cX12_names 143 = .ok (.iconst 1, 1) := by decide +kernel
theorem dX12_names_144 : decode cX12_names 144 = .ok (.iadd, 1) := by decide +kernel
theorem dX12_names_145 : decode cX12_names 145 = .ok (.iload 4, 2) := by decide +kernel
theorem dX12_names_147 : decode cX12_names 147 = .ok (.iconst 1, 1) := by decide +kernel
theorem dX12_names_148 : decode cX12_names 148 = .ok (.iload 7, 2) := by decide +kernel
theorem dX12_names_150 : decode cX12_names 150 = .ok (.ishl, 1) := by decide +kernel
theorem dX12_names_151 : decode cX12_names 151 = .ok (.ior, 1) := by decide +kernel
theorem dX12_names_152 : decode cX12_names 152 = .ok (.iload 5, 2) := by decide +kernel
theorem dX12_names_154 : decode cX12_names 154 = .ok (.invokevirtual 364, 3) := by decide +kernel
theorem dX12_names_157 : decode cX12_names 157 = .ok (.iadd, 1) := by decide +kernel
theorem dX12_names_158 : decode cX12_names 158 = .ok (.istore 6, 2) := by decide +kernel
theorem dX12_names_160 : decode cX12_names 160 = .ok (.iload 5, 2) := by decide +kernel
theorem dX12_names_162 : decode cX12_names 162 = .ok (.ifCond .eq 11, 3) := by decide +kernel
theorem dX12_names_165 : decode cX12_names 165 = .ok (.iload 6, 2) := by decide +kernel
theorem dX12_names_167 : decode cX12_names 167 = .ok (.ifCond .le 6, 3) := by decide +kernel
theorem dX12_names_170 : decode cX12_names 170 = .ok (.iload 6, 2) := by decide +kernel
theorem dX12_names_172 : decode cX12_names 172 = .ok (.ireturn, 1) := by decide +kernel
theorem dX12_names_173 : decode cX12_names 173 = .ok (.iinc 7 1, 3) := by decide +kernel
theorem dX12_names_176 : decode cX12_names 176 = .ok (.goto (-159), 3) := by decide +kernel
theorem dX12_names_179 : decode cX12_names 179 = .ok (.iload 6, 2) := by decide +kernel
theorem dX12_names_181 : decode cX12_names 181 = .ok (.ireturn, 1) := by decide +kernel
theorem dX12_next_0 : decode cX12_next 0 = .ok (.aload_n 0, 1) := by decide +kernel
theorem dX12_next_1 : decode cX12_next 1 = .ok (.bipush 32, 2) := by decide +kernel
theorem dX12_next_3 : decode cX12_next 3 = .ok (.bipush 32, 2) := by decide +kernel
theorem dX12_next_5 : decode cX12_next 5 = .ok (.invokevirtual 126, 3) := by decide +kernel
theorem dX12_next_8 : decode cX12_next 8 = .ok (.ifCond .ne 14, 3) := by decide +kernel
theorem dX12_next_11 : decode cX12_next 11 = .ok (.aload_n 0, 1) := by decide +kernel
theorem dX12_next_12 : decode cX12_next 12 = .ok (.bipush 10, 2) := by decide +kernel
theorem dX12_next_14 : decode cX12_next 14 = .ok (.bipush 10, 2) := by decide +kernel
theorem dX12_next_16 : decode cX12_next 16 = .ok (.invokevirtual 126, 3) := by decide +kernel
theorem dX12_next_19 : decode cX12_next 19 = .ok (.ifCond .eq 16, 3) := by decide +kernel
theorem dX12_next_22 : decode cX12_next 22 = .ok (.aload_n 0, 1) := by decide +kernel
theorem dX12_next_23 : decode cX12_next 23 = .ok (.dup, 1) := by decide +kernel
theorem dX12_next_24 : decode cX12_next 24 = .ok (.getfield 123, 3) := by decide +kernel
theorem dX12_next_27 : decode cX12_next 27 = .ok (.iconst 1, 1) := by decide +kernel
theorem dX12_next_28 : decode cX12_next 28 = .ok (.iadd, 1) := by decide +kernel
theorem dX12_next_29 : decode cX12_next 29 = .ok (.putfield 123, 3) := by decide +kernel
theorem dX12_next_32 : decode cX12_next 32 = .ok (.goto (-32), 3) := by decide +kernel
theorem dX12_next_35 : decode cX12_next 35 = .ok (.aload_n 0, 1) := by decide +kernel
theorem dX12_next_36 : decode cX12_next 36 = .ok (.aload_n 0, 1) := by decide +kernel
theorem dX12_next_37 : decode cX12_next 37 = .ok (.getfield 123, 3) := by decide +kernel
theorem dX12_next_40 : decode cX12_next 40 = .ok (.putfield 129, 3) := by decide +kernel
theorem dX12_next_43 : decode cX12_next 43 = .ok (.aload_n 0, 1) := by decide +kernel
theorem dX12_next_44 : decode cX12_next 44 = .ok (.iconst 0, 1) := by decide +kernel
theorem dX12_next_45 : decode cX12_next 45 = .ok (.putfield 132, 3) := by decide +kernel
theorem dX12_next_48 : decode cX12_next 48 = .ok (.aload_n 0, 1) := by decide +kernel
theorem dX12_next_49 : decode cX12_next 49 = .ok (.getfield 123, 3) := by decide +kernel
theorem dX12_next_52 : decode cX12_next 52 = .ok (.aload_n 0, 1) := by decide +kernel
theorem dX12_next_53 : decode cX12_next 53 = .ok (.getfield 120, 3) := by decide +kernel
theorem dX12_next_56 : decode cX12_next 56 = .ok (.if_icmp .ne 11, 3) := by decide +kernel
theorem dX12_next_59 : decode cX12_next 59 = .ok (.aload_n 0, 1) := by decide +kernel
theorem dX12_next_60 : decode cX12_next 60 = .ok (.iconst 0, 1) := by decide +kernel
theorem dX12_next_61 : decode cX12_next 61 = .ok (.putfield 135, 3) := by decide +kernel
theorem dX12_next_64 : decode cX12_next 64 = .ok (.goto 128, 3) := by decide +kernel
theorem dX12_next_67 : decode cX12_next 67 = .ok (.aload_n 0, 1) := by decide +kernel
theorem dX12_next_68 : decode cX12_next 68 = .ok (.bipush 97, 2) := by decide +kernel
theorem dX12_next_70 : decode cX12_next 70 = .ok (.bipush 122, 2) := by decide +kernel
theorem dX12_next_72 : decode cX12_next 72 = .ok (.invokevirtual 126, 3) := by decide +kernel
theorem dX12_next_75 : decode cX12_next 75 = .ok (.ifCond .eq 32, 3) := by decide +kernel
theorem dX12_next_78 : decode cX12_next 78 = .ok (.aload_n 0, 1) := by decide +kernel
theorem dX12_next_79 : decode cX12_next 79 = .ok (.iconst 1, 1) := by decide +kernel
theorem dX12_next_80 : decode cX12_next 80 = .ok (.putfield 135, 3) := by decide +kernel
theorem dX12_next_83 : decode cX12_next 83 = .ok (.aload_n 0, 1) := by decide +kernel
theorem dX12_next_84 : decode cX12_next 84 = .ok (.bipush 97, 2) := by decide +kernel
theorem dX12_next_86 : decode cX12_next 86 = .ok (.bipush 122, 2) := by decide +kernel
theorem dX12_next_88 : decode cX12_next 88 = .ok (.invokevirtual 126, 3) := by decide +kernel
theorem dX12_next_91 : decode cX12_next 91 = .ok (.ifCond .eq 101, 3) := by decide +kernel
theorem dX12_next_94 : decode cX12_next 94 = .ok (.aload_n 0, 1) := by decide +kernel
theorem dX12_next_95 : decode cX12_next 95 = .ok (.dup, 1) := by decide +kernel
theorem dX12_next_96 : decode cX12_next 96 = .ok (.getfield 123, 3) := by decide +kernel
theorem dX12_next_99 : decode cX12_next 99 = .ok (.iconst 1, 1) := by decide +kernel
theorem dX12_next_100 : decode cX12_next 100 = .ok (.iadd, 1) := by decide +kernel
theorem dX12_next_101 : decode cX12_next 101 = .ok (.putfield 123, 3) := by decide +kernel
theorem dX12_next_104 : decode cX12_next 104 = .ok (.goto (-21), 3) := by decide +kernel
theorem dX12_next_107 : decode cX12_next 107 = .ok (.aload_n 0, 1) := by decide +kernel
theorem dX12_next_108 : decode cX12_next 108 = .ok (.bipush 48, 2) := by decide +kernel
theorem dX12_next_110 : decode cX12_next 110 = .ok (.bipush 57, 2) := by decide +kernel
theorem dX12_next_112 : decode cX12_next 112 = .ok (.invokevirtual 126, 3) := by decide +kernel
theorem dX12_next_115 : decode cX12_next 115 = .ok (.ifCond .eq 62, 3) := by decide +kernel
theorem dX12_next_118 : decode cX12_next 118 = .ok (.aload_n 0, 1) := by decide +kernel
theorem dX12_next_119 : decode cX12_next 119 = .ok (.iconst 2, 1) := by decide +kernel
theorem dX12_next_120 : decode cX12_next 120 = .ok (.putfield 135, 3) := by decide +kernel
theorem dX12_next_123 : decode cX12_next 123 = .ok (.aload_n 0, 1) := by decide +kernel
theorem dX12_next_124 : decode cX12_next 124 = .ok (.bipush 48, 2) := by decide +kernel
theorem dX12_next_126 : decode cX12_next 126 = .ok (.bipush 57, 2) := by decide +kernel
theorem dX12_next_128 : decode cX12_next 128 = .ok (.invokevirtual 126, 3) := by decide +kernel
theorem dX12_next_131 : decode cX12_next 131 = .ok (.ifCond .eq 61, 3) := by decide +kernel
theorem dX12_next_134 : decode cX12_next 134 = .ok (.aload_n 0, 1) := by decide +kernel
theorem dX12_next_135 : decode cX12_next 135 = .ok (.sipush 1000, 3) := by decide +kernel
theorem dX12_next_138 : decode cX12_next 138 = .ok (.bipush 10, 2) := by decide +kernel
theorem dX12_next_140 : decode cX12_next 140 = .ok (.aload_n 0, 1) := by decide +kernel
theorem dX12_next_141 : decode cX12_next 141 = .ok (.getfield 132, 3) := by decide +kernel
theorem dX12_next_144 : decode cX12_next 144 = .ok (.imul, 1) := by decide +kernel
theorem dX12_next_145 : decode cX12_next 145 = .ok (.aload_n 0, 1) := by decide +kernel
theorem dX12_next_146 : decode cX12_next 146 = .ok (.getfield 19, 3) := by decide +kernel
theorem dX12_next_149 : decode cX12_next 149 = .ok (.aload_n 0, 1) := by decide +kernel
theorem dX12_next_150 : decode cX12_next 150 = .ok (.getfield 123, 3) := by decide +kernel
theorem dX12_next_153 : decode cX12_next 153 = .ok (.iaload, 1) := by decide +kernel
theorem dX12_next_154 : decode cX12_next 154 = .ok (.iadd, 1) := by decide +kernel
theorem dX12_next_155 : decode cX12_next 155 = .ok (.bipush 48, 2) := by decide +kernel
theorem dX12_next_157 : decode cX12_next 157 = .ok (.isub, 1) := by decide +kernel
theorem dX12_next_158 : decode cX12_next 158 = .ok (.invokestatic 138, 3) := by decide +kernel
theorem dX12_next_161 : decode cX12_next 161 = .ok (.putfield 132, 3) := by decide +kernel
theorem dX12_next_164 : decode cX12_next 164 = .ok (.aload_n 0, 1) := by decide +kernel
theorem dX12_next_165 : decode cX12_next 165 = .ok (.dup, 1) := by decide +kernel
theorem dX12_next_166 : decode cX12_next 166 = .ok (.getfield 123, 3) := by decide +kernel
theorem dX12_next_169 : decode cX12_next 169 = .ok (.iconst 1, 1) := by decide +kernel
theorem dX12_next_170 : decode cX12_next 170 = .ok (.iadd, 1) := by decide +kernel
theorem dX12_next_171 : decode cX12_next 171 = .ok (.putfield 123, 3) := by decide +kernel
theorem dX12_next_174 : decode cX12_next 174 = .ok (.goto (-51), 3) := by decide +kernel
theorem dX12_next_177 : decode cX12_next 177 = .ok (.aload_n 0, 1) := by decide +kernel
theorem dX12_next_178 : decode cX12_next 178 = .ok (.iconst 3, 1) := by decide +kernel
theorem dX12_next_179 : decode cX12_next 179 = .ok (.putfield 135, 3) := by decide +kernel
theorem dX12_next_182 : decode cX12_next 182 = .ok (.aload_n 0, 1) := by decide +kernel
theorem dX12_next_183 : decode cX12_next 183 = .ok (.dup, 1) := by decide +kernel
theorem dX12_next_184 : decode cX12_next 184 = .ok (.getfield 123, 3) := by decide +kernel
theorem dX12_next_187 : decode cX12_next 187 = .ok (.iconst 1, 1) := by decide +kernel
theorem dX12_next_188 : decode cX12_next 188 = .ok (.iadd, 1) := by decide +kernel
theorem dX12_next_189 : decode cX12_next 189 = .ok (.putfield 123, 3) := by decide +kernel
theorem dX12_next_192 : decode cX12_next 192 = .ok (.return_, 1) := by decide +kernel
theorem dX12_octet_0 : decode cX12_octet 0 = .ok (.iload_n 1, 1) := by decide +kernel
theorem dX12_octet_1 : decode cX12_octet 1 = .ok (.i2l, 1) := by decide +kernel
theorem dX12_octet_2 : decode cX12_octet 2 = .ok (.lconst 0, 1) := by decide +kernel
theorem dX12_octet_3 : decode cX12_octet 3 = .ok (.aload_n 0, 1) := by decide +kernel
theorem dX12_octet_4 : decode cX12_octet 4 = .ok (.getfield 205, 3) := by decide +kernel
theorem dX12_octet_7 : decode cX12_octet 7 = .ok (.iconst 1, 1) := by decide +kernel
theorem dX12_octet_8 : decode cX12_octet 8 = .ok (.isub, 1) := by decide +kernel
theorem dX12_octet_9 : decode cX12_octet 9 = .ok (.i2l, 1) := by decide +kernel
theorem dX12_octet_10 : decode cX12_octet 10 = .ok (.invokestatic 64, 3) := by decide +kernel
theorem dX12_octet_13 : decode cX12_octet 13 = .ok (.ifCond .eq 12, 3) := by decide +kernel
theorem dX12_octet_16 : decode cX12_octet 16 = .ok (.aload_n 0, 1) := by decide +kernel
theorem dX12_octet_17 : decode cX12_octet 17 = .ok (.getfield 59, 3) := by decide +kernel
theorem dX12_octet_20 : decode cX12_octet 20 = .ok (.iload_n 1, 1) := by decide +kernel
theorem dX12_octet_21 : decode cX12_octet 21 = .ok (.iaload, 1) := by decide +kernel
theorem dX12_octet_22 : decode cX12_octet 22 = .ok (.goto 4, 3) := by decide +kernel
theorem dX12_octet_25 : decode cX12_octet 25 = .ok (.iconst (-1), 1) := by decide +kernel
theorem dX12_octet_26 : decode cX12_octet 26 = .ok (.ireturn, 1) := by decide +kernel
theorem dX12_of_0 : decode cX12_of 0 = .ok (.aload_n 0, 1) := by decide +kernel
theorem dX12_of_1 : decode cX12_of 1 = .ok (.getfield 7, 3) := by decide +kernel
theorem dX12_of_4 : decode cX12_of 4 = .ok (.bipush 58, 2) := by decide +kernel
theorem dX12_of_6 : decode cX12_of 6 = .ok (.iload_n 1, 1) := by decide +kernel
theorem dX12_of_7 : decode cX12_of 7 = .ok (.imul, 1) := by decide +kernel
theorem dX12_of_8 : decode cX12_of 8 = .ok (.iload_n 2, 1) := by decide +kernel
theorem dX12_of_9 : decode cX12_of 9 = .ok (.iadd, 1) := by decide +kernel
theorem dX12_of_10 : decode cX12_of 10 = .ok (.iaload, 1) := by decide +kernel
theorem dX12_of_11 : decode cX12_of 11 = .ok (.ireturn, 1) := by decide +kernel
theorem dX12_of__0 : decode cX12_of_ 0 = .ok (.aload_n 0, 1) := by decide +kernel
theorem dX12_of__1 : decode cX12_of_ 1 = .ok (.iload_n 1, 1) := by decide +kernel
theorem dX12_of__2 : decode cX12_of_ 2 = .ok (.iload_n 2, 1) := by decide +kernel
theorem dX12_of__3 : decode cX12_of_ 3 = .ok (.invokevirtual 215, 3) := by decide +kernel
theorem dX12_of__6 : decode cX12_of_ 6 = .ok (.ifCond .eq 15, 3) := by decide +kernel
theorem dX12_of__9 : decode cX12_of_ 9 = .ok (.iload_n 3, 1) := by decide +kernel
theorem dX12_of__10 : decode cX12_of_ 10 = .ok (.i2l, 1) := by decide +kernel
theorem dX12_of__11 : decode cX12_of_ 11 = .ok (.lconst 0, 1) := by decide +kernel
theorem dX12_of__12 : decode cX12_of_ 12 = .ok (.ldc2_w 245, 3) := by decide +kernel
theorem dX12_of__15 : decode cX12_of_ 15 = .ok (.invokestatic 64, 3) := by decide +kernel
theorem dX12_of__18 : decode cX12_of_ 18 = .ok (.ifCond .ne 6, 3) := by decide +kernel
theorem dX12_of__21 : decode cX12_of_ 21 = .ok (.bipush (-2), 2) := by decide +kernel
theorem dX12_of__23 : decode cX12_of_ 23 = .ok (.ireturn, 1) := by decide +kernel
theorem dX12_of__24 : decode cX12_of_ 24 = .ok (.iconst 0, 1) := by decide +kernel
theorem dX12_of__25 : decode cX12_of_ 25 = .ok (.istore 4, 2) := by decide +kernel
theorem dX12_of__27 : decode cX12_of_ 27 = .ok (.iconst 0, 1) := by decide +kernel
theorem dX12_of__28 : decode cX12_of_ 28 = .ok (.istore 5, 2) := by decide +kernel
theorem dX12_of__30 : decode cX12_of_ 30 = .ok (.iconst 0, 1) := by decide +kernel
theorem dX12_of__31 : decode cX12_of_ 31 = .ok (.istore 6, 2) := by decide +kernel
theorem dX12_of__33 : decode cX12_of_ 33 = .ok (.iconst 0, 1) := by decide +kernel
theorem dX12_of__34 : decode cX12_of_ 34 = .ok (.istore 7, 2) := by decide +kernel
theorem dX12_of__36 : decode cX12_of_ 36 = .ok (.iload 7, 2) := by decide +kernel
theorem dX12_of__38 : decode cX12_of_ 38 = .ok (.aload_n 0, 1) := by decide +kernel
theorem dX12_of__39 : decode cX12_of_ 39 = .ok (.iload_n 1, 1) := by decide +kernel
theorem dX12_of__40 : decode cX12_of_ 40 = .ok (.invokevirtual 76, 3) := by decide +kernel
theorem dX12_of__43 : decode cX12_of_ 43 = .ok (.if_icmp .ge 81, 3) := by decide +kernel
theorem dX12_of__46 : decode cX12_of_ 46 = .ok (.iload 4, 2) := by decide +kernel
theorem dX12_of__48 : decode cX12_of_ 48 = .ok (.aload_n 0, 1) := by decide +kernel
theorem dX12_of__49 : decode cX12_of_ 49 = .ok (.iload_n 1, 1) := by decide +kernel
theorem dX12_of__50 : decode cX12_of_ 50 = .ok (.iload_n 2, 1) := by decide +kernel
theorem dX12_of__51 : decode cX12_of_ 51 = .ok (.iload 7, 2) := by decide +kernel
theorem dX12_of__53 : decode cX12_of_ 53 = .ok (.invokevirtual 227, 3) := by decide +kernel
theorem dX12_of__56 : decode cX12_of_ 56 = .ok (.ifCond .eq 10, 3) := by decide +kernel
theorem dX12_of__59 : decode cX12_of_ 59 = .ok (.iconst 1, 1) := by decide +kernel
theorem dX12_of__60 : decode cX12_of_ 60 = .ok (.iload 7, 2) := by decide +kernel
theorem dX12_of__62 : decode cX12_of_ 62 = .ok (.ishl, 1) := by decide +kernel
theorem dX12_of__63 : decode cX12_of_ 63 = .ok (.goto 4, 3) := by decide +kernel
theorem dX12_of__66 : decode cX12_of_ 66 = .ok (.iconst 0, 1) := by decide +kernel
theorem dX12_of__67 : decode cX12_of_ 67 = .ok (.ior, 1) := by decide +kernel
theorem dX12_of__68 : decode cX12_of_ 68 = .ok (.istore 4, 2) := by decide +kernel
theorem dX12_of__70 : decode cX12_of_ 70 = .ok (.iload 5, 2) := by decide +kernel
theorem dX12_of__72 : decode cX12_of_ 72 = .ok (.aload_n 0, 1) := by decide +kernel
theorem dX12_of__73 : decode cX12_of_ 73 = .ok (.iload_n 1, 1) := by decide +kernel
theorem dX12_of__74 : decode cX12_of_ 74 = .ok (.iload 7, 2) := by decide +kernel
theorem dX12_of__76 : decode cX12_of_ 76 = .ok (.iload_n 2, 1) := by decide +kernel
theorem dX12_of__77 : decode cX12_of_ 77 = .ok (.invokevirtual 236, 3) := by decide +kernel
theorem dX12_of__80 : decode cX12_of_ 80 = .ok (.ifCond .eq 10, 3) := by decide +kernel
theorem dX12_of__83 : decode cX12_of_ 83 = .ok (.iconst 1, 1) := by decide +kernel
theorem dX12_of__84 : decode cX12_of_ 84 = .ok (.iload 7, 2) := by decide +kernel
theorem dX12_of__86 : decode cX12_of_ 86 = .ok (.ishl, 1) := by decide +kernel
theorem dX12_of__87 : decode cX12_of_ 87 = .ok (.goto 4, 3) := by decide +kernel
theorem dX12_of__90 : decode cX12_of_ 90 = .ok (.iconst 0, 1) := by decide +kernel
theorem dX12_of__91 : decode cX12_of_ 91 = .ok (.ior, 1) := by decide +kernel
theorem dX12_of__92 : decode cX12_of_ 92 = .ok (.istore 5, 2) := by decide +kernel
theorem dX12_of__94 : decode cX12_of_ 94 = .ok (.iload 6, 2) := by decide +kernel
theorem dX12_of__96 : decode cX12_of_ 96 = .ok (.aload_n 0, 1) := by decide +kernel
theorem dX12_of__97 : decode cX12_of_ 97 = .ok (.iload_n 1, 1) := by decide +kernel
theorem dX12_of__98 : decode cX12_of_ 98 = .ok (.iload_n 2, 1) := by decide +kernel
theorem dX12_of__99 : decode cX12_of_ 99 = .ok (.iload 7, 2) := by decide +kernel
theorem dX12_of__101 : decode cX12_of_ 101 = .ok (.invokevirtual 236, 3) := by decide +kernel
theorem dX12_of__104 : decode cX12_of_ 104 = .ok (.ifCond .eq 10, 3) := by decide +kernel
theorem dX12_of__107 : decode cX12_of_ 107 = .ok (.iconst 1, 1) := by decide +kernel
theorem dX12_of__108 : decode cX12_of_ 108 = .ok (.iload 7, 2) := by decide +kernel
theorem dX12_of__110 : decode cX12_of_ 110 = .ok (.ishl, 1) := by decide +kernel
theorem dX12_of__111 : decode cX12_of_ 111 = .ok (.goto 4, 3) := by decide +kernel
theorem dX12_of__114 : decode cX12_of_ 114 = .ok (.iconst 0, 1) := by decide +kernel
theorem dX12_of__115 : decode cX12_of_ 115 = .ok (.ior, 1) := by decide +kernel
theorem dX12_of__116 : decode cX12_of_ 116 = .ok (.istore 6, 2) := by decide +kernel
theorem dX12_of__118 : decode cX12_of_ 118 = .ok (.iinc 7 1, 3) := by decide +kernel
theorem dX12_of__121 : decode cX12_of_ 121 = .ok (.goto (-85), 3) := by decide +kernel
theorem dX12_of__124 : decode cX12_of_ 124 = .ok (.iload_n 3, 1) := by decide +kernel
theorem dX12_of__125 : decode cX12_of_ 125 = .ok (.tableswitch 51 0 3 #[31, 38, 45, 48], 31) := by decide +kernel
theorem dX12_of__156 : decode cX12_of_ 156 = .ok (.aload_n 0, 1) := by decide +kernel
theorem dX12_of__157 : decode cX12_of_ 157 = .ok (.iload_n 1, 1) := by decide +kernel
theorem dX12_of__158 : decode cX12_of_ 158 = .ok (.iload_n 2, 1) := by decide +kernel
theorem dX12_of__159 : decode cX12_of_ 159 = .ok (.invokevirtual 86, 3) := by decide +kernel
theorem dX12_of__162 : decode cX12_of_ 162 = .ok (.ireturn, 1) := by decide +kernel
theorem dX12_of__163 : decode cX12_of_ 163 = .ok (.aload_n 0, 1) := by decide +kernel
theorem dX12_of__164 : decode cX12_of_ 164 = .ok (.iload_n 1, 1) := by decide +kernel
theorem dX12_of__165 : decode cX12_of_ 165 = .ok (.iload_n 2, 1) := by decide +kernel
theorem dX12_of__166 : decode cX12_of_ 166 = .ok (.invokevirtual 97, 3) := by decide +kernel
theorem dX12_of__169 : decode cX12_of_ 169 = .ok (.ireturn, 1) := by decide +kernel
theorem dX12_of__170 : decode cX12_of_ 170 = .ok (.iload 4, 2) := by decide +kernel
theorem dX12_of__172 : decode cX12_of_ 172 = .ok (.ireturn, 1) := by decide +kernel
theorem dX12_of__173 : decode cX12_of_ 173 = .ok (.iload 5, 2) := by decide +kernel
theorem dX12_of__175 : decode cX12_of_ 175 = .ok (.ireturn, 1) := by decide +kernel
theorem dX12_of__176 : decode cX12_of_ 176 = .ok (.iload 6, 2) := by decide +kernel
theorem dX12_of__178 : decode cX12_of_ 178 = .ok (.ireturn, 1) := by decide +kernel
theorem dX12_ones_0 : decode cX12_ones 0 = .ok (.iconst 0, 1) := by decide +kernel
theorem dX12_ones_1 : decode cX12_ones 1 = .ok (.istore_n 1, 1) := by decide +kernel
theorem dX12_ones_2 : decode cX12_ones 2 = .ok (.iload_n 0, 1) := by decide +kernel
theorem dX12_ones_3 : decode cX12_ones 3 = .ok (.istore_n 2, 1) := by decide +kernel
theorem dX12_ones_4 : decode cX12_ones 4 = .ok (.iload_n 2, 1) := by decide +kernel
theorem dX12_ones_5 : decode cX12_ones 5 = .ok (.ifCond .eq 15, 3) := by decide +kernel
theorem dX12_ones_8 : decode cX12_ones 8 = .ok (.iinc 1 1, 3) := by decide +kernel
theorem dX12_ones_11 : decode cX12_ones 11 = .ok (.iload_n 2, 1) := by decide +kernel
theorem dX12_ones_12 : decode cX12_ones 12 = .ok (.iload_n 2, 1) := by decide +kernel
theorem dX12_ones_13 : decode cX12_ones 13 = .ok (.iconst 1, 1) := by decide +kernel
theorem dX12_ones_14 : decode cX12_ones 14 = .ok (.isub, 1) := by decide +kernel
theorem dX12_ones_15 : decode cX12_ones 15 = .ok (.iand, 1) := by decide +kernel
theorem dX12_ones_16 : decode cX12_ones 16 = .ok (.istore_n 2, 1) := by decide +kernel
theorem dX12_ones_17 : decode cX12_ones 17 = .ok (.goto (-13), 3) := by decide +kernel
theorem dX12_ones_20 : decode cX12_ones 20 = .ok (.iload_n 1, 1) := by decide +kernel
theorem dX12_ones_21 : decode cX12_ones 21 = .ok (.ireturn, 1) := by decide +kernel
theorem dX12_over_0 : decode cX12_over 0 = .ok (.iconst 0, 1) := by decide +kernel
theorem dX12_over_1 : decode cX12_over 1 = .ok (.istore_n 3, 1) := by decide +kernel
theorem dX12_over_2 : decode cX12_over 2 = .ok (.iconst 0, 1) := by decide +kernel
theorem dX12_over_3 : decode cX12_over 3 = .ok (.istore 4, 2) := by decide +kernel
theorem dX12_over_5 : decode cX12_over 5 = .ok (.iload 4, 2) := by decide +kernel
theorem dX12_over_7 : decode cX12_over 7 = .ok (.aload_n 0, 1) := by decide +kernel
theorem dX12_over_8 : decode cX12_over 8 = .ok (.iload_n 1, 1) := by decide +kernel
theorem dX12_over_9 : decode cX12_over 9 = .ok (.invokevirtual 76, 3) := by decide +kernel
theorem dX12_over_12 : decode cX12_over 12 = .ok (.if_icmp .ge 31, 3) := by decide +kernel
theorem dX12_over_15 : decode cX12_over 15 = .ok (.iload_n 3, 1) := by decide +kernel
theorem dX12_over_16 : decode cX12_over 16 = .ok (.aload_n 0, 1) := by decide +kernel
theorem dX12_over_17 : decode cX12_over 17 = .ok (.iload_n 1, 1) := by decide +kernel
theorem dX12_over_18 : decode cX12_over 18 = .ok (.iload_n 2, 1) := by decide +kernel
theorem dX12_over_19 : decode cX12_over 19 = .ok (.iload 4, 2) := by decide +kernel
theorem dX12_over_21 : decode cX12_over 21 = .ok (.invokevirtual 93, 3) := by decide +kernel
theorem dX12_over_24 : decode cX12_over 24 = .ok (.ifCond .eq 10, 3) := by decide +kernel
theorem dX12_over_27 : decode cX12_over 27 = .ok (.iconst 1, 1) := by decide +kernel
theorem dX12_over_28 : decode cX12_over 28 = .ok (.iload 4, 2) := by decide +kernel
theorem dX12_over_30 : decode cX12_over 30 = .ok (.ishl, 1) := by decide +kernel
theorem dX12_over_31 : decode cX12_over 31 = .ok (.goto 4, 3) := by decide +kernel
theorem dX12_over_34 : decode cX12_over 34 = .ok (.iconst 0, 1) := by decide +kernel
theorem dX12_over_35 : decode cX12_over 35 = .ok (.ior, 1) := by decide +kernel
theorem dX12_over_36 : decode cX12_over 36 = .ok (.istore_n 3, 1) := by decide +kernel
theorem dX12_over_37 : decode cX12_over 37 = .ok (.iinc 4 1, 3) := by decide +kernel
theorem dX12_over_40 : decode cX12_over 40 = .ok (.goto (-35), 3) := by decide +kernel
theorem dX12_over_43 : decode cX12_over 43 = .ok (.iload_n 3, 1) := by decide +kernel
theorem dX12_over_44 : decode cX12_over 44 = .ok (.ireturn, 1) := by decide +kernel
theorem dX12_part_0 : decode cX12_part 0 = .ok (.aload_n 0, 1) := by decide +kernel
theorem dX12_part_1 : decode cX12_part 1 = .ok (.iload_n 1, 1) := by decide +kernel
theorem dX12_part_2 : decode cX12_part 2 = .ok (.iload_n 2, 1) := by decide +kernel
theorem dX12_part_3 : decode cX12_part 3 = .ok (.invokevirtual 215, 3) := by decide +kernel
theorem dX12_part_6 : decode cX12_part 6 = .ok (.ifCond .ne 6, 3) := by decide +kernel
theorem dX12_part_9 : decode cX12_part 9 = .ok (.bipush (-2), 2) := by decide +kernel
theorem dX12_part_11 : decode cX12_part 11 = .ok (.ireturn, 1) := by decide +kernel
theorem dX12_part_12 : decode cX12_part 12 = .ok (.aload_n 0, 1) := by decide +kernel
theorem dX12_part_13 : decode cX12_part 13 = .ok (.iload_n 1, 1) := by decide +kernel
theorem dX12_part_14 : decode cX12_part 14 = .ok (.iconst 0, 1) := by decide +kernel
theorem dX12_part_15 : decode cX12_part 15 = .ok (.iconst 0, 1) := by decide +kernel
theorem dX12_part_16 : decode cX12_part 16 = .ok (.aload_n 0, 1) := by decide +kernel
theorem dX12_part_17 : decode cX12_part 17 = .ok (.iload_n 1, 1) := by decide +kernel
theorem dX12_part_18 : decode cX12_part 18 = .ok (.invokevirtual 224, 3) := by decide +kernel
theorem dX12_part_21 : decode cX12_part 21 = .ok (.invokestatic 100, 3) := by decide +kernel
theorem dX12_part_24 : decode cX12_part 24 = .ok (.invokevirtual 230, 3) := by decide +kernel
theorem dX12_part_27 : decode cX12_part 27 = .ok (.istore_n 3, 1) := by decide +kernel
theorem dX12_part_28 : decode cX12_part 28 = .ok (.aload_n 0, 1) := by decide +kernel
theorem dX12_part_29 : decode cX12_part 29 = .ok (.getfield 26, 3) := by decide +kernel
theorem dX12_part_32 : decode cX12_part 32 = .ok (.iload_n 2, 1) := by decide +kernel
theorem dX12_part_33 : decode cX12_part 33 = .ok (.iaload, 1) := by decide +kernel
theorem dX12_part_34 : decode cX12_part 34 = .ok (.ireturn, 1) := by decide +kernel
theorem dX12_parts_0 : decode cX12_parts 0 = .ok (.iload_n 2, 1) := by decide +kernel
theorem dX12_parts_1 : decode cX12_parts 1 = .ok (.aload_n 0, 1) := by decide +kernel
theorem dX12_parts_2 : decode cX12_parts 2 = .ok (.iload_n 1, 1) := by decide +kernel
theorem dX12_parts_3 : decode cX12_parts 3 = .ok (.invokevirtual 76, 3) := by decide +kernel
theorem dX12_parts_6 : decode cX12_parts 6 = .ok (.if_icmp .ne 5, 3) := by decide +kernel
theorem dX12_parts_9 : decode cX12_parts 9 = .ok (.iconst 1, 1) := by decide +kernel
theorem dX12_parts_10 : decode cX12_parts 10 = .ok (.ireturn, 1) := by decide +kernel
theorem dX12_parts_11 : decode cX12_parts 11 = .ok (.iconst 0, 1) := by decide +kernel
theorem dX12_parts_12 : decode cX12_parts 12 = .ok (.istore 5, 2) := by decide +kernel
theorem dX12_parts_14 : decode cX12_parts 14 = .ok (.iload 5, 2) := by decide +kernel
theorem dX12_parts_16 : decode cX12_parts 16 = .ok (.iload_n 3, 1) := by decide +kernel
theorem dX12_parts_17 : decode cX12_parts 17 = .ok (.if_icmp .gt 110, 3) := by decide +kernel
theorem dX12_parts_20 : decode cX12_parts 20 = .ok (.iload 5, 2) := by decide +kernel
theorem dX12_parts_22 : decode cX12_parts 22 = .ok (.iload 4, 2) := by decide +kernel
theorem dX12_parts_24 : decode cX12_parts 24 = .ok (.if_icmp .ge 103, 3) := by decide +kernel
theorem dX12_parts_27 : decode cX12_parts 27 = .ok (.iconst 1, 1) := by decide +kernel
theorem dX12_parts_28 : decode cX12_parts 28 = .ok (.istore 6, 2) := by decide +kernel
theorem dX12_parts_30 : decode cX12_parts 30 = .ok (.iconst 0, 1) := by decide +kernel
theorem dX12_parts_31 : decode cX12_parts 31 = .ok (.istore 7, 2) := by decide +kernel
theorem dX12_parts_33 : decode cX12_parts 33 = .ok (.iload 7, 2) := by decide +kernel
theorem dX12_parts_35 : decode cX12_parts 35 = .ok (.iload_n 2, 1) := by decide +kernel
theorem dX12_parts_36 : decode cX12_parts 36 = .ok (.if_icmp .ge 44, 3) := by decide +kernel
theorem dX12_parts_39 : decode cX12_parts 39 = .ok (.iload 6, 2) := by decide +kernel
theorem dX12_parts_41 : decode cX12_parts 41 = .ok (.ifCond .eq 30, 3) := by decide +kernel
theorem dX12_parts_44 : decode cX12_parts 44 = .ok (.aload_n 0, 1) := by decide +kernel
theorem dX12_parts_45 : decode cX12_parts 45 = .ok (.getfield 26, 3) := by decide +kernel
theorem dX12_parts_48 : decode cX12_parts 48 = .ok (.iload 7, 2) := by decide +kernel
theorem dX12_parts_50 : decode cX12_parts 50 = .ok (.iaload, 1) := by decide +kernel
theorem dX12_parts_51 : decode cX12_parts 51 = .ok (.iload 5, 2) := by decide +kernel
theorem dX12_parts_53 : decode cX12_parts 53 = .ok (.if_icmp .ne 14, 3) := by decide +kernel
theorem dX12_parts_56 : decode cX12_parts 56 = .ok (.aload_n 0, 1) := by decide +kernel
theorem dX12_parts_57 : decode cX12_parts 57 = .ok (.iload_n 1, 1) := by decide +kernel
theorem dX12_parts_58 : decode cX12_parts 58 = .ok (.iload_n 2, 1) := by decide +kernel
theorem dX12_parts_59 : decode cX12_parts 59 = .ok (.iload 7, 2) := by decide +kernel
theorem dX12_parts_61 : decode cX12_parts 61 = .ok (.invokevirtual 227, 3) := by decide +kernel
theorem dX12_parts_64 : decode cX12_parts 64 = .ok (.ifCond .ne 7, 3) := by decide +kernel
theorem dX12_parts_67 : decode cX12_parts 67 = .ok (.iconst 1, 1) := by decide +kernel
theorem dX12_parts_68 : decode cX12_parts 68 = .ok (.goto 4, 3) := by decide +kernel
theorem dX12_parts_71 : decode cX12_parts 71 = .ok (.iconst 0, 1) := by decide +kernel
theorem dX12_parts_72 : decode cX12_parts 72 = .ok (.istore 6, 2) := by decide +kernel
theorem dX12_parts_74 : decode cX12_parts 74 = .ok (.iinc 7 1, 3) := by decide +kernel
theorem dX12_parts_77 : decode cX12_parts 77 = .ok (.goto (-44), 3) := by decide +kernel
theorem dX12_parts_80 : decode cX12_parts 80 = .ok (.aload_n 0, 1) := by decide +kernel
theorem dX12_parts_81 : decode cX12_parts 81 = .ok (.getfield 26, 3) := by decide +kernel
theorem dX12_parts_84 : decode cX12_parts 84 = .ok (.iload_n 2, 1) := by decide +kernel
theorem dX12_parts_85 : decode cX12_parts 85 = .ok (.iload 5, 2) := by decide +kernel
theorem dX12_parts_87 : decode cX12_parts 87 = .ok (.iastore, 1) := by decide +kernel
theorem dX12_parts_88 : decode cX12_parts 88 = .ok (.iload 6, 2) := by decide +kernel
theorem dX12_parts_90 : decode cX12_parts 90 = .ok (.ifCond .eq 31, 3) := by decide +kernel
theorem dX12_parts_93 : decode cX12_parts 93 = .ok (.aload_n 0, 1) := by decide +kernel
theorem dX12_parts_94 : decode cX12_parts 94 = .ok (.iload_n 1, 1) := by decide +kernel
theorem dX12_parts_95 : decode cX12_parts 95 = .ok (.iload_n 2, 1) := by decide +kernel
theorem dX12_parts_96 : decode cX12_parts 96 = .ok (.iconst 1, 1) := by decide +kernel
theorem dX12_parts_97 : decode cX12_parts 97 = .ok (.iadd, 1) := by decide +kernel
theorem dX12_parts_98 : decode cX12_parts 98 = .ok (.iload 5, 2) := by decide +kernel
theorem dX12_parts_100 : decode cX12_parts 100 = .ok (.iload_n 3, 1) := by decide +kernel
theorem dX12_parts_101 : decode cX12_parts 101 = .ok (.if_icmp .ne 9, 3) := by decide +kernel
theorem dX12_parts_104 : decode cX12_parts 104 = .ok (.iload_n 3, 1) := by decide +kernel
theorem dX12_parts_105 : decode cX12_parts 105 = .ok (.iconst 1, 1) := by decide +kernel
theorem dX12_parts_106 : decode cX12_parts 106 = .ok (.iadd, 1) := by decide +kernel
theorem dX12_parts_107 : decode cX12_parts 107 = .ok (.goto 4, 3) := by decide +kernel
theorem dX12_parts_110 : decode cX12_parts 110 = .ok (.iload_n 3, 1) := by decide +kernel
theorem dX12_parts_111 : decode cX12_parts 111 = .ok (.iload 4, 2) := by decide +kernel
theorem dX12_parts_113 : decode cX12_parts 113 = .ok (.invokevirtual 230, 3) := by decide +kernel
theorem dX12_parts_116 : decode cX12_parts 116 = .ok (.ifCond .eq 5, 3) := by decide +kernel
theorem dX12_parts_119 : decode cX12_parts 119 = .ok (.iconst 1, 1) := by decide +kernel
theorem dX12_parts_120 : decode cX12_parts 120 = .ok (.ireturn, 1) := by decide +kernel
theorem dX12_parts_121 : decode cX12_parts 121 = .ok (.iinc 5 1, 3) := by decide +kernel
theorem dX12_parts_124 : decode cX12_parts 124 = .ok (.goto (-110), 3) := by decide +kernel
theorem dX12_parts_127 : decode cX12_parts 127 = .ok (.iconst 0, 1) := by decide +kernel
theorem dX12_parts_128 : decode cX12_parts 128 = .ok (.ireturn, 1) := by decide +kernel
theorem dX12_passes_0 : decode cX12_passes 0 = .ok (.aload_n 0, 1) := by decide +kernel
theorem dX12_passes_1 : decode cX12_passes 1 = .ok (.getfield 143, 3) := by decide +kernel
theorem dX12_passes_4 : decode cX12_passes 4 = .ok (.ifCond .ne 7, 3) := by decide +kernel
theorem dX12_passes_7 : decode cX12_passes 7 = .ok (.aload_n 0, 1) := by decide +kernel
theorem dX12_passes_8 : decode cX12_passes 8 = .ok (.invokevirtual 150, 3) := by decide +kernel
theorem dX12_passes_11 : decode cX12_passes 11 = .ok (.return_, 1) := by decide +kernel
theorem dX12_placeIn_0 : decode cX12_placeIn 0 = .ok (.iconst 0, 1) := by decide +kernel
theorem dX12_placeIn_1 : decode cX12_placeIn 1 = .ok (.istore 4, 2) := by decide +kernel
theorem dX12_placeIn_3 : decode cX12_placeIn 3 = .ok (.aload_n 0, 1) := by decide +kernel
theorem dX12_placeIn_4 : decode cX12_placeIn 4 = .ok (.iload_n 1, 1) := by decide +kernel
theorem dX12_placeIn_5 : decode cX12_placeIn 5 = .ok (.iload_n 2, 1) := by decide +kernel
theorem dX12_placeIn_6 : decode cX12_placeIn 6 = .ok (.iload 4, 2) := by decide +kernel
theorem dX12_placeIn_8 : decode cX12_placeIn 8 = .ok (.invokevirtual 291, 3) := by decide +kernel
theorem dX12_placeIn_11 : decode cX12_placeIn 11 = .ok (.iload_n 3, 1) := by decide +kernel
theorem dX12_placeIn_12 : decode cX12_placeIn 12 = .ok (.if_icmp .eq 9, 3) := by decide +kernel
theorem dX12_placeIn_15 : decode cX12_placeIn 15 = .ok (.iinc 4 1, 3) := by decide +kernel
theorem dX12_placeIn_18 : decode cX12_placeIn 18 = .ok (.goto (-15), 3) := by decide +kernel
theorem dX12_placeIn_21 : decode cX12_placeIn 21 = .ok (.iload 4, 2) := by decide +kernel
theorem dX12_placeIn_23 : decode cX12_placeIn 23 = .ok (.ireturn, 1) := by decide +kernel
theorem dX12_puts_0 : decode cX12_puts 0 = .ok (.aload_n 0, 1) := by decide +kernel
theorem dX12_puts_1 : decode cX12_puts 1 = .ok (.iload_n 1, 1) := by decide +kernel
theorem dX12_puts_2 : decode cX12_puts 2 = .ok (.iload_n 2, 1) := by decide +kernel
theorem dX12_puts_3 : decode cX12_puts 3 = .ok (.invokevirtual 215, 3) := by decide +kernel
theorem dX12_puts_6 : decode cX12_puts 6 = .ok (.ifCond .eq 12, 3) := by decide +kernel
theorem dX12_puts_9 : decode cX12_puts 9 = .ok (.aload_n 0, 1) := by decide +kernel
theorem dX12_puts_10 : decode cX12_puts 10 = .ok (.iload_n 1, 1) := by decide +kernel
theorem dX12_puts_11 : decode cX12_puts 11 = .ok (.iload_n 3, 1) := by decide +kernel
theorem dX12_puts_12 : decode cX12_puts 12 = .ok (.invokevirtual 215, 3) := by decide +kernel
theorem dX12_puts_15 : decode cX12_puts 15 = .ok (.ifCond .ne 6, 3) := by decide +kernel
theorem dX12_puts_18 : decode cX12_puts 18 = .ok (.bipush (-2), 2) := by decide +kernel
theorem dX12_puts_20 : decode cX12_puts 20 = .ok (.ireturn, 1) := by decide +kernel
theorem dX12_puts_21 : decode cX12_puts 21 = .ok (.iload_n 2, 1) := by decide +kernel
theorem dX12_puts_22 : decode cX12_puts 22 = .ok (.iload_n 3, 1) := by decide +kernel
theorem dX12_puts_23 : decode cX12_puts 23 = .ok (.if_icmp .eq 13, 3) := by decide +kernel
theorem dX12_puts_26 : decode cX12_puts 26 = .ok (.aload_n 0, 1) := by decide +kernel
theorem dX12_puts_27 : decode cX12_puts 27 = .ok (.iload_n 1, 1) := by decide +kernel
theorem dX12_puts_28 : decode cX12_puts 28 = .ok (.iload_n 3, 1) := by decide +kernel
theorem dX12_puts_29 : decode cX12_puts 29 = .ok (.iload_n 2, 1) := by decide +kernel
theorem dX12_puts_30 : decode cX12_puts 30 = .ok (.invokevirtual 93, 3) := by decide +kernel
theorem dX12_puts_33 : decode cX12_puts 33 = .ok (.ifCond .eq 6, 3) := by decide +kernel
theorem dX12_puts_36 : decode cX12_puts 36 = .ok (.bipush (-6), 2) := by decide +kernel
theorem dX12_puts_38 : decode cX12_puts 38 = .ok (.ireturn, 1) := by decide +kernel
theorem dX12_puts_39 : decode cX12_puts 39 = .ok (.aload_n 0, 1) := by decide +kernel
theorem dX12_puts_40 : decode cX12_puts 40 = .ok (.iload_n 1, 1) := by decide +kernel
theorem dX12_puts_41 : decode cX12_puts 41 = .ok (.iload_n 2, 1) := by decide +kernel
theorem dX12_puts_42 : decode cX12_puts 42 = .ok (.iload_n 3, 1) := by decide +kernel
theorem dX12_puts_43 : decode cX12_puts 43 = .ok (.invokevirtual 93, 3) := by decide +kernel
theorem dX12_puts_46 : decode cX12_puts 46 = .ok (.ifCond .eq 5, 3) := by decide +kernel
theorem dX12_puts_49 : decode cX12_puts 49 = .ok (.iconst 0, 1) := by decide +kernel
theorem dX12_puts_50 : decode cX12_puts 50 = .ok (.ireturn, 1) := by decide +kernel
theorem dX12_puts_51 : decode cX12_puts 51 = .ok (.aload_n 0, 1) := by decide +kernel
theorem dX12_puts_52 : decode cX12_puts 52 = .ok (.invokevirtual 113, 3) := by decide +kernel
theorem dX12_puts_55 : decode cX12_puts 55 = .ok (.aload_n 0, 1) := by decide +kernel
theorem dX12_puts_56 : decode cX12_puts 56 = .ok (.iload_n 1, 1) := by decide +kernel
theorem dX12_puts_57 : decode cX12_puts 57 = .ok (.invokevirtual 199, 3) := by decide +kernel
theorem dX12_puts_60 : decode cX12_puts 60 = .ok (.istore 4, 2) := by decide +kernel
theorem dX12_puts_62 : decode cX12_puts 62 = .ok (.aload_n 0, 1) := by decide +kernel
theorem dX12_puts_63 : decode cX12_puts 63 = .ok (.iload_n 1, 1) := by decide +kernel
theorem dX12_puts_64 : decode cX12_puts 64 = .ok (.iload_n 2, 1) := by decide +kernel
theorem dX12_puts_65 : decode cX12_puts 65 = .ok (.iload_n 3, 1) := by decide +kernel
theorem dX12_puts_66 : decode cX12_puts 66 = .ok (.invokevirtual 179, 3) := by decide +kernel
theorem dX12_puts_69 : decode cX12_puts 69 = .ok (.aload_n 0, 1) := by decide +kernel
theorem dX12_puts_70 : decode cX12_puts 70 = .ok (.aload_n 0, 1) := by decide +kernel
theorem dX12_puts_71 : decode cX12_puts 71 = .ok (.iload_n 1, 1) := by decide +kernel
theorem dX12_puts_72 : decode cX12_puts 72 = .ok (.invokevirtual 199, 3) := by decide +kernel
theorem dX12_puts_75 : decode cX12_puts 75 = .ok (.iload 4, 2) := by decide +kernel
theorem dX12_puts_77 : decode cX12_puts 77 = .ok (.isub, 1) := by decide +kernel
theorem dX12_puts_78 : decode cX12_puts 78 = .ok (.invokevirtual 106, 3) := by decide +kernel
theorem dX12_puts_81 : decode cX12_puts 81 = .ok (.ireturn, 1) := by decide +kernel
theorem dX12_rank_0 : decode cX12_rank 0 = .ok (.aload_n 0, 1) := by decide +kernel
theorem dX12_rank_1 : decode cX12_rank 1 = .ok (.iload_n 1, 1) := by decide +kernel
theorem dX12_rank_2 : decode cX12_rank 2 = .ok (.iload_n 2, 1) := by decide +kernel
theorem dX12_rank_3 : decode cX12_rank 3 = .ok (.invokevirtual 295, 3) := by decide +kernel
theorem dX12_rank_6 : decode cX12_rank 6 = .ok (.ifCond .ne 6, 3) := by decide +kernel
theorem dX12_rank_9 : decode cX12_rank 9 = .ok (.bipush (-2), 2) := by decide +kernel
theorem dX12_rank_11 : decode cX12_rank 11 = .ok (.ireturn, 1) := by decide +kernel
theorem dX12_rank_12 : decode cX12_rank 12 = .ok (.aload_n 0, 1) := by decide +kernel
theorem dX12_rank_13 : decode cX12_rank 13 = .ok (.iload_n 1, 1) := by decide +kernel
theorem dX12_rank_14 : decode cX12_rank 14 = .ok (.iload_n 2, 1) := by decide +kernel
theorem dX12_rank_15 : decode cX12_rank 15 = .ok (.invokevirtual 298, 3) := by decide +kernel
theorem dX12_rank_18 : decode cX12_rank 18 = .ok (.ifCond .ne 5, 3) := by decide +kernel
theorem dX12_rank_21 : decode cX12_rank 21 = .ok (.iconst (-1), 1) := by decide +kernel
theorem dX12_rank_22 : decode cX12_rank 22 = .ok (.ireturn, 1) := by decide +kernel
theorem dX12_rank_23 : decode cX12_rank 23 = .ok (.aload_n 0, 1) := by decide +kernel
theorem dX12_rank_24 : decode cX12_rank 24 = .ok (.iload_n 1, 1) := by decide +kernel
theorem dX12_rank_25 : decode cX12_rank 25 = .ok (.invokevirtual 285, 3) := by decide +kernel
theorem dX12_rank_28 : decode cX12_rank 28 = .ok (.iconst 0, 1) := by decide +kernel
theorem dX12_rank_29 : decode cX12_rank 29 = .ok (.istore_n 3, 1) := by decide +kernel
theorem dX12_rank_30 : decode cX12_rank 30 = .ok (.iconst 0, 1) := by decide +kernel
theorem dX12_rank_31 : decode cX12_rank 31 = .ok (.istore 4, 2) := by decide +kernel
theorem dX12_rank_33 : decode cX12_rank 33 = .ok (.iconst 0, 1) := by decide +kernel
theorem dX12_rank_34 : decode cX12_rank 34 = .ok (.istore 5, 2) := by decide +kernel
theorem dX12_rank_36 : decode cX12_rank 36 = .ok (.iload 5, 2) := by decide +kernel
theorem dX12_rank_38 : decode cX12_rank 38 = .ok (.aload_n 0, 1) := by decide +kernel
theorem dX12_rank_39 : decode cX12_rank 39 = .ok (.iload_n 1, 1) := by decide +kernel
theorem dX12_rank_40 : decode cX12_rank 40 = .ok (.invokevirtual 76, 3) := by decide +kernel
theorem dX12_rank_43 : decode cX12_rank 43 = .ok (.if_icmp .ge 90, 3) := by decide +kernel
theorem dX12_rank_46 : decode cX12_rank 46 = .ok (.iconst 0, 1) := by decide +kernel
theorem dX12_rank_47 : decode cX12_rank 47 = .ok (.istore 6, 2) := by decide +kernel
theorem dX12_rank_49 : decode cX12_rank 49 = .ok (.iload 6, 2) := by decide +kernel
theorem dX12_rank_51 : decode cX12_rank 51 = .ok (.aload_n 0, 1) := by decide +kernel
theorem dX12_rank_52 : decode cX12_rank 52 = .ok (.iload_n 1, 1) := by decide +kernel
theorem dX12_rank_53 : decode cX12_rank 53 = .ok (.iload_n 2, 1) := by decide +kernel
theorem dX12_rank_54 : decode cX12_rank 54 = .ok (.iload 5, 2) := by decide +kernel
theorem dX12_rank_56 : decode cX12_rank 56 = .ok (.invokevirtual 291, 3) := by decide +kernel
theorem dX12_rank_59 : decode cX12_rank 59 = .ok (.if_icmp .ge 53, 3) := by decide +kernel
theorem dX12_rank_62 : decode cX12_rank 62 = .ok (.iload_n 3, 1) := by decide +kernel
theorem dX12_rank_63 : decode cX12_rank 63 = .ok (.iload 4, 2) := by decide +kernel
theorem dX12_rank_65 : decode cX12_rank 65 = .ok (.iload 6, 2) := by decide +kernel
theorem dX12_rank_67 : decode cX12_rank 67 = .ok (.invokestatic 89, 3) := by decide +kernel
theorem dX12_rank_70 : decode cX12_rank 70 = .ok (.ifCond .ne 33, 3) := by decide +kernel
theorem dX12_rank_73 : decode cX12_rank 73 = .ok (.aload_n 0, 1) := by decide +kernel
theorem dX12_rank_74 : decode cX12_rank 74 = .ok (.iload_n 1, 1) := by decide +kernel
theorem dX12_rank_75 : decode cX12_rank 75 = .ok (.iload 6, 2) := by decide +kernel
theorem dX12_rank_77 : decode cX12_rank 77 = .ok (.invokevirtual 86, 3) := by decide +kernel
theorem dX12_rank_80 : decode cX12_rank 80 = .ok (.iload 4, 2) := by decide +kernel
theorem dX12_rank_82 : decode cX12_rank 82 = .ok (.iconst (-1), 1) := by decide +kernel
theorem dX12_rank_83 : decode cX12_rank 83 = .ok (.ixor, 1) := by decide +kernel
theorem dX12_rank_84 : decode cX12_rank 84 = .ok (.iand, 1) := by decide +kernel
theorem dX12_rank_85 : decode cX12_rank 85 = .ok (.ifCond .ne 18, 3) := by decide +kernel
theorem dX12_rank_88 : decode cX12_rank 88 = .ok (.aload_n 0, 1) := by decide +kernel
theorem dX12_rank_89 : decode cX12_rank 89 = .ok (.getfield 32, 3) := by decide +kernel
theorem dX12_rank_92 : decode cX12_rank 92 = .ok (.iload 4, 2) := by decide +kernel
theorem dX12_rank_94 : decode cX12_rank 94 = .ok (.iconst 1, 1) := by decide +kernel
theorem dX12_rank_95 : decode cX12_rank 95 = .ok (.iload 6, 2) := by decide +kernel
theorem dX12_rank_97 : decode cX12_rank 97 = .ok (.ishl, 1) := by decide +kernel
theorem dX12_rank_98 : decode cX12_rank 98 = .ok (.ior, 1) := by decide +kernel
theorem dX12_rank_99 : decode cX12_rank 99 = .ok (.iaload, 1) := by decide +kernel
theorem dX12_rank_100 : decode cX12_rank 100 = .ok (.goto 4, 3) := by decide +kernel
theorem dX12_rank_103 : decode cX12_rank 103 = .ok (.iconst 0, 1) := by decide +kernel
theorem dX12_rank_104 : decode cX12_rank 104 = .ok (.iadd, 1) := by decide +kernel
theorem dX12_rank_105 : decode cX12_rank 105 = .ok (.istore_n 3, 1) := by decide +kernel
theorem dX12_rank_106 : decode cX12_rank 106 = .ok (.iinc 6 1, 3) := by decide +kernel
theorem dX12_rank_109 : decode cX12_rank 109 = .ok (.goto (-60), 3) := by decide +kernel
theorem dX12_rank_112 : decode cX12_rank 112 = .ok (.iload 4, 2) := by decide +kernel
theorem dX12_rank_114 : decode cX12_rank 114 = .ok (.iconst 1, 1) := by decide +kernel
theorem dX12_rank_115 : decode cX12_rank 115 = .ok (.aload_n 0, 1) := by decide +kernel
theorem dX12_rank_116 : decode cX12_rank 116 = .ok (.iload_n 1, 1) := by decide +kernel
theorem dX12_rank_117 : decode cX12_rank 117 = .ok (.iload_n 2, 1) := by decide +kernel
theorem dX12_rank_118 : decode cX12_rank 118 = .ok (.iload 5, 2) := by decide +kernel
theorem dX12_rank_120 : decode cX12_rank 120 = .ok (.invokevirtual 291, 3) := by decide +kernel
theorem dX12_rank_123 : decode cX12_rank 123 = .ok (.ishl, 1) := by decide +kernel
theorem dX12_rank_124 : decode cX12_rank 124 = .ok (.ior, 1) := by decide +kernel
theorem dX12_rank_125 : decode cX12_rank 125 = .ok (.istore 4, 2) := by decide +kernel
theorem dX12_rank_127 : decode cX12_rank 127 = .ok (.iinc 5 1, 3) := by decide +kernel
theorem dX12_rank_130 : decode cX12_rank 130 = .ok (.goto (-94), 3) := by decide +kernel
theorem dX12_rank_133 : decode cX12_rank 133 = .ok (.iload_n 3, 1) := by decide +kernel
theorem dX12_rank_134 : decode cX12_rank 134 = .ok (.ireturn, 1) := by decide +kernel
theorem dX12_readsChain_0 : decode cX12_readsChain 0 = .ok (.aload_n 0, 1) := by decide +kernel
theorem dX12_readsChain_1 : decode cX12_readsChain 1 = .ok (.iconst 0, 1) := by decide +kernel
theorem dX12_readsChain_2 : decode cX12_readsChain 2 = .ok (.aload_n 0, 1) := by decide +kernel
theorem dX12_readsChain_3 : decode cX12_readsChain 3 = .ok (.iload_n 1, 1) := by decide +kernel
theorem dX12_readsChain_4 : decode cX12_readsChain 4 = .ok (.invokevirtual 76, 3) := by decide +kernel
theorem dX12_readsChain_7 : decode cX12_readsChain 7 = .ok (.iconst 1, 1) := by decide +kernel
theorem dX12_readsChain_8 : decode cX12_readsChain 8 = .ok (.isub, 1) := by decide +kernel
theorem dX12_readsChain_9 : decode cX12_readsChain 9 = .ok (.invokevirtual 169, 3) := by decide +kernel
theorem dX12_readsChain_12 : decode cX12_readsChain 12 = .ok (.istore_n 2, 1) := by decide +kernel
theorem dX12_readsChain_13 : decode cX12_readsChain 13 = .ok (.aload_n 0, 1) := by decide +kernel
theorem dX12_readsChain_14 : decode cX12_readsChain 14 = .ok (.invokevirtual 166, 3) := by decide +kernel
theorem dX12_readsChain_17 : decode cX12_readsChain 17 = .ok (.iconst 1, 1) := by decide +kernel
theorem dX12_readsChain_18 : decode cX12_readsChain 18 = .ok (.istore_n 3, 1) := by decide +kernel
theorem dX12_readsChain_19 : decode cX12_readsChain 19 = .ok (.iload_n 3, 1) := by decide +kernel
theorem dX12_readsChain_20 : decode cX12_readsChain 20 = .ok (.ifCond .eq 95, 3) := by decide +kernel
theorem dX12_readsChain_23 : decode cX12_readsChain 23 = .ok (.aload_n 0, 1) := by decide +kernel
theorem dX12_readsChain_24 : decode cX12_readsChain 24 = .ok (.getfield 143, 3) := by decide +kernel
theorem dX12_readsChain_27 : decode cX12_readsChain 27 = .ok (.ifCond .ne 88, 3) := by decide +kernel
theorem dX12_readsChain_30 : decode cX12_readsChain 30 = .ok (.aload_n 0, 1) := by decide +kernel
theorem dX12_readsChain_31 : decode cX12_readsChain 31 = .ok (.aload_n 0, 1) := by decide +kernel
theorem dX12_readsChain_32 : decode cX12_readsChain 32 = .ok (.bipush 60, 2) := by decide +kernel
theorem dX12_readsChain_34 : decode cX12_readsChain 34 = .ok (.invokevirtual 172, 3) := by decide +kernel
theorem dX12_readsChain_37 : decode cX12_readsChain 37 = .ok (.invokevirtual 175, 3) := by decide +kernel
theorem dX12_readsChain_40 : decode cX12_readsChain 40 = .ok (.aload_n 0, 1) := by decide +kernel
theorem dX12_readsChain_41 : decode cX12_readsChain 41 = .ok (.iconst 0, 1) := by decide +kernel
theorem dX12_readsChain_42 : decode cX12_readsChain 42 = .ok (.aload_n 0, 1) := by decide +kernel
theorem dX12_readsChain_43 : decode cX12_readsChain 43 = .ok (.iload_n 1, 1) := by decide +kernel
theorem dX12_readsChain_44 : decode cX12_readsChain 44 = .ok (.invokevirtual 76, 3) := by decide +kernel
theorem dX12_readsChain_47 : decode cX12_readsChain 47 = .ok (.iconst 1, 1) := by decide +kernel
theorem dX12_readsChain_48 : decode cX12_readsChain 48 = .ok (.isub, 1) := by decide +kernel
theorem dX12_readsChain_49 : decode cX12_readsChain 49 = .ok (.invokevirtual 169, 3) := by decide +kernel
theorem dX12_readsChain_52 : decode cX12_readsChain 52 = .ok (.istore 4, 2) := by decide +kernel
theorem dX12_readsChain_54 : decode cX12_readsChain 54 = .ok (.aload_n 0, 1) := by decide +kernel
theorem dX12_readsChain_55 : decode cX12_readsChain 55 = .ok (.getfield 143, 3) := by decide +kernel
theorem dX12_readsChain_58 : decode cX12_readsChain 58 = .ok (.ifCond .ne 25, 3) := by decide +kernel
theorem dX12_readsChain_61 : decode cX12_readsChain 61 = .ok (.iload_n 2, 1) := by decide +kernel
theorem dX12_readsChain_62 : decode cX12_readsChain 62 = .ok (.iload 4, 2) := by decide +kernel
theorem dX12_readsChain_64 : decode cX12_readsChain 64 = .ok (.if_icmp .eq 14, 3) := by decide +kernel
theorem dX12_readsChain_67 : decode cX12_readsChain 67 = .ok (.aload_n 0, 1) := by decide +kernel
theorem dX12_readsChain_68 : decode cX12_readsChain 68 = .ok (.iload_n 1, 1) := by decide +kernel
theorem dX12_readsChain_69 : decode cX12_readsChain 69 = .ok (.iload 4, 2) := by decide +kernel
theorem dX12_readsChain_71 : decode cX12_readsChain 71 = .ok (.iload_n 2, 1) := by decide +kernel
theorem dX12_readsChain_72 : decode cX12_readsChain 72 = .ok (.invokevirtual 93, 3) := by decide +kernel
theorem dX12_readsChain_75 : decode cX12_readsChain 75 = .ok (.ifCond .eq 8, 3) := by decide +kernel
theorem dX12_readsChain_78 : decode cX12_readsChain 78 = .ok (.aload_n 0, 1) := by decide +kernel
theorem dX12_readsChain_79 : decode cX12_readsChain 79 = .ok (.iconst 3, 1) := by decide +kernel
theorem dX12_readsChain_80 : decode cX12_readsChain 80 = .ok (.invokevirtual 163, 3) := by decide +kernel
theorem dX12_readsChain_83 : decode cX12_readsChain 83 = .ok (.aload_n 0, 1) := by decide +kernel
theorem dX12_readsChain_84 : decode cX12_readsChain 84 = .ok (.invokevirtual 166, 3) := by decide +kernel
theorem dX12_readsChain_87 : decode cX12_readsChain 87 = .ok (.aload_n 0, 1) := by decide +kernel
theorem dX12_readsChain_88 : decode cX12_readsChain 88 = .ok (.getfield 143, 3) := by decide +kernel
theorem dX12_readsChain_91 : decode cX12_readsChain 91 = .ok (.ifCond .ne 11, 3) := by decide +kernel
theorem dX12_readsChain_94 : decode cX12_readsChain 94 = .ok (.aload_n 0, 1) := by decide +kernel
theorem dX12_readsChain_95 : decode cX12_readsChain 95 = .ok (.iload_n 1, 1) := by decide +kernel
theorem dX12_readsChain_96 : decode cX12_readsChain 96 = .ok (.iload_n 2, 1) := by decide +kernel
theorem dX12_readsChain_97 : decode cX12_readsChain 97 = .ok (.iload 4, 2) := by decide +kernel
theorem dX12_readsChain_99 : decode cX12_readsChain 99 = .ok (.invokevirtual 179, 3) := by decide +kernel
theorem dX12_readsChain_102 : decode cX12_readsChain 102 = .ok (.iload 4, 2) := by decide +kernel
theorem dX12_readsChain_104 : decode cX12_readsChain 104 = .ok (.istore_n 2, 1) := by decide +kernel
theorem dX12_readsChain_105 : decode cX12_readsChain 105 = .ok (.aload_n 0, 1) := by decide +kernel
theorem dX12_readsChain_106 : decode cX12_readsChain 106 = .ok (.bipush 60, 2) := by decide +kernel
theorem dX12_readsChain_108 : decode cX12_readsChain 108 = .ok (.invokevirtual 172, 3) := by decide +kernel
theorem dX12_readsChain_111 : decode cX12_readsChain 111 = .ok (.istore_n 3, 1) := by decide +kernel
theorem dX12_readsChain_112 : decode cX12_readsChain 112 = .ok (.goto (-93), 3) := by decide +kernel
theorem dX12_readsChain_115 : decode cX12_readsChain 115 = .ok (.return_, 1) := by decide +kernel
