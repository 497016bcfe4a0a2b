theorem dX12_readsOrder_0 : decode cX12_readsOrder 0 = .ok (.aload_n 0, 1) := by decide +kernel
theorem dX12_readsOrder_1 : decode cX12_readsOrder 1 = .ok (.aload_n 0, 1) := by decide +kernel
theorem dX12_readsOrder_2 : decode cX12_readsOrder 2 = .ok (.ldc 182, 2) := by decide +kernel
theorem dX12_readsOrder_4 : decode cX12_readsOrder 4 = .ok (.invokevirtual 184, 3) := by decide +kernel
theorem dX12_readsOrder_7 : decode cX12_readsOrder 7 = .ok (.invokevirtual 175, 3) := by decide +kernel
theorem dX12_readsOrder_10 : decode cX12_readsOrder 10 = .ok (.aload_n 0, 1) := by decide +kernel
theorem dX12_readsOrder_11 : decode cX12_readsOrder 11 = .ok (.iconst 1, 1) := by decide +kernel
theorem dX12_readsOrder_12 : decode cX12_readsOrder 12 = .ok (.bipush 8, 2) := by decide +kernel
theorem dX12_readsOrder_14 : decode cX12_readsOrder 14 = .ok (.invokevirtual 169, 3) := by decide +kernel
theorem dX12_readsOrder_17 : decode cX12_readsOrder 17 = .ok (.istore_n 2, 1) := by decide +kernel
theorem dX12_readsOrder_18 : decode cX12_readsOrder 18 = .ok (.aload_n 0, 1) := by decide +kernel
theorem dX12_readsOrder_19 : decode cX12_readsOrder 19 = .ok (.invokevirtual 166, 3) := by decide +kernel
theorem dX12_readsOrder_22 : decode cX12_readsOrder 22 = .ok (.aload_n 0, 1) := by decide +kernel
theorem dX12_readsOrder_23 : decode cX12_readsOrder 23 = .ok (.iload_n 1, 1) := by decide +kernel
theorem dX12_readsOrder_24 : decode cX12_readsOrder 24 = .ok (.invokevirtual 116, 3) := by decide +kernel
theorem dX12_readsOrder_27 : decode cX12_readsOrder 27 = .ok (.aload_n 0, 1) := by decide +kernel
theorem dX12_readsOrder_28 : decode cX12_readsOrder 28 = .ok (.iload_n 1, 1) := by decide +kernel
theorem dX12_readsOrder_29 : decode cX12_readsOrder 29 = .ok (.iconst 0, 1) := by decide +kernel
theorem dX12_readsOrder_30 : decode cX12_readsOrder 30 = .ok (.iload_n 2, 1) := by decide +kernel
theorem dX12_readsOrder_31 : decode cX12_readsOrder 31 = .ok (.invokevirtual 109, 3) := by decide +kernel
theorem dX12_readsOrder_34 : decode cX12_readsOrder 34 = .ok (.aload_n 0, 1) := by decide +kernel
theorem dX12_readsOrder_35 : decode cX12_readsOrder 35 = .ok (.bipush 58, 2) := by decide +kernel
theorem dX12_readsOrder_37 : decode cX12_readsOrder 37 = .ok (.invokevirtual 172, 3) := by decide +kernel
theorem dX12_readsOrder_40 : decode cX12_readsOrder 40 = .ok (.ifCond .eq 33, 3) := by decide +kernel
theorem dX12_readsOrder_43 : decode cX12_readsOrder 43 = .ok (.aload_n 0, 1) := by decide +kernel
theorem dX12_readsOrder_44 : decode cX12_readsOrder 44 = .ok (.invokevirtual 150, 3) := by decide +kernel
theorem dX12_readsOrder_47 : decode cX12_readsOrder 47 = .ok (.aload_n 0, 1) := by decide +kernel
theorem dX12_readsOrder_48 : decode cX12_readsOrder 48 = .ok (.iload_n 1, 1) := by decide +kernel
theorem dX12_readsOrder_49 : decode cX12_readsOrder 49 = .ok (.invokevirtual 188, 3) := by decide +kernel
theorem dX12_readsOrder_52 : decode cX12_readsOrder 52 = .ok (.aload_n 0, 1) := by decide +kernel
theorem dX12_readsOrder_53 : decode cX12_readsOrder 53 = .ok (.bipush 44, 2) := by decide +kernel
theorem dX12_readsOrder_55 : decode cX12_readsOrder 55 = .ok (.invokevirtual 172, 3) := by decide +kernel
theorem dX12_readsOrder_58 : decode cX12_readsOrder 58 = .ok (.ifCond .eq 15, 3) := by decide +kernel
theorem dX12_readsOrder_61 : decode cX12_readsOrder 61 = .ok (.aload_n 0, 1) := by decide +kernel
theorem dX12_readsOrder_62 : decode cX12_readsOrder 62 = .ok (.invokevirtual 150, 3) := by decide +kernel
theorem dX12_readsOrder_65 : decode cX12_readsOrder 65 = .ok (.aload_n 0, 1) := by decide +kernel
theorem dX12_readsOrder_66 : decode cX12_readsOrder 66 = .ok (.iload_n 1, 1) := by decide +kernel
theorem dX12_readsOrder_67 : decode cX12_readsOrder 67 = .ok (.invokevirtual 188, 3) := by decide +kernel
theorem dX12_readsOrder_70 : decode cX12_readsOrder 70 = .ok (.goto (-18), 3) := by decide +kernel
theorem dX12_readsOrder_73 : decode cX12_readsOrder 73 = .ok (.aload_n 0, 1) := by decide +kernel
theorem dX12_readsOrder_74 : decode cX12_readsOrder 74 = .ok (.aload_n 0, 1) := by decide +kernel
theorem dX12_readsOrder_75 : decode cX12_readsOrder 75 = .ok (.bipush 59, 2) := by decide +kernel
theorem dX12_readsOrder_77 : decode cX12_readsOrder 77 = .ok (.invokevirtual 172, 3) := by decide +kernel
theorem dX12_readsOrder_80 : decode cX12_readsOrder 80 = .ok (.invokevirtual 175, 3) := by decide +kernel
theorem dX12_readsOrder_83 : decode cX12_readsOrder 83 = .ok (.aload_n 0, 1) := by decide +kernel
theorem dX12_readsOrder_84 : decode cX12_readsOrder 84 = .ok (.getfield 143, 3) := by decide +kernel
theorem dX12_readsOrder_87 : decode cX12_readsOrder 87 = .ok (.ifCond .ne 35, 3) := by decide +kernel
theorem dX12_readsOrder_90 : decode cX12_readsOrder 90 = .ok (.aload_n 0, 1) := by decide +kernel
theorem dX12_readsOrder_91 : decode cX12_readsOrder 91 = .ok (.getfield 135, 3) := by decide +kernel
theorem dX12_readsOrder_94 : decode cX12_readsOrder 94 = .ok (.ifCond .eq 28, 3) := by decide +kernel
theorem dX12_readsOrder_97 : decode cX12_readsOrder 97 = .ok (.aload_n 0, 1) := by decide +kernel
theorem dX12_readsOrder_98 : decode cX12_readsOrder 98 = .ok (.ldc 191, 2) := by decide +kernel
theorem dX12_readsOrder_100 : decode cX12_readsOrder 100 = .ok (.invokevirtual 184, 3) := by decide +kernel
theorem dX12_readsOrder_103 : decode cX12_readsOrder 103 = .ok (.ifCond .ne 11, 3) := by decide +kernel
theorem dX12_readsOrder_106 : decode cX12_readsOrder 106 = .ok (.aload_n 0, 1) := by decide +kernel
theorem dX12_readsOrder_107 : decode cX12_readsOrder 107 = .ok (.iconst 1, 1) := by decide +kernel
theorem dX12_readsOrder_108 : decode cX12_readsOrder 108 = .ok (.invokevirtual 163, 3) := by decide +kernel
theorem dX12_readsOrder_111 : decode cX12_readsOrder 111 = .ok (.goto (-28), 3) := by decide +kernel
theorem dX12_readsOrder_114 : decode cX12_readsOrder 114 = .ok (.aload_n 0, 1) := by decide +kernel
theorem dX12_readsOrder_115 : decode cX12_readsOrder 115 = .ok (.iload_n 1, 1) := by decide +kernel
theorem dX12_readsOrder_116 : decode cX12_readsOrder 116 = .ok (.invokevirtual 193, 3) := by decide +kernel
theorem dX12_readsOrder_119 : decode cX12_readsOrder 119 = .ok (.goto (-36), 3) := by decide +kernel
theorem dX12_readsOrder_122 : decode cX12_readsOrder 122 = .ok (.return_, 1) := by decide +kernel
theorem dX12_readsRow_0 : decode cX12_readsRow 0 = .ok (.aload_n 0, 1) := by decide +kernel
theorem dX12_readsRow_1 : decode cX12_readsRow 1 = .ok (.iload_n 1, 1) := by decide +kernel
theorem dX12_readsRow_2 : decode cX12_readsRow 2 = .ok (.invokevirtual 83, 3) := by decide +kernel
theorem dX12_readsRow_5 : decode cX12_readsRow 5 = .ok (.bipush 6, 2) := by decide +kernel
theorem dX12_readsRow_7 : decode cX12_readsRow 7 = .ok (.if_icmp .ne 8, 3) := by decide +kernel
theorem dX12_readsRow_10 : decode cX12_readsRow 10 = .ok (.aload_n 0, 1) := by decide +kernel
theorem dX12_readsRow_11 : decode cX12_readsRow 11 = .ok (.iconst 5, 1) := by decide +kernel
theorem dX12_readsRow_12 : decode cX12_readsRow 12 = .ok (.invokevirtual 163, 3) := by decide +kernel
theorem dX12_readsRow_15 : decode cX12_readsRow 15 = .ok (.aload_n 0, 1) := by decide +kernel
theorem dX12_readsRow_16 : decode cX12_readsRow 16 = .ok (.invokevirtual 166, 3) := by decide +kernel
theorem dX12_readsRow_19 : decode cX12_readsRow 19 = .ok (.aload_n 0, 1) := by decide +kernel
theorem dX12_readsRow_20 : decode cX12_readsRow 20 = .ok (.getfield 143, 3) := by decide +kernel
theorem dX12_readsRow_23 : decode cX12_readsRow 23 = .ok (.ifCond .eq 4, 3) := by decide +kernel
theorem dX12_readsRow_26 : decode cX12_readsRow 26 = .ok (.return_, 1) := by decide +kernel
theorem dX12_readsRow_27 : decode cX12_readsRow 27 = .ok (.iconst 0, 1) := by decide +kernel
theorem dX12_readsRow_28 : decode cX12_readsRow 28 = .ok (.istore_n 2, 1) := by decide +kernel
theorem dX12_readsRow_29 : decode cX12_readsRow 29 = .ok (.aload_n 0, 1) := by decide +kernel
theorem dX12_readsRow_30 : decode cX12_readsRow 30 = .ok (.getfield 123, 3) := by decide +kernel
theorem dX12_readsRow_33 : decode cX12_readsRow 33 = .ok (.aload_n 0, 1) := by decide +kernel
theorem dX12_readsRow_34 : decode cX12_readsRow 34 = .ok (.getfield 129, 3) := by decide +kernel
theorem dX12_readsRow_37 : decode cX12_readsRow 37 = .ok (.isub, 1) := by decide +kernel
theorem dX12_readsRow_38 : decode cX12_readsRow 38 = .ok (.aload_n 0, 1) := by decide +kernel
theorem dX12_readsRow_39 : decode cX12_readsRow 39 = .ok (.iload_n 1, 1) := by decide +kernel
theorem dX12_readsRow_40 : decode cX12_readsRow 40 = .ok (.invokevirtual 76, 3) := by decide +kernel
theorem dX12_readsRow_43 : decode cX12_readsRow 43 = .ok (.if_icmp .ne 7, 3) := by decide +kernel
theorem dX12_readsRow_46 : decode cX12_readsRow 46 = .ok (.iconst 1, 1) := by decide +kernel
theorem dX12_readsRow_47 : decode cX12_readsRow 47 = .ok (.goto 4, 3) := by decide +kernel
theorem dX12_readsRow_50 : decode cX12_readsRow 50 = .ok (.iconst 0, 1) := by decide +kernel
theorem dX12_readsRow_51 : decode cX12_readsRow 51 = .ok (.istore_n 3, 1) := by decide +kernel
theorem dX12_readsRow_52 : decode cX12_readsRow 52 = .ok (.aload_n 0, 1) := by decide +kernel
theorem dX12_readsRow_53 : decode cX12_readsRow 53 = .ok (.getfield 129, 3) := by decide +kernel
theorem dX12_readsRow_56 : decode cX12_readsRow 56 = .ok (.istore 4, 2) := by decide +kernel
theorem dX12_readsRow_58 : decode cX12_readsRow 58 = .ok (.iload 4, 2) := by decide +kernel
theorem dX12_readsRow_60 : decode cX12_readsRow 60 = .ok (.aload_n 0, 1) := by decide +kernel
theorem dX12_readsRow_61 : decode cX12_readsRow 61 = .ok (.getfield 123, 3) := by decide +kernel
theorem dX12_readsRow_64 : decode cX12_readsRow 64 = .ok (.if_icmp .ge 65, 3) := by decide +kernel
theorem dX12_readsRow_67 : decode cX12_readsRow 67 = .ok (.aload_n 0, 1) := by decide +kernel
theorem dX12_readsRow_68 : decode cX12_readsRow 68 = .ok (.getfield 135, 3) := by decide +kernel
theorem dX12_readsRow_71 : decode cX12_readsRow 71 = .ok (.iconst 2, 1) := by decide +kernel
theorem dX12_readsRow_72 : decode cX12_readsRow 72 = .ok (.if_icmp .ne 57, 3) := by decide +kernel
theorem dX12_readsRow_75 : decode cX12_readsRow 75 = .ok (.aload_n 0, 1) := by decide +kernel
theorem dX12_readsRow_76 : decode cX12_readsRow 76 = .ok (.getfield 19, 3) := by decide +kernel
theorem dX12_readsRow_79 : decode cX12_readsRow 79 = .ok (.iload 4, 2) := by decide +kernel
theorem dX12_readsRow_81 : decode cX12_readsRow 81 = .ok (.iaload, 1) := by decide +kernel
theorem dX12_readsRow_82 : decode cX12_readsRow 82 = .ok (.bipush 48, 2) := by decide +kernel
theorem dX12_readsRow_84 : decode cX12_readsRow 84 = .ok (.isub, 1) := by decide +kernel
theorem dX12_readsRow_85 : decode cX12_readsRow 85 = .ok (.istore 5, 2) := by decide +kernel
theorem dX12_readsRow_87 : decode cX12_readsRow 87 = .ok (.iload_n 3, 1) := by decide +kernel
theorem dX12_readsRow_88 : decode cX12_readsRow 88 = .ok (.ifCond .eq 26, 3) := by decide +kernel
theorem dX12_readsRow_91 : decode cX12_readsRow 91 = .ok (.iload 5, 2) := by decide +kernel
theorem dX12_readsRow_93 : decode cX12_readsRow 93 = .ok (.aload_n 0, 1) := by decide +kernel
theorem dX12_readsRow_94 : decode cX12_readsRow 94 = .ok (.iload_n 1, 1) := by decide +kernel
theorem dX12_readsRow_95 : decode cX12_readsRow 95 = .ok (.invokevirtual 76, 3) := by decide +kernel
theorem dX12_readsRow_98 : decode cX12_readsRow 98 = .ok (.if_icmp .ge 16, 3) := by decide +kernel
theorem dX12_readsRow_101 : decode cX12_readsRow 101 = .ok (.iload_n 2, 1) := by decide +kernel
theorem dX12_readsRow_102 : decode cX12_readsRow 102 = .ok (.iload 5, 2) := by decide +kernel
theorem dX12_readsRow_104 : decode cX12_readsRow 104 = .ok (.invokestatic 89, 3) := by decide +kernel
theorem dX12_readsRow_107 : decode cX12_readsRow 107 = .ok (.ifCond .ne 7, 3) := by decide +kernel
theorem dX12_readsRow_110 : decode cX12_readsRow 110 = .ok (.iconst 1, 1) := by decide +kernel
theorem dX12_readsRow_111 : decode cX12_readsRow 111 = .ok (.goto 4, 3) := by decide +kernel
theorem dX12_readsRow_114 : decode cX12_readsRow 114 = .ok (.iconst 0, 1) := by decide +kernel
theorem dX12_readsRow_115 : decode cX12_readsRow 115 = .ok (.istore_n 3, 1) := by decide +kernel
theorem dX12_readsRow_116 : decode cX12_readsRow 116 = .ok (.iload_n 2, 1) := by decide +kernel
theorem dX12_readsRow_117 : decode cX12_readsRow 117 = .ok (.iconst 1, 1) := by decide +kernel
theorem dX12_readsRow_118 : decode cX12_readsRow 118 = .ok (.iload 5, 2) := by decide +kernel
theorem dX12_readsRow_120 : decode cX12_readsRow 120 = .ok (.ishl, 1) := by decide +kernel
theorem dX12_readsRow_121 : decode cX12_readsRow 121 = .ok (.ior, 1) := by decide +kernel
theorem dX12_readsRow_122 : decode cX12_readsRow 122 = .ok (.istore_n 2, 1) := by decide +kernel
theorem dX12_readsRow_123 : decode cX12_readsRow 123 = .ok (.iinc 4 1, 3) := by decide +kernel
theorem dX12_readsRow_126 : decode cX12_readsRow 126 = .ok (.goto (-68), 3) := by decide +kernel
theorem dX12_readsRow_129 : decode cX12_readsRow 129 = .ok (.aload_n 0, 1) := by decide +kernel
theorem dX12_readsRow_130 : decode cX12_readsRow 130 = .ok (.getfield 135, 3) := by decide +kernel
theorem dX12_readsRow_133 : decode cX12_readsRow 133 = .ok (.iconst 2, 1) := by decide +kernel
theorem dX12_readsRow_134 : decode cX12_readsRow 134 = .ok (.if_icmp .eq 11, 3) := by decide +kernel
theorem dX12_readsRow_137 : decode cX12_readsRow 137 = .ok (.aload_n 0, 1) := by decide +kernel
theorem dX12_readsRow_138 : decode cX12_readsRow 138 = .ok (.iconst 1, 1) := by decide +kernel
theorem dX12_readsRow_139 : decode cX12_readsRow 139 = .ok (.invokevirtual 163, 3) := by decide +kernel
theorem dX12_readsRow_142 : decode cX12_readsRow 142 = .ok (.goto 12, 3) := by decide +kernel
theorem dX12_readsRow_145 : decode cX12_readsRow 145 = .ok (.iload_n 3, 1) := by decide +kernel
theorem dX12_readsRow_146 : decode cX12_readsRow 146 = .ok (.ifCond .ne 8, 3) := by decide +kernel
theorem dX12_readsRow_149 : decode cX12_readsRow 149 = .ok (.aload_n 0, 1) := by decide +kernel
theorem dX12_readsRow_150 : decode cX12_readsRow 150 = .ok (.iconst 4, 1) := by decide +kernel
theorem dX12_readsRow_151 : decode cX12_readsRow 151 = .ok (.invokevirtual 163, 3) := by decide +kernel
theorem dX12_readsRow_154 : decode cX12_readsRow 154 = .ok (.iconst 0, 1) := by decide +kernel
theorem dX12_readsRow_155 : decode cX12_readsRow 155 = .ok (.istore 4, 2) := by decide +kernel
theorem dX12_readsRow_157 : decode cX12_readsRow 157 = .ok (.iload 4, 2) := by decide +kernel
theorem dX12_readsRow_159 : decode cX12_readsRow 159 = .ok (.aload_n 0, 1) := by decide +kernel
theorem dX12_readsRow_160 : decode cX12_readsRow 160 = .ok (.iload_n 1, 1) := by decide +kernel
theorem dX12_readsRow_161 : decode cX12_readsRow 161 = .ok (.invokevirtual 76, 3) := by decide +kernel
theorem dX12_readsRow_164 : decode cX12_readsRow 164 = .ok (.if_icmp .ge 50, 3) := by decide +kernel
theorem dX12_readsRow_167 : decode cX12_readsRow 167 = .ok (.aload_n 0, 1) := by decide +kernel
theorem dX12_readsRow_168 : decode cX12_readsRow 168 = .ok (.getfield 143, 3) := by decide +kernel
theorem dX12_readsRow_171 : decode cX12_readsRow 171 = .ok (.ifCond .ne 43, 3) := by decide +kernel
theorem dX12_readsRow_174 : decode cX12_readsRow 174 = .ok (.aload_n 0, 1) := by decide +kernel
theorem dX12_readsRow_175 : decode cX12_readsRow 175 = .ok (.iload_n 1, 1) := by decide +kernel
theorem dX12_readsRow_176 : decode cX12_readsRow 176 = .ok (.bipush 10, 2) := by decide +kernel
theorem dX12_readsRow_178 : decode cX12_readsRow 178 = .ok (.bipush 8, 2) := by decide +kernel
theorem dX12_readsRow_180 : decode cX12_readsRow 180 = .ok (.aload_n 0, 1) := by decide +kernel
theorem dX12_readsRow_181 : decode cX12_readsRow 181 = .ok (.iload_n 1, 1) := by decide +kernel
theorem dX12_readsRow_182 : decode cX12_readsRow 182 = .ok (.invokevirtual 83, 3) := by decide +kernel
theorem dX12_readsRow_185 : decode cX12_readsRow 185 = .ok (.imul, 1) := by decide +kernel
theorem dX12_readsRow_186 : decode cX12_readsRow 186 = .ok (.iadd, 1) := by decide +kernel
theorem dX12_readsRow_187 : decode cX12_readsRow 187 = .ok (.iload 4, 2) := by decide +kernel
theorem dX12_readsRow_189 : decode cX12_readsRow 189 = .ok (.iadd, 1) := by decide +kernel
theorem dX12_readsRow_190 : decode cX12_readsRow 190 = .ok (.aload_n 0, 1) := by decide +kernel
theorem dX12_readsRow_191 : decode cX12_readsRow 191 = .ok (.getfield 19, 3) := by decide +kernel
theorem dX12_readsRow_194 : decode cX12_readsRow 194 = .ok (.aload_n 0, 1) := by decide +kernel
theorem dX12_readsRow_195 : decode cX12_readsRow 195 = .ok (.getfield 129, 3) := by decide +kernel
theorem dX12_readsRow_198 : decode cX12_readsRow 198 = .ok (.iload 4, 2) := by decide +kernel
theorem dX12_readsRow_200 : decode cX12_readsRow 200 = .ok (.iadd, 1) := by decide +kernel
theorem dX12_readsRow_201 : decode cX12_readsRow 201 = .ok (.iaload, 1) := by decide +kernel
theorem dX12_readsRow_202 : decode cX12_readsRow 202 = .ok (.bipush 48, 2) := by decide +kernel
theorem dX12_readsRow_204 : decode cX12_readsRow 204 = .ok (.isub, 1) := by decide +kernel
theorem dX12_readsRow_205 : decode cX12_readsRow 205 = .ok (.invokevirtual 109, 3) := by decide +kernel
theorem dX12_readsRow_208 : decode cX12_readsRow 208 = .ok (.iinc 4 1, 3) := by decide +kernel
theorem dX12_readsRow_211 : decode cX12_readsRow 211 = .ok (.goto (-54), 3) := by decide +kernel
theorem dX12_readsRow_214 : decode cX12_readsRow 214 = .ok (.aload_n 0, 1) := by decide +kernel
theorem dX12_readsRow_215 : decode cX12_readsRow 215 = .ok (.invokevirtual 166, 3) := by decide +kernel
theorem dX12_readsRow_218 : decode cX12_readsRow 218 = .ok (.aload_n 0, 1) := by decide +kernel
theorem dX12_readsRow_219 : decode cX12_readsRow 219 = .ok (.aload_n 0, 1) := by decide +kernel
theorem dX12_readsRow_220 : decode cX12_readsRow 220 = .ok (.bipush 59, 2) := by decide +kernel
theorem dX12_readsRow_222 : decode cX12_readsRow 222 = .ok (.invokevirtual 172, 3) := by decide +kernel
theorem dX12_readsRow_225 : decode cX12_readsRow 225 = .ok (.invokevirtual 175, 3) := by decide +kernel
theorem dX12_readsRow_228 : decode cX12_readsRow 228 = .ok (.aload_n 0, 1) := by decide +kernel
theorem dX12_readsRow_229 : decode cX12_readsRow 229 = .ok (.getfield 143, 3) := by decide +kernel
theorem dX12_readsRow_232 : decode cX12_readsRow 232 = .ok (.ifCond .ne 17, 3) := by decide +kernel
theorem dX12_readsRow_235 : decode cX12_readsRow 235 = .ok (.aload_n 0, 1) := by decide +kernel
theorem dX12_readsRow_236 : decode cX12_readsRow 236 = .ok (.iload_n 1, 1) := by decide +kernel
theorem dX12_readsRow_237 : decode cX12_readsRow 237 = .ok (.bipush 9, 2) := by decide +kernel
theorem dX12_readsRow_239 : decode cX12_readsRow 239 = .ok (.aload_n 0, 1) := by decide +kernel
theorem dX12_readsRow_240 : decode cX12_readsRow 240 = .ok (.iload_n 1, 1) := by decide +kernel
theorem dX12_readsRow_241 : decode cX12_readsRow 241 = .ok (.invokevirtual 83, 3) := by decide +kernel
theorem dX12_readsRow_244 : decode cX12_readsRow 244 = .ok (.iconst 1, 1) := by decide +kernel
theorem dX12_readsRow_245 : decode cX12_readsRow 245 = .ok (.iadd, 1) := by decide +kernel
theorem dX12_readsRow_246 : decode cX12_readsRow 246 = .ok (.invokevirtual 109, 3) := by decide +kernel
theorem dX12_readsRow_249 : decode cX12_readsRow 249 = .ok (.return_, 1) := by decide +kernel
theorem dX12_realizes_0 : decode cX12_realizes 0 = .ok (.aload_n 0, 1) := by decide +kernel
theorem dX12_realizes_1 : decode cX12_realizes 1 = .ok (.iload_n 1, 1) := by decide +kernel
theorem dX12_realizes_2 : decode cX12_realizes 2 = .ok (.invokevirtual 80, 3) := by decide +kernel
theorem dX12_realizes_5 : decode cX12_realizes 5 = .ok (.ifCond .eq 27, 3) := by decide +kernel
theorem dX12_realizes_8 : decode cX12_realizes 8 = .ok (.iload_n 2, 1) := by decide +kernel
theorem dX12_realizes_9 : decode cX12_realizes 9 = .ok (.i2l, 1) := by decide +kernel
theorem dX12_realizes_10 : decode cX12_realizes 10 = .ok (.lconst 1, 1) := by decide +kernel
theorem dX12_realizes_11 : decode cX12_realizes 11 = .ok (.ldc2_w 245, 3) := by decide +kernel
theorem dX12_realizes_14 : decode cX12_realizes 14 = .ok (.invokestatic 64, 3) := by decide +kernel
theorem dX12_realizes_17 : decode cX12_realizes 17 = .ok (.ifCond .eq 15, 3) := by decide +kernel
theorem dX12_realizes_20 : decode cX12_realizes 20 = .ok (.iload_n 3, 1) := by decide +kernel
theorem dX12_realizes_21 : decode cX12_realizes 21 = .ok (.i2l, 1) := by decide +kernel
theorem dX12_realizes_22 : decode cX12_realizes 22 = .ok (.lconst 1, 1) := by decide +kernel
theorem dX12_realizes_23 : decode cX12_realizes 23 = .ok (.ldc2_w 356, 3) := by decide +kernel
theorem dX12_realizes_26 : decode cX12_realizes 26 = .ok (.invokestatic 64, 3) := by decide +kernel
theorem dX12_realizes_29 : decode cX12_realizes 29 = .ok (.ifCond .ne 6, 3) := by decide +kernel
theorem dX12_realizes_32 : decode cX12_realizes 32 = .ok (.bipush (-2), 2) := by decide +kernel
theorem dX12_realizes_34 : decode cX12_realizes 34 = .ok (.ireturn, 1) := by decide +kernel
theorem dX12_realizes_35 : decode cX12_realizes 35 = .ok (.aload_n 0, 1) := by decide +kernel
theorem dX12_realizes_36 : decode cX12_realizes 36 = .ok (.iload_n 1, 1) := by decide +kernel
theorem dX12_realizes_37 : decode cX12_realizes 37 = .ok (.iload_n 2, 1) := by decide +kernel
theorem dX12_realizes_38 : decode cX12_realizes 38 = .ok (.iload_n 3, 1) := by decide +kernel
theorem dX12_realizes_39 : decode cX12_realizes 39 = .ok (.invokevirtual 358, 3) := by decide +kernel
theorem dX12_realizes_42 : decode cX12_realizes 42 = .ok (.istore 4, 2) := by decide +kernel
theorem dX12_realizes_44 : decode cX12_realizes 44 = .ok (.iload 4, 2) := by decide +kernel
theorem dX12_realizes_46 : decode cX12_realizes 46 = .ok (.iconst 1, 1) := by decide +kernel
theorem dX12_realizes_47 : decode cX12_realizes 47 = .ok (.if_icmp .eq 15, 3) := by decide +kernel
theorem dX12_realizes_50 : decode cX12_realizes 50 = .ok (.iload 4, 2) := by decide +kernel
theorem dX12_realizes_52 : decode cX12_realizes 52 = .ok (.ifCond .ne 7, 3) := by decide +kernel
theorem dX12_realizes_55 : decode cX12_realizes 55 = .ok (.iconst (-1), 1) := by decide +kernel
theorem dX12_realizes_56 : decode cX12_realizes 56 = .ok (.goto 5, 3) := by decide +kernel
theorem dX12_realizes_59 : decode cX12_realizes 59 = .ok (.bipush (-3), 2) := by decide +kernel
theorem dX12_realizes_61 : decode cX12_realizes 61 = .ok (.ireturn, 1) := by decide +kernel
theorem dX12_realizes_62 : decode cX12_realizes 62 = .ok (.aload_n 0, 1) := by decide +kernel
theorem dX12_realizes_63 : decode cX12_realizes 63 = .ok (.invokevirtual 113, 3) := by decide +kernel
theorem dX12_realizes_66 : decode cX12_realizes 66 = .ok (.bipush 9, 2) := by decide +kernel
theorem dX12_realizes_68 : decode cX12_realizes 68 = .ok (.istore 5, 2) := by decide +kernel
theorem dX12_realizes_70 : decode cX12_realizes 70 = .ok (.iload 5, 2) := by decide +kernel
theorem dX12_realizes_72 : decode cX12_realizes 72 = .ok (.bipush 58, 2) := by decide +kernel
theorem dX12_realizes_74 : decode cX12_realizes 74 = .ok (.if_icmp .ge 17, 3) := by decide +kernel
theorem dX12_realizes_77 : decode cX12_realizes 77 = .ok (.aload_n 0, 1) := by decide +kernel
theorem dX12_realizes_78 : decode cX12_realizes 78 = .ok (.iload_n 1, 1) := by decide +kernel
theorem dX12_realizes_79 : decode cX12_realizes 79 = .ok (.iload 5, 2) := by decide +kernel
theorem dX12_realizes_81 : decode cX12_realizes 81 = .ok (.iconst 0, 1) := by decide +kernel
theorem dX12_realizes_82 : decode cX12_realizes 82 = .ok (.invokevirtual 109, 3) := by decide +kernel
theorem dX12_realizes_85 : decode cX12_realizes 85 = .ok (.iinc 5 1, 3) := by decide +kernel
theorem dX12_realizes_88 : decode cX12_realizes 88 = .ok (.goto (-18), 3) := by decide +kernel
theorem dX12_realizes_91 : decode cX12_realizes 91 = .ok (.aload_n 0, 1) := by decide +kernel
theorem dX12_realizes_92 : decode cX12_realizes 92 = .ok (.iload_n 1, 1) := by decide +kernel
theorem dX12_realizes_93 : decode cX12_realizes 93 = .ok (.bipush 9, 2) := by decide +kernel
theorem dX12_realizes_95 : decode cX12_realizes 95 = .ok (.iload_n 2, 1) := by decide +kernel
theorem dX12_realizes_96 : decode cX12_realizes 96 = .ok (.invokevirtual 109, 3) := by decide +kernel
theorem dX12_realizes_99 : decode cX12_realizes 99 = .ok (.iconst 0, 1) := by decide +kernel
theorem dX12_realizes_100 : decode cX12_realizes 100 = .ok (.istore 5, 2) := by decide +kernel
theorem dX12_realizes_102 : decode cX12_realizes 102 = .ok (.iload 5, 2) := by decide +kernel
theorem dX12_realizes_104 : decode cX12_realizes 104 = .ok (.iload_n 2, 1) := by decide +kernel
theorem dX12_realizes_105 : decode cX12_realizes 105 = .ok (.if_icmp .ge 75, 3) := by decide +kernel
theorem dX12_realizes_108 : decode cX12_realizes 108 = .ok (.aload_n 0, 1) := by decide +kernel
theorem dX12_realizes_109 : decode cX12_realizes 109 = .ok (.iload_n 1, 1) := by decide +kernel
theorem dX12_realizes_110 : decode cX12_realizes 110 = .ok (.iload 5, 2) := by decide +kernel
theorem dX12_realizes_112 : decode cX12_realizes 112 = .ok (.aload_n 0, 1) := by decide +kernel
theorem dX12_realizes_113 : decode cX12_realizes 113 = .ok (.getfield 321, 3) := by decide +kernel
theorem dX12_realizes_116 : decode cX12_realizes 116 = .ok (.aload_n 0, 1) := by decide +kernel
theorem dX12_realizes_117 : decode cX12_realizes 117 = .ok (.getfield 50, 3) := by decide +kernel
theorem dX12_realizes_120 : decode cX12_realizes 120 = .ok (.invokevirtual 345, 3) := by decide +kernel
theorem dX12_realizes_123 : decode cX12_realizes 123 = .ok (.aload_n 0, 1) := by decide +kernel
theorem dX12_realizes_124 : decode cX12_realizes 124 = .ok (.iload_n 1, 1) := by decide +kernel
theorem dX12_realizes_125 : decode cX12_realizes 125 = .ok (.iload 5, 2) := by decide +kernel
theorem dX12_realizes_127 : decode cX12_realizes 127 = .ok (.invokevirtual 349, 3) := by decide +kernel
theorem dX12_realizes_130 : decode cX12_realizes 130 = .ok (.istore 6, 2) := by decide +kernel
theorem dX12_realizes_132 : decode cX12_realizes 132 = .ok (.iconst 0, 1) := by decide +kernel
theorem dX12_realizes_133 : decode cX12_realizes 133 = .ok (.istore 7, 2) := by decide +kernel
theorem dX12_realizes_135 : decode cX12_realizes 135 = .ok (.iload 7, 2) := by decide +kernel
theorem dX12_realizes_137 : decode cX12_realizes 137 = .ok (.aload_n 0, 1) := by decide +kernel
theorem dX12_realizes_138 : decode cX12_realizes 138 = .ok (.iload_n 1, 1) := by decide +kernel
theorem dX12_realizes_139 : decode cX12_realizes 139 = .ok (.invokevirtual 76, 3) := by decide +kernel
theorem dX12_realizes_142 : decode cX12_realizes 142 = .ok (.if_icmp .ge 32, 3) := by decide +kernel
theorem dX12_realizes_145 : decode cX12_realizes 145 = .ok (.aload_n 0, 1) := by decide +kernel
theorem dX12_realizes_146 : decode cX12_realizes 146 = .ok (.iload_n 1, 1) := by decide +kernel
theorem dX12_realizes_147 : decode cX12_realizes 147 = .ok (.bipush 10, 2) := by decide +kernel
theorem dX12_realizes_149 : decode cX12_realizes 149 = .ok (.bipush 8, 2) := by decide +kernel
theorem dX12_realizes_151 : decode cX12_realizes 151 = .ok (.iload 5, 2) := by decide +kernel
theorem dX12_realizes_153 : decode cX12_realizes 153 = .ok (.imul, 1) := by decide +kernel
theorem dX12_realizes_154 : decode cX12_realizes 154 = .ok (.iadd, 1) := by decide +kernel
theorem dX12_realizes_155 : decode cX12_realizes 155 = .ok (.iload 7, 2) := by decide +kernel
theorem dX12_realizes_157 : decode cX12_realizes 157 = .ok (.iadd, 1) := by decide +kernel
theorem dX12_realizes_158 : decode cX12_realizes 158 = .ok (.aload_n 0, 1) := by decide +kernel
theorem dX12_realizes_159 : decode cX12_realizes 159 = .ok (.getfield 35, 3) := by decide +kernel
theorem dX12_realizes_162 : decode cX12_realizes 162 = .ok (.iload 7, 2) := by decide +kernel
theorem dX12_realizes_164 : decode cX12_realizes 164 = .ok (.iaload, 1) := by decide +kernel
theorem dX12_realizes_165 : decode cX12_realizes 165 = .ok (.invokevirtual 109, 3) := by decide +kernel
theorem dX12_realizes_168 : decode cX12_realizes 168 = .ok (.iinc 7 1, 3) := by decide +kernel
theorem dX12_realizes_171 : decode cX12_realizes 171 = .ok (.goto (-36), 3) := by decide +kernel
theorem dX12_realizes_174 : decode cX12_realizes 174 = .ok (.iinc 5 1, 3) := by decide +kernel
theorem dX12_realizes_177 : decode cX12_realizes 177 = .ok (.goto (-75), 3) := by decide +kernel
theorem dX12_realizes_180 : decode cX12_realizes 180 = .ok (.aload_n 0, 1) := by decide +kernel
theorem dX12_realizes_181 : decode cX12_realizes 181 = .ok (.aload_n 0, 1) := by decide +kernel
theorem dX12_realizes_182 : decode cX12_realizes 182 = .ok (.getfield 342, 3) := by decide +kernel
theorem dX12_realizes_185 : decode cX12_realizes 185 = .ok (.invokevirtual 202, 3) := by decide +kernel
theorem dX12_realizes_188 : decode cX12_realizes 188 = .ok (.ireturn, 1) := by decide +kernel
theorem dX12_remembers_0 : decode cX12_remembers 0 = .ok (.iconst 0, 1) := by decide +kernel
theorem dX12_remembers_1 : decode cX12_remembers 1 = .ok (.istore_n 1, 1) := by decide +kernel
theorem dX12_remembers_2 : decode cX12_remembers 2 = .ok (.iload_n 1, 1) := by decide +kernel
theorem dX12_remembers_3 : decode cX12_remembers 3 = .ok (.sipush 174, 3) := by decide +kernel
theorem dX12_remembers_6 : decode cX12_remembers 6 = .ok (.if_icmp .ge 21, 3) := by decide +kernel
theorem dX12_remembers_9 : decode cX12_remembers 9 = .ok (.aload_n 0, 1) := by decide +kernel
theorem dX12_remembers_10 : decode cX12_remembers 10 = .ok (.getfield 13, 3) := by decide +kernel
theorem dX12_remembers_13 : decode cX12_remembers 13 = .ok (.iload_n 1, 1) := by decide +kernel
theorem dX12_remembers_14 : decode cX12_remembers 14 = .ok (.aload_n 0, 1) := by decide +kernel
theorem dX12_remembers_15 : decode cX12_remembers 15 = .ok (.getfield 7, 3) := by decide +kernel
theorem dX12_remembers_18 : decode cX12_remembers 18 = .ok (.iload_n 1, 1) := by decide +kernel
theorem dX12_remembers_19 : decode cX12_remembers 19 = .ok (.iaload, 1) := by decide +kernel
theorem dX12_remembers_20 : decode cX12_remembers 20 = .ok (.iastore, 1) := by decide +kernel
theorem dX12_remembers_21 : decode cX12_remembers 21 = .ok (.iinc 1 1, 3) := by decide +kernel
theorem dX12_remembers_24 : decode cX12_remembers 24 = .ok (.goto (-22), 3) := by decide +kernel
theorem dX12_remembers_27 : decode cX12_remembers 27 = .ok (.return_, 1) := by decide +kernel
theorem dX12_reversed_0 : decode cX12_reversed 0 = .ok (.aload_n 0, 1) := by decide +kernel
theorem dX12_reversed_1 : decode cX12_reversed 1 = .ok (.iload_n 1, 1) := by decide +kernel
theorem dX12_reversed_2 : decode cX12_reversed 2 = .ok (.iload_n 2, 1) := by decide +kernel
theorem dX12_reversed_3 : decode cX12_reversed 3 = .ok (.invokevirtual 295, 3) := by decide +kernel
theorem dX12_reversed_6 : decode cX12_reversed 6 = .ok (.ifCond .ne 6, 3) := by decide +kernel
theorem dX12_reversed_9 : decode cX12_reversed 9 = .ok (.bipush (-2), 2) := by decide +kernel
theorem dX12_reversed_11 : decode cX12_reversed 11 = .ok (.ireturn, 1) := by decide +kernel
theorem dX12_reversed_12 : decode cX12_reversed 12 = .ok (.aload_n 0, 1) := by decide +kernel
theorem dX12_reversed_13 : decode cX12_reversed 13 = .ok (.iload_n 1, 1) := by decide +kernel
theorem dX12_reversed_14 : decode cX12_reversed 14 = .ok (.invokevirtual 324, 3) := by decide +kernel
theorem dX12_reversed_17 : decode cX12_reversed 17 = .ok (.iconst 0, 1) := by decide +kernel
theorem dX12_reversed_18 : decode cX12_reversed 18 = .ok (.istore_n 3, 1) := by decide +kernel
theorem dX12_reversed_19 : decode cX12_reversed 19 = .ok (.iconst 0, 1) := by decide +kernel
theorem dX12_reversed_20 : decode cX12_reversed 20 = .ok (.istore 4, 2) := by decide +kernel
theorem dX12_reversed_22 : decode cX12_reversed 22 = .ok (.iload 4, 2) := by decide +kernel
theorem dX12_reversed_24 : decode cX12_reversed 24 = .ok (.aload_n 0, 1) := by decide +kernel
theorem dX12_reversed_25 : decode cX12_reversed 25 = .ok (.getfield 321, 3) := by decide +kernel
theorem dX12_reversed_28 : decode cX12_reversed 28 = .ok (.if_icmp .ge 46, 3) := by decide +kernel
theorem dX12_reversed_31 : decode cX12_reversed 31 = .ok (.iload_n 3, 1) := by decide +kernel
theorem dX12_reversed_32 : decode cX12_reversed 32 = .ok (.aload_n 0, 1) := by decide +kernel
theorem dX12_reversed_33 : decode cX12_reversed 33 = .ok (.iload_n 1, 1) := by decide +kernel
theorem dX12_reversed_34 : decode cX12_reversed 34 = .ok (.iload_n 2, 1) := by decide +kernel
theorem dX12_reversed_35 : decode cX12_reversed 35 = .ok (.aload_n 0, 1) := by decide +kernel
theorem dX12_reversed_36 : decode cX12_reversed 36 = .ok (.getfield 41, 3) := by decide +kernel
theorem dX12_reversed_39 : decode cX12_reversed 39 = .ok (.iload 4, 2) := by decide +kernel
theorem dX12_reversed_41 : decode cX12_reversed 41 = .ok (.iaload, 1) := by decide +kernel
theorem dX12_reversed_42 : decode cX12_reversed 42 = .ok (.invokevirtual 327, 3) := by decide +kernel
theorem dX12_reversed_45 : decode cX12_reversed 45 = .ok (.aload_n 0, 1) := by decide +kernel
theorem dX12_reversed_46 : decode cX12_reversed 46 = .ok (.iload_n 1, 1) := by decide +kernel
theorem dX12_reversed_47 : decode cX12_reversed 47 = .ok (.iload_n 2, 1) := by decide +kernel
theorem dX12_reversed_48 : decode cX12_reversed 48 = .ok (.aload_n 0, 1) := by decide +kernel
theorem dX12_reversed_49 : decode cX12_reversed 49 = .ok (.getfield 44, 3) := by decide +kernel
theorem dX12_reversed_52 : decode cX12_reversed 52 = .ok (.iload 4, 2) := by decide +kernel
theorem dX12_reversed_54 : decode cX12_reversed 54 = .ok (.iaload, 1) := by decide +kernel
theorem dX12_reversed_55 : decode cX12_reversed 55 = .ok (.invokevirtual 327, 3) := by decide +kernel
theorem dX12_reversed_58 : decode cX12_reversed 58 = .ok (.if_icmp .le 7, 3) := by decide +kernel
theorem dX12_reversed_61 : decode cX12_reversed 61 = .ok (.iconst 1, 1) := by decide +kernel
theorem dX12_reversed_62 : decode cX12_reversed 62 = .ok (.goto 4, 3) := by decide +kernel
theorem dX12_reversed_65 : decode cX12_reversed 65 = .ok (.iconst 0, 1) := by decide +kernel
theorem dX12_reversed_66 : decode cX12_reversed 66 = .ok (.iadd, 1) := by decide +kernel
theorem dX12_reversed_67 : decode cX12_reversed 67 = .ok (.istore_n 3, 1) := by decide +kernel
theorem dX12_reversed_68 : decode cX12_reversed 68 = .ok (.iinc 4 1, 3) := by decide +kernel
theorem dX12_reversed_71 : decode cX12_reversed 71 = .ok (.goto (-49), 3) := by decide +kernel
theorem dX12_reversed_74 : decode cX12_reversed 74 = .ok (.iload_n 3, 1) := by decide +kernel
theorem dX12_reversed_75 : decode cX12_reversed 75 = .ok (.ireturn, 1) := by decide +kernel
theorem dX12_row_0 : decode cX12_row 0 = .ok (.aload_n 0, 1) := by decide +kernel
theorem dX12_row_1 : decode cX12_row 1 = .ok (.iload_n 1, 1) := by decide +kernel
theorem dX12_row_2 : decode cX12_row 2 = .ok (.iload_n 2, 1) := by decide +kernel
theorem dX12_row_3 : decode cX12_row 3 = .ok (.invokevirtual 295, 3) := by decide +kernel
theorem dX12_row_6 : decode cX12_row 6 = .ok (.ifCond .eq 30, 3) := by decide +kernel
theorem dX12_row_9 : decode cX12_row 9 = .ok (.iload_n 3, 1) := by decide +kernel
theorem dX12_row_10 : decode cX12_row 10 = .ok (.i2l, 1) := by decide +kernel
theorem dX12_row_11 : decode cX12_row 11 = .ok (.lconst 0, 1) := by decide +kernel
theorem dX12_row_12 : decode cX12_row 12 = .ok (.aload_n 0, 1) := by decide +kernel
theorem dX12_row_13 : decode cX12_row 13 = .ok (.iload_n 1, 1) := by decide +kernel
theorem dX12_row_14 : decode cX12_row 14 = .ok (.invokevirtual 76, 3) := by decide +kernel
theorem dX12_row_17 : decode cX12_row 17 = .ok (.iconst 1, 1) := by decide +kernel
theorem dX12_row_18 : decode cX12_row 18 = .ok (.isub, 1) := by decide +kernel
theorem dX12_row_19 : decode cX12_row 19 = .ok (.i2l, 1) := by decide +kernel
theorem dX12_row_20 : decode cX12_row 20 = .ok (.invokestatic 64, 3) := by decide +kernel
theorem dX12_row_23 : decode cX12_row 23 = .ok (.ifCond .eq 13, 3) := by decide +kernel
theorem dX12_row_26 : decode cX12_row 26 = .ok (.aload_n 0, 1) := by decide +kernel
theorem dX12_row_27 : decode cX12_row 27 = .ok (.iload_n 1, 1) := by decide +kernel
theorem dX12_row_28 : decode cX12_row 28 = .ok (.iload_n 2, 1) := by decide +kernel
theorem dX12_row_29 : decode cX12_row 29 = .ok (.iload_n 3, 1) := by decide +kernel
theorem dX12_row_30 : decode cX12_row 30 = .ok (.invokevirtual 291, 3) := by decide +kernel
theorem dX12_row_33 : decode cX12_row 33 = .ok (.goto 5, 3) := by decide +kernel
theorem dX12_row_36 : decode cX12_row 36 = .ok (.bipush (-2), 2) := by decide +kernel
theorem dX12_row_38 : decode cX12_row 38 = .ok (.ireturn, 1) := by decide +kernel
theorem dX12_rowAt_0 : decode cX12_rowAt 0 = .ok (.aload_n 0, 1) := by decide +kernel
theorem dX12_rowAt_1 : decode cX12_rowAt 1 = .ok (.iload_n 1, 1) := by decide +kernel
theorem dX12_rowAt_2 : decode cX12_rowAt 2 = .ok (.bipush 10, 2) := by decide +kernel
theorem dX12_rowAt_4 : decode cX12_rowAt 4 = .ok (.bipush 8, 2) := by decide +kernel
theorem dX12_rowAt_6 : decode cX12_rowAt 6 = .ok (.iload_n 2, 1) := by decide +kernel
theorem dX12_rowAt_7 : decode cX12_rowAt 7 = .ok (.imul, 1) := by decide +kernel
theorem dX12_rowAt_8 : decode cX12_rowAt 8 = .ok (.iadd, 1) := by decide +kernel
theorem dX12_rowAt_9 : decode cX12_rowAt 9 = .ok (.iload_n 3, 1) := by decide +kernel
theorem dX12_rowAt_10 : decode cX12_rowAt 10 = .ok (.iadd, 1) := by decide +kernel
theorem dX12_rowAt_11 : decode cX12_rowAt 11 = .ok (.invokevirtual 68, 3) := by decide +kernel
theorem dX12_rowAt_14 : decode cX12_rowAt 14 = .ok (.ireturn, 1) := by decide +kernel
theorem dX12_rows_0 : decode cX12_rows 0 = .ok (.aload_n 0, 1) := by decide +kernel
theorem dX12_rows_1 : decode cX12_rows 1 = .ok (.iload_n 1, 1) := by decide +kernel
theorem dX12_rows_2 : decode cX12_rows 2 = .ok (.bipush 9, 2) := by decide +kernel
theorem dX12_rows_4 : decode cX12_rows 4 = .ok (.invokevirtual 68, 3) := by decide +kernel
theorem dX12_rows_7 : decode cX12_rows 7 = .ok (.ireturn, 1) := by decide +kernel
theorem dX12_rowsAre_0 : decode cX12_rowsAre 0 = .ok (.aload_n 0, 1) := by decide +kernel
theorem dX12_rowsAre_1 : decode cX12_rowsAre 1 = .ok (.iload_n 1, 1) := by decide +kernel
theorem dX12_rowsAre_2 : decode cX12_rowsAre 2 = .ok (.invokevirtual 80, 3) := by decide +kernel
theorem dX12_rowsAre_5 : decode cX12_rowsAre 5 = .ok (.ifCond .eq 15, 3) := by decide +kernel
theorem dX12_rowsAre_8 : decode cX12_rowsAre 8 = .ok (.iload_n 2, 1) := by decide +kernel
theorem dX12_rowsAre_9 : decode cX12_rowsAre 9 = .ok (.i2l, 1) := by decide +kernel
theorem dX12_rowsAre_10 : decode cX12_rowsAre 10 = .ok (.lconst 0, 1) := by decide +kernel
theorem dX12_rowsAre_11 : decode cX12_rowsAre 11 = .ok (.ldc2_w 62, 3) := by decide +kernel
theorem dX12_rowsAre_14 : decode cX12_rowsAre 14 = .ok (.invokestatic 64, 3) := by decide +kernel
theorem dX12_rowsAre_17 : decode cX12_rowsAre 17 = .ok (.ifCond .ne 6, 3) := by decide +kernel
theorem dX12_rowsAre_20 : decode cX12_rowsAre 20 = .ok (.bipush (-2), 2) := by decide +kernel
theorem dX12_rowsAre_22 : decode cX12_rowsAre 22 = .ok (.ireturn, 1) := by decide +kernel
theorem dX12_rowsAre_23 : decode cX12_rowsAre 23 = .ok (.iload_n 2, 1) := by decide +kernel
theorem dX12_rowsAre_24 : decode cX12_rowsAre 24 = .ok (.ifCond .ne 11, 3) := by decide +kernel
theorem dX12_rowsAre_27 : decode cX12_rowsAre 27 = .ok (.aload_n 0, 1) := by decide +kernel
theorem dX12_rowsAre_28 : decode cX12_rowsAre 28 = .ok (.iload_n 1, 1) := by decide +kernel
theorem dX12_rowsAre_29 : decode cX12_rowsAre 29 = .ok (.invokevirtual 333, 3) := by decide +kernel
theorem dX12_rowsAre_32 : decode cX12_rowsAre 32 = .ok (.goto 21, 3) := by decide +kernel
theorem dX12_rowsAre_35 : decode cX12_rowsAre 35 = .ok (.iload_n 2, 1) := by decide +kernel
theorem dX12_rowsAre_36 : decode cX12_rowsAre 36 = .ok (.iconst 1, 1) := by decide +kernel
theorem dX12_rowsAre_37 : decode cX12_rowsAre 37 = .ok (.if_icmp .ne 11, 3) := by decide +kernel
theorem dX12_rowsAre_40 : decode cX12_rowsAre 40 = .ok (.aload_n 0, 1) := by decide +kernel
theorem dX12_rowsAre_41 : decode cX12_rowsAre 41 = .ok (.iload_n 1, 1) := by decide +kernel
theorem dX12_rowsAre_42 : decode cX12_rowsAre 42 = .ok (.invokevirtual 336, 3) := by decide +kernel
theorem dX12_rowsAre_45 : decode cX12_rowsAre 45 = .ok (.goto 8, 3) := by decide +kernel
theorem dX12_rowsAre_48 : decode cX12_rowsAre 48 = .ok (.aload_n 0, 1) := by decide +kernel
theorem dX12_rowsAre_49 : decode cX12_rowsAre 49 = .ok (.iload_n 1, 1) := by decide +kernel
theorem dX12_rowsAre_50 : decode cX12_rowsAre 50 = .ok (.invokevirtual 339, 3) := by decide +kernel
theorem dX12_rowsAre_53 : decode cX12_rowsAre 53 = .ok (.istore_n 3, 1) := by decide +kernel
theorem dX12_rowsAre_54 : decode cX12_rowsAre 54 = .ok (.iload_n 3, 1) := by decide +kernel
theorem dX12_rowsAre_55 : decode cX12_rowsAre 55 = .ok (.ifCond .eq 7, 3) := by decide +kernel
theorem dX12_rowsAre_58 : decode cX12_rowsAre 58 = .ok (.iconst 1, 1) := by decide +kernel
theorem dX12_rowsAre_59 : decode cX12_rowsAre 59 = .ok (.goto 4, 3) := by decide +kernel
theorem dX12_rowsAre_62 : decode cX12_rowsAre 62 = .ok (.iconst 0, 1) := by decide +kernel
theorem dX12_rowsAre_63 : decode cX12_rowsAre 63 = .ok (.ireturn, 1) := by decide +kernel
theorem dX12_says_0 : decode cX12_says 0 = .ok (.iconst 0, 1) := by decide +kernel
theorem dX12_says_1 : decode cX12_says 1 = .ok (.istore_n 2, 1) := by decide +kernel
theorem dX12_says_2 : decode cX12_says 2 = .ok (.iload_n 2, 1) := by decide +kernel
theorem dX12_says_3 : decode cX12_says 3 = .ok (.aload_n 1, 1) := by decide +kernel
theorem dX12_says_4 : decode cX12_says 4 = .ok (.invokevirtual 153, 3) := by decide +kernel
theorem dX12_says_7 : decode cX12_says 7 = .ok (.if_icmp .ge 33, 3) := by decide +kernel
theorem dX12_says_10 : decode cX12_says 10 = .ok (.aload_n 0, 1) := by decide +kernel
theorem dX12_says_11 : decode cX12_says 11 = .ok (.getfield 59, 3) := by decide +kernel
theorem dX12_says_14 : decode cX12_says 14 = .ok (.aload_n 0, 1) := by decide +kernel
theorem dX12_says_15 : decode cX12_says 15 = .ok (.getfield 205, 3) := by decide +kernel
theorem dX12_says_18 : decode cX12_says 18 = .ok (.aload_n 1, 1) := by decide +kernel
theorem dX12_says_19 : decode cX12_says 19 = .ok (.iload_n 2, 1) := by decide +kernel
theorem dX12_says_20 : decode cX12_says 20 = .ok (.invokevirtual 159, 3) := by decide +kernel
theorem dX12_says_23 : decode cX12_says 23 = .ok (.iastore, 1) := by decide +kernel
theorem dX12_says_24 : decode cX12_says 24 = .ok (.aload_n 0, 1) := by decide +kernel
theorem dX12_says_25 : decode cX12_says 25 = .ok (.dup, 1) := by decide +kernel
theorem dX12_says_26 : decode cX12_says 26 = .ok (.getfield 205, 3) := by decide +kernel
theorem dX12_says_29 : decode cX12_says 29 = .ok (.iconst 1, 1) := by decide +kernel
theorem dX12_says_30 : decode cX12_says 30 = .ok (.iadd, 1) := by decide +kernel
theorem dX12_says_31 : decode cX12_says 31 = .ok (.putfield 205, 3) := by decide +kernel
theorem dX12_says_34 : decode cX12_says 34 = .ok (.iinc 2 1, 3) := by decide +kernel
theorem dX12_says_37 : decode cX12_says 37 = .ok (.goto (-35), 3) := by decide +kernel
theorem dX12_says_40 : decode cX12_says 40 = .ok (.return_, 1) := by decide +kernel
theorem dX12_saysDigit_0 : decode cX12_saysDigit 0 = .ok (.aload_n 0, 1) := by decide +kernel
theorem dX12_saysDigit_1 : decode cX12_saysDigit 1 = .ok (.getfield 59, 3) := by decide +kernel
theorem dX12_saysDigit_4 : decode cX12_saysDigit 4 = .ok (.aload_n 0, 1) := by decide +kernel
theorem dX12_saysDigit_5 : decode cX12_saysDigit 5 = .ok (.getfield 205, 3) := by decide +kernel
theorem dX12_saysDigit_8 : decode cX12_saysDigit 8 = .ok (.bipush 48, 2) := by decide +kernel
theorem dX12_saysDigit_10 : decode cX12_saysDigit 10 = .ok (.iload_n 1, 1) := by decide +kernel
theorem dX12_saysDigit_11 : decode cX12_saysDigit 11 = .ok (.iadd, 1) := by decide +kernel
theorem dX12_saysDigit_12 : decode cX12_saysDigit 12 = .ok (.iastore, 1) := by decide +kernel
theorem dX12_saysDigit_13 : decode cX12_saysDigit 13 = .ok (.aload_n 0, 1) := by decide +kernel
theorem dX12_saysDigit_14 : decode cX12_saysDigit 14 = .ok (.dup, 1) := by decide +kernel
theorem dX12_saysDigit_15 : decode cX12_saysDigit 15 = .ok (.getfield 205, 3) := by decide +kernel
theorem dX12_saysDigit_18 : decode cX12_saysDigit 18 = .ok (.iconst 1, 1) := by decide +kernel
theorem dX12_saysDigit_19 : decode cX12_saysDigit 19 = .ok (.iadd, 1) := by decide +kernel
theorem dX12_saysDigit_20 : decode cX12_saysDigit 20 = .ok (.putfield 205, 3) := by decide +kernel
theorem dX12_saysDigit_23 : decode cX12_saysDigit 23 = .ok (.return_, 1) := by decide +kernel
theorem dX12_searches_0 : decode cX12_searches 0 = .ok (.iload_n 2, 1) := by decide +kernel
theorem dX12_searches_1 : decode cX12_searches 1 = .ok (.aload_n 0, 1) := by decide +kernel
theorem dX12_searches_2 : decode cX12_searches 2 = .ok (.getfield 321, 3) := by decide +kernel
theorem dX12_searches_5 : decode cX12_searches 5 = .ok (.if_icmp .ne 5, 3) := by decide +kernel
theorem dX12_searches_8 : decode cX12_searches 8 = .ok (.iconst 1, 1) := by decide +kernel
theorem dX12_searches_9 : decode cX12_searches 9 = .ok (.ireturn, 1) := by decide +kernel
theorem dX12_searches_10 : decode cX12_searches 10 = .ok (.iconst 0, 1) := by decide +kernel
theorem dX12_searches_11 : decode cX12_searches 11 = .ok (.istore 6, 2) := by decide +kernel
theorem dX12_searches_13 : decode cX12_searches 13 = .ok (.iload 6, 2) := by decide +kernel
theorem dX12_searches_15 : decode cX12_searches 15 = .ok (.iload_n 3, 1) := by decide +kernel
theorem dX12_searches_16 : decode cX12_searches 16 = .ok (.if_icmp .gt 108, 3) := by decide +kernel
theorem dX12_searches_19 : decode cX12_searches 19 = .ok (.iload 6, 2) := by decide +kernel
theorem dX12_searches_21 : decode cX12_searches 21 = .ok (.iload 4, 2) := by decide +kernel
theorem dX12_searches_23 : decode cX12_searches 23 = .ok (.if_icmp .ge 101, 3) := by decide +kernel
theorem dX12_searches_26 : decode cX12_searches 26 = .ok (.aload_n 0, 1) := by decide +kernel
theorem dX12_searches_27 : decode cX12_searches 27 = .ok (.getfield 342, 3) := by decide +kernel
theorem dX12_searches_30 : decode cX12_searches 30 = .ok (.iload 5, 2) := by decide +kernel
theorem dX12_searches_32 : decode cX12_searches 32 = .ok (.if_icmp .ne 6, 3) := by decide +kernel
theorem dX12_searches_35 : decode cX12_searches 35 = .ok (.bipush (-3), 2) := by decide +kernel
theorem dX12_searches_37 : decode cX12_searches 37 = .ok (.ireturn, 1) := by decide +kernel
theorem dX12_searches_38 : decode cX12_searches 38 = .ok (.aload_n 0, 1) := by decide +kernel
theorem dX12_searches_39 : decode cX12_searches 39 = .ok (.dup, 1) := by decide +kernel
theorem dX12_searches_40 : decode cX12_searches 40 = .ok (.getfield 342, 3) := by decide +kernel
theorem dX12_searches_43 : decode cX12_searches 43 = .ok (.iconst 1, 1) := by decide +kernel
theorem dX12_searches_44 : decode cX12_searches 44 = .ok (.iadd, 1) := by decide +kernel
theorem dX12_searches_45 : decode cX12_searches 45 = .ok (.putfield 342, 3) := by decide +kernel
theorem dX12_searches_48 : decode cX12_searches 48 = .ok (.aload_n 0, 1) := by decide +kernel
theorem dX12_searches_49 : decode cX12_searches 49 = .ok (.getfield 50, 3) := by decide +kernel
theorem dX12_searches_52 : decode cX12_searches 52 = .ok (.iload_n 2, 1) := by decide +kernel
theorem dX12_searches_53 : decode cX12_searches 53 = .ok (.iload 6, 2) := by decide +kernel
theorem dX12_searches_55 : decode cX12_searches 55 = .ok (.iastore, 1) := by decide +kernel
theorem dX12_searches_56 : decode cX12_searches 56 = .ok (.aload_n 0, 1) := by decide +kernel
theorem dX12_searches_57 : decode cX12_searches 57 = .ok (.iload_n 1, 1) := by decide +kernel
theorem dX12_searches_58 : decode cX12_searches 58 = .ok (.iload 6, 2) := by decide +kernel
theorem dX12_searches_60 : decode cX12_searches 60 = .ok (.iload_n 2, 1) := by decide +kernel
theorem dX12_searches_61 : decode cX12_searches 61 = .ok (.iconst 1, 1) := by decide +kernel
theorem dX12_searches_62 : decode cX12_searches 62 = .ok (.iadd, 1) := by decide +kernel
theorem dX12_searches_63 : decode cX12_searches 63 = .ok (.aload_n 0, 1) := by decide +kernel
theorem dX12_searches_64 : decode cX12_searches 64 = .ok (.getfield 50, 3) := by decide +kernel
theorem dX12_searches_67 : decode cX12_searches 67 = .ok (.invokevirtual 345, 3) := by decide +kernel
theorem dX12_searches_70 : decode cX12_searches 70 = .ok (.aload_n 0, 1) := by decide +kernel
theorem dX12_searches_71 : decode cX12_searches 71 = .ok (.iload_n 1, 1) := by decide +kernel
theorem dX12_searches_72 : decode cX12_searches 72 = .ok (.iload 6, 2) := by decide +kernel
theorem dX12_searches_74 : decode cX12_searches 74 = .ok (.invokevirtual 349, 3) := by decide +kernel
theorem dX12_searches_77 : decode cX12_searches 77 = .ok (.ifCond .ne 6, 3) := by decide +kernel
theorem dX12_searches_80 : decode cX12_searches 80 = .ok (.goto 38, 3) := by decide +kernel
theorem dX12_searches_83 : decode cX12_searches 83 = .ok (.aload_n 0, 1) := by decide +kernel
theorem dX12_searches_84 : decode cX12_searches 84 = .ok (.iload_n 1, 1) := by decide +kernel
theorem dX12_searches_85 : decode cX12_searches 85 = .ok (.iload_n 2, 1) := by decide +kernel
theorem dX12_searches_86 : decode cX12_searches 86 = .ok (.iconst 1, 1) := by decide +kernel
theorem dX12_searches_87 : decode cX12_searches 87 = .ok (.iadd, 1) := by decide +kernel
theorem dX12_searches_88 : decode cX12_searches 88 = .ok (.iload 6, 2) := by decide +kernel
theorem dX12_searches_90 : decode cX12_searches 90 = .ok (.iload_n 3, 1) := by decide +kernel
theorem dX12_searches_91 : decode cX12_searches 91 = .ok (.if_icmp .ne 9, 3) := by decide +kernel
theorem dX12_searches_94 : decode cX12_searches 94 = .ok (.iload_n 3, 1) := by decide +kernel
theorem dX12_searches_95 : decode cX12_searches 95 = .ok (.iconst 1, 1) := by decide +kernel
theorem dX12_searches_96 : decode cX12_searches 96 = .ok (.iadd, 1) := by decide +kernel
theorem dX12_searches_97 : decode cX12_searches 97 = .ok (.goto 4, 3) := by decide +kernel
theorem dX12_searches_100 : decode cX12_searches 100 = .ok (.iload_n 3, 1) := by decide +kernel
theorem dX12_searches_101 : decode cX12_searches 101 = .ok (.iload 4, 2) := by decide +kernel
theorem dX12_searches_103 : decode cX12_searches 103 = .ok (.iload 5, 2) := by decide +kernel
theorem dX12_searches_105 : decode cX12_searches 105 = .ok (.invokevirtual 352, 3) := by decide +kernel
theorem dX12_searches_108 : decode cX12_searches 108 = .ok (.istore 7, 2) := by decide +kernel
theorem dX12_searches_110 : decode cX12_searches 110 = .ok (.iload 7, 2) := by decide +kernel
theorem dX12_searches_112 : decode cX12_searches 112 = .ok (.ifCond .eq 6, 3) := by decide +kernel
theorem dX12_searches_115 : decode cX12_searches 115 = .ok (.iload 7, 2) := by decide +kernel
theorem dX12_searches_117 : decode cX12_searches 117 = .ok (.ireturn, 1) := by decide +kernel
theorem dX12_searches_118 : decode cX12_searches 118 = .ok (.iinc 6 1, 3) := by decide +kernel
theorem dX12_searches_121 : decode cX12_searches 121 = .ok (.goto (-108), 3) := by decide +kernel
theorem dX12_searches_124 : decode cX12_searches 124 = .ok (.iconst 0, 1) := by decide +kernel
theorem dX12_searches_125 : decode cX12_searches 125 = .ok (.ireturn, 1) := by decide +kernel
theorem dX12_selves_0 : decode cX12_selves 0 = .ok (.aload_n 0, 1) := by decide +kernel
theorem dX12_selves_1 : decode cX12_selves 1 = .ok (.iload_n 1, 1) := by decide +kernel
theorem dX12_selves_2 : decode cX12_selves 2 = .ok (.invokevirtual 80, 3) := by decide +kernel
theorem dX12_selves_5 : decode cX12_selves 5 = .ok (.ifCond .eq 15, 3) := by decide +kernel
theorem dX12_selves_8 : decode cX12_selves 8 = .ok (.aload_n 0, 1) := by decide +kernel
theorem dX12_selves_9 : decode cX12_selves 9 = .ok (.iload_n 1, 1) := by decide +kernel
theorem dX12_selves_10 : decode cX12_selves 10 = .ok (.iload_n 1, 1) := by decide +kernel
theorem dX12_selves_11 : decode cX12_selves 11 = .ok (.iconst 0, 1) := by decide +kernel
theorem dX12_selves_12 : decode cX12_selves 12 = .ok (.iconst 0, 1) := by decide +kernel
theorem dX12_selves_13 : decode cX12_selves 13 = .ok (.iconst 0, 1) := by decide +kernel
theorem dX12_selves_14 : decode cX12_selves 14 = .ok (.invokevirtual 364, 3) := by decide +kernel
theorem dX12_selves_17 : decode cX12_selves 17 = .ok (.goto 5, 3) := by decide +kernel
theorem dX12_selves_20 : decode cX12_selves 20 = .ok (.bipush (-2), 2) := by decide +kernel
theorem dX12_selves_22 : decode cX12_selves 22 = .ok (.ireturn, 1) := by decide +kernel
theorem dX12_sought_0 : decode cX12_sought 0 = .ok (.aload_n 0, 1) := by decide +kernel
theorem dX12_sought_1 : decode cX12_sought 1 = .ok (.iload_n 1, 1) := by decide +kernel
theorem dX12_sought_2 : decode cX12_sought 2 = .ok (.invokevirtual 324, 3) := by decide +kernel
theorem dX12_sought_5 : decode cX12_sought 5 = .ok (.aload_n 0, 1) := by decide +kernel
theorem dX12_sought_6 : decode cX12_sought 6 = .ok (.iconst 0, 1) := by decide +kernel
theorem dX12_sought_7 : decode cX12_sought 7 = .ok (.putfield 342, 3) := by decide +kernel
theorem dX12_sought_10 : decode cX12_sought 10 = .ok (.aload_n 0, 1) := by decide +kernel
theorem dX12_sought_11 : decode cX12_sought 11 = .ok (.iload_n 1, 1) := by decide +kernel
theorem dX12_sought_12 : decode cX12_sought 12 = .ok (.iconst 0, 1) := by decide +kernel
theorem dX12_sought_13 : decode cX12_sought 13 = .ok (.iconst 0, 1) := by decide +kernel
theorem dX12_sought_14 : decode cX12_sought 14 = .ok (.iload_n 2, 1) := by decide +kernel
theorem dX12_sought_15 : decode cX12_sought 15 = .ok (.iload_n 3, 1) := by decide +kernel
theorem dX12_sought_16 : decode cX12_sought 16 = .ok (.invokevirtual 352, 3) := by decide +kernel
theorem dX12_sought_19 : decode cX12_sought 19 = .ok (.ireturn, 1) := by decide +kernel
theorem dX12_takes_0 : decode cX12_takes 0 = .ok (.aload_n 0, 1) := by decide +kernel
theorem dX12_takes_1 : decode cX12_takes 1 = .ok (.iload_n 1, 1) := by decide +kernel
theorem dX12_takes_2 : decode cX12_takes 2 = .ok (.iload_n 2, 1) := by decide +kernel
theorem dX12_takes_3 : decode cX12_takes 3 = .ok (.invokevirtual 295, 3) := by decide +kernel
theorem dX12_takes_6 : decode cX12_takes 6 = .ok (.ifCond .ne 6, 3) := by decide +kernel
theorem dX12_takes_9 : decode cX12_takes 9 = .ok (.bipush (-2), 2) := by decide +kernel
theorem dX12_takes_11 : decode cX12_takes 11 = .ok (.ireturn, 1) := by decide +kernel
theorem dX12_takes_12 : decode cX12_takes 12 = .ok (.aload_n 0, 1) := by decide +kernel
theorem dX12_takes_13 : decode cX12_takes 13 = .ok (.invokevirtual 113, 3) := by decide +kernel
theorem dX12_takes_16 : decode cX12_takes 16 = .ok (.bipush 10, 2) := by decide +kernel
theorem dX12_takes_18 : decode cX12_takes 18 = .ok (.bipush 8, 2) := by decide +kernel
theorem dX12_takes_20 : decode cX12_takes 20 = .ok (.iload_n 2, 1) := by decide +kernel
theorem dX12_takes_21 : decode cX12_takes 21 = .ok (.imul, 1) := by decide +kernel
theorem dX12_takes_22 : decode cX12_takes 22 = .ok (.iadd, 1) := by decide +kernel
theorem dX12_takes_23 : decode cX12_takes 23 = .ok (.istore_n 3, 1) := by decide +kernel
theorem dX12_takes_24 : decode cX12_takes 24 = .ok (.iload_n 3, 1) := by decide +kernel
theorem dX12_takes_25 : decode cX12_takes 25 = .ok (.istore 4, 2) := by decide +kernel
theorem dX12_takes_27 : decode cX12_takes 27 = .ok (.iload 4, 2) := by decide +kernel
theorem dX12_takes_29 : decode cX12_takes 29 = .ok (.bipush 58, 2) := by decide +kernel
theorem dX12_takes_31 : decode cX12_takes 31 = .ok (.if_icmp .ge 40, 3) := by decide +kernel
theorem dX12_takes_34 : decode cX12_takes 34 = .ok (.aload_n 0, 1) := by decide +kernel
theorem dX12_takes_35 : decode cX12_takes 35 = .ok (.iload_n 1, 1) := by decide +kernel
theorem dX12_takes_36 : decode cX12_takes 36 = .ok (.iload 4, 2) := by decide +kernel
theorem dX12_takes_38 : decode cX12_takes 38 = .ok (.iload 4, 2) := by decide +kernel
theorem dX12_takes_40 : decode cX12_takes 40 = .ok (.bipush 8, 2) := by decide +kernel
theorem dX12_takes_42 : decode cX12_takes 42 = .ok (.iadd, 1) := by decide +kernel
theorem dX12_takes_43 : decode cX12_takes 43 = .ok (.bipush 58, 2) := by decide +kernel
theorem dX12_takes_45 : decode cX12_takes 45 = .ok (.if_icmp .ge 16, 3) := by decide +kernel
theorem dX12_takes_48 : decode cX12_takes 48 = .ok (.aload_n 0, 1) := by decide +kernel
theorem dX12_takes_49 : decode cX12_takes 49 = .ok (.iload_n 1, 1) := by decide +kernel
theorem dX12_takes_50 : decode cX12_takes 50 = .ok (.iload 4, 2) := by decide +kernel
theorem dX12_takes_52 : decode cX12_takes 52 = .ok (.bipush 8, 2) := by decide +kernel
theorem dX12_takes_54 : decode cX12_takes 54 = .ok (.iadd, 1) := by decide +kernel
theorem dX12_takes_55 : decode cX12_takes 55 = .ok (.invokevirtual 68, 3) := by decide +kernel
theorem dX12_takes_58 : decode cX12_takes 58 = .ok (.goto 4, 3) := by decide +kernel
theorem dX12_takes_61 : decode cX12_takes 61 = .ok (.iconst 0, 1) := by decide +kernel
theorem dX12_takes_62 : decode cX12_takes 62 = .ok (.invokevirtual 109, 3) := by decide +kernel
theorem dX12_takes_65 : decode cX12_takes 65 = .ok (.iinc 4 1, 3) := by decide +kernel
theorem dX12_takes_68 : decode cX12_takes 68 = .ok (.goto (-41), 3) := by decide +kernel
theorem dX12_takes_71 : decode cX12_takes 71 = .ok (.aload_n 0, 1) := by decide +kernel
theorem dX12_takes_72 : decode cX12_takes 72 = .ok (.iload_n 1, 1) := by decide +kernel
theorem dX12_takes_73 : decode cX12_takes 73 = .ok (.bipush 9, 2) := by decide +kernel
theorem dX12_takes_75 : decode cX12_takes 75 = .ok (.aload_n 0, 1) := by decide +kernel
theorem dX12_takes_76 : decode cX12_takes 76 = .ok (.iload_n 1, 1) := by decide +kernel
theorem dX12_takes_77 : decode cX12_takes 77 = .ok (.invokevirtual 83, 3) := by decide +kernel
theorem dX12_takes_80 : decode cX12_takes 80 = .ok (.iconst 1, 1) := by decide +kernel
theorem dX12_takes_81 : decode cX12_takes 81 = .ok (.isub, 1) := by decide +kernel
theorem dX12_takes_82 : decode cX12_takes 82 = .ok (.invokevirtual 109, 3) := by decide +kernel
theorem dX12_takes_85 : decode cX12_takes 85 = .ok (.aload_n 0, 1) := by decide +kernel
theorem dX12_takes_86 : decode cX12_takes 86 = .ok (.aload_n 0, 1) := by decide +kernel
theorem dX12_takes_87 : decode cX12_takes 87 = .ok (.iload_n 1, 1) := by decide +kernel
theorem dX12_takes_88 : decode cX12_takes 88 = .ok (.invokevirtual 83, 3) := by decide +kernel
theorem dX12_takes_91 : decode cX12_takes 91 = .ok (.invokevirtual 106, 3) := by decide +kernel
theorem dX12_takes_94 : decode cX12_takes 94 = .ok (.ireturn, 1) := by decide +kernel
theorem dX12_tell_0 : decode cX12_tell 0 = .ok (.aload_n 0, 1) := by decide +kernel
theorem dX12_tell_1 : decode cX12_tell 1 = .ok (.iload_n 1, 1) := by decide +kernel
theorem dX12_tell_2 : decode cX12_tell 2 = .ok (.invokevirtual 80, 3) := by decide +kernel
theorem dX12_tell_5 : decode cX12_tell 5 = .ok (.ifCond .ne 6, 3) := by decide +kernel
theorem dX12_tell_8 : decode cX12_tell 8 = .ok (.bipush (-2), 2) := by decide +kernel
theorem dX12_tell_10 : decode cX12_tell 10 = .ok (.ireturn, 1) := by decide +kernel
theorem dX12_tell_11 : decode cX12_tell 11 = .ok (.aload_n 0, 1) := by decide +kernel
theorem dX12_tell_12 : decode cX12_tell 12 = .ok (.iconst 0, 1) := by decide +kernel
theorem dX12_tell_13 : decode cX12_tell 13 = .ok (.putfield 205, 3) := by decide +kernel
theorem dX12_tell_16 : decode cX12_tell 16 = .ok (.aload_n 0, 1) := by decide +kernel
theorem dX12_tell_17 : decode cX12_tell 17 = .ok (.ldc_w 368, 3) := by decide +kernel
theorem dX12_tell_20 : decode cX12_tell 20 = .ok (.invokevirtual 370, 3) := by decide +kernel
theorem dX12_tell_23 : decode cX12_tell 23 = .ok (.aload_n 0, 1) := by decide +kernel
theorem dX12_tell_24 : decode cX12_tell 24 = .ok (.aload_n 0, 1) := by decide +kernel
theorem dX12_tell_25 : decode cX12_tell 25 = .ok (.iload_n 1, 1) := by decide +kernel
theorem dX12_tell_26 : decode cX12_tell 26 = .ok (.invokevirtual 76, 3) := by decide +kernel
theorem dX12_tell_29 : decode cX12_tell 29 = .ok (.invokevirtual 374, 3) := by decide +kernel
theorem dX12_tell_32 : decode cX12_tell 32 = .ok (.iconst 0, 1) := by decide +kernel
theorem dX12_tell_33 : decode cX12_tell 33 = .ok (.istore_n 2, 1) := by decide +kernel
theorem dX12_tell_34 : decode cX12_tell 34 = .ok (.iconst 0, 1) := by decide +kernel
theorem dX12_tell_35 : decode cX12_tell 35 = .ok (.istore_n 3, 1) := by decide +kernel
theorem dX12_tell_36 : decode cX12_tell 36 = .ok (.iload_n 3, 1) := by decide +kernel
theorem dX12_tell_37 : decode cX12_tell 37 = .ok (.aload_n 0, 1) := by decide +kernel
theorem dX12_tell_38 : decode cX12_tell 38 = .ok (.iload_n 1, 1) := by decide +kernel
theorem dX12_tell_39 : decode cX12_tell 39 = .ok (.invokevirtual 76, 3) := by decide +kernel
theorem dX12_tell_42 : decode cX12_tell 42 = .ok (.if_icmp .ge 76, 3) := by decide +kernel
theorem dX12_tell_45 : decode cX12_tell 45 = .ok (.iconst 0, 1) := by decide +kernel
theorem dX12_tell_46 : decode cX12_tell 46 = .ok (.istore 4, 2) := by decide +kernel
theorem dX12_tell_48 : decode cX12_tell 48 = .ok (.iload 4, 2) := by decide +kernel
theorem dX12_tell_50 : decode cX12_tell 50 = .ok (.aload_n 0, 1) := by decide +kernel
theorem dX12_tell_51 : decode cX12_tell 51 = .ok (.iload_n 1, 1) := by decide +kernel
theorem dX12_tell_52 : decode cX12_tell 52 = .ok (.invokevirtual 76, 3) := by decide +kernel
theorem dX12_tell_55 : decode cX12_tell 55 = .ok (.if_icmp .ge 57, 3) := by decide +kernel
theorem dX12_tell_58 : decode cX12_tell 58 = .ok (.aload_n 0, 1) := by decide +kernel
theorem dX12_tell_59 : decode cX12_tell 59 = .ok (.iload_n 1, 1) := by decide +kernel
theorem dX12_tell_60 : decode cX12_tell 60 = .ok (.iload_n 3, 1) := by decide +kernel
theorem dX12_tell_61 : decode cX12_tell 61 = .ok (.iload 4, 2) := by decide +kernel
theorem dX12_tell_63 : decode cX12_tell 63 = .ok (.invokevirtual 236, 3) := by decide +kernel
theorem dX12_tell_66 : decode cX12_tell 66 = .ok (.ifCond .eq 40, 3) := by decide +kernel
theorem dX12_tell_69 : decode cX12_tell 69 = .ok (.aload_n 0, 1) := by decide +kernel
theorem dX12_tell_70 : decode cX12_tell 70 = .ok (.iload_n 2, 1) := by decide +kernel
theorem dX12_tell_71 : decode cX12_tell 71 = .ok (.ifCond .eq 9, 3) := by decide +kernel
theorem dX12_tell_74 : decode cX12_tell 74 = .ok (.ldc_w 377, 3) := by decide +kernel
theorem dX12_tell_77 : decode cX12_tell 77 = .ok (.goto 6, 3) := by decide +kernel
theorem dX12_tell_80 : decode cX12_tell 80 = .ok (.ldc_w 379, 3) := by decide +kernel
theorem dX12_tell_83 : decode cX12_tell 83 = .ok (.invokevirtual 370, 3) := by decide +kernel
theorem dX12_tell_86 : decode cX12_tell 86 = .ok (.aload_n 0, 1) := by decide +kernel
theorem dX12_tell_87 : decode cX12_tell 87 = .ok (.iload_n 3, 1) := by decide +kernel
theorem dX12_tell_88 : decode cX12_tell 88 = .ok (.invokevirtual 374, 3) := by decide +kernel
theorem dX12_tell_91 : decode cX12_tell 91 = .ok (.aload_n 0, 1) := by decide +kernel
theorem dX12_tell_92 : decode cX12_tell 92 = .ok (.ldc_w 381, 3) := by decide +kernel
theorem dX12_tell_95 : decode cX12_tell 95 = .ok (.invokevirtual 370, 3) := by decide +kernel
theorem dX12_tell_98 : decode cX12_tell 98 = .ok (.aload_n 0, 1) := by decide +kernel
theorem dX12_tell_99 : decode cX12_tell 99 = .ok (.iload 4, 2) := by decide +kernel
theorem dX12_tell_101 : decode cX12_tell 101 = .ok (.invokevirtual 374, 3) := by decide +kernel
theorem dX12_tell_104 : decode cX12_tell 104 = .ok (.iconst 1, 1) := by decide +kernel
theorem dX12_tell_105 : decode cX12_tell 105 = .ok (.istore_n 2, 1) := by decide +kernel
theorem dX12_tell_106 : decode cX12_tell 106 = .ok (.iinc 4 1, 3) := by decide +kernel
theorem dX12_tell_109 : decode cX12_tell 109 = .ok (.goto (-61), 3) := by decide +kernel
theorem dX12_tell_112 : decode cX12_tell 112 = .ok (.iinc 3 1, 3) := by decide +kernel
theorem dX12_tell_115 : decode cX12_tell 115 = .ok (.goto (-79), 3) := by decide +kernel
theorem dX12_tell_118 : decode cX12_tell 118 = .ok (.aload_n 0, 1) := by decide +kernel
theorem dX12_tell_119 : decode cX12_tell 119 = .ok (.ldc_w 383, 3) := by decide +kernel
theorem dX12_tell_122 : decode cX12_tell 122 = .ok (.invokevirtual 370, 3) := by decide +kernel
theorem dX12_tell_125 : decode cX12_tell 125 = .ok (.iconst 0, 1) := by decide +kernel
theorem dX12_tell_126 : decode cX12_tell 126 = .ok (.istore_n 3, 1) := by decide +kernel
theorem dX12_tell_127 : decode cX12_tell 127 = .ok (.iload_n 3, 1) := by decide +kernel
theorem dX12_tell_128 : decode cX12_tell 128 = .ok (.aload_n 0, 1) := by decide +kernel
theorem dX12_tell_129 : decode cX12_tell 129 = .ok (.iload_n 1, 1) := by decide +kernel
theorem dX12_tell_130 : decode cX12_tell 130 = .ok (.invokevirtual 83, 3) := by decide +kernel
theorem dX12_tell_133 : decode cX12_tell 133 = .ok (.if_icmp .ge 54, 3) := by decide +kernel
theorem dX12_tell_136 : decode cX12_tell 136 = .ok (.aload_n 0, 1) := by decide +kernel
theorem dX12_tell_137 : decode cX12_tell 137 = .ok (.ldc_w 385, 3) := by decide +kernel
theorem dX12_tell_140 : decode cX12_tell 140 = .ok (.invokevirtual 370, 3) := by decide +kernel
theorem dX12_tell_143 : decode cX12_tell 143 = .ok (.iconst 0, 1) := by decide +kernel
theorem dX12_tell_144 : decode cX12_tell 144 = .ok (.istore 4, 2) := by decide +kernel
theorem dX12_tell_146 : decode cX12_tell 146 = .ok (.iload 4, 2) := by decide +kernel
theorem dX12_tell_148 : decode cX12_tell 148 = .ok (.aload_n 0, 1) := by decide +kernel
theorem dX12_tell_149 : decode cX12_tell 149 = .ok (.iload_n 1, 1) := by decide +kernel
theorem dX12_tell_150 : decode cX12_tell 150 = .ok (.invokevirtual 76, 3) := by decide +kernel
theorem dX12_tell_153 : decode cX12_tell 153 = .ok (.if_icmp .ge 21, 3) := by decide +kernel
theorem dX12_tell_156 : decode cX12_tell 156 = .ok (.aload_n 0, 1) := by decide +kernel
theorem dX12_tell_157 : decode cX12_tell 157 = .ok (.aload_n 0, 1) := by decide +kernel
theorem dX12_tell_158 : decode cX12_tell 158 = .ok (.iload_n 1, 1) := by decide +kernel
theorem dX12_tell_159 : decode cX12_tell 159 = .ok (.iload_n 3, 1) := by decide +kernel
theorem dX12_tell_160 : decode cX12_tell 160 = .ok (.iload 4, 2) := by decide +kernel
theorem dX12_tell_162 : decode cX12_tell 162 = .ok (.invokevirtual 291, 3) := by decide +kernel
theorem dX12_tell_165 : decode cX12_tell 165 = .ok (.invokevirtual 374, 3) := by decide +kernel
theorem dX12_tell_168 : decode cX12_tell 168 = .ok (.iinc 4 1, 3) := by decide +kernel
theorem dX12_tell_171 : decode cX12_tell 171 = .ok (.goto (-25), 3) := by decide +kernel
theorem dX12_tell_174 : decode cX12_tell 174 = .ok (.aload_n 0, 1) := by decide +kernel
theorem dX12_tell_175 : decode cX12_tell 175 = .ok (.ldc_w 383, 3) := by decide +kernel
theorem dX12_tell_178 : decode cX12_tell 178 = .ok (.invokevirtual 370, 3) := by decide +kernel
theorem dX12_tell_181 : decode cX12_tell 181 = .ok (.iinc 3 1, 3) := by decide +kernel
theorem dX12_tell_184 : decode cX12_tell 184 = .ok (.goto (-57), 3) := by decide +kernel
theorem dX12_tell_187 : decode cX12_tell 187 = .ok (.aload_n 0, 1) := by decide +kernel
theorem dX12_tell_188 : decode cX12_tell 188 = .ok (.getfield 205, 3) := by decide +kernel
theorem dX12_tell_191 : decode cX12_tell 191 = .ok (.ireturn, 1) := by decide +kernel
theorem dX12_through_0 : decode cX12_through 0 = .ok (.aload_n 0, 1) := by decide +kernel
theorem dX12_through_1 : decode cX12_through 1 = .ok (.iload_n 1, 1) := by decide +kernel
theorem dX12_through_2 : decode cX12_through 2 = .ok (.invokevirtual 80, 3) := by decide +kernel
theorem dX12_through_5 : decode cX12_through 5 = .ok (.ifCond .eq 22, 3) := by decide +kernel
theorem dX12_through_8 : decode cX12_through 8 = .ok (.iload_n 2, 1) := by decide +kernel
theorem dX12_through_9 : decode cX12_through 9 = .ok (.i2l, 1) := by decide +kernel
theorem dX12_through_10 : decode cX12_through 10 = .ok (.lconst 0, 1) := by decide +kernel
theorem dX12_through_11 : decode cX12_through 11 = .ok (.iconst 1, 1) := by decide +kernel
theorem dX12_through_12 : decode cX12_through 12 = .ok (.aload_n 0, 1) := by decide +kernel
theorem dX12_through_13 : decode cX12_through 13 = .ok (.iload_n 1, 1) := by decide +kernel
theorem dX12_through_14 : decode cX12_through 14 = .ok (.invokevirtual 76, 3) := by decide +kernel
theorem dX12_through_17 : decode cX12_through 17 = .ok (.ishl, 1) := by decide +kernel
theorem dX12_through_18 : decode cX12_through 18 = .ok (.iconst 1, 1) := by decide +kernel
theorem dX12_through_19 : decode cX12_through 19 = .ok (.isub, 1) := by decide +kernel
theorem dX12_through_20 : decode cX12_through 20 = .ok (.i2l, 1) := by decide +kernel
theorem dX12_through_21 : decode cX12_through 21 = .ok (.invokestatic 64, 3) := by decide +kernel
theorem dX12_through_24 : decode cX12_through 24 = .ok (.ifCond .ne 6, 3) := by decide +kernel
theorem dX12_through_27 : decode cX12_through 27 = .ok (.bipush (-2), 2) := by decide +kernel
theorem dX12_through_29 : decode cX12_through 29 = .ok (.ireturn, 1) := by decide +kernel
theorem dX12_through_30 : decode cX12_through 30 = .ok (.aload_n 0, 1) := by decide +kernel
theorem dX12_through_31 : decode cX12_through 31 = .ok (.iload_n 1, 1) := by decide +kernel
theorem dX12_through_32 : decode cX12_through 32 = .ok (.invokevirtual 285, 3) := by decide +kernel
theorem dX12_through_35 : decode cX12_through 35 = .ok (.aload_n 0, 1) := by decide +kernel
theorem dX12_through_36 : decode cX12_through 36 = .ok (.iload_n 1, 1) := by decide +kernel
theorem dX12_through_37 : decode cX12_through 37 = .ok (.iload_n 2, 1) := by decide +kernel
theorem dX12_through_38 : decode cX12_through 38 = .ok (.invokevirtual 239, 3) := by decide +kernel
theorem dX12_through_41 : decode cX12_through 41 = .ok (.ifCond .eq 19, 3) := by decide +kernel
theorem dX12_through_44 : decode cX12_through 44 = .ok (.aload_n 0, 1) := by decide +kernel
theorem dX12_through_45 : decode cX12_through 45 = .ok (.getfield 29, 3) := by decide +kernel
theorem dX12_through_48 : decode cX12_through 48 = .ok (.iload_n 2, 1) := by decide +kernel
theorem dX12_through_49 : decode cX12_through 49 = .ok (.iaload, 1) := by decide +kernel
theorem dX12_through_50 : decode cX12_through 50 = .ok (.aload_n 0, 1) := by decide +kernel
theorem dX12_through_51 : decode cX12_through 51 = .ok (.getfield 32, 3) := by decide +kernel
theorem dX12_through_54 : decode cX12_through 54 = .ok (.iload_n 2, 1) := by decide +kernel
theorem dX12_through_55 : decode cX12_through 55 = .ok (.iaload, 1) := by decide +kernel
theorem dX12_through_56 : decode cX12_through 56 = .ok (.imul, 1) := by decide +kernel
theorem dX12_through_57 : decode cX12_through 57 = .ok (.goto 4, 3) := by decide +kernel
theorem dX12_through_60 : decode cX12_through 60 = .ok (.iconst 0, 1) := by decide +kernel
theorem dX12_through_61 : decode cX12_through 61 = .ok (.ireturn, 1) := by decide +kernel
theorem dX12_told_0 : decode cX12_told 0 = .ok (.iload_n 1, 1) := by decide +kernel
theorem dX12_told_1 : decode cX12_told 1 = .ok (.invokestatic 72, 3) := by decide +kernel
theorem dX12_told_4 : decode cX12_told 4 = .ok (.ifCond .ne 6, 3) := by decide +kernel
theorem dX12_told_7 : decode cX12_told 7 = .ok (.bipush (-2), 2) := by decide +kernel
theorem dX12_told_9 : decode cX12_told 9 = .ok (.ireturn, 1) := by decide +kernel
theorem dX12_told_10 : decode cX12_told 10 = .ok (.aload_n 0, 1) := by decide +kernel
theorem dX12_told_11 : decode cX12_told 11 = .ok (.iconst 0, 1) := by decide +kernel
theorem dX12_told_12 : decode cX12_told 12 = .ok (.putfield 147, 3) := by decide +kernel
theorem dX12_told_15 : decode cX12_told 15 = .ok (.aload_n 0, 1) := by decide +kernel
theorem dX12_told_16 : decode cX12_told 16 = .ok (.iconst (-1), 1) := by decide +kernel
theorem dX12_told_17 : decode cX12_told 17 = .ok (.putfield 22, 3) := by decide +kernel
theorem dX12_told_20 : decode cX12_told 20 = .ok (.aload_n 0, 1) := by decide +kernel
theorem dX12_told_21 : decode cX12_told 21 = .ok (.iconst 0, 1) := by decide +kernel
theorem dX12_told_22 : decode cX12_told 22 = .ok (.putfield 143, 3) := by decide +kernel
theorem dX12_told_25 : decode cX12_told 25 = .ok (.aload_n 0, 1) := by decide +kernel
theorem dX12_told_26 : decode cX12_told 26 = .ok (.iconst 0, 1) := by decide +kernel
theorem dX12_told_27 : decode cX12_told 27 = .ok (.putfield 123, 3) := by decide +kernel
theorem dX12_told_30 : decode cX12_told 30 = .ok (.aload_n 0, 1) := by decide +kernel
theorem dX12_told_31 : decode cX12_told 31 = .ok (.invokevirtual 113, 3) := by decide +kernel
theorem dX12_told_34 : decode cX12_told 34 = .ok (.aload_n 0, 1) := by decide +kernel
theorem dX12_told_35 : decode cX12_told 35 = .ok (.invokevirtual 150, 3) := by decide +kernel
theorem dX12_told_38 : decode cX12_told 38 = .ok (.aload_n 0, 1) := by decide +kernel
theorem dX12_told_39 : decode cX12_told 39 = .ok (.iload_n 1, 1) := by decide +kernel
theorem dX12_told_40 : decode cX12_told 40 = .ok (.invokevirtual 196, 3) := by decide +kernel
theorem dX12_told_43 : decode cX12_told 43 = .ok (.aload_n 0, 1) := by decide +kernel
theorem dX12_told_44 : decode cX12_told 44 = .ok (.iconst 0, 1) := by decide +kernel
theorem dX12_told_45 : decode cX12_told 45 = .ok (.putfield 120, 3) := by decide +kernel
theorem dX12_told_48 : decode cX12_told 48 = .ok (.aload_n 0, 1) := by decide +kernel
theorem dX12_told_49 : decode cX12_told 49 = .ok (.getfield 143, 3) := by decide +kernel
theorem dX12_told_52 : decode cX12_told 52 = .ok (.ifCond .eq 33, 3) := by decide +kernel
theorem dX12_told_55 : decode cX12_told 55 = .ok (.iconst 0, 1) := by decide +kernel
theorem dX12_told_56 : decode cX12_told 56 = .ok (.istore_n 2, 1) := by decide +kernel
theorem dX12_told_57 : decode cX12_told 57 = .ok (.iload_n 2, 1) := by decide +kernel
theorem dX12_told_58 : decode cX12_told 58 = .ok (.sipush 174, 3) := by decide +kernel
theorem dX12_told_61 : decode cX12_told 61 = .ok (.if_icmp .ge 21, 3) := by decide +kernel
theorem dX12_told_64 : decode cX12_told 64 = .ok (.aload_n 0, 1) := by decide +kernel
theorem dX12_told_65 : decode cX12_told 65 = .ok (.getfield 7, 3) := by decide +kernel
theorem dX12_told_68 : decode cX12_told 68 = .ok (.iload_n 2, 1) := by decide +kernel
theorem dX12_told_69 : decode cX12_told 69 = .ok (.aload_n 0, 1) := by decide +kernel
theorem dX12_told_70 : decode cX12_told 70 = .ok (.getfield 13, 3) := by decide +kernel
theorem dX12_told_73 : decode cX12_told 73 = .ok (.iload_n 2, 1) := by decide +kernel
theorem dX12_told_74 : decode cX12_told 74 = .ok (.iaload, 1) := by decide +kernel
theorem dX12_told_75 : decode cX12_told 75 = .ok (.iastore, 1) := by decide +kernel
theorem dX12_told_76 : decode cX12_told 76 = .ok (.iinc 2 1, 3) := by decide +kernel
theorem dX12_told_79 : decode cX12_told 79 = .ok (.goto (-22), 3) := by decide +kernel
theorem dX12_told_82 : decode cX12_told 82 = .ok (.bipush (-4), 2) := by decide +kernel
theorem dX12_told_84 : decode cX12_told 84 = .ok (.ireturn, 1) := by decide +kernel
theorem dX12_told_85 : decode cX12_told 85 = .ok (.aload_n 0, 1) := by decide +kernel
theorem dX12_told_86 : decode cX12_told 86 = .ok (.aload_n 0, 1) := by decide +kernel
theorem dX12_told_87 : decode cX12_told 87 = .ok (.iload_n 1, 1) := by decide +kernel
theorem dX12_told_88 : decode cX12_told 88 = .ok (.invokevirtual 199, 3) := by decide +kernel
theorem dX12_told_91 : decode cX12_told 91 = .ok (.invokevirtual 202, 3) := by decide +kernel
theorem dX12_told_94 : decode cX12_told 94 = .ok (.ireturn, 1) := by decide +kernel
theorem dX12_under_0 : decode cX12_under 0 = .ok (.aload_n 0, 1) := by decide +kernel
theorem dX12_under_1 : decode cX12_under 1 = .ok (.iload_n 1, 1) := by decide +kernel
theorem dX12_under_2 : decode cX12_under 2 = .ok (.iconst 1, 1) := by decide +kernel
theorem dX12_under_3 : decode cX12_under 3 = .ok (.iload_n 2, 1) := by decide +kernel
theorem dX12_under_4 : decode cX12_under 4 = .ok (.iadd, 1) := by decide +kernel
theorem dX12_under_5 : decode cX12_under 5 = .ok (.invokevirtual 68, 3) := by decide +kernel
theorem dX12_under_8 : decode cX12_under 8 = .ok (.ireturn, 1) := by decide +kernel
theorem dX12_undo_0 : decode cX12_undo 0 = .ok (.aload_n 0, 1) := by decide +kernel
theorem dX12_undo_1 : decode cX12_undo 1 = .ok (.getfield 103, 3) := by decide +kernel
theorem dX12_undo_4 : decode cX12_undo 4 = .ok (.ifCond .ne 5, 3) := by decide +kernel
theorem dX12_undo_7 : decode cX12_undo 7 = .ok (.iconst (-1), 1) := by decide +kernel
theorem dX12_undo_8 : decode cX12_undo 8 = .ok (.ireturn, 1) := by decide +kernel
theorem dX12_undo_9 : decode cX12_undo 9 = .ok (.aload_n 0, 1) := by decide +kernel
theorem dX12_undo_10 : decode cX12_undo 10 = .ok (.dup, 1) := by decide +kernel
theorem dX12_undo_11 : decode cX12_undo 11 = .ok (.getfield 103, 3) := by decide +kernel
theorem dX12_undo_14 : decode cX12_undo 14 = .ok (.iconst 1, 1) := by decide +kernel
theorem dX12_undo_15 : decode cX12_undo 15 = .ok (.isub, 1) := by decide +kernel
theorem dX12_undo_16 : decode cX12_undo 16 = .ok (.putfield 103, 3) := by decide +kernel
theorem dX12_undo_19 : decode cX12_undo 19 = .ok (.iconst 0, 1) := by decide +kernel
theorem dX12_undo_20 : decode cX12_undo 20 = .ok (.istore_n 1, 1) := by decide +kernel
theorem dX12_undo_21 : decode cX12_undo 21 = .ok (.iload_n 1, 1) := by decide +kernel
theorem dX12_undo_22 : decode cX12_undo 22 = .ok (.sipush 174, 3) := by decide +kernel
theorem dX12_undo_25 : decode cX12_undo 25 = .ok (.if_icmp .ge 30, 3) := by decide +kernel
theorem dX12_undo_28 : decode cX12_undo 28 = .ok (.aload_n 0, 1) := by decide +kernel
theorem dX12_undo_29 : decode cX12_undo 29 = .ok (.getfield 7, 3) := by decide +kernel
theorem dX12_undo_32 : decode cX12_undo 32 = .ok (.iload_n 1, 1) := by decide +kernel
theorem dX12_undo_33 : decode cX12_undo 33 = .ok (.aload_n 0, 1) := by decide +kernel
theorem dX12_undo_34 : decode cX12_undo 34 = .ok (.getfield 16, 3) := by decide +kernel
theorem dX12_undo_37 : decode cX12_undo 37 = .ok (.sipush 174, 3) := by decide +kernel
theorem dX12_undo_40 : decode cX12_undo 40 = .ok (.aload_n 0, 1) := by decide +kernel
theorem dX12_undo_41 : decode cX12_undo 41 = .ok (.getfield 103, 3) := by decide +kernel
theorem dX12_undo_44 : decode cX12_undo 44 = .ok (.imul, 1) := by decide +kernel
theorem dX12_undo_45 : decode cX12_undo 45 = .ok (.iload_n 1, 1) := by decide +kernel
theorem dX12_undo_46 : decode cX12_undo 46 = .ok (.iadd, 1) := by decide +kernel
theorem dX12_undo_47 : decode cX12_undo 47 = .ok (.iaload, 1) := by decide +kernel
theorem dX12_undo_48 : decode cX12_undo 48 = .ok (.iastore, 1) := by decide +kernel
theorem dX12_undo_49 : decode cX12_undo 49 = .ok (.iinc 1 1, 3) := by decide +kernel
theorem dX12_undo_52 : decode cX12_undo 52 = .ok (.goto (-31), 3) := by decide +kernel
theorem dX12_undo_55 : decode cX12_undo 55 = .ok (.aload_n 0, 1) := by decide +kernel
theorem dX12_undo_56 : decode cX12_undo 56 = .ok (.getfield 103, 3) := by decide +kernel
theorem dX12_undo_59 : decode cX12_undo 59 = .ok (.ireturn, 1) := by decide +kernel
theorem dX12_without_0 : decode cX12_without 0 = .ok (.aload_n 0, 1) := by decide +kernel
theorem dX12_without_1 : decode cX12_without 1 = .ok (.iload_n 1, 1) := by decide +kernel
theorem dX12_without_2 : decode cX12_without 2 = .ok (.iload_n 2, 1) := by decide +kernel
theorem dX12_without_3 : decode cX12_without 3 = .ok (.invokevirtual 215, 3) := by decide +kernel
theorem dX12_without_6 : decode cX12_without 6 = .ok (.ifCond .ne 6, 3) := by decide +kernel
theorem dX12_without_9 : decode cX12_without 9 = .ok (.bipush (-2), 2) := by decide +kernel
theorem dX12_without_11 : decode cX12_without 11 = .ok (.ireturn, 1) := by decide +kernel
theorem dX12_without_12 : decode cX12_without 12 = .ok (.aload_n 0, 1) := by decide +kernel
theorem dX12_without_13 : decode cX12_without 13 = .ok (.iload_n 1, 1) := by decide +kernel
theorem dX12_without_14 : decode cX12_without 14 = .ok (.invokevirtual 76, 3) := by decide +kernel
theorem dX12_without_17 : decode cX12_without 17 = .ok (.istore_n 3, 1) := by decide +kernel
theorem dX12_without_18 : decode cX12_without 18 = .ok (.iload_n 3, 1) := by decide +kernel
theorem dX12_without_19 : decode cX12_without 19 = .ok (.iconst 1, 1) := by decide +kernel
theorem dX12_without_20 : decode cX12_without 20 = .ok (.if_icmp .ne 6, 3) := by decide +kernel
theorem dX12_without_23 : decode cX12_without 23 = .ok (.bipush (-6), 2) := by decide +kernel
theorem dX12_without_25 : decode cX12_without 25 = .ok (.ireturn, 1) := by decide +kernel
theorem dX12_without_26 : decode cX12_without 26 = .ok (.aload_n 0, 1) := by decide +kernel
theorem dX12_without_27 : decode cX12_without 27 = .ok (.invokevirtual 113, 3) := by decide +kernel
theorem dX12_without_30 : decode cX12_without 30 = .ok (.iconst 0, 1) := by decide +kernel
theorem dX12_without_31 : decode cX12_without 31 = .ok (.istore 4, 2) := by decide +kernel
theorem dX12_without_33 : decode cX12_without 33 = .ok (.iload 4, 2) := by decide +kernel
theorem dX12_without_35 : decode cX12_without 35 = .ok (.iload_n 3, 1) := by decide +kernel
theorem dX12_without_36 : decode cX12_without 36 = .ok (.if_icmp .ge 27, 3) := by decide +kernel
theorem dX12_without_39 : decode cX12_without 39 = .ok (.aload_n 0, 1) := by decide +kernel
theorem dX12_without_40 : decode cX12_without 40 = .ok (.getfield 53, 3) := by decide +kernel
theorem dX12_without_43 : decode cX12_without 43 = .ok (.iload 4, 2) := by decide +kernel
theorem dX12_without_45 : decode cX12_without 45 = .ok (.aload_n 0, 1) := by decide +kernel
theorem dX12_without_46 : decode cX12_without 46 = .ok (.iload_n 1, 1) := by decide +kernel
theorem dX12_without_47 : decode cX12_without 47 = .ok (.iload 4, 2) := by decide +kernel
theorem dX12_without_49 : decode cX12_without 49 = .ok (.invokevirtual 86, 3) := by decide +kernel
theorem dX12_without_52 : decode cX12_without 52 = .ok (.iload_n 2, 1) := by decide +kernel
theorem dX12_without_53 : decode cX12_without 53 = .ok (.invokestatic 361, 3) := by decide +kernel
theorem dX12_without_56 : decode cX12_without 56 = .ok (.iastore, 1) := by decide +kernel
theorem dX12_without_57 : decode cX12_without 57 = .ok (.iinc 4 1, 3) := by decide +kernel
theorem dX12_without_60 : decode cX12_without 60 = .ok (.goto (-27), 3) := by decide +kernel
theorem dX12_without_63 : decode cX12_without 63 = .ok (.iconst 0, 1) := by decide +kernel
theorem dX12_without_64 : decode cX12_without 64 = .ok (.istore 4, 2) := by decide +kernel
theorem dX12_without_66 : decode cX12_without 66 = .ok (.iload 4, 2) := by decide +kernel
theorem dX12_without_68 : decode cX12_without 68 = .ok (.iload_n 3, 1) := by decide +kernel
theorem dX12_without_69 : decode cX12_without 69 = .ok (.if_icmp .ge 50, 3) := by decide +kernel
theorem dX12_without_72 : decode cX12_without 72 = .ok (.aload_n 0, 1) := by decide +kernel
theorem dX12_without_73 : decode cX12_without 73 = .ok (.iload_n 1, 1) := by decide +kernel
theorem dX12_without_74 : decode cX12_without 74 = .ok (.iconst 1, 1) := by decide +kernel
theorem dX12_without_75 : decode cX12_without 75 = .ok (.iload 4, 2) := by decide +kernel
theorem dX12_without_77 : decode cX12_without 77 = .ok (.iadd, 1) := by decide +kernel
theorem dX12_without_78 : decode cX12_without 78 = .ok (.iload 4, 2) := by decide +kernel
theorem dX12_without_80 : decode cX12_without 80 = .ok (.iload_n 3, 1) := by decide +kernel
theorem dX12_without_81 : decode cX12_without 81 = .ok (.iconst 1, 1) := by decide +kernel
theorem dX12_without_82 : decode cX12_without 82 = .ok (.isub, 1) := by decide +kernel
theorem dX12_without_83 : decode cX12_without 83 = .ok (.if_icmp .ne 7, 3) := by decide +kernel
theorem dX12_without_86 : decode cX12_without 86 = .ok (.iconst 0, 1) := by decide +kernel
theorem dX12_without_87 : decode cX12_without 87 = .ok (.goto 23, 3) := by decide +kernel
theorem dX12_without_90 : decode cX12_without 90 = .ok (.aload_n 0, 1) := by decide +kernel
theorem dX12_without_91 : decode cX12_without 91 = .ok (.getfield 53, 3) := by decide +kernel
theorem dX12_without_94 : decode cX12_without 94 = .ok (.iload 4, 2) := by decide +kernel
theorem dX12_without_96 : decode cX12_without 96 = .ok (.iload_n 2, 1) := by decide +kernel
theorem dX12_without_97 : decode cX12_without 97 = .ok (.if_icmp .ge 8, 3) := by decide +kernel
theorem dX12_without_100 : decode cX12_without 100 = .ok (.iload 4, 2) := by decide +kernel
theorem dX12_without_102 : decode cX12_without 102 = .ok (.goto 7, 3) := by decide +kernel
theorem dX12_without_105 : decode cX12_without 105 = .ok (.iload 4, 2) := by decide +kernel
theorem dX12_without_107 : decode cX12_without 107 = .ok (.iconst 1, 1) := by decide +kernel
theorem dX12_without_108 : decode cX12_without 108 = .ok (.iadd, 1) := by decide +kernel
theorem dX12_without_109 : decode cX12_without 109 = .ok (.iaload, 1) := by decide +kernel
theorem dX12_without_110 : decode cX12_without 110 = .ok (.invokevirtual 109, 3) := by decide +kernel
theorem dX12_without_113 : decode cX12_without 113 = .ok (.iinc 4 1, 3) := by decide +kernel
theorem dX12_without_116 : decode cX12_without 116 = .ok (.goto (-50), 3) := by decide +kernel
theorem dX12_without_119 : decode cX12_without 119 = .ok (.iconst 0, 1) := by decide +kernel
theorem dX12_without_120 : decode cX12_without 120 = .ok (.istore 4, 2) := by decide +kernel
theorem dX12_without_122 : decode cX12_without 122 = .ok (.iload 4, 2) := by decide +kernel
theorem dX12_without_124 : decode cX12_without 124 = .ok (.aload_n 0, 1) := by decide +kernel
theorem dX12_without_125 : decode cX12_without 125 = .ok (.iload_n 1, 1) := by decide +kernel
theorem dX12_without_126 : decode cX12_without 126 = .ok (.invokevirtual 83, 3) := by decide +kernel
theorem dX12_without_129 : decode cX12_without 129 = .ok (.if_icmp .ge 119, 3) := by decide +kernel
theorem dX12_without_132 : decode cX12_without 132 = .ok (.iconst 0, 1) := by decide +kernel
theorem dX12_without_133 : decode cX12_without 133 = .ok (.istore 5, 2) := by decide +kernel
theorem dX12_without_135 : decode cX12_without 135 = .ok (.iconst 0, 1) := by decide +kernel
theorem dX12_without_136 : decode cX12_without 136 = .ok (.istore 6, 2) := by decide +kernel
theorem dX12_without_138 : decode cX12_without 138 = .ok (.iload 6, 2) := by decide +kernel
theorem dX12_without_140 : decode cX12_without 140 = .ok (.iload_n 3, 1) := by decide +kernel
theorem dX12_without_141 : decode cX12_without 141 = .ok (.if_icmp .ge 51, 3) := by decide +kernel
theorem dX12_without_144 : decode cX12_without 144 = .ok (.aload_n 0, 1) := by decide +kernel
theorem dX12_without_145 : decode cX12_without 145 = .ok (.iload_n 1, 1) := by decide +kernel
theorem dX12_without_146 : decode cX12_without 146 = .ok (.iload 4, 2) := by decide +kernel
theorem dX12_without_148 : decode cX12_without 148 = .ok (.iload 6, 2) := by decide +kernel
theorem dX12_without_150 : decode cX12_without 150 = .ok (.invokevirtual 291, 3) := by decide +kernel
theorem dX12_without_153 : decode cX12_without 153 = .ok (.istore 7, 2) := by decide +kernel
theorem dX12_without_155 : decode cX12_without 155 = .ok (.iload 7, 2) := by decide +kernel
theorem dX12_without_157 : decode cX12_without 157 = .ok (.iload_n 2, 1) := by decide +kernel
theorem dX12_without_158 : decode cX12_without 158 = .ok (.if_icmp .eq 28, 3) := by decide +kernel
theorem dX12_without_161 : decode cX12_without 161 = .ok (.aload_n 0, 1) := by decide +kernel
theorem dX12_without_162 : decode cX12_without 162 = .ok (.getfield 53, 3) := by decide +kernel
theorem dX12_without_165 : decode cX12_without 165 = .ok (.iload 5, 2) := by decide +kernel
theorem dX12_without_167 : decode cX12_without 167 = .ok (.iload 7, 2) := by decide +kernel
theorem dX12_without_169 : decode cX12_without 169 = .ok (.iload_n 2, 1) := by decide +kernel
theorem dX12_without_170 : decode cX12_without 170 = .ok (.if_icmp .ge 8, 3) := by decide +kernel
theorem dX12_without_173 : decode cX12_without 173 = .ok (.iload 7, 2) := by decide +kernel
theorem dX12_without_175 : decode cX12_without 175 = .ok (.goto 7, 3) := by decide +kernel
theorem dX12_without_178 : decode cX12_without 178 = .ok (.iload 7, 2) := by decide +kernel
theorem dX12_without_180 : decode cX12_without 180 = .ok (.iconst 1, 1) := by decide +kernel
theorem dX12_without_181 : decode cX12_without 181 = .ok (.isub, 1) := by decide +kernel
theorem dX12_without_182 : decode cX12_without 182 = .ok (.iastore, 1) := by decide +kernel
theorem dX12_without_183 : decode cX12_without 183 = .ok (.iinc 5 1, 3) := by decide +kernel
theorem dX12_without_186 : decode cX12_without 186 = .ok (.iinc 6 1, 3) := by decide +kernel
theorem dX12_without_189 : decode cX12_without 189 = .ok (.goto (-51), 3) := by decide +kernel
theorem dX12_without_192 : decode cX12_without 192 = .ok (.iconst 0, 1) := by decide +kernel
theorem dX12_without_193 : decode cX12_without 193 = .ok (.istore 6, 2) := by decide +kernel
theorem dX12_without_195 : decode cX12_without 195 = .ok (.iload 6, 2) := by decide +kernel
theorem dX12_without_197 : decode cX12_without 197 = .ok (.iload_n 3, 1) := by decide +kernel
theorem dX12_without_198 : decode cX12_without 198 = .ok (.if_icmp .ge 44, 3) := by decide +kernel
theorem dX12_without_201 : decode cX12_without 201 = .ok (.aload_n 0, 1) := by decide +kernel
theorem dX12_without_202 : decode cX12_without 202 = .ok (.iload_n 1, 1) := by decide +kernel
theorem dX12_without_203 : decode cX12_without 203 = .ok (.bipush 10, 2) := by decide +kernel
theorem dX12_without_205 : decode cX12_without 205 = .ok (.bipush 8, 2) := by decide +kernel
theorem dX12_without_207 : decode cX12_without 207 = .ok (.iload 4, 2) := by decide +kernel
theorem dX12_without_209 : decode cX12_without 209 = .ok (.imul, 1) := by decide +kernel
theorem dX12_without_210 : decode cX12_without 210 = .ok (.iadd, 1) := by decide +kernel
theorem dX12_without_211 : decode cX12_without 211 = .ok (.iload 6, 2) := by decide +kernel
theorem dX12_without_213 : decode cX12_without 213 = .ok (.iadd, 1) := by decide +kernel
theorem dX12_without_214 : decode cX12_without 214 = .ok (.iload 6, 2) := by decide +kernel
theorem dX12_without_216 : decode cX12_without 216 = .ok (.iload_n 3, 1) := by decide +kernel
theorem dX12_without_217 : decode cX12_without 217 = .ok (.iconst 1, 1) := by decide +kernel
theorem dX12_without_218 : decode cX12_without 218 = .ok (.isub, 1) := by decide +kernel
theorem dX12_without_219 : decode cX12_without 219 = .ok (.if_icmp .ge 13, 3) := by decide +kernel
theorem dX12_without_222 : decode cX12_without 222 = .ok (.aload_n 0, 1) := by decide +kernel
theorem dX12_without_223 : decode cX12_without 223 = .ok (.getfield 53, 3) := by decide +kernel
theorem dX12_without_226 : decode cX12_without 226 = .ok (.iload 6, 2) := by decide +kernel
theorem dX12_without_228 : decode cX12_without 228 = .ok (.iaload, 1) := by decide +kernel
theorem dX12_without_229 : decode cX12_without 229 = .ok (.goto 4, 3) := by decide +kernel
theorem dX12_without_232 : decode cX12_without 232 = .ok (.iconst 0, 1) := by decide +kernel
theorem dX12_without_233 : decode cX12_without 233 = .ok (.invokevirtual 109, 3) := by decide +kernel
theorem dX12_without_236 : decode cX12_without 236 = .ok (.iinc 6 1, 3) := by decide +kernel
theorem dX12_without_239 : decode cX12_without 239 = .ok (.goto (-44), 3) := by decide +kernel
theorem dX12_without_242 : decode cX12_without 242 = .ok (.iinc 4 1, 3) := by decide +kernel
theorem dX12_without_245 : decode cX12_without 245 = .ok (.goto (-123), 3) := by decide +kernel
theorem dX12_without_248 : decode cX12_without 248 = .ok (.aload_n 0, 1) := by decide +kernel
theorem dX12_without_249 : decode cX12_without 249 = .ok (.iload_n 1, 1) := by decide +kernel
theorem dX12_without_250 : decode cX12_without 250 = .ok (.iconst 0, 1) := by decide +kernel
theorem dX12_without_251 : decode cX12_without 251 = .ok (.iload_n 3, 1) := by decide +kernel
theorem dX12_without_252 : decode cX12_without 252 = .ok (.iconst 1, 1) := by decide +kernel
theorem dX12_without_253 : decode cX12_without 253 = .ok (.isub, 1) := by decide +kernel
theorem dX12_without_254 : decode cX12_without 254 = .ok (.invokevirtual 109, 3) := by decide +kernel
theorem dX12_without_257 : decode cX12_without 257 = .ok (.aload_n 0, 1) := by decide +kernel
theorem dX12_without_258 : decode cX12_without 258 = .ok (.iload_n 3, 1) := by decide +kernel
theorem dX12_without_259 : decode cX12_without 259 = .ok (.iconst 1, 1) := by decide +kernel
theorem dX12_without_260 : decode cX12_without 260 = .ok (.isub, 1) := by decide +kernel
theorem dX12_without_261 : decode cX12_without 261 = .ok (.invokevirtual 106, 3) := by decide +kernel
theorem dX12_without_264 : decode cX12_without 264 = .ok (.ireturn, 1) := by decide +kernel
theorem dX12_without1_0 : decode cX12_without1 0 = .ok (.iload_n 0, 1) := by decide +kernel
theorem dX12_without1_1 : decode cX12_without1 1 = .ok (.iconst 1, 1) := by decide +kernel
theorem dX12_without1_2 : decode cX12_without1 2 = .ok (.iload_n 1, 1) := by decide +kernel
theorem dX12_without1_3 : decode cX12_without1 3 = .ok (.ishl, 1) := by decide +kernel
theorem dX12_without1_4 : decode cX12_without1 4 = .ok (.iconst 1, 1) := by decide +kernel
theorem dX12_without1_5 : decode cX12_without1 5 = .ok (.isub, 1) := by decide +kernel
theorem dX12_without1_6 : decode cX12_without1 6 = .ok (.iand, 1) := by decide +kernel
theorem dX12_without1_7 : decode cX12_without1 7 = .ok (.istore_n 2, 1) := by decide +kernel
theorem dX12_without1_8 : decode cX12_without1 8 = .ok (.iload_n 2, 1) := by decide +kernel
theorem dX12_without1_9 : decode cX12_without1 9 = .ok (.iload_n 0, 1) := by decide +kernel
theorem dX12_without1_10 : decode cX12_without1 10 = .ok (.iload_n 1, 1) := by decide +kernel
theorem dX12_without1_11 : decode cX12_without1 11 = .ok (.iconst 1, 1) := by decide +kernel
theorem dX12_without1_12 : decode cX12_without1 12 = .ok (.iadd, 1) := by decide +kernel
theorem dX12_without1_13 : decode cX12_without1 13 = .ok (.ishr, 1) := by decide +kernel
theorem dX12_without1_14 : decode cX12_without1 14 = .ok (.iload_n 1, 1) := by decide +kernel
theorem dX12_without1_15 : decode cX12_without1 15 = .ok (.ishl, 1) := by decide +kernel
theorem dX12_without1_16 : decode cX12_without1 16 = .ok (.ior, 1) := by decide +kernel
theorem dX12_without1_17 : decode cX12_without1 17 = .ok (.ireturn, 1) := by decide +kernel
theorem dX1_chainOf_0 : decode cX1_chainOf 0 = .ok (.aload_n 1, 1) := by decide +kernel
theorem dX1_chainOf_1 : decode cX1_chainOf 1 = .ok (.invokestatic 66, 3) := by decide +kernel
theorem dX1_chainOf_4 : decode cX1_chainOf 4 = .ok (.invokestatic 71, 3) := by decide +kernel
theorem dX1_chainOf_7 : decode cX1_chainOf 7 = .ok (.istore_n 3, 1) := by decide +kernel
theorem dX1_chainOf_8 : decode cX1_chainOf 8 = .ok (.iconst 0, 1) := by decide +kernel
theorem dX1_chainOf_9 : decode cX1_chainOf 9 = .ok (.istore 4, 2) := by decide +kernel
theorem dX1_chainOf_11 : decode cX1_chainOf 11 = .ok (.iload 4, 2) := by decide +kernel
theorem dX1_chainOf_13 : decode cX1_chainOf 13 = .ok (.bipush 8, 2) := by decide +kernel
theorem dX1_chainOf_15 : decode cX1_chainOf 15 = .ok (.if_icmp .ge 17, 3) := by decide +kernel
theorem dX1_chainOf_18 : decode cX1_chainOf 18 = .ok (.aload_n 0, 1) := by decide +kernel
theorem dX1_chainOf_19 : decode cX1_chainOf 19 = .ok (.getfield 18, 3) := by decide +kernel
theorem dX1_chainOf_22 : decode cX1_chainOf 22 = .ok (.iload 4, 2) := by decide +kernel
theorem dX1_chainOf_24 : decode cX1_chainOf 24 = .ok (.iconst 0, 1) := by decide +kernel
theorem dX1_chainOf_25 : decode cX1_chainOf 25 = .ok (.iastore, 1) := by decide +kernel
theorem dX1_chainOf_26 : decode cX1_chainOf 26 = .ok (.iinc 4 1, 3) := by decide +kernel
theorem dX1_chainOf_29 : decode cX1_chainOf 29 = .ok (.goto (-18), 3) := by decide +kernel
theorem dX1_chainOf_32 : decode cX1_chainOf 32 = .ok (.aload_n 1, 1) := by decide +kernel
theorem dX1_chainOf_33 : decode cX1_chainOf 33 = .ok (.aload_n 0, 1) := by decide +kernel
theorem dX1_chainOf_34 : decode cX1_chainOf 34 = .ok (.getfield 15, 3) := by decide +kernel
theorem dX1_chainOf_37 : decode cX1_chainOf 37 = .ok (.aload_n 0, 1) := by decide +kernel
theorem dX1_chainOf_38 : decode cX1_chainOf 38 = .ok (.getfield 18, 3) := by decide +kernel
theorem dX1_chainOf_41 : decode cX1_chainOf 41 = .ok (.iconst 0, 1) := by decide +kernel
theorem dX1_chainOf_42 : decode cX1_chainOf 42 = .ok (.iconst 0, 1) := by decide +kernel
theorem dX1_chainOf_43 : decode cX1_chainOf 43 = .ok (.iload_n 3, 1) := by decide +kernel
theorem dX1_chainOf_44 : decode cX1_chainOf 44 = .ok (.invokestatic 76, 3) := by decide +kernel
theorem dX1_chainOf_47 : decode cX1_chainOf 47 = .ok (.pop, 1) := by decide +kernel
theorem dX1_chainOf_48 : decode cX1_chainOf 48 = .ok (.aload_n 1, 1) := by decide +kernel
theorem dX1_chainOf_49 : decode cX1_chainOf 49 = .ok (.iload_n 2, 1) := by decide +kernel
theorem dX1_chainOf_50 : decode cX1_chainOf 50 = .ok (.invokevirtual 25, 3) := by decide +kernel
theorem dX1_chainOf_53 : decode cX1_chainOf 53 = .ok (.ifCond .eq 12, 3) := by decide +kernel
theorem dX1_chainOf_56 : decode cX1_chainOf 56 = .ok (.aload_n 0, 1) := by decide +kernel
theorem dX1_chainOf_57 : decode cX1_chainOf 57 = .ok (.getfield 15, 3) := by decide +kernel
theorem dX1_chainOf_60 : decode cX1_chainOf 60 = .ok (.iload_n 2, 1) := by decide +kernel
theorem dX1_chainOf_61 : decode cX1_chainOf 61 = .ok (.iaload, 1) := by decide +kernel
theorem dX1_chainOf_62 : decode cX1_chainOf 62 = .ok (.goto 4, 3) := by decide +kernel
theorem dX1_chainOf_65 : decode cX1_chainOf 65 = .ok (.iconst (-1), 1) := by decide +kernel
theorem dX1_chainOf_66 : decode cX1_chainOf 66 = .ok (.ireturn, 1) := by decide +kernel
theorem dX1_deepest_0 : decode cX1_deepest 0 = .ok (.iconst 0, 1) := by decide +kernel
theorem dX1_deepest_1 : decode cX1_deepest 1 = .ok (.istore_n 3, 1) := by decide +kernel
theorem dX1_deepest_2 : decode cX1_deepest 2 = .ok (.iconst 0, 1) := by decide +kernel
theorem dX1_deepest_3 : decode cX1_deepest 3 = .ok (.istore 4, 2) := by decide +kernel
theorem dX1_deepest_5 : decode cX1_deepest 5 = .ok (.iload 4, 2) := by decide +kernel
theorem dX1_deepest_7 : decode cX1_deepest 7 = .ok (.aload_n 1, 1) := by decide +kernel
theorem dX1_deepest_8 : decode cX1_deepest 8 = .ok (.invokevirtual 31, 3) := by decide +kernel
theorem dX1_deepest_11 : decode cX1_deepest 11 = .ok (.if_icmp .ge 31, 3) := by decide +kernel
theorem dX1_deepest_14 : decode cX1_deepest 14 = .ok (.iload_n 2, 1) := by decide +kernel
theorem dX1_deepest_15 : decode cX1_deepest 15 = .ok (.iload 4, 2) := by decide +kernel
theorem dX1_deepest_17 : decode cX1_deepest 17 = .ok (.ishr, 1) := by decide +kernel
theorem dX1_deepest_18 : decode cX1_deepest 18 = .ok (.iconst 1, 1) := by decide +kernel
theorem dX1_deepest_19 : decode cX1_deepest 19 = .ok (.iand, 1) := by decide +kernel
theorem dX1_deepest_20 : decode cX1_deepest 20 = .ok (.iconst 1, 1) := by decide +kernel
theorem dX1_deepest_21 : decode cX1_deepest 21 = .ok (.if_icmp .ne 15, 3) := by decide +kernel
theorem dX1_deepest_24 : decode cX1_deepest 24 = .ok (.iload_n 3, 1) := by decide +kernel
theorem dX1_deepest_25 : decode cX1_deepest 25 = .ok (.aload_n 0, 1) := by decide +kernel
theorem dX1_deepest_26 : decode cX1_deepest 26 = .ok (.getfield 9, 3) := by decide +kernel
theorem dX1_deepest_29 : decode cX1_deepest 29 = .ok (.iload 4, 2) := by decide +kernel
theorem dX1_deepest_31 : decode cX1_deepest 31 = .ok (.iaload, 1) := by decide +kernel
theorem dX1_deepest_32 : decode cX1_deepest 32 = .ok (.invokestatic 35, 3) := by decide +kernel
theorem dX1_deepest_35 : decode cX1_deepest 35 = .ok (.istore_n 3, 1) := by decide +kernel
theorem dX1_deepest_36 : decode cX1_deepest 36 = .ok (.iinc 4 1, 3) := by decide +kernel
theorem dX1_deepest_39 : decode cX1_deepest 39 = .ok (.goto (-34), 3) := by decide +kernel
theorem dX1_deepest_42 : decode cX1_deepest 42 = .ok (.iload_n 3, 1) := by decide +kernel
theorem dX1_deepest_43 : decode cX1_deepest 43 = .ok (.ireturn, 1) := by decide +kernel
theorem dX1_depth_0 : decode cX1_depth 0 = .ok (.aload_n 0, 1) := by decide +kernel
theorem dX1_depth_1 : decode cX1_depth 1 = .ok (.aload_n 1, 1) := by decide +kernel
theorem dX1_depth_2 : decode cX1_depth 2 = .ok (.iload_n 3, 1) := by decide +kernel
theorem dX1_depth_3 : decode cX1_depth 3 = .ok (.invokevirtual 21, 3) := by decide +kernel
theorem dX1_depth_6 : decode cX1_depth 6 = .ok (.aload_n 1, 1) := by decide +kernel
theorem dX1_depth_7 : decode cX1_depth 7 = .ok (.iload_n 2, 1) := by decide +kernel
theorem dX1_depth_8 : decode cX1_depth 8 = .ok (.invokevirtual 25, 3) := by decide +kernel
theorem dX1_depth_11 : decode cX1_depth 11 = .ok (.ifCond .eq 12, 3) := by decide +kernel
theorem dX1_depth_14 : decode cX1_depth 14 = .ok (.aload_n 0, 1) := by decide +kernel
theorem dX1_depth_15 : decode cX1_depth 15 = .ok (.getfield 9, 3) := by decide +kernel
theorem dX1_depth_18 : decode cX1_depth 18 = .ok (.iload_n 2, 1) := by decide +kernel
theorem dX1_depth_19 : decode cX1_depth 19 = .ok (.iaload, 1) := by decide +kernel
theorem dX1_depth_20 : decode cX1_depth 20 = .ok (.goto 4, 3) := by decide +kernel
theorem dX1_depth_23 : decode cX1_depth 23 = .ok (.iconst 0, 1) := by decide +kernel
theorem dX1_depth_24 : decode cX1_depth 24 = .ok (.ireturn, 1) := by decide +kernel
theorem dX1_divide_0 : decode cX1_divide 0 = .ok (.aload_n 0, 1) := by decide +kernel
theorem dX1_divide_1 : decode cX1_divide 1 = .ok (.iload_n 3, 1) := by decide +kernel
theorem dX1_divide_2 : decode cX1_divide 2 = .ok (.invokevirtual 25, 3) := by decide +kernel
theorem dX1_divide_5 : decode cX1_divide 5 = .ok (.ifCond .ne 5, 3) := by decide +kernel
theorem dX1_divide_8 : decode cX1_divide 8 = .ok (.iconst 1, 1) := by decide +kernel
theorem dX1_divide_9 : decode cX1_divide 9 = .ok (.ireturn, 1) := by decide +kernel
theorem dX1_divide_10 : decode cX1_divide 10 = .ok (.iconst 0, 1) := by decide +kernel
theorem dX1_divide_11 : decode cX1_divide 11 = .ok (.istore 6, 2) := by decide +kernel
theorem dX1_divide_13 : decode cX1_divide 13 = .ok (.iload 6, 2) := by decide +kernel
theorem dX1_divide_15 : decode cX1_divide 15 = .ok (.iload 4, 2) := by decide +kernel
theorem dX1_divide_17 : decode cX1_divide 17 = .ok (.if_icmp .gt 88, 3) := by decide +kernel
theorem dX1_divide_20 : decode cX1_divide 20 = .ok (.iload 6, 2) := by decide +kernel
theorem dX1_divide_22 : decode cX1_divide 22 = .ok (.iload 5, 2) := by decide +kernel
theorem dX1_divide_24 : decode cX1_divide 24 = .ok (.if_icmp .ge 81, 3) := by decide +kernel
theorem dX1_divide_27 : decode cX1_divide 27 = .ok (.iload 6, 2) := by decide +kernel
theorem dX1_divide_29 : decode cX1_divide 29 = .ok (.bipush 8, 2) := by decide +kernel
theorem dX1_divide_31 : decode cX1_divide 31 = .ok (.if_icmp .ge 74, 3) := by decide +kernel
theorem dX1_divide_34 : decode cX1_divide 34 = .ok (.aload_n 2, 1) := by decide +kernel
theorem dX1_divide_35 : decode cX1_divide 35 = .ok (.iload 6, 2) := by decide +kernel
theorem dX1_divide_37 : decode cX1_divide 37 = .ok (.iaload, 1) := by decide +kernel
theorem dX1_divide_38 : decode cX1_divide 38 = .ok (.aload_n 0, 1) := by decide +kernel
theorem dX1_divide_39 : decode cX1_divide 39 = .ok (.iload_n 3, 1) := by decide +kernel
theorem dX1_divide_40 : decode cX1_divide 40 = .ok (.invokevirtual 80, 3) := by decide +kernel
theorem dX1_divide_43 : decode cX1_divide 43 = .ok (.iand, 1) := by decide +kernel
theorem dX1_divide_44 : decode cX1_divide 44 = .ok (.ifCond .ne 55, 3) := by decide +kernel
theorem dX1_divide_47 : decode cX1_divide 47 = .ok (.aload_n 2, 1) := by decide +kernel
theorem dX1_divide_48 : decode cX1_divide 48 = .ok (.iload 6, 2) := by decide +kernel
theorem dX1_divide_50 : decode cX1_divide 50 = .ok (.dup2, 1) := by decide +kernel
theorem dX1_divide_51 : decode cX1_divide 51 = .ok (.iaload, 1) := by decide +kernel
theorem dX1_divide_52 : decode cX1_divide 52 = .ok (.iconst 1, 1) := by decide +kernel
theorem dX1_divide_53 : decode cX1_divide 53 = .ok (.iload_n 3, 1) := by decide +kernel
theorem dX1_divide_54 : decode cX1_divide 54 = .ok (.ishl, 1) := by decide +kernel
theorem dX1_divide_55 : decode cX1_divide 55 = .ok (.ior, 1) := by decide +kernel
theorem dX1_divide_56 : decode cX1_divide 56 = .ok (.iastore, 1) := by decide +kernel
theorem dX1_divide_57 : decode cX1_divide 57 = .ok (.aload_n 1, 1) := by decide +kernel
theorem dX1_divide_58 : decode cX1_divide 58 = .ok (.iload_n 3, 1) := by decide +kernel
theorem dX1_divide_59 : decode cX1_divide 59 = .ok (.iload 6, 2) := by decide +kernel
theorem dX1_divide_61 : decode cX1_divide 61 = .ok (.iastore, 1) := by decide +kernel
theorem dX1_divide_62 : decode cX1_divide 62 = .ok (.aload_n 0, 1) := by decide +kernel
theorem dX1_divide_63 : decode cX1_divide 63 = .ok (.aload_n 1, 1) := by decide +kernel
theorem dX1_divide_64 : decode cX1_divide 64 = .ok (.aload_n 2, 1) := by decide +kernel
theorem dX1_divide_65 : decode cX1_divide 65 = .ok (.iload_n 3, 1) := by decide +kernel
theorem dX1_divide_66 : decode cX1_divide 66 = .ok (.iconst 1, 1) := by decide +kernel
theorem dX1_divide_67 : decode cX1_divide 67 = .ok (.iadd, 1) := by decide +kernel
theorem dX1_divide_68 : decode cX1_divide 68 = .ok (.iload 4, 2) := by decide +kernel
theorem dX1_divide_70 : decode cX1_divide 70 = .ok (.iload 6, 2) := by decide +kernel
theorem dX1_divide_72 : decode cX1_divide 72 = .ok (.iconst 1, 1) := by decide +kernel
theorem dX1_divide_73 : decode cX1_divide 73 = .ok (.iadd, 1) := by decide +kernel
theorem dX1_divide_74 : decode cX1_divide 74 = .ok (.invokestatic 35, 3) := by decide +kernel
theorem dX1_divide_77 : decode cX1_divide 77 = .ok (.iload 5, 2) := by decide +kernel
theorem dX1_divide_79 : decode cX1_divide 79 = .ok (.invokestatic 76, 3) := by decide +kernel
theorem dX1_divide_82 : decode cX1_divide 82 = .ok (.ifCond .eq 5, 3) := by decide +kernel
theorem dX1_divide_85 : decode cX1_divide 85 = .ok (.iconst 1, 1) := by decide +kernel
theorem dX1_divide_86 : decode cX1_divide 86 = .ok (.ireturn, 1) := by decide +kernel
theorem dX1_divide_87 : decode cX1_divide 87 = .ok (.aload_n 2, 1) := by decide +kernel
theorem dX1_divide_88 : decode cX1_divide 88 = .ok (.iload 6, 2) := by decide +kernel
theorem dX1_divide_90 : decode cX1_divide 90 = .ok (.dup2, 1) := by decide +kernel
theorem dX1_divide_91 : decode cX1_divide 91 = .ok (.iaload, 1) := by decide +kernel
theorem dX1_divide_92 : decode cX1_divide 92 = .ok (.iconst 1, 1) := by decide +kernel
theorem dX1_divide_93 : decode cX1_divide 93 = .ok (.iload_n 3, 1) := by decide +kernel
theorem dX1_divide_94 : decode cX1_divide 94 = .ok (.ishl, 1) := by decide +kernel
theorem dX1_divide_95 : decode cX1_divide 95 = .ok (.iconst (-1), 1) := by decide +kernel
theorem dX1_divide_96 : decode cX1_divide 96 = .ok (.ixor, 1) := by decide +kernel
theorem dX1_divide_97 : decode cX1_divide 97 = .ok (.iand, 1) := by decide +kernel
theorem dX1_divide_98 : decode cX1_divide 98 = .ok (.iastore, 1) := by decide +kernel
theorem dX1_divide_99 : decode cX1_divide 99 = .ok (.iinc 6 1, 3) := by decide +kernel
theorem dX1_divide_102 : decode cX1_divide 102 = .ok (.goto (-89), 3) := by decide +kernel
theorem dX1_divide_105 : decode cX1_divide 105 = .ok (.iconst 0, 1) := by decide +kernel
theorem dX1_divide_106 : decode cX1_divide 106 = .ok (.ireturn, 1) := by decide +kernel
theorem dX1_height_0 : decode cX1_height 0 = .ok (.aload_n 0, 1) := by decide +kernel
theorem dX1_height_1 : decode cX1_height 1 = .ok (.aload_n 1, 1) := by decide +kernel
theorem dX1_height_2 : decode cX1_height 2 = .ok (.iconst 1, 1) := by decide +kernel
theorem dX1_height_3 : decode cX1_height 3 = .ok (.invokevirtual 21, 3) := by decide +kernel
theorem dX1_height_6 : decode cX1_height 6 = .ok (.iconst 0, 1) := by decide +kernel
theorem dX1_height_7 : decode cX1_height 7 = .ok (.istore_n 2, 1) := by decide +kernel
theorem dX1_height_8 : decode cX1_height 8 = .ok (.iconst 0, 1) := by decide +kernel
theorem dX1_height_9 : decode cX1_height 9 = .ok (.istore_n 3, 1) := by decide +kernel
theorem dX1_height_10 : decode cX1_height 10 = .ok (.iload_n 3, 1) := by decide +kernel
theorem dX1_height_11 : decode cX1_height 11 = .ok (.aload_n 1, 1) := by decide +kernel
theorem dX1_height_12 : decode cX1_height 12 = .ok (.invokevirtual 31, 3) := by decide +kernel
theorem dX1_height_15 : decode cX1_height 15 = .ok (.if_icmp .ge 20, 3) := by decide +kernel
theorem dX1_height_18 : decode cX1_height 18 = .ok (.iload_n 2, 1) := by decide +kernel
theorem dX1_height_19 : decode cX1_height 19 = .ok (.aload_n 0, 1) := by decide +kernel
theorem dX1_height_20 : decode cX1_height 20 = .ok (.getfield 9, 3) := by decide +kernel
theorem dX1_height_23 : decode cX1_height 23 = .ok (.iload_n 3, 1) := by decide +kernel
theorem dX1_height_24 : decode cX1_height 24 = .ok (.iaload, 1) := by decide +kernel
theorem dX1_height_25 : decode cX1_height 25 = .ok (.invokestatic 35, 3) := by decide +kernel
theorem dX1_height_28 : decode cX1_height 28 = .ok (.istore_n 2, 1) := by decide +kernel
theorem dX1_height_29 : decode cX1_height 29 = .ok (.iinc 3 1, 3) := by decide +kernel
theorem dX1_height_32 : decode cX1_height 32 = .ok (.goto (-22), 3) := by decide +kernel
theorem dX1_height_35 : decode cX1_height 35 = .ok (.iload_n 2, 1) := by decide +kernel
theorem dX1_height_36 : decode cX1_height 36 = .ok (.ireturn, 1) := by decide +kernel
theorem dX1_init_0 : decode cX1_init 0 = .ok (.aload_n 0, 1) := by decide +kernel
theorem dX1_init_1 : decode cX1_init 1 = .ok (.invokespecial 3, 3) := by decide +kernel
theorem dX1_init_4 : decode cX1_init 4 = .ok (.aload_n 0, 1) := by decide +kernel
theorem dX1_init_5 : decode cX1_init 5 = .ok (.bipush 8, 2) := by decide +kernel
theorem dX1_init_7 : decode cX1_init 7 = .ok (.newarray .int, 2) := by decide +kernel
theorem dX1_init_9 : decode cX1_init 9 = .ok (.putfield 9, 3) := by decide +kernel
theorem dX1_init_12 : decode cX1_init 12 = .ok (.aload_n 0, 1) := by decide +kernel
theorem dX1_init_13 : decode cX1_init 13 = .ok (.bipush 8, 2) := by decide +kernel
theorem dX1_init_15 : decode cX1_init 15 = .ok (.newarray .int, 2) := by decide +kernel
theorem dX1_init_17 : decode cX1_init 17 = .ok (.putfield 15, 3) := by decide +kernel
theorem dX1_init_20 : decode cX1_init 20 = .ok (.aload_n 0, 1) := by decide +kernel
theorem dX1_init_21 : decode cX1_init 21 = .ok (.bipush 8, 2) := by decide +kernel
theorem dX1_init_23 : decode cX1_init 23 = .ok (.newarray .int, 2) := by decide +kernel
theorem dX1_init_25 : decode cX1_init 25 = .ok (.putfield 18, 3) := by decide +kernel
theorem dX1_init_28 : decode cX1_init 28 = .ok (.return_, 1) := by decide +kernel
theorem dX1_isLevelled_0 : decode cX1_isLevelled 0 = .ok (.aload_n 0, 1) := by decide +kernel
theorem dX1_isLevelled_1 : decode cX1_isLevelled 1 = .ok (.aload_n 1, 1) := by decide +kernel
theorem dX1_isLevelled_2 : decode cX1_isLevelled 2 = .ok (.iconst 0, 1) := by decide +kernel
theorem dX1_isLevelled_3 : decode cX1_isLevelled 3 = .ok (.invokevirtual 21, 3) := by decide +kernel
theorem dX1_isLevelled_6 : decode cX1_isLevelled 6 = .ok (.iconst 0, 1) := by decide +kernel
theorem dX1_isLevelled_7 : decode cX1_isLevelled 7 = .ok (.istore_n 2, 1) := by decide +kernel
theorem dX1_isLevelled_8 : decode cX1_isLevelled 8 = .ok (.iload_n 2, 1) := by decide +kernel
theorem dX1_isLevelled_9 : decode cX1_isLevelled 9 = .ok (.aload_n 1, 1) := by decide +kernel
theorem dX1_isLevelled_10 : decode cX1_isLevelled 10 = .ok (.invokevirtual 31, 3) := by decide +kernel
theorem dX1_isLevelled_13 : decode cX1_isLevelled 13 = .ok (.if_icmp .ge 63, 3) := by decide +kernel
theorem dX1_isLevelled_16 : decode cX1_isLevelled 16 = .ok (.aload_n 1, 1) := by decide +kernel
theorem dX1_isLevelled_17 : decode cX1_isLevelled 17 = .ok (.iload_n 2, 1) := by decide +kernel
theorem dX1_isLevelled_18 : decode cX1_isLevelled 18 = .ok (.invokevirtual 63, 3) := by decide +kernel
theorem dX1_isLevelled_21 : decode cX1_isLevelled 21 = .ok (.istore_n 3, 1) := by decide +kernel
theorem dX1_isLevelled_22 : decode cX1_isLevelled 22 = .ok (.iconst 0, 1) := by decide +kernel
theorem dX1_isLevelled_23 : decode cX1_isLevelled 23 = .ok (.istore 4, 2) := by decide +kernel
theorem dX1_isLevelled_25 : decode cX1_isLevelled 25 = .ok (.iload 4, 2) := by decide +kernel
theorem dX1_isLevelled_27 : decode cX1_isLevelled 27 = .ok (.aload_n 1, 1) := by decide +kernel
theorem dX1_isLevelled_28 : decode cX1_isLevelled 28 = .ok (.invokevirtual 31, 3) := by decide +kernel
theorem dX1_isLevelled_31 : decode cX1_isLevelled 31 = .ok (.if_icmp .ge 39, 3) := by decide +kernel
theorem dX1_isLevelled_34 : decode cX1_isLevelled 34 = .ok (.iload_n 3, 1) := by decide +kernel
theorem dX1_isLevelled_35 : decode cX1_isLevelled 35 = .ok (.iload 4, 2) := by decide +kernel
theorem dX1_isLevelled_37 : decode cX1_isLevelled 37 = .ok (.ishr, 1) := by decide +kernel
theorem dX1_isLevelled_38 : decode cX1_isLevelled 38 = .ok (.iconst 1, 1) := by decide +kernel
theorem dX1_isLevelled_39 : decode cX1_isLevelled 39 = .ok (.iand, 1) := by decide +kernel
theorem dX1_isLevelled_40 : decode cX1_isLevelled 40 = .ok (.iconst 1, 1) := by decide +kernel
theorem dX1_isLevelled_41 : decode cX1_isLevelled 41 = .ok (.if_icmp .ne 23, 3) := by decide +kernel
theorem dX1_isLevelled_44 : decode cX1_isLevelled 44 = .ok (.aload_n 0, 1) := by decide +kernel
theorem dX1_isLevelled_45 : decode cX1_isLevelled 45 = .ok (.getfield 9, 3) := by decide +kernel
theorem dX1_isLevelled_48 : decode cX1_isLevelled 48 = .ok (.iload 4, 2) := by decide +kernel
theorem dX1_isLevelled_50 : decode cX1_isLevelled 50 = .ok (.iaload, 1) := by decide +kernel
theorem dX1_isLevelled_51 : decode cX1_isLevelled 51 = .ok (.aload_n 0, 1) := by decide +kernel
theorem dX1_isLevelled_52 : decode cX1_isLevelled 52 = .ok (.getfield 9, 3) := by decide +kernel
theorem dX1_isLevelled_55 : decode cX1_isLevelled 55 = .ok (.iload_n 2, 1) := by decide +kernel
theorem dX1_isLevelled_56 : decode cX1_isLevelled 56 = .ok (.iaload, 1) := by decide +kernel
theorem dX1_isLevelled_57 : decode cX1_isLevelled 57 = .ok (.iconst 1, 1) := by decide +kernel
theorem dX1_isLevelled_58 : decode cX1_isLevelled 58 = .ok (.iadd, 1) := by decide +kernel
theorem dX1_isLevelled_59 : decode cX1_isLevelled 59 = .ok (.if_icmp .eq 5, 3) := by decide +kernel
theorem dX1_isLevelled_62 : decode cX1_isLevelled 62 = .ok (.iconst 0, 1) := by decide +kernel
theorem dX1_isLevelled_63 : decode cX1_isLevelled 63 = .ok (.ireturn, 1) := by decide +kernel
theorem dX1_isLevelled_64 : decode cX1_isLevelled 64 = .ok (.iinc 4 1, 3) := by decide +kernel
theorem dX1_isLevelled_67 : decode cX1_isLevelled 67 = .ok (.goto (-42), 3) := by decide +kernel
theorem dX1_isLevelled_70 : decode cX1_isLevelled 70 = .ok (.iinc 2 1, 3) := by decide +kernel
theorem dX1_isLevelled_73 : decode cX1_isLevelled 73 = .ok (.goto (-65), 3) := by decide +kernel
theorem dX1_isLevelled_76 : decode cX1_isLevelled 76 = .ok (.iconst 1, 1) := by decide +kernel
theorem dX1_isLevelled_77 : decode cX1_isLevelled 77 = .ok (.ireturn, 1) := by decide +kernel
theorem dX1_leastOfDepth_0 : decode cX1_leastOfDepth 0 = .ok (.iconst 0, 1) := by decide +kernel
theorem dX1_leastOfDepth_1 : decode cX1_leastOfDepth 1 = .ok (.istore 4, 2) := by decide +kernel
theorem dX1_leastOfDepth_3 : decode cX1_leastOfDepth 3 = .ok (.iload 4, 2) := by decide +kernel
theorem dX1_leastOfDepth_5 : decode cX1_leastOfDepth 5 = .ok (.aload_n 1, 1) := by decide +kernel
theorem dX1_leastOfDepth_6 : decode cX1_leastOfDepth 6 = .ok (.invokevirtual 31, 3) := by decide +kernel
theorem dX1_leastOfDepth_9 : decode cX1_leastOfDepth 9 = .ok (.if_icmp .ge 33, 3) := by decide +kernel
theorem dX1_leastOfDepth_12 : decode cX1_leastOfDepth 12 = .ok (.iload_n 2, 1) := by decide +kernel
theorem dX1_leastOfDepth_13 : decode cX1_leastOfDepth 13 = .ok (.iload 4, 2) := by decide +kernel
theorem dX1_leastOfDepth_15 : decode cX1_leastOfDepth 15 = .ok (.ishr, 1) := by decide +kernel
theorem dX1_leastOfDepth_16 : decode cX1_leastOfDepth 16 = .ok (.iconst 1, 1) := by decide +kernel
theorem dX1_leastOfDepth_17 : decode cX1_leastOfDepth 17 = .ok (.iand, 1) := by decide +kernel
theorem dX1_leastOfDepth_18 : decode cX1_leastOfDepth 18 = .ok (.iconst 1, 1) := by decide +kernel
theorem dX1_leastOfDepth_19 : decode cX1_leastOfDepth 19 = .ok (.if_icmp .ne 17, 3) := by decide +kernel
theorem dX1_leastOfDepth_22 : decode cX1_leastOfDepth 22 = .ok (.aload_n 0, 1) := by decide +kernel
theorem dX1_leastOfDepth_23 : decode cX1_leastOfDepth 23 = .ok (.getfield 9, 3) := by decide +kernel
theorem dX1_leastOfDepth_26 : decode cX1_leastOfDepth 26 = .ok (.iload 4, 2) := by decide +kernel
theorem dX1_leastOfDepth_28 : decode cX1_leastOfDepth 28 = .ok (.iaload, 1) := by decide +kernel
theorem dX1_leastOfDepth_29 : decode cX1_leastOfDepth 29 = .ok (.iload_n 3, 1) := by decide +kernel
theorem dX1_leastOfDepth_30 : decode cX1_leastOfDepth 30 = .ok (.if_icmp .ne 6, 3) := by decide +kernel
theorem dX1_leastOfDepth_33 : decode cX1_leastOfDepth 33 = .ok (.iload 4, 2) := by decide +kernel
theorem dX1_leastOfDepth_35 : decode cX1_leastOfDepth 35 = .ok (.ireturn, 1) := by decide +kernel
theorem dX1_leastOfDepth_36 : decode cX1_leastOfDepth 36 = .ok (.iinc 4 1, 3) := by decide +kernel
theorem dX1_leastOfDepth_39 : decode cX1_leastOfDepth 39 = .ok (.goto (-36), 3) := by decide +kernel
theorem dX1_leastOfDepth_42 : decode cX1_leastOfDepth 42 = .ok (.iconst (-1), 1) := by decide +kernel
theorem dX1_leastOfDepth_43 : decode cX1_leastOfDepth 43 = .ok (.ireturn, 1) := by decide +kernel
theorem dX1_longestAt_0 : decode cX1_longestAt 0 = .ok (.aload_n 0, 1) := by decide +kernel
theorem dX1_longestAt_1 : decode cX1_longestAt 1 = .ok (.aload_n 1, 1) := by decide +kernel
theorem dX1_longestAt_2 : decode cX1_longestAt 2 = .ok (.invokevirtual 52, 3) := by decide +kernel
theorem dX1_longestAt_5 : decode cX1_longestAt 5 = .ok (.istore_n 3, 1) := by decide +kernel
theorem dX1_longestAt_6 : decode cX1_longestAt 6 = .ok (.iload_n 2, 1) := by decide +kernel
theorem dX1_longestAt_7 : decode cX1_longestAt 7 = .ok (.iload_n 3, 1) := by decide +kernel
theorem dX1_longestAt_8 : decode cX1_longestAt 8 = .ok (.if_icmp .lt 5, 3) := by decide +kernel
theorem dX1_longestAt_11 : decode cX1_longestAt 11 = .ok (.iconst (-1), 1) := by decide +kernel
theorem dX1_longestAt_12 : decode cX1_longestAt 12 = .ok (.ireturn, 1) := by decide +kernel
theorem dX1_longestAt_13 : decode cX1_longestAt 13 = .ok (.aload_n 1, 1) := by decide +kernel
theorem dX1_longestAt_14 : decode cX1_longestAt 14 = .ok (.invokevirtual 56, 3) := by decide +kernel
theorem dX1_longestAt_17 : decode cX1_longestAt 17 = .ok (.istore 4, 2) := by decide +kernel
theorem dX1_longestAt_19 : decode cX1_longestAt 19 = .ok (.iconst (-1), 1) := by decide +kernel
theorem dX1_longestAt_20 : decode cX1_longestAt 20 = .ok (.istore 5, 2) := by decide +kernel
theorem dX1_longestAt_22 : decode cX1_longestAt 22 = .ok (.iconst 0, 1) := by decide +kernel
theorem dX1_longestAt_23 : decode cX1_longestAt 23 = .ok (.istore 6, 2) := by decide +kernel
theorem dX1_longestAt_25 : decode cX1_longestAt 25 = .ok (.iload 6, 2) := by decide +kernel
theorem dX1_longestAt_27 : decode cX1_longestAt 27 = .ok (.iload_n 2, 1) := by decide +kernel
theorem dX1_longestAt_28 : decode cX1_longestAt 28 = .ok (.if_icmp .gt 30, 3) := by decide +kernel
theorem dX1_longestAt_31 : decode cX1_longestAt 31 = .ok (.aload_n 0, 1) := by decide +kernel
theorem dX1_longestAt_32 : decode cX1_longestAt 32 = .ok (.aload_n 1, 1) := by decide +kernel
theorem dX1_longestAt_33 : decode cX1_longestAt 33 = .ok (.iload 4, 2) := by decide +kernel
theorem dX1_longestAt_35 : decode cX1_longestAt 35 = .ok (.iload_n 3, 1) := by decide +kernel
theorem dX1_longestAt_36 : decode cX1_longestAt 36 = .ok (.invokevirtual 59, 3) := by decide +kernel
theorem dX1_longestAt_39 : decode cX1_longestAt 39 = .ok (.istore 5, 2) := by decide +kernel
theorem dX1_longestAt_41 : decode cX1_longestAt 41 = .ok (.aload_n 1, 1) := by decide +kernel
theorem dX1_longestAt_42 : decode cX1_longestAt 42 = .ok (.iload 5, 2) := by decide +kernel
theorem dX1_longestAt_44 : decode cX1_longestAt 44 = .ok (.invokevirtual 41, 3) := by decide +kernel
theorem dX1_longestAt_47 : decode cX1_longestAt 47 = .ok (.istore 4, 2) := by decide +kernel
theorem dX1_longestAt_49 : decode cX1_longestAt 49 = .ok (.iinc 3 (-1), 3) := by decide +kernel
theorem dX1_longestAt_52 : decode cX1_longestAt 52 = .ok (.iinc 6 1, 3) := by decide +kernel
theorem dX1_longestAt_55 : decode cX1_longestAt 55 = .ok (.goto (-30), 3) := by decide +kernel
theorem dX1_longestAt_58 : decode cX1_longestAt 58 = .ok (.iload 5, 2) := by decide +kernel
theorem dX1_longestAt_60 : decode cX1_longestAt 60 = .ok (.ireturn, 1) := by decide +kernel
theorem dX1_measure_0 : decode cX1_measure 0 = .ok (.iconst 0, 1) := by decide +kernel
theorem dX1_measure_1 : decode cX1_measure 1 = .ok (.istore_n 3, 1) := by decide +kernel
theorem dX1_measure_2 : decode cX1_measure 2 = .ok (.iload_n 3, 1) := by decide +kernel
theorem dX1_measure_3 : decode cX1_measure 3 = .ok (.bipush 8, 2) := by decide +kernel
theorem dX1_measure_5 : decode cX1_measure 5 = .ok (.if_icmp .ge 16, 3) := by decide +kernel
theorem dX1_measure_8 : decode cX1_measure 8 = .ok (.aload_n 0, 1) := by decide +kernel
theorem dX1_measure_9 : decode cX1_measure 9 = .ok (.getfield 9, 3) := by decide +kernel
theorem dX1_measure_12 : decode cX1_measure 12 = .ok (.iload_n 3, 1) := by decide +kernel
theorem dX1_measure_13 : decode cX1_measure 13 = .ok (.iconst 1, 1) := by decide +kernel
theorem dX1_measure_14 : decode cX1_measure 14 = .ok (.iastore, 1) := by decide +kernel
theorem dX1_measure_15 : decode cX1_measure 15 = .ok (.iinc 3 1, 3) := by decide +kernel
theorem dX1_measure_18 : decode cX1_measure 18 = .ok (.goto (-16), 3) := by decide +kernel
theorem dX1_measure_21 : decode cX1_measure 21 = .ok (.iconst 1, 1) := by decide +kernel
theorem dX1_measure_22 : decode cX1_measure 22 = .ok (.istore_n 3, 1) := by decide +kernel
theorem dX1_measure_23 : decode cX1_measure 23 = .ok (.iload_n 3, 1) := by decide +kernel
theorem dX1_measure_24 : decode cX1_measure 24 = .ok (.aload_n 1, 1) := by decide +kernel
theorem dX1_measure_25 : decode cX1_measure 25 = .ok (.invokevirtual 31, 3) := by decide +kernel
theorem dX1_measure_28 : decode cX1_measure 28 = .ok (.if_icmp .ge 60, 3) := by decide +kernel
theorem dX1_measure_31 : decode cX1_measure 31 = .ok (.iconst 0, 1) := by decide +kernel
theorem dX1_measure_32 : decode cX1_measure 32 = .ok (.istore 4, 2) := by decide +kernel
theorem dX1_measure_34 : decode cX1_measure 34 = .ok (.iload 4, 2) := by decide +kernel
theorem dX1_measure_36 : decode cX1_measure 36 = .ok (.aload_n 1, 1) := by decide +kernel
theorem dX1_measure_37 : decode cX1_measure 37 = .ok (.invokevirtual 31, 3) := by decide +kernel
theorem dX1_measure_40 : decode cX1_measure 40 = .ok (.if_icmp .ge 42, 3) := by decide +kernel
theorem dX1_measure_43 : decode cX1_measure 43 = .ok (.aload_n 0, 1) := by decide +kernel
theorem dX1_measure_44 : decode cX1_measure 44 = .ok (.getfield 9, 3) := by decide +kernel
theorem dX1_measure_47 : decode cX1_measure 47 = .ok (.iload 4, 2) := by decide +kernel
theorem dX1_measure_49 : decode cX1_measure 49 = .ok (.iconst 1, 1) := by decide +kernel
theorem dX1_measure_50 : decode cX1_measure 50 = .ok (.aload_n 0, 1) := by decide +kernel
theorem dX1_measure_51 : decode cX1_measure 51 = .ok (.aload_n 1, 1) := by decide +kernel
theorem dX1_measure_52 : decode cX1_measure 52 = .ok (.iload_n 2, 1) := by decide +kernel
theorem dX1_measure_53 : decode cX1_measure 53 = .ok (.ifCond .eq 12, 3) := by decide +kernel
theorem dX1_measure_56 : decode cX1_measure 56 = .ok (.aload_n 1, 1) := by decide +kernel
theorem dX1_measure_57 : decode cX1_measure 57 = .ok (.iload 4, 2) := by decide +kernel
theorem dX1_measure_59 : decode cX1_measure 59 = .ok (.invokevirtual 41, 3) := by decide +kernel
theorem dX1_measure_62 : decode cX1_measure 62 = .ok (.goto 9, 3) := by decide +kernel
theorem dX1_measure_65 : decode cX1_measure 65 = .ok (.aload_n 1, 1) := by decide +kernel
theorem dX1_measure_66 : decode cX1_measure 66 = .ok (.iload 4, 2) := by decide +kernel
theorem dX1_measure_68 : decode cX1_measure 68 = .ok (.invokevirtual 45, 3) := by decide +kernel
theorem dX1_measure_71 : decode cX1_measure 71 = .ok (.invokevirtual 48, 3) := by decide +kernel
theorem dX1_measure_74 : decode cX1_measure 74 = .ok (.iadd, 1) := by decide +kernel
theorem dX1_measure_75 : decode cX1_measure 75 = .ok (.iastore, 1) := by decide +kernel
theorem dX1_measure_76 : decode cX1_measure 76 = .ok (.iinc 4 1, 3) := by decide +kernel
theorem dX1_measure_79 : decode cX1_measure 79 = .ok (.goto (-45), 3) := by decide +kernel
theorem dX1_measure_82 : decode cX1_measure 82 = .ok (.iinc 3 1, 3) := by decide +kernel
theorem dX1_measure_85 : decode cX1_measure 85 = .ok (.goto (-62), 3) := by decide +kernel
theorem dX1_measure_88 : decode cX1_measure 88 = .ok (.return_, 1) := by decide +kernel
theorem dX2_extreme_0 : decode cX2_extreme 0 = .ok (.aload_n 0, 1) := by decide +kernel
theorem dX2_extreme_1 : decode cX2_extreme 1 = .ok (.aload_n 1, 1) := by decide +kernel
theorem dX2_extreme_2 : decode cX2_extreme 2 = .ok (.iload_n 2, 1) := by decide +kernel
theorem dX2_extreme_3 : decode cX2_extreme 3 = .ok (.invokevirtual 15, 3) := by decide +kernel
theorem dX2_extreme_6 : decode cX2_extreme 6 = .ok (.aload_n 0, 1) := by decide +kernel
theorem dX2_extreme_7 : decode cX2_extreme 7 = .ok (.aload_n 1, 1) := by decide +kernel
theorem dX2_extreme_8 : decode cX2_extreme 8 = .ok (.iconst 0, 1) := by decide +kernel
theorem dX2_extreme_9 : decode cX2_extreme 9 = .ok (.iconst (-1), 1) := by decide +kernel
theorem dX2_extreme_10 : decode cX2_extreme 10 = .ok (.aload_n 0, 1) := by decide +kernel
theorem dX2_extreme_11 : decode cX2_extreme 11 = .ok (.aload_n 1, 1) := by decide +kernel
theorem dX2_extreme_12 : decode cX2_extreme 12 = .ok (.iconst 0, 1) := by decide +kernel
theorem dX2_extreme_13 : decode cX2_extreme 13 = .ok (.iconst (-1), 1) := by decide +kernel
theorem dX2_extreme_14 : decode cX2_extreme 14 = .ok (.iload_n 2, 1) := by decide +kernel
theorem dX2_extreme_15 : decode cX2_extreme 15 = .ok (.invokevirtual 19, 3) := by decide +kernel
theorem dX2_extreme_18 : decode cX2_extreme 18 = .ok (.invokevirtual 23, 3) := by decide +kernel
theorem dX2_extreme_21 : decode cX2_extreme 21 = .ok (.ireturn, 1) := by decide +kernel
theorem dX2_init_0 : decode cX2_init 0 = .ok (.aload_n 0, 1) := by decide +kernel
theorem dX2_init_1 : decode cX2_init 1 = .ok (.invokespecial 3, 3) := by decide +kernel
theorem dX2_init_4 : decode cX2_init 4 = .ok (.aload_n 0, 1) := by decide +kernel
theorem dX2_init_5 : decode cX2_init 5 = .ok (.sipush 2048, 3) := by decide +kernel
theorem dX2_init_8 : decode cX2_init 8 = .ok (.newarray .int, 2) := by decide +kernel
theorem dX2_init_10 : decode cX2_init 10 = .ok (.putfield 9, 3) := by decide +kernel
theorem dX2_init_13 : decode cX2_init 13 = .ok (.return_, 1) := by decide +kernel
theorem dX2_measure_0 : decode cX2_measure 0 = .ok (.aload_n 1, 1) := by decide +kernel
theorem dX2_measure_1 : decode cX2_measure 1 = .ok (.invokevirtual 33, 3) := by decide +kernel
theorem dX2_measure_4 : decode cX2_measure 4 = .ok (.istore_n 3, 1) := by decide +kernel
theorem dX2_measure_5 : decode cX2_measure 5 = .ok (.iload_n 3, 1) := by decide +kernel
theorem dX2_measure_6 : decode cX2_measure 6 = .ok (.ifCond .le 78, 3) := by decide +kernel
theorem dX2_measure_9 : decode cX2_measure 9 = .ok (.aload_n 1, 1) := by decide +kernel
theorem dX2_measure_10 : decode cX2_measure 10 = .ok (.iload_n 3, 1) := by decide +kernel
theorem dX2_measure_11 : decode cX2_measure 11 = .ok (.invokevirtual 36, 3) := by decide +kernel
theorem dX2_measure_14 : decode cX2_measure 14 = .ok (.istore 4, 2) := by decide +kernel
theorem dX2_measure_16 : decode cX2_measure 16 = .ok (.iconst 0, 1) := by decide +kernel
theorem dX2_measure_17 : decode cX2_measure 17 = .ok (.istore 5, 2) := by decide +kernel
theorem dX2_measure_19 : decode cX2_measure 19 = .ok (.iload 4, 2) := by decide +kernel
theorem dX2_measure_21 : decode cX2_measure 21 = .ok (.ifCond .eq 57, 3) := by decide +kernel
theorem dX2_measure_24 : decode cX2_measure 24 = .ok (.iload 5, 2) := by decide +kernel
theorem dX2_measure_26 : decode cX2_measure 26 = .ok (.aload_n 1, 1) := by decide +kernel
theorem dX2_measure_27 : decode cX2_measure 27 = .ok (.invokevirtual 27, 3) := by decide +kernel
theorem dX2_measure_30 : decode cX2_measure 30 = .ok (.if_icmp .ge 48, 3) := by decide +kernel
theorem dX2_measure_33 : decode cX2_measure 33 = .ok (.iload_n 3, 1) := by decide +kernel
theorem dX2_measure_34 : decode cX2_measure 34 = .ok (.iload 5, 2) := by decide +kernel
theorem dX2_measure_36 : decode cX2_measure 36 = .ok (.ishr, 1) := by decide +kernel
theorem dX2_measure_37 : decode cX2_measure 37 = .ok (.iconst 1, 1) := by decide +kernel
theorem dX2_measure_38 : decode cX2_measure 38 = .ok (.iand, 1) := by decide +kernel
theorem dX2_measure_39 : decode cX2_measure 39 = .ok (.iconst 1, 1) := by decide +kernel
theorem dX2_measure_40 : decode cX2_measure 40 = .ok (.if_icmp .ne 32, 3) := by decide +kernel
theorem dX2_measure_43 : decode cX2_measure 43 = .ok (.aload_n 0, 1) := by decide +kernel
theorem dX2_measure_44 : decode cX2_measure 44 = .ok (.getfield 9, 3) := by decide +kernel
theorem dX2_measure_47 : decode cX2_measure 47 = .ok (.iload_n 3, 1) := by decide +kernel
theorem dX2_measure_48 : decode cX2_measure 48 = .ok (.bipush 8, 2) := by decide +kernel
theorem dX2_measure_50 : decode cX2_measure 50 = .ok (.imul, 1) := by decide +kernel
theorem dX2_measure_51 : decode cX2_measure 51 = .ok (.iload 5, 2) := by decide +kernel
theorem dX2_measure_53 : decode cX2_measure 53 = .ok (.iadd, 1) := by decide +kernel
theorem dX2_measure_54 : decode cX2_measure 54 = .ok (.aload_n 0, 1) := by decide +kernel
theorem dX2_measure_55 : decode cX2_measure 55 = .ok (.aload_n 1, 1) := by decide +kernel
theorem dX2_measure_56 : decode cX2_measure 56 = .ok (.iload_n 3, 1) := by decide +kernel
theorem dX2_measure_57 : decode cX2_measure 57 = .ok (.iload 5, 2) := by decide +kernel
theorem dX2_measure_59 : decode cX2_measure 59 = .ok (.aload_n 0, 1) := by decide +kernel
theorem dX2_measure_60 : decode cX2_measure 60 = .ok (.aload_n 1, 1) := by decide +kernel
theorem dX2_measure_61 : decode cX2_measure 61 = .ok (.iload_n 3, 1) := by decide +kernel
theorem dX2_measure_62 : decode cX2_measure 62 = .ok (.iload 5, 2) := by decide +kernel
theorem dX2_measure_64 : decode cX2_measure 64 = .ok (.iload_n 2, 1) := by decide +kernel
theorem dX2_measure_65 : decode cX2_measure 65 = .ok (.invokevirtual 19, 3) := by decide +kernel
theorem dX2_measure_68 : decode cX2_measure 68 = .ok (.invokevirtual 23, 3) := by decide +kernel
theorem dX2_measure_71 : decode cX2_measure 71 = .ok (.iastore, 1) := by decide +kernel
theorem dX2_measure_72 : decode cX2_measure 72 = .ok (.iinc 5 1, 3) := by decide +kernel
theorem dX2_measure_75 : decode cX2_measure 75 = .ok (.goto (-56), 3) := by decide +kernel
theorem dX2_measure_78 : decode cX2_measure 78 = .ok (.iinc 3 (-1), 3) := by decide +kernel
theorem dX2_measure_81 : decode cX2_measure 81 = .ok (.goto (-76), 3) := by decide +kernel
theorem dX2_measure_84 : decode cX2_measure 84 = .ok (.return_, 1) := by decide +kernel
