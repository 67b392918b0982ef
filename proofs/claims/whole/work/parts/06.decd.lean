theorem dX9_layWalks_49 : decode cX9_layWalks 49 = .ok (.goto 4, 3) := by decide +kernel
theorem dX9_layWalks_52 : decode cX9_layWalks 52 = .ok (.lconst 0, 1) := by decide +kernel
theorem dX9_layWalks_53 : decode cX9_layWalks 53 = .ok (.lastore, 1) := by decide +kernel
theorem dX9_layWalks_54 : decode cX9_layWalks 54 = .ok (.iconst 0, 1) := by decide +kernel
theorem dX9_layWalks_55 : decode cX9_layWalks 55 = .ok (.istore_n 3, 1) := by decide +kernel
theorem dX9_layWalks_56 : decode cX9_layWalks 56 = .ok (.iload_n 3, 1) := by decide +kernel
theorem dX9_layWalks_57 : decode cX9_layWalks 57 = .ok (.aload_n 0, 1) := by decide +kernel
theorem dX9_layWalks_58 : decode cX9_layWalks 58 = .ok (.getfield 7, 3) := by decide +kernel
theorem dX9_layWalks_61 : decode cX9_layWalks 61 = .ok (.iconst 4, 1) := by decide +kernel
theorem dX9_layWalks_62 : decode cX9_layWalks 62 = .ok (.iaload, 1) := by decide +kernel
theorem dX9_layWalks_63 : decode cX9_layWalks 63 = .ok (.if_icmp .ge 170, 3) := by decide +kernel
theorem dX9_layWalks_66 : decode cX9_layWalks 66 = .ok (.iload_n 2, 1) := by decide +kernel
theorem dX9_layWalks_67 : decode cX9_layWalks 67 = .ok (.iload_n 1, 1) := by decide +kernel
theorem dX9_layWalks_68 : decode cX9_layWalks 68 = .ok (.invokestatic 102, 3) := by decide +kernel
theorem dX9_layWalks_71 : decode cX9_layWalks 71 = .ok (.ifCond .ne 162, 3) := by decide +kernel
theorem dX9_layWalks_74 : decode cX9_layWalks 74 = .ok (.iload_n 2, 1) := by decide +kernel
theorem dX9_layWalks_75 : decode cX9_layWalks 75 = .ok (.iconst 1, 1) := by decide +kernel
theorem dX9_layWalks_76 : decode cX9_layWalks 76 = .ok (.aload_n 0, 1) := by decide +kernel
theorem dX9_layWalks_77 : decode cX9_layWalks 77 = .ok (.getfield 7, 3) := by decide +kernel
theorem dX9_layWalks_80 : decode cX9_layWalks 80 = .ok (.bipush 25, 2) := by decide +kernel
theorem dX9_layWalks_82 : decode cX9_layWalks 82 = .ok (.iload_n 3, 1) := by decide +kernel
theorem dX9_layWalks_83 : decode cX9_layWalks 83 = .ok (.iadd, 1) := by decide +kernel
theorem dX9_layWalks_84 : decode cX9_layWalks 84 = .ok (.iaload, 1) := by decide +kernel
theorem dX9_layWalks_85 : decode cX9_layWalks 85 = .ok (.ishl, 1) := by decide +kernel
theorem dX9_layWalks_86 : decode cX9_layWalks 86 = .ok (.ior, 1) := by decide +kernel
theorem dX9_layWalks_87 : decode cX9_layWalks 87 = .ok (.istore 4, 2) := by decide +kernel
theorem dX9_layWalks_89 : decode cX9_layWalks 89 = .ok (.aload_n 0, 1) := by decide +kernel
theorem dX9_layWalks_90 : decode cX9_layWalks 90 = .ok (.iload_n 2, 1) := by decide +kernel
theorem dX9_layWalks_91 : decode cX9_layWalks 91 = .ok (.iload_n 3, 1) := by decide +kernel
theorem dX9_layWalks_92 : decode cX9_layWalks 92 = .ok (.invokevirtual 139, 3) := by decide +kernel
theorem dX9_layWalks_95 : decode cX9_layWalks 95 = .ok (.ifCond .eq 132, 3) := by decide +kernel
theorem dX9_layWalks_98 : decode cX9_layWalks 98 = .ok (.aload_n 0, 1) := by decide +kernel
theorem dX9_layWalks_99 : decode cX9_layWalks 99 = .ok (.getfield 26, 3) := by decide +kernel
theorem dX9_layWalks_102 : decode cX9_layWalks 102 = .ok (.iload 4, 2) := by decide +kernel
theorem dX9_layWalks_104 : decode cX9_layWalks 104 = .ok (.iaload, 1) := by decide +kernel
theorem dX9_layWalks_105 : decode cX9_layWalks 105 = .ok (.bipush 100, 2) := by decide +kernel
theorem dX9_layWalks_107 : decode cX9_layWalks 107 = .ok (.if_icmp .ge 120, 3) := by decide +kernel
theorem dX9_layWalks_110 : decode cX9_layWalks 110 = .ok (.aload_n 0, 1) := by decide +kernel
theorem dX9_layWalks_111 : decode cX9_layWalks 111 = .ok (.getfield 22, 3) := by decide +kernel
theorem dX9_layWalks_114 : decode cX9_layWalks 114 = .ok (.iload_n 2, 1) := by decide +kernel
theorem dX9_layWalks_115 : decode cX9_layWalks 115 = .ok (.aload_n 0, 1) := by decide +kernel
theorem dX9_layWalks_116 : decode cX9_layWalks 116 = .ok (.getfield 26, 3) := by decide +kernel
theorem dX9_layWalks_119 : decode cX9_layWalks 119 = .ok (.iload 4, 2) := by decide +kernel
theorem dX9_layWalks_121 : decode cX9_layWalks 121 = .ok (.iaload, 1) := by decide +kernel
theorem dX9_layWalks_122 : decode cX9_layWalks 122 = .ok (.iconst 1, 1) := by decide +kernel
theorem dX9_layWalks_123 : decode cX9_layWalks 123 = .ok (.iadd, 1) := by decide +kernel
theorem dX9_layWalks_124 : decode cX9_layWalks 124 = .ok (.aload_n 0, 1) := by decide +kernel
theorem dX9_layWalks_125 : decode cX9_layWalks 125 = .ok (.getfield 26, 3) := by decide +kernel
theorem dX9_layWalks_128 : decode cX9_layWalks 128 = .ok (.iload_n 2, 1) := by decide +kernel
theorem dX9_layWalks_129 : decode cX9_layWalks 129 = .ok (.iaload, 1) := by decide +kernel
theorem dX9_layWalks_130 : decode cX9_layWalks 130 = .ok (.if_icmp .ge 13, 3) := by decide +kernel
theorem dX9_layWalks_133 : decode cX9_layWalks 133 = .ok (.aload_n 0, 1) := by decide +kernel
theorem dX9_layWalks_134 : decode cX9_layWalks 134 = .ok (.getfield 22, 3) := by decide +kernel
theorem dX9_layWalks_137 : decode cX9_layWalks 137 = .ok (.iload 4, 2) := by decide +kernel
theorem dX9_layWalks_139 : decode cX9_layWalks 139 = .ok (.laload, 1) := by decide +kernel
theorem dX9_layWalks_140 : decode cX9_layWalks 140 = .ok (.goto 44, 3) := by decide +kernel
theorem dX9_layWalks_143 : decode cX9_layWalks 143 = .ok (.aload_n 0, 1) := by decide +kernel
theorem dX9_layWalks_144 : decode cX9_layWalks 144 = .ok (.getfield 26, 3) := by decide +kernel
theorem dX9_layWalks_147 : decode cX9_layWalks 147 = .ok (.iload 4, 2) := by decide +kernel
theorem dX9_layWalks_149 : decode cX9_layWalks 149 = .ok (.iaload, 1) := by decide +kernel
theorem dX9_layWalks_150 : decode cX9_layWalks 150 = .ok (.iconst 1, 1) := by decide +kernel
theorem dX9_layWalks_151 : decode cX9_layWalks 151 = .ok (.iadd, 1) := by decide +kernel
theorem dX9_layWalks_152 : decode cX9_layWalks 152 = .ok (.aload_n 0, 1) := by decide +kernel
theorem dX9_layWalks_153 : decode cX9_layWalks 153 = .ok (.getfield 26, 3) := by decide +kernel
theorem dX9_layWalks_156 : decode cX9_layWalks 156 = .ok (.iload_n 2, 1) := by decide +kernel
theorem dX9_layWalks_157 : decode cX9_layWalks 157 = .ok (.iaload, 1) := by decide +kernel
theorem dX9_layWalks_158 : decode cX9_layWalks 158 = .ok (.if_icmp .ne 20, 3) := by decide +kernel
theorem dX9_layWalks_161 : decode cX9_layWalks 161 = .ok (.aload_n 0, 1) := by decide +kernel
theorem dX9_layWalks_162 : decode cX9_layWalks 162 = .ok (.getfield 22, 3) := by decide +kernel
theorem dX9_layWalks_165 : decode cX9_layWalks 165 = .ok (.iload_n 2, 1) := by decide +kernel
theorem dX9_layWalks_166 : decode cX9_layWalks 166 = .ok (.laload, 1) := by decide +kernel
theorem dX9_layWalks_167 : decode cX9_layWalks 167 = .ok (.aload_n 0, 1) := by decide +kernel
theorem dX9_layWalks_168 : decode cX9_layWalks 168 = .ok (.getfield 22, 3) := by decide +kernel
theorem dX9_layWalks_171 : decode cX9_layWalks 171 = .ok (.iload 4, 2) := by decide +kernel
theorem dX9_layWalks_173 : decode cX9_layWalks 173 = .ok (.laload, 1) := by decide +kernel
theorem dX9_layWalks_174 : decode cX9_layWalks 174 = .ok (.ladd, 1) := by decide +kernel
theorem dX9_layWalks_175 : decode cX9_layWalks 175 = .ok (.goto 9, 3) := by decide +kernel
theorem dX9_layWalks_178 : decode cX9_layWalks 178 = .ok (.aload_n 0, 1) := by decide +kernel
theorem dX9_layWalks_179 : decode cX9_layWalks 179 = .ok (.getfield 22, 3) := by decide +kernel
theorem dX9_layWalks_182 : decode cX9_layWalks 182 = .ok (.iload_n 2, 1) := by decide +kernel
theorem dX9_layWalks_183 : decode cX9_layWalks 183 = .ok (.laload, 1) := by decide +kernel
theorem dX9_layWalks_184 : decode cX9_layWalks 184 = .ok (.lastore, 1) := by decide +kernel
theorem dX9_layWalks_185 : decode cX9_layWalks 185 = .ok (.aload_n 0, 1) := by decide +kernel
theorem dX9_layWalks_186 : decode cX9_layWalks 186 = .ok (.getfield 26, 3) := by decide +kernel
theorem dX9_layWalks_189 : decode cX9_layWalks 189 = .ok (.iload_n 2, 1) := by decide +kernel
theorem dX9_layWalks_190 : decode cX9_layWalks 190 = .ok (.aload_n 0, 1) := by decide +kernel
theorem dX9_layWalks_191 : decode cX9_layWalks 191 = .ok (.getfield 26, 3) := by decide +kernel
theorem dX9_layWalks_194 : decode cX9_layWalks 194 = .ok (.iload 4, 2) := by decide +kernel
theorem dX9_layWalks_196 : decode cX9_layWalks 196 = .ok (.iaload, 1) := by decide +kernel
theorem dX9_layWalks_197 : decode cX9_layWalks 197 = .ok (.iconst 1, 1) := by decide +kernel
theorem dX9_layWalks_198 : decode cX9_layWalks 198 = .ok (.iadd, 1) := by decide +kernel
theorem dX9_layWalks_199 : decode cX9_layWalks 199 = .ok (.aload_n 0, 1) := by decide +kernel
theorem dX9_layWalks_200 : decode cX9_layWalks 200 = .ok (.getfield 26, 3) := by decide +kernel
theorem dX9_layWalks_203 : decode cX9_layWalks 203 = .ok (.iload_n 2, 1) := by decide +kernel
theorem dX9_layWalks_204 : decode cX9_layWalks 204 = .ok (.iaload, 1) := by decide +kernel
theorem dX9_layWalks_205 : decode cX9_layWalks 205 = .ok (.if_icmp .ge 15, 3) := by decide +kernel
theorem dX9_layWalks_208 : decode cX9_layWalks 208 = .ok (.aload_n 0, 1) := by decide +kernel
theorem dX9_layWalks_209 : decode cX9_layWalks 209 = .ok (.getfield 26, 3) := by decide +kernel
theorem dX9_layWalks_212 : decode cX9_layWalks 212 = .ok (.iload 4, 2) := by decide +kernel
theorem dX9_layWalks_214 : decode cX9_layWalks 214 = .ok (.iaload, 1) := by decide +kernel
theorem dX9_layWalks_215 : decode cX9_layWalks 215 = .ok (.iconst 1, 1) := by decide +kernel
theorem dX9_layWalks_216 : decode cX9_layWalks 216 = .ok (.iadd, 1) := by decide +kernel
theorem dX9_layWalks_217 : decode cX9_layWalks 217 = .ok (.goto 9, 3) := by decide +kernel
theorem dX9_layWalks_220 : decode cX9_layWalks 220 = .ok (.aload_n 0, 1) := by decide +kernel
theorem dX9_layWalks_221 : decode cX9_layWalks 221 = .ok (.getfield 26, 3) := by decide +kernel
theorem dX9_layWalks_224 : decode cX9_layWalks 224 = .ok (.iload_n 2, 1) := by decide +kernel
theorem dX9_layWalks_225 : decode cX9_layWalks 225 = .ok (.iaload, 1) := by decide +kernel
theorem dX9_layWalks_226 : decode cX9_layWalks 226 = .ok (.iastore, 1) := by decide +kernel
theorem dX9_layWalks_227 : decode cX9_layWalks 227 = .ok (.iinc 3 1, 3) := by decide +kernel
theorem dX9_layWalks_230 : decode cX9_layWalks 230 = .ok (.goto (-174), 3) := by decide +kernel
theorem dX9_layWalks_233 : decode cX9_layWalks 233 = .ok (.iinc 2 (-1), 3) := by decide +kernel
theorem dX9_layWalks_236 : decode cX9_layWalks 236 = .ok (.goto (-225), 3) := by decide +kernel
theorem dX9_layWalks_239 : decode cX9_layWalks 239 = .ok (.return_, 1) := by decide +kernel
theorem dX9_walk_0 : decode cX9_walk 0 = .ok (.aload_n 0, 1) := by decide +kernel
theorem dX9_walk_1 : decode cX9_walk 1 = .ok (.iload_n 1, 1) := by decide +kernel
theorem dX9_walk_2 : decode cX9_walk 2 = .ok (.invokevirtual 106, 3) := by decide +kernel
theorem dX9_walk_5 : decode cX9_walk 5 = .ok (.ifCond .eq 15, 3) := by decide +kernel
theorem dX9_walk_8 : decode cX9_walk 8 = .ok (.iload_n 2, 1) := by decide +kernel
theorem dX9_walk_9 : decode cX9_walk 9 = .ok (.i2l, 1) := by decide +kernel
theorem dX9_walk_10 : decode cX9_walk 10 = .ok (.lconst 0, 1) := by decide +kernel
theorem dX9_walk_11 : decode cX9_walk 11 = .ok (.ldc2_w 142, 3) := by decide +kernel
theorem dX9_walk_14 : decode cX9_walk 14 = .ok (.invokestatic 43, 3) := by decide +kernel
theorem dX9_walk_17 : decode cX9_walk 17 = .ok (.ifCond .ne 7, 3) := by decide +kernel
theorem dX9_walk_20 : decode cX9_walk 20 = .ok (.ldc2_w 144, 3) := by decide +kernel
theorem dX9_walk_23 : decode cX9_walk 23 = .ok (.lreturn, 1) := by decide +kernel
theorem dX9_walk_24 : decode cX9_walk 24 = .ok (.aload_n 0, 1) := by decide +kernel
theorem dX9_walk_25 : decode cX9_walk 25 = .ok (.iload_n 1, 1) := by decide +kernel
theorem dX9_walk_26 : decode cX9_walk 26 = .ok (.invokevirtual 146, 3) := by decide +kernel
theorem dX9_walk_29 : decode cX9_walk 29 = .ok (.aload_n 0, 1) := by decide +kernel
theorem dX9_walk_30 : decode cX9_walk 30 = .ok (.getfield 7, 3) := by decide +kernel
theorem dX9_walk_33 : decode cX9_walk 33 = .ok (.iconst 3, 1) := by decide +kernel
theorem dX9_walk_34 : decode cX9_walk 34 = .ok (.iaload, 1) := by decide +kernel
theorem dX9_walk_35 : decode cX9_walk 35 = .ok (.istore_n 3, 1) := by decide +kernel
theorem dX9_walk_36 : decode cX9_walk 36 = .ok (.aload_n 0, 1) := by decide +kernel
theorem dX9_walk_37 : decode cX9_walk 37 = .ok (.getfield 26, 3) := by decide +kernel
theorem dX9_walk_40 : decode cX9_walk 40 = .ok (.iload_n 3, 1) := by decide +kernel
theorem dX9_walk_41 : decode cX9_walk 41 = .ok (.iaload, 1) := by decide +kernel
theorem dX9_walk_42 : decode cX9_walk 42 = .ok (.bipush 100, 2) := by decide +kernel
theorem dX9_walk_44 : decode cX9_walk 44 = .ok (.if_icmp .ne 7, 3) := by decide +kernel
theorem dX9_walk_47 : decode cX9_walk 47 = .ok (.ldc2_w 149, 3) := by decide +kernel
theorem dX9_walk_50 : decode cX9_walk 50 = .ok (.lreturn, 1) := by decide +kernel
theorem dX9_walk_51 : decode cX9_walk 51 = .ok (.bipush (-4), 2) := by decide +kernel
theorem dX9_walk_53 : decode cX9_walk 53 = .ok (.istore 4, 2) := by decide +kernel
theorem dX9_walk_55 : decode cX9_walk 55 = .ok (.aload_n 0, 1) := by decide +kernel
theorem dX9_walk_56 : decode cX9_walk 56 = .ok (.getfield 7, 3) := by decide +kernel
theorem dX9_walk_59 : decode cX9_walk 59 = .ok (.iconst 4, 1) := by decide +kernel
theorem dX9_walk_60 : decode cX9_walk 60 = .ok (.iaload, 1) := by decide +kernel
theorem dX9_walk_61 : decode cX9_walk 61 = .ok (.iconst 1, 1) := by decide +kernel
theorem dX9_walk_62 : decode cX9_walk 62 = .ok (.isub, 1) := by decide +kernel
theorem dX9_walk_63 : decode cX9_walk 63 = .ok (.istore 5, 2) := by decide +kernel
theorem dX9_walk_65 : decode cX9_walk 65 = .ok (.iload 5, 2) := by decide +kernel
theorem dX9_walk_67 : decode cX9_walk 67 = .ok (.ifCond .lt 79, 3) := by decide +kernel
theorem dX9_walk_70 : decode cX9_walk 70 = .ok (.aload_n 0, 1) := by decide +kernel
theorem dX9_walk_71 : decode cX9_walk 71 = .ok (.getfield 26, 3) := by decide +kernel
theorem dX9_walk_74 : decode cX9_walk 74 = .ok (.iload_n 3, 1) := by decide +kernel
theorem dX9_walk_75 : decode cX9_walk 75 = .ok (.iaload, 1) := by decide +kernel
theorem dX9_walk_76 : decode cX9_walk 76 = .ok (.ifCond .le 47, 3) := by decide +kernel
theorem dX9_walk_79 : decode cX9_walk 79 = .ok (.aload_n 0, 1) := by decide +kernel
theorem dX9_walk_80 : decode cX9_walk 80 = .ok (.iload_n 3, 1) := by decide +kernel
theorem dX9_walk_81 : decode cX9_walk 81 = .ok (.iload 5, 2) := by decide +kernel
theorem dX9_walk_83 : decode cX9_walk 83 = .ok (.invokevirtual 139, 3) := by decide +kernel
theorem dX9_walk_86 : decode cX9_walk 86 = .ok (.ifCond .eq 37, 3) := by decide +kernel
theorem dX9_walk_89 : decode cX9_walk 89 = .ok (.aload_n 0, 1) := by decide +kernel
theorem dX9_walk_90 : decode cX9_walk 90 = .ok (.getfield 26, 3) := by decide +kernel
theorem dX9_walk_93 : decode cX9_walk 93 = .ok (.iload_n 3, 1) := by decide +kernel
theorem dX9_walk_94 : decode cX9_walk 94 = .ok (.iconst 1, 1) := by decide +kernel
theorem dX9_walk_95 : decode cX9_walk 95 = .ok (.aload_n 0, 1) := by decide +kernel
theorem dX9_walk_96 : decode cX9_walk 96 = .ok (.getfield 7, 3) := by decide +kernel
theorem dX9_walk_99 : decode cX9_walk 99 = .ok (.bipush 25, 2) := by decide +kernel
theorem dX9_walk_101 : decode cX9_walk 101 = .ok (.iload 5, 2) := by decide +kernel
theorem dX9_walk_103 : decode cX9_walk 103 = .ok (.iadd, 1) := by decide +kernel
theorem dX9_walk_104 : decode cX9_walk 104 = .ok (.iaload, 1) := by decide +kernel
theorem dX9_walk_105 : decode cX9_walk 105 = .ok (.ishl, 1) := by decide +kernel
theorem dX9_walk_106 : decode cX9_walk 106 = .ok (.ior, 1) := by decide +kernel
theorem dX9_walk_107 : decode cX9_walk 107 = .ok (.iaload, 1) := by decide +kernel
theorem dX9_walk_108 : decode cX9_walk 108 = .ok (.aload_n 0, 1) := by decide +kernel
theorem dX9_walk_109 : decode cX9_walk 109 = .ok (.getfield 26, 3) := by decide +kernel
theorem dX9_walk_112 : decode cX9_walk 112 = .ok (.iload_n 3, 1) := by decide +kernel
theorem dX9_walk_113 : decode cX9_walk 113 = .ok (.iaload, 1) := by decide +kernel
theorem dX9_walk_114 : decode cX9_walk 114 = .ok (.iconst 1, 1) := by decide +kernel
theorem dX9_walk_115 : decode cX9_walk 115 = .ok (.isub, 1) := by decide +kernel
theorem dX9_walk_116 : decode cX9_walk 116 = .ok (.if_icmp .ne 7, 3) := by decide +kernel
theorem dX9_walk_119 : decode cX9_walk 119 = .ok (.iconst 1, 1) := by decide +kernel
theorem dX9_walk_120 : decode cX9_walk 120 = .ok (.goto 4, 3) := by decide +kernel
theorem dX9_walk_123 : decode cX9_walk 123 = .ok (.iconst 0, 1) := by decide +kernel
theorem dX9_walk_124 : decode cX9_walk 124 = .ok (.istore 6, 2) := by decide +kernel
theorem dX9_walk_126 : decode cX9_walk 126 = .ok (.iload 6, 2) := by decide +kernel
theorem dX9_walk_128 : decode cX9_walk 128 = .ok (.ifCond .eq 8, 3) := by decide +kernel
theorem dX9_walk_131 : decode cX9_walk 131 = .ok (.iload 5, 2) := by decide +kernel
theorem dX9_walk_133 : decode cX9_walk 133 = .ok (.goto 5, 3) := by decide +kernel
theorem dX9_walk_136 : decode cX9_walk 136 = .ok (.iload 4, 2) := by decide +kernel
theorem dX9_walk_138 : decode cX9_walk 138 = .ok (.istore 4, 2) := by decide +kernel
theorem dX9_walk_140 : decode cX9_walk 140 = .ok (.iinc 5 (-1), 3) := by decide +kernel
theorem dX9_walk_143 : decode cX9_walk 143 = .ok (.goto (-78), 3) := by decide +kernel
theorem dX9_walk_146 : decode cX9_walk 146 = .ok (.iload_n 2, 1) := by decide +kernel
theorem dX9_walk_147 : decode cX9_walk 147 = .ok (.ifCond .ne 13, 3) := by decide +kernel
theorem dX9_walk_150 : decode cX9_walk 150 = .ok (.aload_n 0, 1) := by decide +kernel
theorem dX9_walk_151 : decode cX9_walk 151 = .ok (.getfield 26, 3) := by decide +kernel
theorem dX9_walk_154 : decode cX9_walk 154 = .ok (.iload_n 3, 1) := by decide +kernel
theorem dX9_walk_155 : decode cX9_walk 155 = .ok (.iaload, 1) := by decide +kernel
theorem dX9_walk_156 : decode cX9_walk 156 = .ok (.i2l, 1) := by decide +kernel
theorem dX9_walk_157 : decode cX9_walk 157 = .ok (.goto 20, 3) := by decide +kernel
theorem dX9_walk_160 : decode cX9_walk 160 = .ok (.iload_n 2, 1) := by decide +kernel
theorem dX9_walk_161 : decode cX9_walk 161 = .ok (.iconst 1, 1) := by decide +kernel
theorem dX9_walk_162 : decode cX9_walk 162 = .ok (.if_icmp .ne 9, 3) := by decide +kernel
theorem dX9_walk_165 : decode cX9_walk 165 = .ok (.iload 4, 2) := by decide +kernel
theorem dX9_walk_167 : decode cX9_walk 167 = .ok (.i2l, 1) := by decide +kernel
theorem dX9_walk_168 : decode cX9_walk 168 = .ok (.goto 9, 3) := by decide +kernel
theorem dX9_walk_171 : decode cX9_walk 171 = .ok (.aload_n 0, 1) := by decide +kernel
theorem dX9_walk_172 : decode cX9_walk 172 = .ok (.getfield 22, 3) := by decide +kernel
theorem dX9_walk_175 : decode cX9_walk 175 = .ok (.iload_n 3, 1) := by decide +kernel
theorem dX9_walk_176 : decode cX9_walk 176 = .ok (.laload, 1) := by decide +kernel
theorem dX9_walk_177 : decode cX9_walk 177 = .ok (.lreturn, 1) := by decide +kernel
theorem dX9_round_0 : decode cX9_round 0 = .ok (.aload_n 0, 1) := by decide +kernel
theorem dX9_round_1 : decode cX9_round 1 = .ok (.iload_n 1, 1) := by decide +kernel
theorem dX9_round_2 : decode cX9_round 2 = .ok (.invokevirtual 106, 3) := by decide +kernel
theorem dX9_round_5 : decode cX9_round 5 = .ok (.ifCond .ne 5, 3) := by decide +kernel
theorem dX9_round_8 : decode cX9_round 8 = .ok (.iconst (-1), 1) := by decide +kernel
theorem dX9_round_9 : decode cX9_round 9 = .ok (.ireturn, 1) := by decide +kernel
theorem dX9_round_10 : decode cX9_round 10 = .ok (.aload_n 0, 1) := by decide +kernel
theorem dX9_round_11 : decode cX9_round 11 = .ok (.getfield 7, 3) := by decide +kernel
theorem dX9_round_14 : decode cX9_round 14 = .ok (.iconst 3, 1) := by decide +kernel
theorem dX9_round_15 : decode cX9_round 15 = .ok (.iaload, 1) := by decide +kernel
theorem dX9_round_16 : decode cX9_round 16 = .ok (.istore_n 2, 1) := by decide +kernel
theorem dX9_round_17 : decode cX9_round 17 = .ok (.iconst 0, 1) := by decide +kernel
theorem dX9_round_18 : decode cX9_round 18 = .ok (.istore_n 3, 1) := by decide +kernel
theorem dX9_round_19 : decode cX9_round 19 = .ok (.iload_n 3, 1) := by decide +kernel
theorem dX9_round_20 : decode cX9_round 20 = .ok (.bipush 10, 2) := by decide +kernel
theorem dX9_round_22 : decode cX9_round 22 = .ok (.if_icmp .gt 76, 3) := by decide +kernel
theorem dX9_round_25 : decode cX9_round 25 = .ok (.iload_n 2, 1) := by decide +kernel
theorem dX9_round_26 : decode cX9_round 26 = .ok (.iload_n 1, 1) := by decide +kernel
theorem dX9_round_27 : decode cX9_round 27 = .ok (.invokestatic 102, 3) := by decide +kernel
theorem dX9_round_30 : decode cX9_round 30 = .ok (.ifCond .eq 5, 3) := by decide +kernel
theorem dX9_round_33 : decode cX9_round 33 = .ok (.iload_n 3, 1) := by decide +kernel
theorem dX9_round_34 : decode cX9_round 34 = .ok (.ireturn, 1) := by decide +kernel
theorem dX9_round_35 : decode cX9_round 35 = .ok (.iload_n 2, 1) := by decide +kernel
theorem dX9_round_36 : decode cX9_round 36 = .ok (.istore 4, 2) := by decide +kernel
theorem dX9_round_38 : decode cX9_round 38 = .ok (.iconst 0, 1) := by decide +kernel
theorem dX9_round_39 : decode cX9_round 39 = .ok (.istore 5, 2) := by decide +kernel
theorem dX9_round_41 : decode cX9_round 41 = .ok (.iload 5, 2) := by decide +kernel
theorem dX9_round_43 : decode cX9_round 43 = .ok (.aload_n 0, 1) := by decide +kernel
theorem dX9_round_44 : decode cX9_round 44 = .ok (.getfield 7, 3) := by decide +kernel
theorem dX9_round_47 : decode cX9_round 47 = .ok (.iconst 4, 1) := by decide +kernel
theorem dX9_round_48 : decode cX9_round 48 = .ok (.iaload, 1) := by decide +kernel
theorem dX9_round_49 : decode cX9_round 49 = .ok (.if_icmp .ge 40, 3) := by decide +kernel
theorem dX9_round_52 : decode cX9_round 52 = .ok (.iload 4, 2) := by decide +kernel
theorem dX9_round_54 : decode cX9_round 54 = .ok (.aload_n 0, 1) := by decide +kernel
theorem dX9_round_55 : decode cX9_round 55 = .ok (.iload_n 2, 1) := by decide +kernel
theorem dX9_round_56 : decode cX9_round 56 = .ok (.iload 5, 2) := by decide +kernel
theorem dX9_round_58 : decode cX9_round 58 = .ok (.invokevirtual 139, 3) := by decide +kernel
theorem dX9_round_61 : decode cX9_round 61 = .ok (.ifCond .eq 18, 3) := by decide +kernel
theorem dX9_round_64 : decode cX9_round 64 = .ok (.iconst 1, 1) := by decide +kernel
theorem dX9_round_65 : decode cX9_round 65 = .ok (.aload_n 0, 1) := by decide +kernel
theorem dX9_round_66 : decode cX9_round 66 = .ok (.getfield 7, 3) := by decide +kernel
theorem dX9_round_69 : decode cX9_round 69 = .ok (.bipush 25, 2) := by decide +kernel
theorem dX9_round_71 : decode cX9_round 71 = .ok (.iload 5, 2) := by decide +kernel
theorem dX9_round_73 : decode cX9_round 73 = .ok (.iadd, 1) := by decide +kernel
theorem dX9_round_74 : decode cX9_round 74 = .ok (.iaload, 1) := by decide +kernel
theorem dX9_round_75 : decode cX9_round 75 = .ok (.ishl, 1) := by decide +kernel
theorem dX9_round_76 : decode cX9_round 76 = .ok (.goto 4, 3) := by decide +kernel
theorem dX9_round_79 : decode cX9_round 79 = .ok (.iconst 0, 1) := by decide +kernel
theorem dX9_round_80 : decode cX9_round 80 = .ok (.ior, 1) := by decide +kernel
theorem dX9_round_81 : decode cX9_round 81 = .ok (.istore 4, 2) := by decide +kernel
theorem dX9_round_83 : decode cX9_round 83 = .ok (.iinc 5 1, 3) := by decide +kernel
theorem dX9_round_86 : decode cX9_round 86 = .ok (.goto (-45), 3) := by decide +kernel
theorem dX9_round_89 : decode cX9_round 89 = .ok (.iload 4, 2) := by decide +kernel
theorem dX9_round_91 : decode cX9_round 91 = .ok (.istore_n 2, 1) := by decide +kernel
theorem dX9_round_92 : decode cX9_round 92 = .ok (.iinc 3 1, 3) := by decide +kernel
theorem dX9_round_95 : decode cX9_round 95 = .ok (.goto (-76), 3) := by decide +kernel
theorem dX9_round_98 : decode cX9_round 98 = .ok (.bipush (-4), 2) := by decide +kernel
theorem dX9_round_100 : decode cX9_round 100 = .ok (.ireturn, 1) := by decide +kernel
theorem dX9_needs_0 : decode cX9_needs 0 = .ok (.aload_n 0, 1) := by decide +kernel
theorem dX9_needs_1 : decode cX9_needs 1 = .ok (.iload_n 1, 1) := by decide +kernel
theorem dX9_needs_2 : decode cX9_needs 2 = .ok (.invokevirtual 106, 3) := by decide +kernel
theorem dX9_needs_5 : decode cX9_needs 5 = .ok (.ifCond .eq 13, 3) := by decide +kernel
theorem dX9_needs_8 : decode cX9_needs 8 = .ok (.iload_n 2, 1) := by decide +kernel
theorem dX9_needs_9 : decode cX9_needs 9 = .ok (.i2l, 1) := by decide +kernel
theorem dX9_needs_10 : decode cX9_needs 10 = .ok (.lconst 0, 1) := by decide +kernel
theorem dX9_needs_11 : decode cX9_needs 11 = .ok (.lconst 1, 1) := by decide +kernel
theorem dX9_needs_12 : decode cX9_needs 12 = .ok (.invokestatic 43, 3) := by decide +kernel
theorem dX9_needs_15 : decode cX9_needs 15 = .ok (.ifCond .ne 5, 3) := by decide +kernel
theorem dX9_needs_18 : decode cX9_needs 18 = .ok (.iconst (-1), 1) := by decide +kernel
theorem dX9_needs_19 : decode cX9_needs 19 = .ok (.ireturn, 1) := by decide +kernel
theorem dX9_needs_20 : decode cX9_needs 20 = .ok (.aload_n 0, 1) := by decide +kernel
theorem dX9_needs_21 : decode cX9_needs 21 = .ok (.invokevirtual 151, 3) := by decide +kernel
theorem dX9_needs_24 : decode cX9_needs 24 = .ok (.istore_n 3, 1) := by decide +kernel
theorem dX9_needs_25 : decode cX9_needs 25 = .ok (.aload_n 0, 1) := by decide +kernel
theorem dX9_needs_26 : decode cX9_needs 26 = .ok (.iload_n 3, 1) := by decide +kernel
theorem dX9_needs_27 : decode cX9_needs 27 = .ok (.invokevirtual 136, 3) := by decide +kernel
theorem dX9_needs_30 : decode cX9_needs 30 = .ok (.iload_n 1, 1) := by decide +kernel
theorem dX9_needs_31 : decode cX9_needs 31 = .ok (.invokestatic 102, 3) := by decide +kernel
theorem dX9_needs_34 : decode cX9_needs 34 = .ok (.ifCond .ne 6, 3) := by decide +kernel
theorem dX9_needs_37 : decode cX9_needs 37 = .ok (.bipush (-4), 2) := by decide +kernel
theorem dX9_needs_39 : decode cX9_needs 39 = .ok (.ireturn, 1) := by decide +kernel
theorem dX9_needs_40 : decode cX9_needs 40 = .ok (.iconst 0, 1) := by decide +kernel
theorem dX9_needs_41 : decode cX9_needs 41 = .ok (.istore 4, 2) := by decide +kernel
theorem dX9_needs_43 : decode cX9_needs 43 = .ok (.iload_n 3, 1) := by decide +kernel
theorem dX9_needs_44 : decode cX9_needs 44 = .ok (.istore 5, 2) := by decide +kernel
theorem dX9_needs_46 : decode cX9_needs 46 = .ok (.iload_n 3, 1) := by decide +kernel
theorem dX9_needs_47 : decode cX9_needs 47 = .ok (.istore 6, 2) := by decide +kernel
theorem dX9_needs_49 : decode cX9_needs 49 = .ok (.iload 6, 2) := by decide +kernel
theorem dX9_needs_51 : decode cX9_needs 51 = .ok (.ifCond .lt 65, 3) := by decide +kernel
theorem dX9_needs_54 : decode cX9_needs 54 = .ok (.iload 6, 2) := by decide +kernel
theorem dX9_needs_56 : decode cX9_needs 56 = .ok (.iload_n 3, 1) := by decide +kernel
theorem dX9_needs_57 : decode cX9_needs 57 = .ok (.iconst (-1), 1) := by decide +kernel
theorem dX9_needs_58 : decode cX9_needs 58 = .ok (.ixor, 1) := by decide +kernel
theorem dX9_needs_59 : decode cX9_needs 59 = .ok (.iand, 1) := by decide +kernel
theorem dX9_needs_60 : decode cX9_needs 60 = .ok (.ifCond .ne 20, 3) := by decide +kernel
theorem dX9_needs_63 : decode cX9_needs 63 = .ok (.aload_n 0, 1) := by decide +kernel
theorem dX9_needs_64 : decode cX9_needs 64 = .ok (.iload 6, 2) := by decide +kernel
theorem dX9_needs_66 : decode cX9_needs 66 = .ok (.invokevirtual 136, 3) := by decide +kernel
theorem dX9_needs_69 : decode cX9_needs 69 = .ok (.iload_n 1, 1) := by decide +kernel
theorem dX9_needs_70 : decode cX9_needs 70 = .ok (.invokestatic 102, 3) := by decide +kernel
theorem dX9_needs_73 : decode cX9_needs 73 = .ok (.ifCond .eq 7, 3) := by decide +kernel
theorem dX9_needs_76 : decode cX9_needs 76 = .ok (.iconst 1, 1) := by decide +kernel
theorem dX9_needs_77 : decode cX9_needs 77 = .ok (.goto 4, 3) := by decide +kernel
theorem dX9_needs_80 : decode cX9_needs 80 = .ok (.iconst 0, 1) := by decide +kernel
theorem dX9_needs_81 : decode cX9_needs 81 = .ok (.istore 7, 2) := by decide +kernel
theorem dX9_needs_83 : decode cX9_needs 83 = .ok (.iload 7, 2) := by decide +kernel
theorem dX9_needs_85 : decode cX9_needs 85 = .ok (.ifCond .eq 21, 3) := by decide +kernel
theorem dX9_needs_88 : decode cX9_needs 88 = .ok (.iload 6, 2) := by decide +kernel
theorem dX9_needs_90 : decode cX9_needs 90 = .ok (.invokestatic 122, 3) := by decide +kernel
theorem dX9_needs_93 : decode cX9_needs 93 = .ok (.iload 5, 2) := by decide +kernel
theorem dX9_needs_95 : decode cX9_needs 95 = .ok (.invokestatic 122, 3) := by decide +kernel
theorem dX9_needs_98 : decode cX9_needs 98 = .ok (.if_icmp .gt 8, 3) := by decide +kernel
theorem dX9_needs_101 : decode cX9_needs 101 = .ok (.iload 6, 2) := by decide +kernel
theorem dX9_needs_103 : decode cX9_needs 103 = .ok (.goto 5, 3) := by decide +kernel
theorem dX9_needs_106 : decode cX9_needs 106 = .ok (.iload 5, 2) := by decide +kernel
theorem dX9_needs_108 : decode cX9_needs 108 = .ok (.istore 5, 2) := by decide +kernel
theorem dX9_needs_110 : decode cX9_needs 110 = .ok (.iinc 6 (-1), 3) := by decide +kernel
theorem dX9_needs_113 : decode cX9_needs 113 = .ok (.goto (-64), 3) := by decide +kernel
theorem dX9_needs_116 : decode cX9_needs 116 = .ok (.iconst 0, 1) := by decide +kernel
theorem dX9_needs_117 : decode cX9_needs 117 = .ok (.istore 6, 2) := by decide +kernel
theorem dX9_needs_119 : decode cX9_needs 119 = .ok (.iload 6, 2) := by decide +kernel
theorem dX9_needs_121 : decode cX9_needs 121 = .ok (.aload_n 0, 1) := by decide +kernel
theorem dX9_needs_122 : decode cX9_needs 122 = .ok (.getfield 7, 3) := by decide +kernel
theorem dX9_needs_125 : decode cX9_needs 125 = .ok (.iconst 0, 1) := by decide +kernel
theorem dX9_needs_126 : decode cX9_needs 126 = .ok (.iaload, 1) := by decide +kernel
theorem dX9_needs_127 : decode cX9_needs 127 = .ok (.if_icmp .ge 50, 3) := by decide +kernel
theorem dX9_needs_130 : decode cX9_needs 130 = .ok (.iload 4, 2) := by decide +kernel
theorem dX9_needs_132 : decode cX9_needs 132 = .ok (.iload_n 3, 1) := by decide +kernel
theorem dX9_needs_133 : decode cX9_needs 133 = .ok (.iload 6, 2) := by decide +kernel
theorem dX9_needs_135 : decode cX9_needs 135 = .ok (.invokestatic 102, 3) := by decide +kernel
theorem dX9_needs_138 : decode cX9_needs 138 = .ok (.ifCond .eq 29, 3) := by decide +kernel
theorem dX9_needs_141 : decode cX9_needs 141 = .ok (.aload_n 0, 1) := by decide +kernel
theorem dX9_needs_142 : decode cX9_needs 142 = .ok (.iload_n 3, 1) := by decide +kernel
theorem dX9_needs_143 : decode cX9_needs 143 = .ok (.iconst 1, 1) := by decide +kernel
theorem dX9_needs_144 : decode cX9_needs 144 = .ok (.iload 6, 2) := by decide +kernel
theorem dX9_needs_146 : decode cX9_needs 146 = .ok (.ishl, 1) := by decide +kernel
theorem dX9_needs_147 : decode cX9_needs 147 = .ok (.iconst (-1), 1) := by decide +kernel
theorem dX9_needs_148 : decode cX9_needs 148 = .ok (.ixor, 1) := by decide +kernel
theorem dX9_needs_149 : decode cX9_needs 149 = .ok (.iand, 1) := by decide +kernel
theorem dX9_needs_150 : decode cX9_needs 150 = .ok (.invokevirtual 136, 3) := by decide +kernel
theorem dX9_needs_153 : decode cX9_needs 153 = .ok (.iload_n 1, 1) := by decide +kernel
theorem dX9_needs_154 : decode cX9_needs 154 = .ok (.invokestatic 102, 3) := by decide +kernel
theorem dX9_needs_157 : decode cX9_needs 157 = .ok (.ifCond .ne 10, 3) := by decide +kernel
theorem dX9_needs_160 : decode cX9_needs 160 = .ok (.iconst 1, 1) := by decide +kernel
theorem dX9_needs_161 : decode cX9_needs 161 = .ok (.iload 6, 2) := by decide +kernel
theorem dX9_needs_163 : decode cX9_needs 163 = .ok (.ishl, 1) := by decide +kernel
theorem dX9_needs_164 : decode cX9_needs 164 = .ok (.goto 4, 3) := by decide +kernel
theorem dX9_needs_167 : decode cX9_needs 167 = .ok (.iconst 0, 1) := by decide +kernel
theorem dX9_needs_168 : decode cX9_needs 168 = .ok (.ior, 1) := by decide +kernel
theorem dX9_needs_169 : decode cX9_needs 169 = .ok (.istore 4, 2) := by decide +kernel
theorem dX9_needs_171 : decode cX9_needs 171 = .ok (.iinc 6 1, 3) := by decide +kernel
theorem dX9_needs_174 : decode cX9_needs 174 = .ok (.goto (-55), 3) := by decide +kernel
theorem dX9_needs_177 : decode cX9_needs 177 = .ok (.iload_n 2, 1) := by decide +kernel
theorem dX9_needs_178 : decode cX9_needs 178 = .ok (.ifCond .ne 8, 3) := by decide +kernel
theorem dX9_needs_181 : decode cX9_needs 181 = .ok (.iload 4, 2) := by decide +kernel
theorem dX9_needs_183 : decode cX9_needs 183 = .ok (.goto 5, 3) := by decide +kernel
theorem dX9_needs_186 : decode cX9_needs 186 = .ok (.iload 5, 2) := by decide +kernel
theorem dX9_needs_188 : decode cX9_needs 188 = .ok (.ireturn, 1) := by decide +kernel
theorem dX9_lost_0 : decode cX9_lost 0 = .ok (.aload_n 0, 1) := by decide +kernel
theorem dX9_lost_1 : decode cX9_lost 1 = .ok (.iload_n 1, 1) := by decide +kernel
theorem dX9_lost_2 : decode cX9_lost 2 = .ok (.invokevirtual 106, 3) := by decide +kernel
theorem dX9_lost_5 : decode cX9_lost 5 = .ok (.ifCond .ne 5, 3) := by decide +kernel
theorem dX9_lost_8 : decode cX9_lost 8 = .ok (.iconst (-1), 1) := by decide +kernel
theorem dX9_lost_9 : decode cX9_lost 9 = .ok (.ireturn, 1) := by decide +kernel
theorem dX9_lost_10 : decode cX9_lost 10 = .ok (.aload_n 0, 1) := by decide +kernel
theorem dX9_lost_11 : decode cX9_lost 11 = .ok (.getfield 7, 3) := by decide +kernel
theorem dX9_lost_14 : decode cX9_lost 14 = .ok (.iconst 2, 1) := by decide +kernel
theorem dX9_lost_15 : decode cX9_lost 15 = .ok (.iaload, 1) := by decide +kernel
theorem dX9_lost_16 : decode cX9_lost 16 = .ok (.iload_n 1, 1) := by decide +kernel
theorem dX9_lost_17 : decode cX9_lost 17 = .ok (.invokestatic 102, 3) := by decide +kernel
theorem dX9_lost_20 : decode cX9_lost 20 = .ok (.ifCond .ne 6, 3) := by decide +kernel
theorem dX9_lost_23 : decode cX9_lost 23 = .ok (.bipush (-2), 2) := by decide +kernel
theorem dX9_lost_25 : decode cX9_lost 25 = .ok (.ireturn, 1) := by decide +kernel
theorem dX9_lost_26 : decode cX9_lost 26 = .ok (.aload_n 0, 1) := by decide +kernel
theorem dX9_lost_27 : decode cX9_lost 27 = .ok (.aload_n 0, 1) := by decide +kernel
theorem dX9_lost_28 : decode cX9_lost 28 = .ok (.invokevirtual 151, 3) := by decide +kernel
theorem dX9_lost_31 : decode cX9_lost 31 = .ok (.invokevirtual 136, 3) := by decide +kernel
theorem dX9_lost_34 : decode cX9_lost 34 = .ok (.istore_n 2, 1) := by decide +kernel
theorem dX9_lost_35 : decode cX9_lost 35 = .ok (.aload_n 0, 1) := by decide +kernel
theorem dX9_lost_36 : decode cX9_lost 36 = .ok (.aload_n 0, 1) := by decide +kernel
theorem dX9_lost_37 : decode cX9_lost 37 = .ok (.invokevirtual 151, 3) := by decide +kernel
theorem dX9_lost_40 : decode cX9_lost 40 = .ok (.iconst 1, 1) := by decide +kernel
theorem dX9_lost_41 : decode cX9_lost 41 = .ok (.iload_n 1, 1) := by decide +kernel
theorem dX9_lost_42 : decode cX9_lost 42 = .ok (.ishl, 1) := by decide +kernel
theorem dX9_lost_43 : decode cX9_lost 43 = .ok (.iconst (-1), 1) := by decide +kernel
theorem dX9_lost_44 : decode cX9_lost 44 = .ok (.ixor, 1) := by decide +kernel
theorem dX9_lost_45 : decode cX9_lost 45 = .ok (.iand, 1) := by decide +kernel
theorem dX9_lost_46 : decode cX9_lost 46 = .ok (.aload_n 0, 1) := by decide +kernel
theorem dX9_lost_47 : decode cX9_lost 47 = .ok (.invokevirtual 126, 3) := by decide +kernel
theorem dX9_lost_50 : decode cX9_lost 50 = .ok (.aload_n 0, 1) := by decide +kernel
theorem dX9_lost_51 : decode cX9_lost 51 = .ok (.getfield 7, 3) := by decide +kernel
theorem dX9_lost_54 : decode cX9_lost 54 = .ok (.iconst 2, 1) := by decide +kernel
theorem dX9_lost_55 : decode cX9_lost 55 = .ok (.iaload, 1) := by decide +kernel
theorem dX9_lost_56 : decode cX9_lost 56 = .ok (.iconst 1, 1) := by decide +kernel
theorem dX9_lost_57 : decode cX9_lost 57 = .ok (.iload_n 1, 1) := by decide +kernel
theorem dX9_lost_58 : decode cX9_lost 58 = .ok (.ishl, 1) := by decide +kernel
theorem dX9_lost_59 : decode cX9_lost 59 = .ok (.iconst (-1), 1) := by decide +kernel
theorem dX9_lost_60 : decode cX9_lost 60 = .ok (.ixor, 1) := by decide +kernel
theorem dX9_lost_61 : decode cX9_lost 61 = .ok (.iand, 1) := by decide +kernel
theorem dX9_lost_62 : decode cX9_lost 62 = .ok (.invokevirtual 129, 3) := by decide +kernel
theorem dX9_lost_65 : decode cX9_lost 65 = .ok (.istore_n 3, 1) := by decide +kernel
theorem dX9_lost_66 : decode cX9_lost 66 = .ok (.iload_n 2, 1) := by decide +kernel
theorem dX9_lost_67 : decode cX9_lost 67 = .ok (.iload_n 3, 1) := by decide +kernel
theorem dX9_lost_68 : decode cX9_lost 68 = .ok (.iconst (-1), 1) := by decide +kernel
theorem dX9_lost_69 : decode cX9_lost 69 = .ok (.ixor, 1) := by decide +kernel
theorem dX9_lost_70 : decode cX9_lost 70 = .ok (.iand, 1) := by decide +kernel
theorem dX9_lost_71 : decode cX9_lost 71 = .ok (.iconst 1, 1) := by decide +kernel
theorem dX9_lost_72 : decode cX9_lost 72 = .ok (.iload_n 1, 1) := by decide +kernel
theorem dX9_lost_73 : decode cX9_lost 73 = .ok (.ishl, 1) := by decide +kernel
theorem dX9_lost_74 : decode cX9_lost 74 = .ok (.iconst (-1), 1) := by decide +kernel
theorem dX9_lost_75 : decode cX9_lost 75 = .ok (.ixor, 1) := by decide +kernel
theorem dX9_lost_76 : decode cX9_lost 76 = .ok (.iand, 1) := by decide +kernel
theorem dX9_lost_77 : decode cX9_lost 77 = .ok (.ireturn, 1) := by decide +kernel
theorem dX9_begins_0 : decode cX9_begins 0 = .ok (.bipush (-4), 2) := by decide +kernel
theorem dX9_begins_2 : decode cX9_begins 2 = .ok (.istore_n 2, 1) := by decide +kernel
theorem dX9_begins_3 : decode cX9_begins 3 = .ok (.iconst 0, 1) := by decide +kernel
theorem dX9_begins_4 : decode cX9_begins 4 = .ok (.istore_n 3, 1) := by decide +kernel
theorem dX9_begins_5 : decode cX9_begins 5 = .ok (.iload_n 3, 1) := by decide +kernel
theorem dX9_begins_6 : decode cX9_begins 6 = .ok (.iconst 1, 1) := by decide +kernel
theorem dX9_begins_7 : decode cX9_begins 7 = .ok (.aload_n 0, 1) := by decide +kernel
theorem dX9_begins_8 : decode cX9_begins 8 = .ok (.getfield 7, 3) := by decide +kernel
theorem dX9_begins_11 : decode cX9_begins 11 = .ok (.iconst 0, 1) := by decide +kernel
theorem dX9_begins_12 : decode cX9_begins 12 = .ok (.iaload, 1) := by decide +kernel
theorem dX9_begins_13 : decode cX9_begins 13 = .ok (.ishl, 1) := by decide +kernel
theorem dX9_begins_14 : decode cX9_begins 14 = .ok (.if_icmp .ge 82, 3) := by decide +kernel
theorem dX9_begins_17 : decode cX9_begins 17 = .ok (.iload_n 3, 1) := by decide +kernel
theorem dX9_begins_18 : decode cX9_begins 18 = .ok (.aload_n 0, 1) := by decide +kernel
theorem dX9_begins_19 : decode cX9_begins 19 = .ok (.getfield 7, 3) := by decide +kernel
theorem dX9_begins_22 : decode cX9_begins 22 = .ok (.iconst 2, 1) := by decide +kernel
theorem dX9_begins_23 : decode cX9_begins 23 = .ok (.iaload, 1) := by decide +kernel
theorem dX9_begins_24 : decode cX9_begins 24 = .ok (.iconst (-1), 1) := by decide +kernel
theorem dX9_begins_25 : decode cX9_begins 25 = .ok (.ixor, 1) := by decide +kernel
theorem dX9_begins_26 : decode cX9_begins 26 = .ok (.iand, 1) := by decide +kernel
theorem dX9_begins_27 : decode cX9_begins 27 = .ok (.ifCond .ne 32, 3) := by decide +kernel
theorem dX9_begins_30 : decode cX9_begins 30 = .ok (.iload_n 3, 1) := by decide +kernel
theorem dX9_begins_31 : decode cX9_begins 31 = .ok (.iload_n 1, 1) := by decide +kernel
theorem dX9_begins_32 : decode cX9_begins 32 = .ok (.invokestatic 102, 3) := by decide +kernel
theorem dX9_begins_35 : decode cX9_begins 35 = .ok (.ifCond .ne 24, 3) := by decide +kernel
theorem dX9_begins_38 : decode cX9_begins 38 = .ok (.iload_n 2, 1) := by decide +kernel
theorem dX9_begins_39 : decode cX9_begins 39 = .ok (.bipush (-4), 2) := by decide +kernel
theorem dX9_begins_41 : decode cX9_begins 41 = .ok (.if_icmp .eq 14, 3) := by decide +kernel
theorem dX9_begins_44 : decode cX9_begins 44 = .ok (.iload_n 3, 1) := by decide +kernel
theorem dX9_begins_45 : decode cX9_begins 45 = .ok (.invokestatic 122, 3) := by decide +kernel
theorem dX9_begins_48 : decode cX9_begins 48 = .ok (.iload_n 2, 1) := by decide +kernel
theorem dX9_begins_49 : decode cX9_begins 49 = .ok (.invokestatic 122, 3) := by decide +kernel
theorem dX9_begins_52 : decode cX9_begins 52 = .ok (.if_icmp .ge 7, 3) := by decide +kernel
theorem dX9_begins_55 : decode cX9_begins 55 = .ok (.iconst 1, 1) := by decide +kernel
theorem dX9_begins_56 : decode cX9_begins 56 = .ok (.goto 4, 3) := by decide +kernel
theorem dX9_begins_59 : decode cX9_begins 59 = .ok (.iconst 0, 1) := by decide +kernel
theorem dX9_begins_60 : decode cX9_begins 60 = .ok (.istore 4, 2) := by decide +kernel
theorem dX9_begins_62 : decode cX9_begins 62 = .ok (.iload 4, 2) := by decide +kernel
theorem dX9_begins_64 : decode cX9_begins 64 = .ok (.ifCond .eq 24, 3) := by decide +kernel
theorem dX9_begins_67 : decode cX9_begins 67 = .ok (.aload_n 0, 1) := by decide +kernel
theorem dX9_begins_68 : decode cX9_begins 68 = .ok (.aload_n 0, 1) := by decide +kernel
theorem dX9_begins_69 : decode cX9_begins 69 = .ok (.invokevirtual 151, 3) := by decide +kernel
theorem dX9_begins_72 : decode cX9_begins 72 = .ok (.iload_n 3, 1) := by decide +kernel
theorem dX9_begins_73 : decode cX9_begins 73 = .ok (.ior, 1) := by decide +kernel
theorem dX9_begins_74 : decode cX9_begins 74 = .ok (.invokevirtual 136, 3) := by decide +kernel
theorem dX9_begins_77 : decode cX9_begins 77 = .ok (.iload_n 1, 1) := by decide +kernel
theorem dX9_begins_78 : decode cX9_begins 78 = .ok (.invokestatic 102, 3) := by decide +kernel
theorem dX9_begins_81 : decode cX9_begins 81 = .ok (.ifCond .eq 7, 3) := by decide +kernel
theorem dX9_begins_84 : decode cX9_begins 84 = .ok (.iload_n 3, 1) := by decide +kernel
theorem dX9_begins_85 : decode cX9_begins 85 = .ok (.goto 4, 3) := by decide +kernel
theorem dX9_begins_88 : decode cX9_begins 88 = .ok (.iload_n 2, 1) := by decide +kernel
theorem dX9_begins_89 : decode cX9_begins 89 = .ok (.istore_n 2, 1) := by decide +kernel
theorem dX9_begins_90 : decode cX9_begins 90 = .ok (.iinc 3 1, 3) := by decide +kernel
theorem dX9_begins_93 : decode cX9_begins 93 = .ok (.goto (-88), 3) := by decide +kernel
theorem dX9_begins_96 : decode cX9_begins 96 = .ok (.iload_n 2, 1) := by decide +kernel
theorem dX9_begins_97 : decode cX9_begins 97 = .ok (.ireturn, 1) := by decide +kernel
theorem dX9_begin_0 : decode cX9_begin 0 = .ok (.aload_n 0, 1) := by decide +kernel
theorem dX9_begin_1 : decode cX9_begin 1 = .ok (.iload_n 1, 1) := by decide +kernel
theorem dX9_begin_2 : decode cX9_begin 2 = .ok (.invokevirtual 106, 3) := by decide +kernel
theorem dX9_begin_5 : decode cX9_begin 5 = .ok (.ifCond .ne 5, 3) := by decide +kernel
theorem dX9_begin_8 : decode cX9_begin 8 = .ok (.iconst (-1), 1) := by decide +kernel
theorem dX9_begin_9 : decode cX9_begin 9 = .ok (.ireturn, 1) := by decide +kernel
theorem dX9_begin_10 : decode cX9_begin 10 = .ok (.aload_n 0, 1) := by decide +kernel
theorem dX9_begin_11 : decode cX9_begin 11 = .ok (.getfield 7, 3) := by decide +kernel
theorem dX9_begin_14 : decode cX9_begin 14 = .ok (.iconst 2, 1) := by decide +kernel
theorem dX9_begin_15 : decode cX9_begin 15 = .ok (.iaload, 1) := by decide +kernel
theorem dX9_begin_16 : decode cX9_begin 16 = .ok (.iload_n 1, 1) := by decide +kernel
theorem dX9_begin_17 : decode cX9_begin 17 = .ok (.invokestatic 102, 3) := by decide +kernel
theorem dX9_begin_20 : decode cX9_begin 20 = .ok (.ifCond .eq 11, 3) := by decide +kernel
theorem dX9_begin_23 : decode cX9_begin 23 = .ok (.aload_n 0, 1) := by decide +kernel
theorem dX9_begin_24 : decode cX9_begin 24 = .ok (.iload_n 1, 1) := by decide +kernel
theorem dX9_begin_25 : decode cX9_begin 25 = .ok (.invokevirtual 154, 3) := by decide +kernel
theorem dX9_begin_28 : decode cX9_begin 28 = .ok (.goto 5, 3) := by decide +kernel
theorem dX9_begin_31 : decode cX9_begin 31 = .ok (.bipush (-2), 2) := by decide +kernel
theorem dX9_begin_33 : decode cX9_begin 33 = .ok (.ireturn, 1) := by decide +kernel
theorem dX9_isHall_0 : decode cX9_isHall 0 = .ok (.aload_n 0, 1) := by decide +kernel
theorem dX9_isHall_1 : decode cX9_isHall 1 = .ok (.iload_n 1, 1) := by decide +kernel
theorem dX9_isHall_2 : decode cX9_isHall 2 = .ok (.invokevirtual 136, 3) := by decide +kernel
theorem dX9_isHall_5 : decode cX9_isHall 5 = .ok (.istore_n 2, 1) := by decide +kernel
theorem dX9_isHall_6 : decode cX9_isHall 6 = .ok (.iconst 0, 1) := by decide +kernel
theorem dX9_isHall_7 : decode cX9_isHall 7 = .ok (.istore_n 3, 1) := by decide +kernel
theorem dX9_isHall_8 : decode cX9_isHall 8 = .ok (.iconst 0, 1) := by decide +kernel
theorem dX9_isHall_9 : decode cX9_isHall 9 = .ok (.istore 4, 2) := by decide +kernel
theorem dX9_isHall_11 : decode cX9_isHall 11 = .ok (.iload 4, 2) := by decide +kernel
theorem dX9_isHall_13 : decode cX9_isHall 13 = .ok (.aload_n 0, 1) := by decide +kernel
theorem dX9_isHall_14 : decode cX9_isHall 14 = .ok (.getfield 7, 3) := by decide +kernel
theorem dX9_isHall_17 : decode cX9_isHall 17 = .ok (.iconst 0, 1) := by decide +kernel
theorem dX9_isHall_18 : decode cX9_isHall 18 = .ok (.iaload, 1) := by decide +kernel
theorem dX9_isHall_19 : decode cX9_isHall 19 = .ok (.if_icmp .ge 43, 3) := by decide +kernel
theorem dX9_isHall_22 : decode cX9_isHall 22 = .ok (.iload_n 3, 1) := by decide +kernel
theorem dX9_isHall_23 : decode cX9_isHall 23 = .ok (.ifCond .ne 27, 3) := by decide +kernel
theorem dX9_isHall_26 : decode cX9_isHall 26 = .ok (.iload_n 2, 1) := by decide +kernel
theorem dX9_isHall_27 : decode cX9_isHall 27 = .ok (.iload 4, 2) := by decide +kernel
theorem dX9_isHall_29 : decode cX9_isHall 29 = .ok (.invokestatic 102, 3) := by decide +kernel
theorem dX9_isHall_32 : decode cX9_isHall 32 = .ok (.ifCond .eq 22, 3) := by decide +kernel
theorem dX9_isHall_35 : decode cX9_isHall 35 = .ok (.aload_n 0, 1) := by decide +kernel
theorem dX9_isHall_36 : decode cX9_isHall 36 = .ok (.getfield 7, 3) := by decide +kernel
theorem dX9_isHall_39 : decode cX9_isHall 39 = .ok (.bipush 45, 2) := by decide +kernel
theorem dX9_isHall_41 : decode cX9_isHall 41 = .ok (.iload 4, 2) := by decide +kernel
theorem dX9_isHall_43 : decode cX9_isHall 43 = .ok (.iadd, 1) := by decide +kernel
theorem dX9_isHall_44 : decode cX9_isHall 44 = .ok (.iaload, 1) := by decide +kernel
theorem dX9_isHall_45 : decode cX9_isHall 45 = .ok (.iload_n 2, 1) := by decide +kernel
theorem dX9_isHall_46 : decode cX9_isHall 46 = .ok (.iand, 1) := by decide +kernel
theorem dX9_isHall_47 : decode cX9_isHall 47 = .ok (.ifCond .eq 7, 3) := by decide +kernel
theorem dX9_isHall_50 : decode cX9_isHall 50 = .ok (.iconst 1, 1) := by decide +kernel
theorem dX9_isHall_51 : decode cX9_isHall 51 = .ok (.goto 4, 3) := by decide +kernel
theorem dX9_isHall_54 : decode cX9_isHall 54 = .ok (.iconst 0, 1) := by decide +kernel
theorem dX9_isHall_55 : decode cX9_isHall 55 = .ok (.istore_n 3, 1) := by decide +kernel
theorem dX9_isHall_56 : decode cX9_isHall 56 = .ok (.iinc 4 1, 3) := by decide +kernel
theorem dX9_isHall_59 : decode cX9_isHall 59 = .ok (.goto (-48), 3) := by decide +kernel
theorem dX9_isHall_62 : decode cX9_isHall 62 = .ok (.iload_n 3, 1) := by decide +kernel
theorem dX9_isHall_63 : decode cX9_isHall 63 = .ok (.ireturn, 1) := by decide +kernel
theorem dX9_hall_0 : decode cX9_hall 0 = .ok (.iload_n 1, 1) := by decide +kernel
theorem dX9_hall_1 : decode cX9_hall 1 = .ok (.i2l, 1) := by decide +kernel
theorem dX9_hall_2 : decode cX9_hall 2 = .ok (.lconst 0, 1) := by decide +kernel
theorem dX9_hall_3 : decode cX9_hall 3 = .ok (.lconst 1, 1) := by decide +kernel
theorem dX9_hall_4 : decode cX9_hall 4 = .ok (.invokestatic 43, 3) := by decide +kernel
theorem dX9_hall_7 : decode cX9_hall 7 = .ok (.ifCond .ne 5, 3) := by decide +kernel
theorem dX9_hall_10 : decode cX9_hall 10 = .ok (.iconst (-1), 1) := by decide +kernel
theorem dX9_hall_11 : decode cX9_hall 11 = .ok (.ireturn, 1) := by decide +kernel
theorem dX9_hall_12 : decode cX9_hall 12 = .ok (.bipush (-4), 2) := by decide +kernel
theorem dX9_hall_14 : decode cX9_hall 14 = .ok (.istore_n 2, 1) := by decide +kernel
theorem dX9_hall_15 : decode cX9_hall 15 = .ok (.iconst 0, 1) := by decide +kernel
theorem dX9_hall_16 : decode cX9_hall 16 = .ok (.istore_n 3, 1) := by decide +kernel
theorem dX9_hall_17 : decode cX9_hall 17 = .ok (.iload_n 3, 1) := by decide +kernel
theorem dX9_hall_18 : decode cX9_hall 18 = .ok (.iconst 1, 1) := by decide +kernel
theorem dX9_hall_19 : decode cX9_hall 19 = .ok (.aload_n 0, 1) := by decide +kernel
theorem dX9_hall_20 : decode cX9_hall 20 = .ok (.getfield 7, 3) := by decide +kernel
theorem dX9_hall_23 : decode cX9_hall 23 = .ok (.iconst 0, 1) := by decide +kernel
theorem dX9_hall_24 : decode cX9_hall 24 = .ok (.iaload, 1) := by decide +kernel
theorem dX9_hall_25 : decode cX9_hall 25 = .ok (.ishl, 1) := by decide +kernel
theorem dX9_hall_26 : decode cX9_hall 26 = .ok (.if_icmp .ge 68, 3) := by decide +kernel
theorem dX9_hall_29 : decode cX9_hall 29 = .ok (.iload_n 1, 1) := by decide +kernel
theorem dX9_hall_30 : decode cX9_hall 30 = .ok (.iconst 1, 1) := by decide +kernel
theorem dX9_hall_31 : decode cX9_hall 31 = .ok (.if_icmp .ne 63, 3) := by decide +kernel
theorem dX9_hall_34 : decode cX9_hall 34 = .ok (.iload_n 3, 1) := by decide +kernel
theorem dX9_hall_35 : decode cX9_hall 35 = .ok (.aload_n 0, 1) := by decide +kernel
theorem dX9_hall_36 : decode cX9_hall 36 = .ok (.invokevirtual 151, 3) := by decide +kernel
theorem dX9_hall_39 : decode cX9_hall 39 = .ok (.iconst (-1), 1) := by decide +kernel
theorem dX9_hall_40 : decode cX9_hall 40 = .ok (.ixor, 1) := by decide +kernel
theorem dX9_hall_41 : decode cX9_hall 41 = .ok (.iand, 1) := by decide +kernel
theorem dX9_hall_42 : decode cX9_hall 42 = .ok (.ifCond .ne 24, 3) := by decide +kernel
theorem dX9_hall_45 : decode cX9_hall 45 = .ok (.iload_n 2, 1) := by decide +kernel
theorem dX9_hall_46 : decode cX9_hall 46 = .ok (.bipush (-4), 2) := by decide +kernel
theorem dX9_hall_48 : decode cX9_hall 48 = .ok (.if_icmp .eq 14, 3) := by decide +kernel
theorem dX9_hall_51 : decode cX9_hall 51 = .ok (.iload_n 3, 1) := by decide +kernel
theorem dX9_hall_52 : decode cX9_hall 52 = .ok (.invokestatic 122, 3) := by decide +kernel
theorem dX9_hall_55 : decode cX9_hall 55 = .ok (.iload_n 2, 1) := by decide +kernel
theorem dX9_hall_56 : decode cX9_hall 56 = .ok (.invokestatic 122, 3) := by decide +kernel
theorem dX9_hall_59 : decode cX9_hall 59 = .ok (.if_icmp .ge 7, 3) := by decide +kernel
theorem dX9_hall_62 : decode cX9_hall 62 = .ok (.iconst 1, 1) := by decide +kernel
theorem dX9_hall_63 : decode cX9_hall 63 = .ok (.goto 4, 3) := by decide +kernel
theorem dX9_hall_66 : decode cX9_hall 66 = .ok (.iconst 0, 1) := by decide +kernel
theorem dX9_hall_67 : decode cX9_hall 67 = .ok (.istore 4, 2) := by decide +kernel
theorem dX9_hall_69 : decode cX9_hall 69 = .ok (.iload 4, 2) := by decide +kernel
theorem dX9_hall_71 : decode cX9_hall 71 = .ok (.ifCond .eq 15, 3) := by decide +kernel
theorem dX9_hall_74 : decode cX9_hall 74 = .ok (.aload_n 0, 1) := by decide +kernel
theorem dX9_hall_75 : decode cX9_hall 75 = .ok (.iload_n 3, 1) := by decide +kernel
theorem dX9_hall_76 : decode cX9_hall 76 = .ok (.invokevirtual 157, 3) := by decide +kernel
theorem dX9_hall_79 : decode cX9_hall 79 = .ok (.ifCond .eq 7, 3) := by decide +kernel
theorem dX9_hall_82 : decode cX9_hall 82 = .ok (.iload_n 3, 1) := by decide +kernel
theorem dX9_hall_83 : decode cX9_hall 83 = .ok (.goto 4, 3) := by decide +kernel
theorem dX9_hall_86 : decode cX9_hall 86 = .ok (.iload_n 2, 1) := by decide +kernel
theorem dX9_hall_87 : decode cX9_hall 87 = .ok (.istore_n 2, 1) := by decide +kernel
theorem dX9_hall_88 : decode cX9_hall 88 = .ok (.iinc 3 1, 3) := by decide +kernel
theorem dX9_hall_91 : decode cX9_hall 91 = .ok (.goto (-74), 3) := by decide +kernel
theorem dX9_hall_94 : decode cX9_hall 94 = .ok (.iload_n 1, 1) := by decide +kernel
theorem dX9_hall_95 : decode cX9_hall 95 = .ok (.iconst 1, 1) := by decide +kernel
theorem dX9_hall_96 : decode cX9_hall 96 = .ok (.if_icmp .ne 7, 3) := by decide +kernel
theorem dX9_hall_99 : decode cX9_hall 99 = .ok (.iload_n 2, 1) := by decide +kernel
theorem dX9_hall_100 : decode cX9_hall 100 = .ok (.goto 19, 3) := by decide +kernel
theorem dX9_hall_103 : decode cX9_hall 103 = .ok (.aload_n 0, 1) := by decide +kernel
theorem dX9_hall_104 : decode cX9_hall 104 = .ok (.aload_n 0, 1) := by decide +kernel
theorem dX9_hall_105 : decode cX9_hall 105 = .ok (.invokevirtual 151, 3) := by decide +kernel
theorem dX9_hall_108 : decode cX9_hall 108 = .ok (.invokevirtual 157, 3) := by decide +kernel
theorem dX9_hall_111 : decode cX9_hall 111 = .ok (.ifCond .eq 7, 3) := by decide +kernel
theorem dX9_hall_114 : decode cX9_hall 114 = .ok (.iconst 1, 1) := by decide +kernel
theorem dX9_hall_115 : decode cX9_hall 115 = .ok (.goto 4, 3) := by decide +kernel
theorem dX9_hall_118 : decode cX9_hall 118 = .ok (.iconst 0, 1) := by decide +kernel
theorem dX9_hall_119 : decode cX9_hall 119 = .ok (.ireturn, 1) := by decide +kernel
theorem dX9_rope_0 : decode cX9_rope 0 = .ok (.aload_n 0, 1) := by decide +kernel
theorem dX9_rope_1 : decode cX9_rope 1 = .ok (.invokevirtual 151, 3) := by decide +kernel
theorem dX9_rope_4 : decode cX9_rope 4 = .ok (.istore_n 1, 1) := by decide +kernel
theorem dX9_rope_5 : decode cX9_rope 5 = .ok (.aload_n 0, 1) := by decide +kernel
theorem dX9_rope_6 : decode cX9_rope 6 = .ok (.invokevirtual 151, 3) := by decide +kernel
theorem dX9_rope_9 : decode cX9_rope 9 = .ok (.istore_n 2, 1) := by decide +kernel
theorem dX9_rope_10 : decode cX9_rope 10 = .ok (.iload_n 2, 1) := by decide +kernel
theorem dX9_rope_11 : decode cX9_rope 11 = .ok (.ifCond .lt 62, 3) := by decide +kernel
theorem dX9_rope_14 : decode cX9_rope 14 = .ok (.iload_n 2, 1) := by decide +kernel
theorem dX9_rope_15 : decode cX9_rope 15 = .ok (.aload_n 0, 1) := by decide +kernel
theorem dX9_rope_16 : decode cX9_rope 16 = .ok (.invokevirtual 151, 3) := by decide +kernel
theorem dX9_rope_19 : decode cX9_rope 19 = .ok (.iconst (-1), 1) := by decide +kernel
theorem dX9_rope_20 : decode cX9_rope 20 = .ok (.ixor, 1) := by decide +kernel
theorem dX9_rope_21 : decode cX9_rope 21 = .ok (.iand, 1) := by decide +kernel
theorem dX9_rope_22 : decode cX9_rope 22 = .ok (.ifCond .ne 18, 3) := by decide +kernel
theorem dX9_rope_25 : decode cX9_rope 25 = .ok (.iload_n 2, 1) := by decide +kernel
theorem dX9_rope_26 : decode cX9_rope 26 = .ok (.invokestatic 122, 3) := by decide +kernel
theorem dX9_rope_29 : decode cX9_rope 29 = .ok (.iload_n 1, 1) := by decide +kernel
theorem dX9_rope_30 : decode cX9_rope 30 = .ok (.invokestatic 122, 3) := by decide +kernel
theorem dX9_rope_33 : decode cX9_rope 33 = .ok (.if_icmp .gt 7, 3) := by decide +kernel
theorem dX9_rope_36 : decode cX9_rope 36 = .ok (.iconst 1, 1) := by decide +kernel
theorem dX9_rope_37 : decode cX9_rope 37 = .ok (.goto 4, 3) := by decide +kernel
theorem dX9_rope_40 : decode cX9_rope 40 = .ok (.iconst 0, 1) := by decide +kernel
theorem dX9_rope_41 : decode cX9_rope 41 = .ok (.istore_n 3, 1) := by decide +kernel
theorem dX9_rope_42 : decode cX9_rope 42 = .ok (.iload_n 3, 1) := by decide +kernel
theorem dX9_rope_43 : decode cX9_rope 43 = .ok (.ifCond .eq 22, 3) := by decide +kernel
theorem dX9_rope_46 : decode cX9_rope 46 = .ok (.aload_n 0, 1) := by decide +kernel
theorem dX9_rope_47 : decode cX9_rope 47 = .ok (.aload_n 0, 1) := by decide +kernel
theorem dX9_rope_48 : decode cX9_rope 48 = .ok (.invokevirtual 151, 3) := by decide +kernel
theorem dX9_rope_51 : decode cX9_rope 51 = .ok (.iload_n 2, 1) := by decide +kernel
theorem dX9_rope_52 : decode cX9_rope 52 = .ok (.iconst (-1), 1) := by decide +kernel
theorem dX9_rope_53 : decode cX9_rope 53 = .ok (.ixor, 1) := by decide +kernel
theorem dX9_rope_54 : decode cX9_rope 54 = .ok (.iand, 1) := by decide +kernel
theorem dX9_rope_55 : decode cX9_rope 55 = .ok (.invokevirtual 157, 3) := by decide +kernel
theorem dX9_rope_58 : decode cX9_rope 58 = .ok (.ifCond .ne 7, 3) := by decide +kernel
theorem dX9_rope_61 : decode cX9_rope 61 = .ok (.iload_n 2, 1) := by decide +kernel
theorem dX9_rope_62 : decode cX9_rope 62 = .ok (.goto 4, 3) := by decide +kernel
theorem dX9_rope_65 : decode cX9_rope 65 = .ok (.iload_n 1, 1) := by decide +kernel
theorem dX9_rope_66 : decode cX9_rope 66 = .ok (.istore_n 1, 1) := by decide +kernel
theorem dX9_rope_67 : decode cX9_rope 67 = .ok (.iinc 2 (-1), 3) := by decide +kernel
theorem dX9_rope_70 : decode cX9_rope 70 = .ok (.goto (-60), 3) := by decide +kernel
theorem dX9_rope_73 : decode cX9_rope 73 = .ok (.iload_n 1, 1) := by decide +kernel
theorem dX9_rope_74 : decode cX9_rope 74 = .ok (.ireturn, 1) := by decide +kernel
theorem dX9_idle_0 : decode cX9_idle 0 = .ok (.iconst 0, 1) := by decide +kernel
theorem dX9_idle_1 : decode cX9_idle 1 = .ok (.istore_n 1, 1) := by decide +kernel
theorem dX9_idle_2 : decode cX9_idle 2 = .ok (.iconst 0, 1) := by decide +kernel
theorem dX9_idle_3 : decode cX9_idle 3 = .ok (.istore_n 2, 1) := by decide +kernel
theorem dX9_idle_4 : decode cX9_idle 4 = .ok (.iload_n 2, 1) := by decide +kernel
theorem dX9_idle_5 : decode cX9_idle 5 = .ok (.aload_n 0, 1) := by decide +kernel
theorem dX9_idle_6 : decode cX9_idle 6 = .ok (.getfield 7, 3) := by decide +kernel
theorem dX9_idle_9 : decode cX9_idle 9 = .ok (.iconst 4, 1) := by decide +kernel
theorem dX9_idle_10 : decode cX9_idle 10 = .ok (.iaload, 1) := by decide +kernel
theorem dX9_idle_11 : decode cX9_idle 11 = .ok (.if_icmp .ge 82, 3) := by decide +kernel
theorem dX9_idle_14 : decode cX9_idle 14 = .ok (.aload_n 0, 1) := by decide +kernel
theorem dX9_idle_15 : decode cX9_idle 15 = .ok (.iconst 1, 1) := by decide +kernel
theorem dX9_idle_16 : decode cX9_idle 16 = .ok (.aload_n 0, 1) := by decide +kernel
theorem dX9_idle_17 : decode cX9_idle 17 = .ok (.getfield 7, 3) := by decide +kernel
theorem dX9_idle_20 : decode cX9_idle 20 = .ok (.iconst 5, 1) := by decide +kernel
theorem dX9_idle_21 : decode cX9_idle 21 = .ok (.iload_n 2, 1) := by decide +kernel
theorem dX9_idle_22 : decode cX9_idle 22 = .ok (.iadd, 1) := by decide +kernel
theorem dX9_idle_23 : decode cX9_idle 23 = .ok (.iaload, 1) := by decide +kernel
theorem dX9_idle_24 : decode cX9_idle 24 = .ok (.ishl, 1) := by decide +kernel
theorem dX9_idle_25 : decode cX9_idle 25 = .ok (.iconst 1, 1) := by decide +kernel
theorem dX9_idle_26 : decode cX9_idle 26 = .ok (.aload_n 0, 1) := by decide +kernel
theorem dX9_idle_27 : decode cX9_idle 27 = .ok (.getfield 7, 3) := by decide +kernel
theorem dX9_idle_30 : decode cX9_idle 30 = .ok (.bipush 15, 2) := by decide +kernel
theorem dX9_idle_32 : decode cX9_idle 32 = .ok (.iload_n 2, 1) := by decide +kernel
theorem dX9_idle_33 : decode cX9_idle 33 = .ok (.iadd, 1) := by decide +kernel
theorem dX9_idle_34 : decode cX9_idle 34 = .ok (.iaload, 1) := by decide +kernel
theorem dX9_idle_35 : decode cX9_idle 35 = .ok (.ishl, 1) := by decide +kernel
theorem dX9_idle_36 : decode cX9_idle 36 = .ok (.ior, 1) := by decide +kernel
theorem dX9_idle_37 : decode cX9_idle 37 = .ok (.aload_n 0, 1) := by decide +kernel
theorem dX9_idle_38 : decode cX9_idle 38 = .ok (.invokevirtual 126, 3) := by decide +kernel
theorem dX9_idle_41 : decode cX9_idle 41 = .ok (.iconst 1, 1) := by decide +kernel
theorem dX9_idle_42 : decode cX9_idle 42 = .ok (.iload_n 2, 1) := by decide +kernel
theorem dX9_idle_43 : decode cX9_idle 43 = .ok (.ishl, 1) := by decide +kernel
theorem dX9_idle_44 : decode cX9_idle 44 = .ok (.iconst (-1), 1) := by decide +kernel
theorem dX9_idle_45 : decode cX9_idle 45 = .ok (.ixor, 1) := by decide +kernel
theorem dX9_idle_46 : decode cX9_idle 46 = .ok (.iand, 1) := by decide +kernel
theorem dX9_idle_47 : decode cX9_idle 47 = .ok (.iconst 1, 1) := by decide +kernel
theorem dX9_idle_48 : decode cX9_idle 48 = .ok (.aload_n 0, 1) := by decide +kernel
theorem dX9_idle_49 : decode cX9_idle 49 = .ok (.getfield 7, 3) := by decide +kernel
theorem dX9_idle_52 : decode cX9_idle 52 = .ok (.iconst 0, 1) := by decide +kernel
theorem dX9_idle_53 : decode cX9_idle 53 = .ok (.iaload, 1) := by decide +kernel
theorem dX9_idle_54 : decode cX9_idle 54 = .ok (.ishl, 1) := by decide +kernel
theorem dX9_idle_55 : decode cX9_idle 55 = .ok (.iconst 1, 1) := by decide +kernel
theorem dX9_idle_56 : decode cX9_idle 56 = .ok (.isub, 1) := by decide +kernel
theorem dX9_idle_57 : decode cX9_idle 57 = .ok (.invokevirtual 129, 3) := by decide +kernel
theorem dX9_idle_60 : decode cX9_idle 60 = .ok (.istore_n 3, 1) := by decide +kernel
theorem dX9_idle_61 : decode cX9_idle 61 = .ok (.iload_n 1, 1) := by decide +kernel
theorem dX9_idle_62 : decode cX9_idle 62 = .ok (.iload_n 3, 1) := by decide +kernel
theorem dX9_idle_63 : decode cX9_idle 63 = .ok (.aload_n 0, 1) := by decide +kernel
theorem dX9_idle_64 : decode cX9_idle 64 = .ok (.getfield 7, 3) := by decide +kernel
theorem dX9_idle_67 : decode cX9_idle 67 = .ok (.bipush 25, 2) := by decide +kernel
theorem dX9_idle_69 : decode cX9_idle 69 = .ok (.iload_n 2, 1) := by decide +kernel
theorem dX9_idle_70 : decode cX9_idle 70 = .ok (.iadd, 1) := by decide +kernel
theorem dX9_idle_71 : decode cX9_idle 71 = .ok (.iaload, 1) := by decide +kernel
theorem dX9_idle_72 : decode cX9_idle 72 = .ok (.invokestatic 102, 3) := by decide +kernel
theorem dX9_idle_75 : decode cX9_idle 75 = .ok (.ifCond .eq 9, 3) := by decide +kernel
theorem dX9_idle_78 : decode cX9_idle 78 = .ok (.iconst 1, 1) := by decide +kernel
theorem dX9_idle_79 : decode cX9_idle 79 = .ok (.iload_n 2, 1) := by decide +kernel
theorem dX9_idle_80 : decode cX9_idle 80 = .ok (.ishl, 1) := by decide +kernel
theorem dX9_idle_81 : decode cX9_idle 81 = .ok (.goto 4, 3) := by decide +kernel
theorem dX9_idle_84 : decode cX9_idle 84 = .ok (.iconst 0, 1) := by decide +kernel
theorem dX9_idle_85 : decode cX9_idle 85 = .ok (.ior, 1) := by decide +kernel
theorem dX9_idle_86 : decode cX9_idle 86 = .ok (.istore_n 1, 1) := by decide +kernel
theorem dX9_idle_87 : decode cX9_idle 87 = .ok (.iinc 2 1, 3) := by decide +kernel
theorem dX9_idle_90 : decode cX9_idle 90 = .ok (.goto (-86), 3) := by decide +kernel
theorem dX9_idle_93 : decode cX9_idle 93 = .ok (.iload_n 1, 1) := by decide +kernel
theorem dX9_idle_94 : decode cX9_idle 94 = .ok (.ireturn, 1) := by decide +kernel
theorem dX9_leads_0 : decode cX9_leads 0 = .ok (.iconst 0, 1) := by decide +kernel
theorem dX9_leads_1 : decode cX9_leads 1 = .ok (.istore_n 2, 1) := by decide +kernel
theorem dX9_leads_2 : decode cX9_leads 2 = .ok (.iconst 0, 1) := by decide +kernel
theorem dX9_leads_3 : decode cX9_leads 3 = .ok (.istore_n 3, 1) := by decide +kernel
theorem dX9_leads_4 : decode cX9_leads 4 = .ok (.iload_n 3, 1) := by decide +kernel
theorem dX9_leads_5 : decode cX9_leads 5 = .ok (.bipush 10, 2) := by decide +kernel
theorem dX9_leads_7 : decode cX9_leads 7 = .ok (.if_icmp .ge 120, 3) := by decide +kernel
theorem dX9_leads_10 : decode cX9_leads 10 = .ok (.iconst 0, 1) := by decide +kernel
theorem dX9_leads_11 : decode cX9_leads 11 = .ok (.istore 4, 2) := by decide +kernel
theorem dX9_leads_13 : decode cX9_leads 13 = .ok (.iload 4, 2) := by decide +kernel
theorem dX9_leads_15 : decode cX9_leads 15 = .ok (.aload_n 0, 1) := by decide +kernel
theorem dX9_leads_16 : decode cX9_leads 16 = .ok (.getfield 7, 3) := by decide +kernel
theorem dX9_leads_19 : decode cX9_leads 19 = .ok (.iconst 4, 1) := by decide +kernel
theorem dX9_leads_20 : decode cX9_leads 20 = .ok (.iaload, 1) := by decide +kernel
theorem dX9_leads_21 : decode cX9_leads 21 = .ok (.if_icmp .ge 100, 3) := by decide +kernel
theorem dX9_leads_24 : decode cX9_leads 24 = .ok (.aload_n 0, 1) := by decide +kernel
theorem dX9_leads_25 : decode cX9_leads 25 = .ok (.getfield 7, 3) := by decide +kernel
theorem dX9_leads_28 : decode cX9_leads 28 = .ok (.iconst 5, 1) := by decide +kernel
theorem dX9_leads_29 : decode cX9_leads 29 = .ok (.iload 4, 2) := by decide +kernel
theorem dX9_leads_31 : decode cX9_leads 31 = .ok (.iadd, 1) := by decide +kernel
theorem dX9_leads_32 : decode cX9_leads 32 = .ok (.iaload, 1) := by decide +kernel
theorem dX9_leads_33 : decode cX9_leads 33 = .ok (.iload_n 1, 1) := by decide +kernel
theorem dX9_leads_34 : decode cX9_leads 34 = .ok (.if_icmp .eq 50, 3) := by decide +kernel
theorem dX9_leads_37 : decode cX9_leads 37 = .ok (.aload_n 0, 1) := by decide +kernel
theorem dX9_leads_38 : decode cX9_leads 38 = .ok (.getfield 7, 3) := by decide +kernel
theorem dX9_leads_41 : decode cX9_leads 41 = .ok (.bipush 15, 2) := by decide +kernel
theorem dX9_leads_43 : decode cX9_leads 43 = .ok (.iload 4, 2) := by decide +kernel
theorem dX9_leads_45 : decode cX9_leads 45 = .ok (.iadd, 1) := by decide +kernel
theorem dX9_leads_46 : decode cX9_leads 46 = .ok (.iaload, 1) := by decide +kernel
theorem dX9_leads_47 : decode cX9_leads 47 = .ok (.iload_n 1, 1) := by decide +kernel
theorem dX9_leads_48 : decode cX9_leads 48 = .ok (.if_icmp .eq 36, 3) := by decide +kernel
theorem dX9_leads_51 : decode cX9_leads 51 = .ok (.iload_n 2, 1) := by decide +kernel
theorem dX9_leads_52 : decode cX9_leads 52 = .ok (.aload_n 0, 1) := by decide +kernel
theorem dX9_leads_53 : decode cX9_leads 53 = .ok (.getfield 7, 3) := by decide +kernel
theorem dX9_leads_56 : decode cX9_leads 56 = .ok (.iconst 5, 1) := by decide +kernel
theorem dX9_leads_57 : decode cX9_leads 57 = .ok (.iload 4, 2) := by decide +kernel
theorem dX9_leads_59 : decode cX9_leads 59 = .ok (.iadd, 1) := by decide +kernel
theorem dX9_leads_60 : decode cX9_leads 60 = .ok (.iaload, 1) := by decide +kernel
theorem dX9_leads_61 : decode cX9_leads 61 = .ok (.invokestatic 102, 3) := by decide +kernel
theorem dX9_leads_64 : decode cX9_leads 64 = .ok (.ifCond .ne 20, 3) := by decide +kernel
theorem dX9_leads_67 : decode cX9_leads 67 = .ok (.iload_n 2, 1) := by decide +kernel
theorem dX9_leads_68 : decode cX9_leads 68 = .ok (.aload_n 0, 1) := by decide +kernel
theorem dX9_leads_69 : decode cX9_leads 69 = .ok (.getfield 7, 3) := by decide +kernel
theorem dX9_leads_72 : decode cX9_leads 72 = .ok (.bipush 15, 2) := by decide +kernel
theorem dX9_leads_74 : decode cX9_leads 74 = .ok (.iload 4, 2) := by decide +kernel
theorem dX9_leads_76 : decode cX9_leads 76 = .ok (.iadd, 1) := by decide +kernel
theorem dX9_leads_77 : decode cX9_leads 77 = .ok (.iaload, 1) := by decide +kernel
theorem dX9_leads_78 : decode cX9_leads 78 = .ok (.invokestatic 102, 3) := by decide +kernel
theorem dX9_leads_81 : decode cX9_leads 81 = .ok (.ifCond .eq 7, 3) := by decide +kernel
theorem dX9_leads_84 : decode cX9_leads 84 = .ok (.iconst 1, 1) := by decide +kernel
theorem dX9_leads_85 : decode cX9_leads 85 = .ok (.goto 4, 3) := by decide +kernel
theorem dX9_leads_88 : decode cX9_leads 88 = .ok (.iconst 0, 1) := by decide +kernel
theorem dX9_leads_89 : decode cX9_leads 89 = .ok (.istore 5, 2) := by decide +kernel
theorem dX9_leads_91 : decode cX9_leads 91 = .ok (.iload_n 2, 1) := by decide +kernel
theorem dX9_leads_92 : decode cX9_leads 92 = .ok (.iload 5, 2) := by decide +kernel
theorem dX9_leads_94 : decode cX9_leads 94 = .ok (.ifCond .eq 18, 3) := by decide +kernel
theorem dX9_leads_97 : decode cX9_leads 97 = .ok (.iconst 1, 1) := by decide +kernel
theorem dX9_leads_98 : decode cX9_leads 98 = .ok (.aload_n 0, 1) := by decide +kernel
theorem dX9_leads_99 : decode cX9_leads 99 = .ok (.getfield 7, 3) := by decide +kernel
theorem dX9_leads_102 : decode cX9_leads 102 = .ok (.bipush 25, 2) := by decide +kernel
theorem dX9_leads_104 : decode cX9_leads 104 = .ok (.iload 4, 2) := by decide +kernel
theorem dX9_leads_106 : decode cX9_leads 106 = .ok (.iadd, 1) := by decide +kernel
theorem dX9_leads_107 : decode cX9_leads 107 = .ok (.iaload, 1) := by decide +kernel
theorem dX9_leads_108 : decode cX9_leads 108 = .ok (.ishl, 1) := by decide +kernel
theorem dX9_leads_109 : decode cX9_leads 109 = .ok (.goto 4, 3) := by decide +kernel
theorem dX9_leads_112 : decode cX9_leads 112 = .ok (.iconst 0, 1) := by decide +kernel
theorem dX9_leads_113 : decode cX9_leads 113 = .ok (.ior, 1) := by decide +kernel
theorem dX9_leads_114 : decode cX9_leads 114 = .ok (.istore_n 2, 1) := by decide +kernel
theorem dX9_leads_115 : decode cX9_leads 115 = .ok (.iinc 4 1, 3) := by decide +kernel
theorem dX9_leads_118 : decode cX9_leads 118 = .ok (.goto (-105), 3) := by decide +kernel
theorem dX9_leads_121 : decode cX9_leads 121 = .ok (.iinc 3 1, 3) := by decide +kernel
theorem dX9_leads_124 : decode cX9_leads 124 = .ok (.goto (-120), 3) := by decide +kernel
theorem dX9_leads_127 : decode cX9_leads 127 = .ok (.iload_n 2, 1) := by decide +kernel
theorem dX9_leads_128 : decode cX9_leads 128 = .ok (.ireturn, 1) := by decide +kernel
theorem dX9_circle_0 : decode cX9_circle 0 = .ok (.bipush (-4), 2) := by decide +kernel
theorem dX9_circle_2 : decode cX9_circle 2 = .ok (.istore_n 1, 1) := by decide +kernel
theorem dX9_circle_3 : decode cX9_circle 3 = .ok (.aload_n 0, 1) := by decide +kernel
theorem dX9_circle_4 : decode cX9_circle 4 = .ok (.getfield 7, 3) := by decide +kernel
theorem dX9_circle_7 : decode cX9_circle 7 = .ok (.iconst 0, 1) := by decide +kernel
theorem dX9_circle_8 : decode cX9_circle 8 = .ok (.iaload, 1) := by decide +kernel
theorem dX9_circle_9 : decode cX9_circle 9 = .ok (.iconst 1, 1) := by decide +kernel
theorem dX9_circle_10 : decode cX9_circle 10 = .ok (.isub, 1) := by decide +kernel
theorem dX9_circle_11 : decode cX9_circle 11 = .ok (.istore_n 2, 1) := by decide +kernel
theorem dX9_circle_12 : decode cX9_circle 12 = .ok (.iload_n 2, 1) := by decide +kernel
theorem dX9_circle_13 : decode cX9_circle 13 = .ok (.ifCond .lt 27, 3) := by decide +kernel
theorem dX9_circle_16 : decode cX9_circle 16 = .ok (.aload_n 0, 1) := by decide +kernel
theorem dX9_circle_17 : decode cX9_circle 17 = .ok (.iload_n 2, 1) := by decide +kernel
theorem dX9_circle_18 : decode cX9_circle 18 = .ok (.invokevirtual 160, 3) := by decide +kernel
theorem dX9_circle_21 : decode cX9_circle 21 = .ok (.iload_n 2, 1) := by decide +kernel
theorem dX9_circle_22 : decode cX9_circle 22 = .ok (.invokestatic 102, 3) := by decide +kernel
theorem dX9_circle_25 : decode cX9_circle 25 = .ok (.ifCond .eq 7, 3) := by decide +kernel
theorem dX9_circle_28 : decode cX9_circle 28 = .ok (.iload_n 2, 1) := by decide +kernel
theorem dX9_circle_29 : decode cX9_circle 29 = .ok (.goto 4, 3) := by decide +kernel
theorem dX9_circle_32 : decode cX9_circle 32 = .ok (.iload_n 1, 1) := by decide +kernel
theorem dX9_circle_33 : decode cX9_circle 33 = .ok (.istore_n 1, 1) := by decide +kernel
theorem dX9_circle_34 : decode cX9_circle 34 = .ok (.iinc 2 (-1), 3) := by decide +kernel
theorem dX9_circle_37 : decode cX9_circle 37 = .ok (.goto (-25), 3) := by decide +kernel
theorem dX9_circle_40 : decode cX9_circle 40 = .ok (.iload_n 1, 1) := by decide +kernel
theorem dX9_circle_41 : decode cX9_circle 41 = .ok (.ireturn, 1) := by decide +kernel
theorem dX9_deep_0 : decode cX9_deep 0 = .ok (.aload_n 0, 1) := by decide +kernel
theorem dX9_deep_1 : decode cX9_deep 1 = .ok (.invokevirtual 163, 3) := by decide +kernel
theorem dX9_deep_4 : decode cX9_deep 4 = .ok (.bipush (-4), 2) := by decide +kernel
theorem dX9_deep_6 : decode cX9_deep 6 = .ok (.if_icmp .eq 6, 3) := by decide +kernel
theorem dX9_deep_9 : decode cX9_deep 9 = .ok (.bipush (-4), 2) := by decide +kernel
theorem dX9_deep_11 : decode cX9_deep 11 = .ok (.ireturn, 1) := by decide +kernel
theorem dX9_deep_12 : decode cX9_deep 12 = .ok (.iconst 0, 1) := by decide +kernel
theorem dX9_deep_13 : decode cX9_deep 13 = .ok (.istore_n 1, 1) := by decide +kernel
theorem dX9_deep_14 : decode cX9_deep 14 = .ok (.iload_n 1, 1) := by decide +kernel
theorem dX9_deep_15 : decode cX9_deep 15 = .ok (.bipush 10, 2) := by decide +kernel
theorem dX9_deep_17 : decode cX9_deep 17 = .ok (.if_icmp .ge 16, 3) := by decide +kernel
theorem dX9_deep_20 : decode cX9_deep 20 = .ok (.aload_n 0, 1) := by decide +kernel
theorem dX9_deep_21 : decode cX9_deep 21 = .ok (.getfield 29, 3) := by decide +kernel
theorem dX9_deep_24 : decode cX9_deep 24 = .ok (.iload_n 1, 1) := by decide +kernel
theorem dX9_deep_25 : decode cX9_deep 25 = .ok (.iconst 0, 1) := by decide +kernel
theorem dX9_deep_26 : decode cX9_deep 26 = .ok (.iastore, 1) := by decide +kernel
theorem dX9_deep_27 : decode cX9_deep 27 = .ok (.iinc 1 1, 3) := by decide +kernel
theorem dX9_deep_30 : decode cX9_deep 30 = .ok (.goto (-16), 3) := by decide +kernel
theorem dX9_deep_33 : decode cX9_deep 33 = .ok (.iconst 0, 1) := by decide +kernel
theorem dX9_deep_34 : decode cX9_deep 34 = .ok (.istore_n 1, 1) := by decide +kernel
theorem dX9_deep_35 : decode cX9_deep 35 = .ok (.iconst 0, 1) := by decide +kernel
theorem dX9_deep_36 : decode cX9_deep 36 = .ok (.istore_n 2, 1) := by decide +kernel
theorem dX9_deep_37 : decode cX9_deep 37 = .ok (.iload_n 2, 1) := by decide +kernel
theorem dX9_deep_38 : decode cX9_deep 38 = .ok (.bipush 10, 2) := by decide +kernel
theorem dX9_deep_40 : decode cX9_deep 40 = .ok (.if_icmp .ge 162, 3) := by decide +kernel
theorem dX9_deep_43 : decode cX9_deep 43 = .ok (.iconst 0, 1) := by decide +kernel
theorem dX9_deep_44 : decode cX9_deep 44 = .ok (.istore_n 3, 1) := by decide +kernel
theorem dX9_deep_45 : decode cX9_deep 45 = .ok (.iload_n 3, 1) := by decide +kernel
theorem dX9_deep_46 : decode cX9_deep 46 = .ok (.aload_n 0, 1) := by decide +kernel
theorem dX9_deep_47 : decode cX9_deep 47 = .ok (.getfield 7, 3) := by decide +kernel
theorem dX9_deep_50 : decode cX9_deep 50 = .ok (.iconst 4, 1) := by decide +kernel
theorem dX9_deep_51 : decode cX9_deep 51 = .ok (.iaload, 1) := by decide +kernel
theorem dX9_deep_52 : decode cX9_deep 52 = .ok (.if_icmp .ge 144, 3) := by decide +kernel
theorem dX9_deep_55 : decode cX9_deep 55 = .ok (.aload_n 0, 1) := by decide +kernel
theorem dX9_deep_56 : decode cX9_deep 56 = .ok (.getfield 29, 3) := by decide +kernel
theorem dX9_deep_59 : decode cX9_deep 59 = .ok (.aload_n 0, 1) := by decide +kernel
theorem dX9_deep_60 : decode cX9_deep 60 = .ok (.getfield 7, 3) := by decide +kernel
theorem dX9_deep_63 : decode cX9_deep 63 = .ok (.iconst 5, 1) := by decide +kernel
theorem dX9_deep_64 : decode cX9_deep 64 = .ok (.iload_n 3, 1) := by decide +kernel
theorem dX9_deep_65 : decode cX9_deep 65 = .ok (.iadd, 1) := by decide +kernel
theorem dX9_deep_66 : decode cX9_deep 66 = .ok (.iaload, 1) := by decide +kernel
theorem dX9_deep_67 : decode cX9_deep 67 = .ok (.iaload, 1) := by decide +kernel
theorem dX9_deep_68 : decode cX9_deep 68 = .ok (.aload_n 0, 1) := by decide +kernel
theorem dX9_deep_69 : decode cX9_deep 69 = .ok (.getfield 29, 3) := by decide +kernel
theorem dX9_deep_72 : decode cX9_deep 72 = .ok (.aload_n 0, 1) := by decide +kernel
theorem dX9_deep_73 : decode cX9_deep 73 = .ok (.getfield 7, 3) := by decide +kernel
theorem dX9_deep_76 : decode cX9_deep 76 = .ok (.bipush 15, 2) := by decide +kernel
theorem dX9_deep_78 : decode cX9_deep 78 = .ok (.iload_n 3, 1) := by decide +kernel
theorem dX9_deep_79 : decode cX9_deep 79 = .ok (.iadd, 1) := by decide +kernel
theorem dX9_deep_80 : decode cX9_deep 80 = .ok (.iaload, 1) := by decide +kernel
theorem dX9_deep_81 : decode cX9_deep 81 = .ok (.iaload, 1) := by decide +kernel
theorem dX9_deep_82 : decode cX9_deep 82 = .ok (.if_icmp .le 19, 3) := by decide +kernel
theorem dX9_deep_85 : decode cX9_deep 85 = .ok (.aload_n 0, 1) := by decide +kernel
theorem dX9_deep_86 : decode cX9_deep 86 = .ok (.getfield 29, 3) := by decide +kernel
theorem dX9_deep_89 : decode cX9_deep 89 = .ok (.aload_n 0, 1) := by decide +kernel
theorem dX9_deep_90 : decode cX9_deep 90 = .ok (.getfield 7, 3) := by decide +kernel
theorem dX9_deep_93 : decode cX9_deep 93 = .ok (.iconst 5, 1) := by decide +kernel
theorem dX9_deep_94 : decode cX9_deep 94 = .ok (.iload_n 3, 1) := by decide +kernel
theorem dX9_deep_95 : decode cX9_deep 95 = .ok (.iadd, 1) := by decide +kernel
theorem dX9_deep_96 : decode cX9_deep 96 = .ok (.iaload, 1) := by decide +kernel
theorem dX9_deep_97 : decode cX9_deep 97 = .ok (.iaload, 1) := by decide +kernel
theorem dX9_deep_98 : decode cX9_deep 98 = .ok (.goto 17, 3) := by decide +kernel
theorem dX9_deep_101 : decode cX9_deep 101 = .ok (.aload_n 0, 1) := by decide +kernel
theorem dX9_deep_102 : decode cX9_deep 102 = .ok (.getfield 29, 3) := by decide +kernel
theorem dX9_deep_105 : decode cX9_deep 105 = .ok (.aload_n 0, 1) := by decide +kernel
theorem dX9_deep_106 : decode cX9_deep 106 = .ok (.getfield 7, 3) := by decide +kernel
theorem dX9_deep_109 : decode cX9_deep 109 = .ok (.bipush 15, 2) := by decide +kernel
theorem dX9_deep_111 : decode cX9_deep 111 = .ok (.iload_n 3, 1) := by decide +kernel
theorem dX9_deep_112 : decode cX9_deep 112 = .ok (.iadd, 1) := by decide +kernel
theorem dX9_deep_113 : decode cX9_deep 113 = .ok (.iaload, 1) := by decide +kernel
theorem dX9_deep_114 : decode cX9_deep 114 = .ok (.iaload, 1) := by decide +kernel
theorem dX9_deep_115 : decode cX9_deep 115 = .ok (.istore 4, 2) := by decide +kernel
theorem dX9_deep_117 : decode cX9_deep 117 = .ok (.aload_n 0, 1) := by decide +kernel
theorem dX9_deep_118 : decode cX9_deep 118 = .ok (.getfield 29, 3) := by decide +kernel
theorem dX9_deep_121 : decode cX9_deep 121 = .ok (.aload_n 0, 1) := by decide +kernel
theorem dX9_deep_122 : decode cX9_deep 122 = .ok (.getfield 7, 3) := by decide +kernel
theorem dX9_deep_125 : decode cX9_deep 125 = .ok (.bipush 25, 2) := by decide +kernel
theorem dX9_deep_127 : decode cX9_deep 127 = .ok (.iload_n 3, 1) := by decide +kernel
theorem dX9_deep_128 : decode cX9_deep 128 = .ok (.iadd, 1) := by decide +kernel
theorem dX9_deep_129 : decode cX9_deep 129 = .ok (.iaload, 1) := by decide +kernel
theorem dX9_deep_130 : decode cX9_deep 130 = .ok (.iload 4, 2) := by decide +kernel
theorem dX9_deep_132 : decode cX9_deep 132 = .ok (.iconst 1, 1) := by decide +kernel
theorem dX9_deep_133 : decode cX9_deep 133 = .ok (.iadd, 1) := by decide +kernel
theorem dX9_deep_134 : decode cX9_deep 134 = .ok (.aload_n 0, 1) := by decide +kernel
theorem dX9_deep_135 : decode cX9_deep 135 = .ok (.getfield 29, 3) := by decide +kernel
theorem dX9_deep_138 : decode cX9_deep 138 = .ok (.aload_n 0, 1) := by decide +kernel
theorem dX9_deep_139 : decode cX9_deep 139 = .ok (.getfield 7, 3) := by decide +kernel
theorem dX9_deep_142 : decode cX9_deep 142 = .ok (.bipush 25, 2) := by decide +kernel
theorem dX9_deep_144 : decode cX9_deep 144 = .ok (.iload_n 3, 1) := by decide +kernel
theorem dX9_deep_145 : decode cX9_deep 145 = .ok (.iadd, 1) := by decide +kernel
theorem dX9_deep_146 : decode cX9_deep 146 = .ok (.iaload, 1) := by decide +kernel
theorem dX9_deep_147 : decode cX9_deep 147 = .ok (.iaload, 1) := by decide +kernel
theorem dX9_deep_148 : decode cX9_deep 148 = .ok (.if_icmp .le 10, 3) := by decide +kernel
theorem dX9_deep_151 : decode cX9_deep 151 = .ok (.iload 4, 2) := by decide +kernel
theorem dX9_deep_153 : decode cX9_deep 153 = .ok (.iconst 1, 1) := by decide +kernel
theorem dX9_deep_154 : decode cX9_deep 154 = .ok (.iadd, 1) := by decide +kernel
theorem dX9_deep_155 : decode cX9_deep 155 = .ok (.goto 17, 3) := by decide +kernel
theorem dX9_deep_158 : decode cX9_deep 158 = .ok (.aload_n 0, 1) := by decide +kernel
theorem dX9_deep_159 : decode cX9_deep 159 = .ok (.getfield 29, 3) := by decide +kernel
theorem dX9_deep_162 : decode cX9_deep 162 = .ok (.aload_n 0, 1) := by decide +kernel
theorem dX9_deep_163 : decode cX9_deep 163 = .ok (.getfield 7, 3) := by decide +kernel
theorem dX9_deep_166 : decode cX9_deep 166 = .ok (.bipush 25, 2) := by decide +kernel
theorem dX9_deep_168 : decode cX9_deep 168 = .ok (.iload_n 3, 1) := by decide +kernel
theorem dX9_deep_169 : decode cX9_deep 169 = .ok (.iadd, 1) := by decide +kernel
theorem dX9_deep_170 : decode cX9_deep 170 = .ok (.iaload, 1) := by decide +kernel
theorem dX9_deep_171 : decode cX9_deep 171 = .ok (.iaload, 1) := by decide +kernel
theorem dX9_deep_172 : decode cX9_deep 172 = .ok (.iastore, 1) := by decide +kernel
theorem dX9_deep_173 : decode cX9_deep 173 = .ok (.iload 4, 2) := by decide +kernel
theorem dX9_deep_175 : decode cX9_deep 175 = .ok (.iconst 1, 1) := by decide +kernel
theorem dX9_deep_176 : decode cX9_deep 176 = .ok (.iadd, 1) := by decide +kernel
theorem dX9_deep_177 : decode cX9_deep 177 = .ok (.iload_n 1, 1) := by decide +kernel
theorem dX9_deep_178 : decode cX9_deep 178 = .ok (.if_icmp .le 10, 3) := by decide +kernel
theorem dX9_deep_181 : decode cX9_deep 181 = .ok (.iload 4, 2) := by decide +kernel
theorem dX9_deep_183 : decode cX9_deep 183 = .ok (.iconst 1, 1) := by decide +kernel
theorem dX9_deep_184 : decode cX9_deep 184 = .ok (.iadd, 1) := by decide +kernel
theorem dX9_deep_185 : decode cX9_deep 185 = .ok (.goto 4, 3) := by decide +kernel
theorem dX9_deep_188 : decode cX9_deep 188 = .ok (.iload_n 1, 1) := by decide +kernel
theorem dX9_deep_189 : decode cX9_deep 189 = .ok (.istore_n 1, 1) := by decide +kernel
theorem dX9_deep_190 : decode cX9_deep 190 = .ok (.iinc 3 1, 3) := by decide +kernel
theorem dX9_deep_193 : decode cX9_deep 193 = .ok (.goto (-148), 3) := by decide +kernel
theorem dX9_deep_196 : decode cX9_deep 196 = .ok (.iinc 2 1, 3) := by decide +kernel
theorem dX9_deep_199 : decode cX9_deep 199 = .ok (.goto (-162), 3) := by decide +kernel
theorem dX9_deep_202 : decode cX9_deep 202 = .ok (.iload_n 1, 1) := by decide +kernel
theorem dX9_deep_203 : decode cX9_deep 203 = .ok (.ireturn, 1) := by decide +kernel
theorem dX9_proves_0 : decode cX9_proves 0 = .ok (.aload_n 0, 1) := by decide +kernel
theorem dX9_proves_1 : decode cX9_proves 1 = .ok (.aload_n 0, 1) := by decide +kernel
theorem dX9_proves_2 : decode cX9_proves 2 = .ok (.invokevirtual 151, 3) := by decide +kernel
theorem dX9_proves_5 : decode cX9_proves 5 = .ok (.iload_n 1, 1) := by decide +kernel
theorem dX9_proves_6 : decode cX9_proves 6 = .ok (.aload_n 0, 1) := by decide +kernel
theorem dX9_proves_7 : decode cX9_proves 7 = .ok (.getfield 7, 3) := by decide +kernel
theorem dX9_proves_10 : decode cX9_proves 10 = .ok (.iconst 2, 1) := by decide +kernel
theorem dX9_proves_11 : decode cX9_proves 11 = .ok (.iaload, 1) := by decide +kernel
theorem dX9_proves_12 : decode cX9_proves 12 = .ok (.invokevirtual 129, 3) := by decide +kernel
theorem dX9_proves_15 : decode cX9_proves 15 = .ok (.iload_n 2, 1) := by decide +kernel
theorem dX9_proves_16 : decode cX9_proves 16 = .ok (.invokestatic 102, 3) := by decide +kernel
theorem dX9_proves_19 : decode cX9_proves 19 = .ok (.ireturn, 1) := by decide +kernel
theorem dX9_isProof_0 : decode cX9_isProof 0 = .ok (.aload_n 0, 1) := by decide +kernel
theorem dX9_isProof_1 : decode cX9_isProof 1 = .ok (.iload_n 1, 1) := by decide +kernel
theorem dX9_isProof_2 : decode cX9_isProof 2 = .ok (.iload_n 2, 1) := by decide +kernel
theorem dX9_isProof_3 : decode cX9_isProof 3 = .ok (.invokevirtual 166, 3) := by decide +kernel
theorem dX9_isProof_6 : decode cX9_isProof 6 = .ok (.istore_n 3, 1) := by decide +kernel
theorem dX9_isProof_7 : decode cX9_isProof 7 = .ok (.iconst 0, 1) := by decide +kernel
theorem dX9_isProof_8 : decode cX9_isProof 8 = .ok (.istore 4, 2) := by decide +kernel
theorem dX9_isProof_10 : decode cX9_isProof 10 = .ok (.iload 4, 2) := by decide +kernel
theorem dX9_isProof_12 : decode cX9_isProof 12 = .ok (.aload_n 0, 1) := by decide +kernel
theorem dX9_isProof_13 : decode cX9_isProof 13 = .ok (.getfield 7, 3) := by decide +kernel
theorem dX9_isProof_16 : decode cX9_isProof 16 = .ok (.iconst 4, 1) := by decide +kernel
theorem dX9_isProof_17 : decode cX9_isProof 17 = .ok (.iaload, 1) := by decide +kernel
theorem dX9_isProof_18 : decode cX9_isProof 18 = .ok (.if_icmp .ge 44, 3) := by decide +kernel
theorem dX9_isProof_21 : decode cX9_isProof 21 = .ok (.iload_n 3, 1) := by decide +kernel
theorem dX9_isProof_22 : decode cX9_isProof 22 = .ok (.ifCond .eq 40, 3) := by decide +kernel
theorem dX9_isProof_25 : decode cX9_isProof 25 = .ok (.iload_n 1, 1) := by decide +kernel
theorem dX9_isProof_26 : decode cX9_isProof 26 = .ok (.iload 4, 2) := by decide +kernel
theorem dX9_isProof_28 : decode cX9_isProof 28 = .ok (.invokestatic 102, 3) := by decide +kernel
theorem dX9_isProof_31 : decode cX9_isProof 31 = .ok (.ifCond .eq 19, 3) := by decide +kernel
theorem dX9_isProof_34 : decode cX9_isProof 34 = .ok (.aload_n 0, 1) := by decide +kernel
theorem dX9_isProof_35 : decode cX9_isProof 35 = .ok (.iload_n 1, 1) := by decide +kernel
theorem dX9_isProof_36 : decode cX9_isProof 36 = .ok (.iconst 1, 1) := by decide +kernel
theorem dX9_isProof_37 : decode cX9_isProof 37 = .ok (.iload 4, 2) := by decide +kernel
theorem dX9_isProof_39 : decode cX9_isProof 39 = .ok (.ishl, 1) := by decide +kernel
theorem dX9_isProof_40 : decode cX9_isProof 40 = .ok (.iconst (-1), 1) := by decide +kernel
theorem dX9_isProof_41 : decode cX9_isProof 41 = .ok (.ixor, 1) := by decide +kernel
theorem dX9_isProof_42 : decode cX9_isProof 42 = .ok (.iand, 1) := by decide +kernel
theorem dX9_isProof_43 : decode cX9_isProof 43 = .ok (.iload_n 2, 1) := by decide +kernel
theorem dX9_isProof_44 : decode cX9_isProof 44 = .ok (.invokevirtual 166, 3) := by decide +kernel
theorem dX9_isProof_47 : decode cX9_isProof 47 = .ok (.ifCond .ne 7, 3) := by decide +kernel
theorem dX9_isProof_50 : decode cX9_isProof 50 = .ok (.iconst 1, 1) := by decide +kernel
theorem dX9_isProof_51 : decode cX9_isProof 51 = .ok (.goto 4, 3) := by decide +kernel
theorem dX9_isProof_54 : decode cX9_isProof 54 = .ok (.iconst 0, 1) := by decide +kernel
theorem dX9_isProof_55 : decode cX9_isProof 55 = .ok (.istore_n 3, 1) := by decide +kernel
theorem dX9_isProof_56 : decode cX9_isProof 56 = .ok (.iinc 4 1, 3) := by decide +kernel
theorem dX9_isProof_59 : decode cX9_isProof 59 = .ok (.goto (-49), 3) := by decide +kernel
theorem dX9_isProof_62 : decode cX9_isProof 62 = .ok (.iload_n 3, 1) := by decide +kernel
theorem dX9_isProof_63 : decode cX9_isProof 63 = .ok (.ireturn, 1) := by decide +kernel
theorem dX9_proofs_0 : decode cX9_proofs 0 = .ok (.aload_n 0, 1) := by decide +kernel
theorem dX9_proofs_1 : decode cX9_proofs 1 = .ok (.iload_n 1, 1) := by decide +kernel
theorem dX9_proofs_2 : decode cX9_proofs 2 = .ok (.invokevirtual 106, 3) := by decide +kernel
theorem dX9_proofs_5 : decode cX9_proofs 5 = .ok (.ifCond .eq 15, 3) := by decide +kernel
theorem dX9_proofs_8 : decode cX9_proofs 8 = .ok (.iload_n 2, 1) := by decide +kernel
theorem dX9_proofs_9 : decode cX9_proofs 9 = .ok (.i2l, 1) := by decide +kernel
theorem dX9_proofs_10 : decode cX9_proofs 10 = .ok (.lconst 0, 1) := by decide +kernel
theorem dX9_proofs_11 : decode cX9_proofs 11 = .ok (.ldc2_w 142, 3) := by decide +kernel
theorem dX9_proofs_14 : decode cX9_proofs 14 = .ok (.invokestatic 43, 3) := by decide +kernel
theorem dX9_proofs_17 : decode cX9_proofs 17 = .ok (.ifCond .ne 5, 3) := by decide +kernel
theorem dX9_proofs_20 : decode cX9_proofs 20 = .ok (.iconst (-1), 1) := by decide +kernel
theorem dX9_proofs_21 : decode cX9_proofs 21 = .ok (.ireturn, 1) := by decide +kernel
theorem dX9_proofs_22 : decode cX9_proofs 22 = .ok (.iconst 0, 1) := by decide +kernel
theorem dX9_proofs_23 : decode cX9_proofs 23 = .ok (.istore_n 3, 1) := by decide +kernel
theorem dX9_proofs_24 : decode cX9_proofs 24 = .ok (.bipush (-4), 2) := by decide +kernel
theorem dX9_proofs_26 : decode cX9_proofs 26 = .ok (.istore 4, 2) := by decide +kernel
theorem dX9_proofs_28 : decode cX9_proofs 28 = .ok (.aload_n 0, 1) := by decide +kernel
theorem dX9_proofs_29 : decode cX9_proofs 29 = .ok (.invokevirtual 126, 3) := by decide +kernel
theorem dX9_proofs_32 : decode cX9_proofs 32 = .ok (.istore 5, 2) := by decide +kernel
theorem dX9_proofs_34 : decode cX9_proofs 34 = .ok (.iconst 0, 1) := by decide +kernel
theorem dX9_proofs_35 : decode cX9_proofs 35 = .ok (.istore 6, 2) := by decide +kernel
theorem dX9_proofs_37 : decode cX9_proofs 37 = .ok (.iload 6, 2) := by decide +kernel
theorem dX9_proofs_39 : decode cX9_proofs 39 = .ok (.aload_n 0, 1) := by decide +kernel
theorem dX9_proofs_40 : decode cX9_proofs 40 = .ok (.invokevirtual 126, 3) := by decide +kernel
theorem dX9_proofs_43 : decode cX9_proofs 43 = .ok (.if_icmp .gt 58, 3) := by decide +kernel
theorem dX9_proofs_46 : decode cX9_proofs 46 = .ok (.aload_n 0, 1) := by decide +kernel
theorem dX9_proofs_47 : decode cX9_proofs 47 = .ok (.iload 6, 2) := by decide +kernel
theorem dX9_proofs_49 : decode cX9_proofs 49 = .ok (.iload_n 1, 1) := by decide +kernel
theorem dX9_proofs_50 : decode cX9_proofs 50 = .ok (.invokevirtual 169, 3) := by decide +kernel
theorem dX9_proofs_53 : decode cX9_proofs 53 = .ok (.ifCond .eq 42, 3) := by decide +kernel
theorem dX9_proofs_56 : decode cX9_proofs 56 = .ok (.iload 4, 2) := by decide +kernel
theorem dX9_proofs_58 : decode cX9_proofs 58 = .ok (.bipush (-4), 2) := by decide +kernel
theorem dX9_proofs_60 : decode cX9_proofs 60 = .ok (.if_icmp .eq 16, 3) := by decide +kernel
theorem dX9_proofs_63 : decode cX9_proofs 63 = .ok (.iload 6, 2) := by decide +kernel
theorem dX9_proofs_65 : decode cX9_proofs 65 = .ok (.invokestatic 122, 3) := by decide +kernel
theorem dX9_proofs_68 : decode cX9_proofs 68 = .ok (.iload 4, 2) := by decide +kernel
theorem dX9_proofs_70 : decode cX9_proofs 70 = .ok (.invokestatic 122, 3) := by decide +kernel
theorem dX9_proofs_73 : decode cX9_proofs 73 = .ok (.if_icmp .ge 8, 3) := by decide +kernel
theorem dX9_proofs_76 : decode cX9_proofs 76 = .ok (.iload 6, 2) := by decide +kernel
theorem dX9_proofs_78 : decode cX9_proofs 78 = .ok (.goto 5, 3) := by decide +kernel
theorem dX9_proofs_81 : decode cX9_proofs 81 = .ok (.iload 4, 2) := by decide +kernel
theorem dX9_proofs_83 : decode cX9_proofs 83 = .ok (.istore 4, 2) := by decide +kernel
theorem dX9_proofs_85 : decode cX9_proofs 85 = .ok (.iload 5, 2) := by decide +kernel
theorem dX9_proofs_87 : decode cX9_proofs 87 = .ok (.iload 6, 2) := by decide +kernel
theorem dX9_proofs_89 : decode cX9_proofs 89 = .ok (.iand, 1) := by decide +kernel
theorem dX9_proofs_90 : decode cX9_proofs 90 = .ok (.istore 5, 2) := by decide +kernel
theorem dX9_proofs_92 : decode cX9_proofs 92 = .ok (.iinc 3 1, 3) := by decide +kernel
theorem dX9_proofs_95 : decode cX9_proofs 95 = .ok (.iinc 6 1, 3) := by decide +kernel
theorem dX9_proofs_98 : decode cX9_proofs 98 = .ok (.goto (-61), 3) := by decide +kernel
theorem dX9_proofs_101 : decode cX9_proofs 101 = .ok (.iload_n 2, 1) := by decide +kernel
theorem dX9_proofs_102 : decode cX9_proofs 102 = .ok (.ifCond .ne 7, 3) := by decide +kernel
theorem dX9_proofs_105 : decode cX9_proofs 105 = .ok (.iload_n 3, 1) := by decide +kernel
theorem dX9_proofs_106 : decode cX9_proofs 106 = .ok (.goto 23, 3) := by decide +kernel
theorem dX9_proofs_109 : decode cX9_proofs 109 = .ok (.iload_n 2, 1) := by decide +kernel
theorem dX9_proofs_110 : decode cX9_proofs 110 = .ok (.iconst 1, 1) := by decide +kernel
theorem dX9_proofs_111 : decode cX9_proofs 111 = .ok (.if_icmp .ne 8, 3) := by decide +kernel
theorem dX9_proofs_114 : decode cX9_proofs 114 = .ok (.iload 4, 2) := by decide +kernel
theorem dX9_proofs_116 : decode cX9_proofs 116 = .ok (.goto 13, 3) := by decide +kernel
theorem dX9_proofs_119 : decode cX9_proofs 119 = .ok (.iload_n 3, 1) := by decide +kernel
theorem dX9_proofs_120 : decode cX9_proofs 120 = .ok (.ifCond .ne 7, 3) := by decide +kernel
theorem dX9_proofs_123 : decode cX9_proofs 123 = .ok (.iconst 0, 1) := by decide +kernel
theorem dX9_proofs_124 : decode cX9_proofs 124 = .ok (.goto 5, 3) := by decide +kernel
theorem dX9_proofs_127 : decode cX9_proofs 127 = .ok (.iload 5, 2) := by decide +kernel
theorem dX9_proofs_129 : decode cX9_proofs 129 = .ok (.ireturn, 1) := by decide +kernel
theorem dX9_worn_0 : decode cX9_worn 0 = .ok (.aload_n 0, 1) := by decide +kernel
theorem dX9_worn_1 : decode cX9_worn 1 = .ok (.iload_n 1, 1) := by decide +kernel
theorem dX9_worn_2 : decode cX9_worn 2 = .ok (.invokevirtual 106, 3) := by decide +kernel
theorem dX9_worn_5 : decode cX9_worn 5 = .ok (.ifCond .eq 11, 3) := by decide +kernel
theorem dX9_worn_8 : decode cX9_worn 8 = .ok (.aload_n 0, 1) := by decide +kernel
theorem dX9_worn_9 : decode cX9_worn 9 = .ok (.iload_n 2, 1) := by decide +kernel
theorem dX9_worn_10 : decode cX9_worn 10 = .ok (.invokevirtual 133, 3) := by decide +kernel
theorem dX9_worn_13 : decode cX9_worn 13 = .ok (.ifCond .ne 5, 3) := by decide +kernel
theorem dX9_worn_16 : decode cX9_worn 16 = .ok (.iconst (-1), 1) := by decide +kernel
theorem dX9_worn_17 : decode cX9_worn 17 = .ok (.ireturn, 1) := by decide +kernel
theorem dX9_worn_18 : decode cX9_worn 18 = .ok (.iconst 0, 1) := by decide +kernel
theorem dX9_worn_19 : decode cX9_worn 19 = .ok (.istore_n 3, 1) := by decide +kernel
theorem dX9_worn_20 : decode cX9_worn 20 = .ok (.iconst 0, 1) := by decide +kernel
theorem dX9_worn_21 : decode cX9_worn 21 = .ok (.istore 4, 2) := by decide +kernel
theorem dX9_worn_23 : decode cX9_worn 23 = .ok (.iload 4, 2) := by decide +kernel
theorem dX9_worn_25 : decode cX9_worn 25 = .ok (.aload_n 0, 1) := by decide +kernel
theorem dX9_worn_26 : decode cX9_worn 26 = .ok (.invokevirtual 126, 3) := by decide +kernel
theorem dX9_worn_29 : decode cX9_worn 29 = .ok (.if_icmp .gt 87, 3) := by decide +kernel
theorem dX9_worn_32 : decode cX9_worn 32 = .ok (.iconst 0, 1) := by decide +kernel
theorem dX9_worn_33 : decode cX9_worn 33 = .ok (.istore 5, 2) := by decide +kernel
theorem dX9_worn_35 : decode cX9_worn 35 = .ok (.iconst 0, 1) := by decide +kernel
theorem dX9_worn_36 : decode cX9_worn 36 = .ok (.istore 6, 2) := by decide +kernel
theorem dX9_worn_38 : decode cX9_worn 38 = .ok (.iload 6, 2) := by decide +kernel
theorem dX9_worn_40 : decode cX9_worn 40 = .ok (.aload_n 0, 1) := by decide +kernel
theorem dX9_worn_41 : decode cX9_worn 41 = .ok (.getfield 7, 3) := by decide +kernel
theorem dX9_worn_44 : decode cX9_worn 44 = .ok (.iconst 4, 1) := by decide +kernel
theorem dX9_worn_45 : decode cX9_worn 45 = .ok (.iaload, 1) := by decide +kernel
theorem dX9_worn_46 : decode cX9_worn 46 = .ok (.if_icmp .ge 40, 3) := by decide +kernel
theorem dX9_worn_49 : decode cX9_worn 49 = .ok (.iload 5, 2) := by decide +kernel
theorem dX9_worn_51 : decode cX9_worn 51 = .ok (.iload 4, 2) := by decide +kernel
theorem dX9_worn_53 : decode cX9_worn 53 = .ok (.iload 6, 2) := by decide +kernel
theorem dX9_worn_55 : decode cX9_worn 55 = .ok (.invokestatic 102, 3) := by decide +kernel
theorem dX9_worn_58 : decode cX9_worn 58 = .ok (.ifCond .eq 18, 3) := by decide +kernel
theorem dX9_worn_61 : decode cX9_worn 61 = .ok (.iconst 1, 1) := by decide +kernel
theorem dX9_worn_62 : decode cX9_worn 62 = .ok (.aload_n 0, 1) := by decide +kernel
theorem dX9_worn_63 : decode cX9_worn 63 = .ok (.getfield 7, 3) := by decide +kernel
theorem dX9_worn_66 : decode cX9_worn 66 = .ok (.bipush 25, 2) := by decide +kernel
theorem dX9_worn_68 : decode cX9_worn 68 = .ok (.iload 6, 2) := by decide +kernel
theorem dX9_worn_70 : decode cX9_worn 70 = .ok (.iadd, 1) := by decide +kernel
theorem dX9_worn_71 : decode cX9_worn 71 = .ok (.iaload, 1) := by decide +kernel
theorem dX9_worn_72 : decode cX9_worn 72 = .ok (.ishl, 1) := by decide +kernel
theorem dX9_worn_73 : decode cX9_worn 73 = .ok (.goto 4, 3) := by decide +kernel
theorem dX9_worn_76 : decode cX9_worn 76 = .ok (.iconst 0, 1) := by decide +kernel
theorem dX9_worn_77 : decode cX9_worn 77 = .ok (.ior, 1) := by decide +kernel
theorem dX9_worn_78 : decode cX9_worn 78 = .ok (.istore 5, 2) := by decide +kernel
theorem dX9_worn_80 : decode cX9_worn 80 = .ok (.iinc 6 1, 3) := by decide +kernel
theorem dX9_worn_83 : decode cX9_worn 83 = .ok (.goto (-45), 3) := by decide +kernel
theorem dX9_worn_86 : decode cX9_worn 86 = .ok (.iload_n 3, 1) := by decide +kernel
theorem dX9_worn_87 : decode cX9_worn 87 = .ok (.iload 5, 2) := by decide +kernel
theorem dX9_worn_89 : decode cX9_worn 89 = .ok (.iload_n 2, 1) := by decide +kernel
theorem dX9_worn_90 : decode cX9_worn 90 = .ok (.if_icmp .ne 17, 3) := by decide +kernel
theorem dX9_worn_93 : decode cX9_worn 93 = .ok (.aload_n 0, 1) := by decide +kernel
theorem dX9_worn_94 : decode cX9_worn 94 = .ok (.iload 4, 2) := by decide +kernel
theorem dX9_worn_96 : decode cX9_worn 96 = .ok (.iload_n 1, 1) := by decide +kernel
theorem dX9_worn_97 : decode cX9_worn 97 = .ok (.invokevirtual 169, 3) := by decide +kernel
theorem dX9_worn_100 : decode cX9_worn 100 = .ok (.ifCond .eq 7, 3) := by decide +kernel
theorem dX9_worn_103 : decode cX9_worn 103 = .ok (.iconst 1, 1) := by decide +kernel
theorem dX9_worn_104 : decode cX9_worn 104 = .ok (.goto 4, 3) := by decide +kernel
theorem dX9_worn_107 : decode cX9_worn 107 = .ok (.iconst 0, 1) := by decide +kernel
theorem dX9_worn_108 : decode cX9_worn 108 = .ok (.iadd, 1) := by decide +kernel
theorem dX9_worn_109 : decode cX9_worn 109 = .ok (.istore_n 3, 1) := by decide +kernel
theorem dX9_worn_110 : decode cX9_worn 110 = .ok (.iinc 4 1, 3) := by decide +kernel
theorem dX9_worn_113 : decode cX9_worn 113 = .ok (.goto (-90), 3) := by decide +kernel
theorem dX9_worn_116 : decode cX9_worn 116 = .ok (.iload_n 3, 1) := by decide +kernel
theorem dX9_worn_117 : decode cX9_worn 117 = .ok (.ireturn, 1) := by decide +kernel
theorem dX9_tell_0 : decode cX9_tell 0 = .ok (.aload_n 0, 1) := by decide +kernel
theorem dX9_tell_1 : decode cX9_tell 1 = .ok (.iload_n 1, 1) := by decide +kernel
theorem dX9_tell_2 : decode cX9_tell 2 = .ok (.invokevirtual 111, 3) := by decide +kernel
theorem dX9_tell_5 : decode cX9_tell 5 = .ok (.ifCond .ne 5, 3) := by decide +kernel
theorem dX9_tell_8 : decode cX9_tell 8 = .ok (.iconst (-1), 1) := by decide +kernel
theorem dX9_tell_9 : decode cX9_tell 9 = .ok (.ireturn, 1) := by decide +kernel
theorem dX9_tell_10 : decode cX9_tell 10 = .ok (.aload_n 0, 1) := by decide +kernel
theorem dX9_tell_11 : decode cX9_tell 11 = .ok (.getfield 93, 3) := by decide +kernel
theorem dX9_tell_14 : decode cX9_tell 14 = .ok (.bipush 12, 2) := by decide +kernel
theorem dX9_tell_16 : decode cX9_tell 16 = .ok (.if_icmp .ne 6, 3) := by decide +kernel
theorem dX9_tell_19 : decode cX9_tell 19 = .ok (.bipush (-3), 2) := by decide +kernel
theorem dX9_tell_21 : decode cX9_tell 21 = .ok (.ireturn, 1) := by decide +kernel
theorem dX9_tell_22 : decode cX9_tell 22 = .ok (.aload_n 0, 1) := by decide +kernel
theorem dX9_tell_23 : decode cX9_tell 23 = .ok (.getfield 16, 3) := by decide +kernel
theorem dX9_tell_26 : decode cX9_tell 26 = .ok (.aload_n 0, 1) := by decide +kernel
theorem dX9_tell_27 : decode cX9_tell 27 = .ok (.getfield 93, 3) := by decide +kernel
theorem dX9_tell_30 : decode cX9_tell 30 = .ok (.iload_n 1, 1) := by decide +kernel
theorem dX9_tell_31 : decode cX9_tell 31 = .ok (.iastore, 1) := by decide +kernel
theorem dX9_tell_32 : decode cX9_tell 32 = .ok (.aload_n 0, 1) := by decide +kernel
theorem dX9_tell_33 : decode cX9_tell 33 = .ok (.dup, 1) := by decide +kernel
theorem dX9_tell_34 : decode cX9_tell 34 = .ok (.getfield 93, 3) := by decide +kernel
theorem dX9_tell_37 : decode cX9_tell 37 = .ok (.iconst 1, 1) := by decide +kernel
theorem dX9_tell_38 : decode cX9_tell 38 = .ok (.iadd, 1) := by decide +kernel
theorem dX9_tell_39 : decode cX9_tell 39 = .ok (.putfield 93, 3) := by decide +kernel
theorem dX9_tell_42 : decode cX9_tell 42 = .ok (.aload_n 0, 1) := by decide +kernel
theorem dX9_tell_43 : decode cX9_tell 43 = .ok (.getfield 93, 3) := by decide +kernel
theorem dX9_tell_46 : decode cX9_tell 46 = .ok (.ireturn, 1) := by decide +kernel
theorem dX9_noRow_0 : decode cX9_noRow 0 = .ok (.aload_n 0, 1) := by decide +kernel
theorem dX9_noRow_1 : decode cX9_noRow 1 = .ok (.getfield 93, 3) := by decide +kernel
theorem dX9_noRow_4 : decode cX9_noRow 4 = .ok (.istore_n 1, 1) := by decide +kernel
theorem dX9_noRow_5 : decode cX9_noRow 5 = .ok (.aload_n 0, 1) := by decide +kernel
theorem dX9_noRow_6 : decode cX9_noRow 6 = .ok (.iconst 0, 1) := by decide +kernel
theorem dX9_noRow_7 : decode cX9_noRow 7 = .ok (.putfield 93, 3) := by decide +kernel
theorem dX9_noRow_10 : decode cX9_noRow 10 = .ok (.iload_n 1, 1) := by decide +kernel
theorem dX9_noRow_11 : decode cX9_noRow 11 = .ok (.ireturn, 1) := by decide +kernel
theorem dX9_judge_0 : decode cX9_judge 0 = .ok (.aload_n 0, 1) := by decide +kernel
theorem dX9_judge_1 : decode cX9_judge 1 = .ok (.getfield 7, 3) := by decide +kernel
theorem dX9_judge_4 : decode cX9_judge 4 = .ok (.iconst 3, 1) := by decide +kernel
theorem dX9_judge_5 : decode cX9_judge 5 = .ok (.iaload, 1) := by decide +kernel
theorem dX9_judge_6 : decode cX9_judge 6 = .ok (.istore_n 1, 1) := by decide +kernel
theorem dX9_judge_7 : decode cX9_judge 7 = .ok (.iconst 0, 1) := by decide +kernel
theorem dX9_judge_8 : decode cX9_judge 8 = .ok (.istore_n 2, 1) := by decide +kernel
theorem dX9_judge_9 : decode cX9_judge 9 = .ok (.iload_n 2, 1) := by decide +kernel
theorem dX9_judge_10 : decode cX9_judge 10 = .ok (.aload_n 0, 1) := by decide +kernel
theorem dX9_judge_11 : decode cX9_judge 11 = .ok (.getfield 93, 3) := by decide +kernel
theorem dX9_judge_14 : decode cX9_judge 14 = .ok (.if_icmp .ge 44, 3) := by decide +kernel
theorem dX9_judge_17 : decode cX9_judge 17 = .ok (.aload_n 0, 1) := by decide +kernel
theorem dX9_judge_18 : decode cX9_judge 18 = .ok (.iload_n 1, 1) := by decide +kernel
theorem dX9_judge_19 : decode cX9_judge 19 = .ok (.aload_n 0, 1) := by decide +kernel
theorem dX9_judge_20 : decode cX9_judge 20 = .ok (.getfield 16, 3) := by decide +kernel
theorem dX9_judge_23 : decode cX9_judge 23 = .ok (.iload_n 2, 1) := by decide +kernel
theorem dX9_judge_24 : decode cX9_judge 24 = .ok (.iaload, 1) := by decide +kernel
theorem dX9_judge_25 : decode cX9_judge 25 = .ok (.invokevirtual 139, 3) := by decide +kernel
theorem dX9_judge_28 : decode cX9_judge 28 = .ok (.ifCond .ne 5, 3) := by decide +kernel
theorem dX9_judge_31 : decode cX9_judge 31 = .ok (.iload_n 2, 1) := by decide +kernel
theorem dX9_judge_32 : decode cX9_judge 32 = .ok (.ireturn, 1) := by decide +kernel
theorem dX9_judge_33 : decode cX9_judge 33 = .ok (.iload_n 1, 1) := by decide +kernel
theorem dX9_judge_34 : decode cX9_judge 34 = .ok (.iconst 1, 1) := by decide +kernel
theorem dX9_judge_35 : decode cX9_judge 35 = .ok (.aload_n 0, 1) := by decide +kernel
theorem dX9_judge_36 : decode cX9_judge 36 = .ok (.getfield 7, 3) := by decide +kernel
theorem dX9_judge_39 : decode cX9_judge 39 = .ok (.bipush 25, 2) := by decide +kernel
theorem dX9_judge_41 : decode cX9_judge 41 = .ok (.aload_n 0, 1) := by decide +kernel
theorem dX9_judge_42 : decode cX9_judge 42 = .ok (.getfield 16, 3) := by decide +kernel
theorem dX9_judge_45 : decode cX9_judge 45 = .ok (.iload_n 2, 1) := by decide +kernel
theorem dX9_judge_46 : decode cX9_judge 46 = .ok (.iaload, 1) := by decide +kernel
theorem dX9_judge_47 : decode cX9_judge 47 = .ok (.iadd, 1) := by decide +kernel
theorem dX9_judge_48 : decode cX9_judge 48 = .ok (.iaload, 1) := by decide +kernel
theorem dX9_judge_49 : decode cX9_judge 49 = .ok (.ishl, 1) := by decide +kernel
theorem dX9_judge_50 : decode cX9_judge 50 = .ok (.ior, 1) := by decide +kernel
theorem dX9_judge_51 : decode cX9_judge 51 = .ok (.istore_n 1, 1) := by decide +kernel
theorem dX9_judge_52 : decode cX9_judge 52 = .ok (.iinc 2 1, 3) := by decide +kernel
theorem dX9_judge_55 : decode cX9_judge 55 = .ok (.goto (-46), 3) := by decide +kernel
theorem dX9_judge_58 : decode cX9_judge 58 = .ok (.bipush (-4), 2) := by decide +kernel
theorem dX9_judge_60 : decode cX9_judge 60 = .ok (.ireturn, 1) := by decide +kernel
theorem dX9_year_0 : decode cX9_year 0 = .ok (.iload_n 1, 1) := by decide +kernel
theorem dX9_year_1 : decode cX9_year 1 = .ok (.i2l, 1) := by decide +kernel
theorem dX9_year_2 : decode cX9_year 2 = .ok (.lconst 0, 1) := by decide +kernel
theorem dX9_year_3 : decode cX9_year 3 = .ok (.ldc2_w 172, 3) := by decide +kernel
theorem dX9_year_6 : decode cX9_year 6 = .ok (.invokestatic 43, 3) := by decide +kernel
theorem dX9_year_9 : decode cX9_year 9 = .ok (.ifCond .eq 25, 3) := by decide +kernel
theorem dX9_year_12 : decode cX9_year 12 = .ok (.iload_n 2, 1) := by decide +kernel
theorem dX9_year_13 : decode cX9_year 13 = .ok (.i2l, 1) := by decide +kernel
theorem dX9_year_14 : decode cX9_year 14 = .ok (.lconst 1, 1) := by decide +kernel
theorem dX9_year_15 : decode cX9_year 15 = .ok (.ldc2_w 174, 3) := by decide +kernel
theorem dX9_year_18 : decode cX9_year 18 = .ok (.invokestatic 43, 3) := by decide +kernel
theorem dX9_year_21 : decode cX9_year 21 = .ok (.ifCond .eq 13, 3) := by decide +kernel
theorem dX9_year_24 : decode cX9_year 24 = .ok (.iload_n 3, 1) := by decide +kernel
theorem dX9_year_25 : decode cX9_year 25 = .ok (.i2l, 1) := by decide +kernel
theorem dX9_year_26 : decode cX9_year 26 = .ok (.lconst 0, 1) := by decide +kernel
theorem dX9_year_27 : decode cX9_year 27 = .ok (.lconst 1, 1) := by decide +kernel
theorem dX9_year_28 : decode cX9_year 28 = .ok (.invokestatic 43, 3) := by decide +kernel
theorem dX9_year_31 : decode cX9_year 31 = .ok (.ifCond .ne 5, 3) := by decide +kernel
theorem dX9_year_34 : decode cX9_year 34 = .ok (.iconst (-1), 1) := by decide +kernel
theorem dX9_year_35 : decode cX9_year 35 = .ok (.ireturn, 1) := by decide +kernel
theorem dX9_year_36 : decode cX9_year 36 = .ok (.aload_n 0, 1) := by decide +kernel
theorem dX9_year_37 : decode cX9_year 37 = .ok (.getfield 7, 3) := by decide +kernel
theorem dX9_year_40 : decode cX9_year 40 = .ok (.iconst 3, 1) := by decide +kernel
theorem dX9_year_41 : decode cX9_year 41 = .ok (.iaload, 1) := by decide +kernel
theorem dX9_year_42 : decode cX9_year 42 = .ok (.istore 4, 2) := by decide +kernel
theorem dX9_year_44 : decode cX9_year 44 = .ok (.iconst 0, 1) := by decide +kernel
theorem dX9_year_45 : decode cX9_year 45 = .ok (.istore 5, 2) := by decide +kernel
theorem dX9_year_47 : decode cX9_year 47 = .ok (.iconst 0, 1) := by decide +kernel
theorem dX9_year_48 : decode cX9_year 48 = .ok (.istore 6, 2) := by decide +kernel
theorem dX9_year_50 : decode cX9_year 50 = .ok (.iload 6, 2) := by decide +kernel
theorem dX9_year_52 : decode cX9_year 52 = .ok (.iload_n 2, 1) := by decide +kernel
theorem dX9_year_53 : decode cX9_year 53 = .ok (.if_icmp .ge 78, 3) := by decide +kernel
theorem dX9_year_56 : decode cX9_year 56 = .ok (.ldc2_w 176, 3) := by decide +kernel
theorem dX9_year_59 : decode cX9_year 59 = .ok (.iload_n 1, 1) := by decide +kernel
theorem dX9_year_60 : decode cX9_year 60 = .ok (.i2l, 1) := by decide +kernel
theorem dX9_year_61 : decode cX9_year 61 = .ok (.lmul, 1) := by decide +kernel
theorem dX9_year_62 : decode cX9_year 62 = .ok (.ldc2_w 178, 3) := by decide +kernel
theorem dX9_year_65 : decode cX9_year 65 = .ok (.iload 6, 2) := by decide +kernel
theorem dX9_year_67 : decode cX9_year 67 = .ok (.i2l, 1) := by decide +kernel
theorem dX9_year_68 : decode cX9_year 68 = .ok (.lmul, 1) := by decide +kernel
theorem dX9_year_69 : decode cX9_year 69 = .ok (.ladd, 1) := by decide +kernel
theorem dX9_year_70 : decode cX9_year 70 = .ok (.lconst 1, 1) := by decide +kernel
theorem dX9_year_71 : decode cX9_year 71 = .ok (.ladd, 1) := by decide +kernel
theorem dX9_year_72 : decode cX9_year 72 = .ok (.lstore 7, 2) := by decide +kernel
theorem dX9_year_74 : decode cX9_year 74 = .ok (.lload 7, 2) := by decide +kernel
theorem dX9_year_76 : decode cX9_year 76 = .ok (.lload 7, 2) := by decide +kernel
theorem dX9_year_78 : decode cX9_year 78 = .ok (.lmul, 1) := by decide +kernel
theorem dX9_year_79 : decode cX9_year 79 = .ok (.ldc2_w 180, 3) := by decide +kernel
theorem dX9_year_82 : decode cX9_year 82 = .ok (.lrem, 1) := by decide +kernel
theorem dX9_year_83 : decode cX9_year 83 = .ok (.aload_n 0, 1) := by decide +kernel
theorem dX9_year_84 : decode cX9_year 84 = .ok (.getfield 7, 3) := by decide +kernel
theorem dX9_year_87 : decode cX9_year 87 = .ok (.iconst 4, 1) := by decide +kernel
theorem dX9_year_88 : decode cX9_year 88 = .ok (.iaload, 1) := by decide +kernel
theorem dX9_year_89 : decode cX9_year 89 = .ok (.i2l, 1) := by decide +kernel
theorem dX9_year_90 : decode cX9_year 90 = .ok (.lrem, 1) := by decide +kernel
theorem dX9_year_91 : decode cX9_year 91 = .ok (.l2i, 1) := by decide +kernel
theorem dX9_year_92 : decode cX9_year 92 = .ok (.istore 9, 2) := by decide +kernel
theorem dX9_year_94 : decode cX9_year 94 = .ok (.aload_n 0, 1) := by decide +kernel
theorem dX9_year_95 : decode cX9_year 95 = .ok (.iload 4, 2) := by decide +kernel
theorem dX9_year_97 : decode cX9_year 97 = .ok (.iload 9, 2) := by decide +kernel
theorem dX9_year_99 : decode cX9_year 99 = .ok (.invokevirtual 139, 3) := by decide +kernel
theorem dX9_year_102 : decode cX9_year 102 = .ok (.ifCond .eq 23, 3) := by decide +kernel
theorem dX9_year_105 : decode cX9_year 105 = .ok (.iload 4, 2) := by decide +kernel
theorem dX9_year_107 : decode cX9_year 107 = .ok (.iconst 1, 1) := by decide +kernel
theorem dX9_year_108 : decode cX9_year 108 = .ok (.aload_n 0, 1) := by decide +kernel
theorem dX9_year_109 : decode cX9_year 109 = .ok (.getfield 7, 3) := by decide +kernel
theorem dX9_year_112 : decode cX9_year 112 = .ok (.bipush 25, 2) := by decide +kernel
theorem dX9_year_114 : decode cX9_year 114 = .ok (.iload 9, 2) := by decide +kernel
theorem dX9_year_116 : decode cX9_year 116 = .ok (.iadd, 1) := by decide +kernel
theorem dX9_year_117 : decode cX9_year 117 = .ok (.iaload, 1) := by decide +kernel
theorem dX9_year_118 : decode cX9_year 118 = .ok (.ishl, 1) := by decide +kernel
theorem dX9_year_119 : decode cX9_year 119 = .ok (.ior, 1) := by decide +kernel
theorem dX9_year_120 : decode cX9_year 120 = .ok (.istore 4, 2) := by decide +kernel
theorem dX9_year_122 : decode cX9_year 122 = .ok (.iinc 5 1, 3) := by decide +kernel
theorem dX9_year_125 : decode cX9_year 125 = .ok (.iinc 6 1, 3) := by decide +kernel
theorem dX9_year_128 : decode cX9_year 128 = .ok (.goto (-78), 3) := by decide +kernel
theorem dX9_year_131 : decode cX9_year 131 = .ok (.iload_n 3, 1) := by decide +kernel
theorem dX9_year_132 : decode cX9_year 132 = .ok (.ifCond .ne 8, 3) := by decide +kernel
theorem dX9_year_135 : decode cX9_year 135 = .ok (.iload 5, 2) := by decide +kernel
theorem dX9_year_137 : decode cX9_year 137 = .ok (.goto 5, 3) := by decide +kernel
theorem dX9_year_140 : decode cX9_year 140 = .ok (.iload 4, 2) := by decide +kernel
theorem dX9_year_142 : decode cX9_year 142 = .ok (.ireturn, 1) := by decide +kernel
theorem dX9_keep_0 : decode cX9_keep 0 = .ok (.aload_n 0, 1) := by decide +kernel
theorem dX9_keep_1 : decode cX9_keep 1 = .ok (.getfield 99, 3) := by decide +kernel
theorem dX9_keep_4 : decode cX9_keep 4 = .ok (.iconst 2, 1) := by decide +kernel
theorem dX9_keep_5 : decode cX9_keep 5 = .ok (.if_icmp .ne 6, 3) := by decide +kernel
theorem dX9_keep_8 : decode cX9_keep 8 = .ok (.bipush (-3), 2) := by decide +kernel
theorem dX9_keep_10 : decode cX9_keep 10 = .ok (.ireturn, 1) := by decide +kernel
theorem dX9_keep_11 : decode cX9_keep 11 = .ok (.aload_n 0, 1) := by decide +kernel
theorem dX9_keep_12 : decode cX9_keep 12 = .ok (.iconst 0, 1) := by decide +kernel
theorem dX9_keep_13 : decode cX9_keep 13 = .ok (.bipush 55, 2) := by decide +kernel
theorem dX9_keep_15 : decode cX9_keep 15 = .ok (.bipush 55, 2) := by decide +kernel
theorem dX9_keep_17 : decode cX9_keep 17 = .ok (.aload_n 0, 1) := by decide +kernel
theorem dX9_keep_18 : decode cX9_keep 18 = .ok (.getfield 99, 3) := by decide +kernel
theorem dX9_keep_21 : decode cX9_keep 21 = .ok (.imul, 1) := by decide +kernel
theorem dX9_keep_22 : decode cX9_keep 22 = .ok (.iadd, 1) := by decide +kernel
theorem dX9_keep_23 : decode cX9_keep 23 = .ok (.invokevirtual 89, 3) := by decide +kernel
theorem dX9_keep_26 : decode cX9_keep 26 = .ok (.aload_n 0, 1) := by decide +kernel
theorem dX9_keep_27 : decode cX9_keep 27 = .ok (.dup, 1) := by decide +kernel
theorem dX9_keep_28 : decode cX9_keep 28 = .ok (.getfield 99, 3) := by decide +kernel
theorem dX9_keep_31 : decode cX9_keep 31 = .ok (.iconst 1, 1) := by decide +kernel
theorem dX9_keep_32 : decode cX9_keep 32 = .ok (.iadd, 1) := by decide +kernel
theorem dX9_keep_33 : decode cX9_keep 33 = .ok (.putfield 99, 3) := by decide +kernel
theorem dX9_keep_36 : decode cX9_keep 36 = .ok (.aload_n 0, 1) := by decide +kernel
theorem dX9_keep_37 : decode cX9_keep 37 = .ok (.getfield 99, 3) := by decide +kernel
theorem dX9_keep_40 : decode cX9_keep 40 = .ok (.ireturn, 1) := by decide +kernel
theorem dX9_back_0 : decode cX9_back 0 = .ok (.aload_n 0, 1) := by decide +kernel
theorem dX9_back_1 : decode cX9_back 1 = .ok (.getfield 99, 3) := by decide +kernel
theorem dX9_back_4 : decode cX9_back 4 = .ok (.ifCond .ne 6, 3) := by decide +kernel
theorem dX9_back_7 : decode cX9_back 7 = .ok (.bipush (-2), 2) := by decide +kernel
theorem dX9_back_9 : decode cX9_back 9 = .ok (.ireturn, 1) := by decide +kernel
theorem dX9_back_10 : decode cX9_back 10 = .ok (.aload_n 0, 1) := by decide +kernel
theorem dX9_back_11 : decode cX9_back 11 = .ok (.dup, 1) := by decide +kernel
theorem dX9_back_12 : decode cX9_back 12 = .ok (.getfield 99, 3) := by decide +kernel
theorem dX9_back_15 : decode cX9_back 15 = .ok (.iconst 1, 1) := by decide +kernel
theorem dX9_back_16 : decode cX9_back 16 = .ok (.isub, 1) := by decide +kernel
theorem dX9_back_17 : decode cX9_back 17 = .ok (.putfield 99, 3) := by decide +kernel
theorem dX9_back_20 : decode cX9_back 20 = .ok (.aload_n 0, 1) := by decide +kernel
theorem dX9_back_21 : decode cX9_back 21 = .ok (.bipush 55, 2) := by decide +kernel
theorem dX9_back_23 : decode cX9_back 23 = .ok (.bipush 55, 2) := by decide +kernel
theorem dX9_back_25 : decode cX9_back 25 = .ok (.aload_n 0, 1) := by decide +kernel
theorem dX9_back_26 : decode cX9_back 26 = .ok (.getfield 99, 3) := by decide +kernel
theorem dX9_back_29 : decode cX9_back 29 = .ok (.imul, 1) := by decide +kernel
theorem dX9_back_30 : decode cX9_back 30 = .ok (.iadd, 1) := by decide +kernel
theorem dX9_back_31 : decode cX9_back 31 = .ok (.iconst 0, 1) := by decide +kernel
theorem dX9_back_32 : decode cX9_back 32 = .ok (.invokevirtual 89, 3) := by decide +kernel
theorem dX9_back_35 : decode cX9_back 35 = .ok (.aload_n 0, 1) := by decide +kernel
theorem dX9_back_36 : decode cX9_back 36 = .ok (.iconst 0, 1) := by decide +kernel
theorem dX9_back_37 : decode cX9_back 37 = .ok (.putfield 93, 3) := by decide +kernel
theorem dX9_back_40 : decode cX9_back 40 = .ok (.aload_n 0, 1) := by decide +kernel
theorem dX9_back_41 : decode cX9_back 41 = .ok (.iconst 0, 1) := by decide +kernel
theorem dX9_back_42 : decode cX9_back 42 = .ok (.putfield 96, 3) := by decide +kernel
theorem dX9_back_45 : decode cX9_back 45 = .ok (.aload_n 0, 1) := by decide +kernel
theorem dX9_back_46 : decode cX9_back 46 = .ok (.getfield 99, 3) := by decide +kernel
theorem dX9_back_49 : decode cX9_back 49 = .ok (.ireturn, 1) := by decide +kernel
theorem dX9_count_0 : decode cX9_count 0 = .ok (.iload_n 1, 1) := by decide +kernel
theorem dX9_count_1 : decode cX9_count 1 = .ok (.tableswitch 101 0 7 #[47, 54, 61, 71, 81, 86, 91, 96], 47) := by decide +kernel
theorem dX9_count_48 : decode cX9_count 48 = .ok (.aload_n 0, 1) := by decide +kernel
theorem dX9_count_49 : decode cX9_count 49 = .ok (.getfield 7, 3) := by decide +kernel
theorem dX9_count_52 : decode cX9_count 52 = .ok (.iconst 0, 1) := by decide +kernel
theorem dX9_count_53 : decode cX9_count 53 = .ok (.iaload, 1) := by decide +kernel
theorem dX9_count_54 : decode cX9_count 54 = .ok (.ireturn, 1) := by decide +kernel
theorem dX9_count_55 : decode cX9_count 55 = .ok (.aload_n 0, 1) := by decide +kernel
theorem dX9_count_56 : decode cX9_count 56 = .ok (.getfield 7, 3) := by decide +kernel
theorem dX9_count_59 : decode cX9_count 59 = .ok (.iconst 4, 1) := by decide +kernel
theorem dX9_count_60 : decode cX9_count 60 = .ok (.iaload, 1) := by decide +kernel
theorem dX9_count_61 : decode cX9_count 61 = .ok (.ireturn, 1) := by decide +kernel
theorem dX9_count_62 : decode cX9_count 62 = .ok (.aload_n 0, 1) := by decide +kernel
theorem dX9_count_63 : decode cX9_count 63 = .ok (.getfield 7, 3) := by decide +kernel
theorem dX9_count_66 : decode cX9_count 66 = .ok (.iconst 2, 1) := by decide +kernel
theorem dX9_count_67 : decode cX9_count 67 = .ok (.iaload, 1) := by decide +kernel
theorem dX9_count_68 : decode cX9_count 68 = .ok (.invokestatic 122, 3) := by decide +kernel
theorem dX9_count_71 : decode cX9_count 71 = .ok (.ireturn, 1) := by decide +kernel
theorem dX9_count_72 : decode cX9_count 72 = .ok (.aload_n 0, 1) := by decide +kernel
theorem dX9_count_73 : decode cX9_count 73 = .ok (.getfield 7, 3) := by decide +kernel
theorem dX9_count_76 : decode cX9_count 76 = .ok (.iconst 3, 1) := by decide +kernel
theorem dX9_count_77 : decode cX9_count 77 = .ok (.iaload, 1) := by decide +kernel
theorem dX9_count_78 : decode cX9_count 78 = .ok (.invokestatic 122, 3) := by decide +kernel
theorem dX9_count_81 : decode cX9_count 81 = .ok (.ireturn, 1) := by decide +kernel
theorem dX9_count_82 : decode cX9_count 82 = .ok (.aload_n 0, 1) := by decide +kernel
theorem dX9_count_83 : decode cX9_count 83 = .ok (.getfield 93, 3) := by decide +kernel
theorem dX9_count_86 : decode cX9_count 86 = .ok (.ireturn, 1) := by decide +kernel
theorem dX9_count_87 : decode cX9_count 87 = .ok (.aload_n 0, 1) := by decide +kernel
theorem dX9_count_88 : decode cX9_count 88 = .ok (.getfield 96, 3) := by decide +kernel
theorem dX9_count_91 : decode cX9_count 91 = .ok (.ireturn, 1) := by decide +kernel
theorem dX9_count_92 : decode cX9_count 92 = .ok (.aload_n 0, 1) := by decide +kernel
theorem dX9_count_93 : decode cX9_count 93 = .ok (.getfield 99, 3) := by decide +kernel
theorem dX9_count_96 : decode cX9_count 96 = .ok (.ireturn, 1) := by decide +kernel
theorem dX9_count_97 : decode cX9_count 97 = .ok (.aload_n 0, 1) := by decide +kernel
theorem dX9_count_98 : decode cX9_count 98 = .ok (.getfield 49, 3) := by decide +kernel
theorem dX9_count_101 : decode cX9_count 101 = .ok (.ireturn, 1) := by decide +kernel
theorem dX9_count_102 : decode cX9_count 102 = .ok (.iconst (-1), 1) := by decide +kernel
theorem dX9_count_103 : decode cX9_count 103 = .ok (.ireturn, 1) := by decide +kernel
