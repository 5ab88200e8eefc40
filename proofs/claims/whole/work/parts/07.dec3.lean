theorem dX12_target_223 : decode cX12_target 223 = .ok (.getfield 141, 3) := by decide +kernel
theorem dX12_target_226 : decode cX12_target 226 = .ok (.ifCond .ne 47, 3) := by decide +kernel
theorem dX12_target_229 : decode cX12_target 229 = .ok (.aload_n 0, 1) := by decide +kernel
theorem dX12_target_230 : decode cX12_target 230 = .ok (.getfield 236, 3) := by decide +kernel
theorem dX12_target_233 : decode cX12_target 233 = .ok (.aload_n 0, 1) := by decide +kernel
theorem dX12_target_234 : decode cX12_target 234 = .ok (.getfield 219, 3) := by decide +kernel
theorem dX12_target_237 : decode cX12_target 237 = .ok (.iload_n 1, 1) := by decide +kernel
theorem dX12_target_238 : decode cX12_target 238 = .ok (.iadd, 1) := by decide +kernel
theorem dX12_target_239 : decode cX12_target 239 = .ok (.if_icmp .ne 25, 3) := by decide +kernel
theorem dX12_target_242 : decode cX12_target 242 = .ok (.aload_n 0, 1) := by decide +kernel
theorem dX12_target_243 : decode cX12_target 243 = .ok (.getfield 239, 3) := by decide +kernel
theorem dX12_target_246 : decode cX12_target 246 = .ok (.aload_n 0, 1) := by decide +kernel
theorem dX12_target_247 : decode cX12_target 247 = .ok (.getfield 242, 3) := by decide +kernel
theorem dX12_target_250 : decode cX12_target 250 = .ok (.if_icmp .lt 14, 3) := by decide +kernel
theorem dX12_target_253 : decode cX12_target 253 = .ok (.aload_n 0, 1) := by decide +kernel
theorem dX12_target_254 : decode cX12_target 254 = .ok (.getfield 245, 3) := by decide +kernel
theorem dX12_target_257 : decode cX12_target 257 = .ok (.aload_n 0, 1) := by decide +kernel
theorem dX12_target_258 : decode cX12_target 258 = .ok (.getfield 248, 3) := by decide +kernel
theorem dX12_target_261 : decode cX12_target 261 = .ok (.if_icmp .ge 12, 3) := by decide +kernel
theorem dX12_target_264 : decode cX12_target 264 = .ok (.aload_n 0, 1) := by decide +kernel
theorem dX12_target_265 : decode cX12_target 265 = .ok (.bipush 15, 2) := by decide +kernel
theorem dX12_target_267 : decode cX12_target 267 = .ok (.iload 4, 2) := by decide +kernel
theorem dX12_target_269 : decode cX12_target 269 = .ok (.invokevirtual 153, 3) := by decide +kernel
theorem dX12_target_272 : decode cX12_target 272 = .ok (.pop, 1) := by decide +kernel
theorem dX12_target_273 : decode cX12_target 273 = .ok (.aload_n 0, 1) := by decide +kernel
theorem dX12_target_274 : decode cX12_target 274 = .ok (.iload 5, 2) := by decide +kernel
theorem dX12_target_276 : decode cX12_target 276 = .ok (.putfield 150, 3) := by decide +kernel
theorem dX12_target_279 : decode cX12_target 279 = .ok (.return_, 1) := by decide +kernel
theorem dX12_adler_0 : decode cX12_adler 0 = .ok (.lconst 1, 1) := by decide +kernel
theorem dX12_adler_1 : decode cX12_adler 1 = .ok (.lstore_n 3, 1) := by decide +kernel
theorem dX12_adler_2 : decode cX12_adler 2 = .ok (.lconst 0, 1) := by decide +kernel
theorem dX12_adler_3 : decode cX12_adler 3 = .ok (.lstore 5, 2) := by decide +kernel
theorem dX12_adler_5 : decode cX12_adler 5 = .ok (.iconst 0, 1) := by decide +kernel
theorem dX12_adler_6 : decode cX12_adler 6 = .ok (.istore 7, 2) := by decide +kernel
theorem dX12_adler_8 : decode cX12_adler 8 = .ok (.iload 7, 2) := by decide +kernel
theorem dX12_adler_10 : decode cX12_adler 10 = .ok (.iload_n 2, 1) := by decide +kernel
theorem dX12_adler_11 : decode cX12_adler 11 = .ok (.if_icmp .ge 37, 3) := by decide +kernel
theorem dX12_adler_14 : decode cX12_adler 14 = .ok (.lload_n 3, 1) := by decide +kernel
theorem dX12_adler_15 : decode cX12_adler 15 = .ok (.aload_n 0, 1) := by decide +kernel
theorem dX12_adler_16 : decode cX12_adler 16 = .ok (.iload_n 1, 1) := by decide +kernel
theorem dX12_adler_17 : decode cX12_adler 17 = .ok (.iload 7, 2) := by decide +kernel
theorem dX12_adler_19 : decode cX12_adler 19 = .ok (.iadd, 1) := by decide +kernel
theorem dX12_adler_20 : decode cX12_adler 20 = .ok (.baload, 1) := by decide +kernel
theorem dX12_adler_21 : decode cX12_adler 21 = .ok (.sipush 255, 3) := by decide +kernel
theorem dX12_adler_24 : decode cX12_adler 24 = .ok (.iand, 1) := by decide +kernel
theorem dX12_adler_25 : decode cX12_adler 25 = .ok (.i2l, 1) := by decide +kernel
theorem dX12_adler_26 : decode cX12_adler 26 = .ok (.ladd, 1) := by decide +kernel
theorem dX12_adler_27 : decode cX12_adler 27 = .ok (.ldc2_w 232, 3) := by decide +kernel
theorem dX12_adler_30 : decode cX12_adler 30 = .ok (.lrem, 1) := by decide +kernel
theorem dX12_adler_31 : decode cX12_adler 31 = .ok (.lstore_n 3, 1) := by decide +kernel
theorem dX12_adler_32 : decode cX12_adler 32 = .ok (.lload 5, 2) := by decide +kernel
theorem dX12_adler_34 : decode cX12_adler 34 = .ok (.lload_n 3, 1) := by decide +kernel
theorem dX12_adler_35 : decode cX12_adler 35 = .ok (.ladd, 1) := by decide +kernel
theorem dX12_adler_36 : decode cX12_adler 36 = .ok (.ldc2_w 232, 3) := by decide +kernel
theorem dX12_adler_39 : decode cX12_adler 39 = .ok (.lrem, 1) := by decide +kernel
theorem dX12_adler_40 : decode cX12_adler 40 = .ok (.lstore 5, 2) := by decide +kernel
theorem dX12_adler_42 : decode cX12_adler 42 = .ok (.iinc 7 1, 3) := by decide +kernel
theorem dX12_adler_45 : decode cX12_adler 45 = .ok (.goto (-37), 3) := by decide +kernel
theorem dX12_adler_48 : decode cX12_adler 48 = .ok (.ldc2_w 234, 3) := by decide +kernel
theorem dX12_adler_51 : decode cX12_adler 51 = .ok (.lload 5, 2) := by decide +kernel
theorem dX12_adler_53 : decode cX12_adler 53 = .ok (.lmul, 1) := by decide +kernel
theorem dX12_adler_54 : decode cX12_adler 54 = .ok (.lload_n 3, 1) := by decide +kernel
theorem dX12_adler_55 : decode cX12_adler 55 = .ok (.ladd, 1) := by decide +kernel
theorem dX12_adler_56 : decode cX12_adler 56 = .ok (.lreturn, 1) := by decide +kernel
theorem dX12_window_0 : decode cX12_window 0 = .ok (.aload_n 0, 1) := by decide +kernel
theorem dX12_window_1 : decode cX12_window 1 = .ok (.getfield 36, 3) := by decide +kernel
theorem dX12_window_4 : decode cX12_window 4 = .ok (.aload_n 0, 1) := by decide +kernel
theorem dX12_window_5 : decode cX12_window 5 = .ok (.getfield 150, 3) := by decide +kernel
theorem dX12_window_8 : decode cX12_window 8 = .ok (.baload, 1) := by decide +kernel
theorem dX12_window_9 : decode cX12_window 9 = .ok (.sipush 255, 3) := by decide +kernel
theorem dX12_window_12 : decode cX12_window 12 = .ok (.iand, 1) := by decide +kernel
theorem dX12_window_13 : decode cX12_window 13 = .ok (.istore_n 1, 1) := by decide +kernel
theorem dX12_window_14 : decode cX12_window 14 = .ok (.iload_n 1, 1) := by decide +kernel
theorem dX12_window_15 : decode cX12_window 15 = .ok (.bipush 7, 2) := by decide +kernel
theorem dX12_window_17 : decode cX12_window 17 = .ok (.if_icmp .gt 10, 3) := by decide +kernel
theorem dX12_window_20 : decode cX12_window 20 = .ok (.iload_n 1, 1) := by decide +kernel
theorem dX12_window_21 : decode cX12_window 21 = .ok (.iconst 3, 1) := by decide +kernel
theorem dX12_window_22 : decode cX12_window 22 = .ok (.iand, 1) := by decide +kernel
theorem dX12_window_23 : decode cX12_window 23 = .ok (.iconst 3, 1) := by decide +kernel
theorem dX12_window_24 : decode cX12_window 24 = .ok (.if_icmp .ne 15, 3) := by decide +kernel
theorem dX12_window_27 : decode cX12_window 27 = .ok (.aload_n 0, 1) := by decide +kernel
theorem dX12_window_28 : decode cX12_window 28 = .ok (.bipush 6, 2) := by decide +kernel
theorem dX12_window_30 : decode cX12_window 30 = .ok (.aload_n 0, 1) := by decide +kernel
theorem dX12_window_31 : decode cX12_window 31 = .ok (.getfield 150, 3) := by decide +kernel
theorem dX12_window_34 : decode cX12_window 34 = .ok (.invokevirtual 153, 3) := by decide +kernel
theorem dX12_window_37 : decode cX12_window 37 = .ok (.pop, 1) := by decide +kernel
theorem dX12_window_38 : decode cX12_window 38 = .ok (.return_, 1) := by decide +kernel
theorem dX12_window_39 : decode cX12_window 39 = .ok (.aload_n 0, 1) := by decide +kernel
theorem dX12_window_40 : decode cX12_window 40 = .ok (.dup, 1) := by decide +kernel
theorem dX12_window_41 : decode cX12_window 41 = .ok (.getfield 150, 3) := by decide +kernel
theorem dX12_window_44 : decode cX12_window 44 = .ok (.iconst 1, 1) := by decide +kernel
theorem dX12_window_45 : decode cX12_window 45 = .ok (.iadd, 1) := by decide +kernel
theorem dX12_window_46 : decode cX12_window 46 = .ok (.putfield 150, 3) := by decide +kernel
theorem dX12_window_49 : decode cX12_window 49 = .ok (.aload_n 0, 1) := by decide +kernel
theorem dX12_window_50 : decode cX12_window 50 = .ok (.getfield 61, 3) := by decide +kernel
theorem dX12_window_53 : decode cX12_window 53 = .ok (.iconst 0, 1) := by decide +kernel
theorem dX12_window_54 : decode cX12_window 54 = .ok (.dup2, 1) := by decide +kernel
theorem dX12_window_55 : decode cX12_window 55 = .ok (.iaload, 1) := by decide +kernel
theorem dX12_window_56 : decode cX12_window 56 = .ok (.aload_n 0, 1) := by decide +kernel
theorem dX12_window_57 : decode cX12_window 57 = .ok (.getfield 180, 3) := by decide +kernel
theorem dX12_window_60 : decode cX12_window 60 = .ok (.ifCond .eq 7, 3) := by decide +kernel
theorem dX12_window_63 : decode cX12_window 63 = .ok (.iconst 1, 1) := by decide +kernel
theorem dX12_window_64 : decode cX12_window 64 = .ok (.goto 4, 3) := by decide +kernel
theorem dX12_window_67 : decode cX12_window 67 = .ok (.iconst 0, 1) := by decide +kernel
theorem dX12_window_68 : decode cX12_window 68 = .ok (.iadd, 1) := by decide +kernel
theorem dX12_window_69 : decode cX12_window 69 = .ok (.iastore, 1) := by decide +kernel
theorem dX12_window_70 : decode cX12_window 70 = .ok (.aload_n 0, 1) := by decide +kernel
theorem dX12_window_71 : decode cX12_window 71 = .ok (.iconst 0, 1) := by decide +kernel
theorem dX12_window_72 : decode cX12_window 72 = .ok (.putfield 219, 3) := by decide +kernel
theorem dX12_window_75 : decode cX12_window 75 = .ok (.iload_n 1, 1) := by decide +kernel
theorem dX12_window_76 : decode cX12_window 76 = .ok (.iconst 3, 1) := by decide +kernel
theorem dX12_window_77 : decode cX12_window 77 = .ok (.iand, 1) := by decide +kernel
theorem dX12_window_78 : decode cX12_window 78 = .ok (.ifCond .le 124, 3) := by decide +kernel
theorem dX12_window_81 : decode cX12_window 81 = .ok (.aload_n 0, 1) := by decide +kernel
theorem dX12_window_82 : decode cX12_window 82 = .ok (.getfield 150, 3) := by decide +kernel
theorem dX12_window_85 : decode cX12_window 85 = .ok (.istore_n 2, 1) := by decide +kernel
theorem dX12_window_86 : decode cX12_window 86 = .ok (.aload_n 0, 1) := by decide +kernel
theorem dX12_window_87 : decode cX12_window 87 = .ok (.invokevirtual 176, 3) := by decide +kernel
theorem dX12_window_90 : decode cX12_window 90 = .ok (.lstore_n 3, 1) := by decide +kernel
theorem dX12_window_91 : decode cX12_window 91 = .ok (.aload_n 0, 1) := by decide +kernel
theorem dX12_window_92 : decode cX12_window 92 = .ok (.invokevirtual 176, 3) := by decide +kernel
theorem dX12_window_95 : decode cX12_window 95 = .ok (.lstore 5, 2) := by decide +kernel
theorem dX12_window_97 : decode cX12_window 97 = .ok (.aload_n 0, 1) := by decide +kernel
theorem dX12_window_98 : decode cX12_window 98 = .ok (.getfield 141, 3) := by decide +kernel
theorem dX12_window_101 : decode cX12_window 101 = .ok (.ifCond .le 4, 3) := by decide +kernel
theorem dX12_window_104 : decode cX12_window 104 = .ok (.return_, 1) := by decide +kernel
theorem dX12_window_105 : decode cX12_window 105 = .ok (.lload_n 3, 1) := by decide +kernel
theorem dX12_window_106 : decode cX12_window 106 = .ok (.lload 5, 2) := by decide +kernel
theorem dX12_window_108 : decode cX12_window 108 = .ok (.ladd, 1) := by decide +kernel
theorem dX12_window_109 : decode cX12_window 109 = .ok (.iload_n 1, 1) := by decide +kernel
theorem dX12_window_110 : decode cX12_window 110 = .ok (.iconst 1, 1) := by decide +kernel
theorem dX12_window_111 : decode cX12_window 111 = .ok (.iand, 1) := by decide +kernel
theorem dX12_window_112 : decode cX12_window 112 = .ok (.ifCond .le 10, 3) := by decide +kernel
theorem dX12_window_115 : decode cX12_window 115 = .ok (.aload_n 0, 1) := by decide +kernel
theorem dX12_window_116 : decode cX12_window 116 = .ok (.getfield 201, 3) := by decide +kernel
theorem dX12_window_119 : decode cX12_window 119 = .ok (.goto 7, 3) := by decide +kernel
theorem dX12_window_122 : decode cX12_window 122 = .ok (.aload_n 0, 1) := by decide +kernel
theorem dX12_window_123 : decode cX12_window 123 = .ok (.getfield 204, 3) := by decide +kernel
theorem dX12_window_126 : decode cX12_window 126 = .ok (.i2l, 1) := by decide +kernel
theorem dX12_window_127 : decode cX12_window 127 = .ok (.lcmp, 1) := by decide +kernel
theorem dX12_window_128 : decode cX12_window 128 = .ok (.ifCond .le 12, 3) := by decide +kernel
theorem dX12_window_131 : decode cX12_window 131 = .ok (.aload_n 0, 1) := by decide +kernel
theorem dX12_window_132 : decode cX12_window 132 = .ok (.bipush 7, 2) := by decide +kernel
theorem dX12_window_134 : decode cX12_window 134 = .ok (.iload_n 2, 1) := by decide +kernel
theorem dX12_window_135 : decode cX12_window 135 = .ok (.invokevirtual 153, 3) := by decide +kernel
theorem dX12_window_138 : decode cX12_window 138 = .ok (.pop, 1) := by decide +kernel
theorem dX12_window_139 : decode cX12_window 139 = .ok (.return_, 1) := by decide +kernel
theorem dX12_window_140 : decode cX12_window 140 = .ok (.aload_n 0, 1) := by decide +kernel
theorem dX12_window_141 : decode cX12_window 141 = .ok (.lload_n 3, 1) := by decide +kernel
theorem dX12_window_142 : decode cX12_window 142 = .ok (.l2i, 1) := by decide +kernel
theorem dX12_window_143 : decode cX12_window 143 = .ok (.putfield 219, 3) := by decide +kernel
theorem dX12_window_146 : decode cX12_window 146 = .ok (.iconst 0, 1) := by decide +kernel
theorem dX12_window_147 : decode cX12_window 147 = .ok (.istore 7, 2) := by decide +kernel
theorem dX12_window_149 : decode cX12_window 149 = .ok (.iload 7, 2) := by decide +kernel
theorem dX12_window_151 : decode cX12_window 151 = .ok (.aload_n 0, 1) := by decide +kernel
theorem dX12_window_152 : decode cX12_window 152 = .ok (.getfield 219, 3) := by decide +kernel
theorem dX12_window_155 : decode cX12_window 155 = .ok (.if_icmp .ge 47, 3) := by decide +kernel
theorem dX12_window_158 : decode cX12_window 158 = .ok (.aload_n 0, 1) := by decide +kernel
theorem dX12_window_159 : decode cX12_window 159 = .ok (.getfield 51, 3) := by decide +kernel
theorem dX12_window_162 : decode cX12_window 162 = .ok (.iload 7, 2) := by decide +kernel
theorem dX12_window_164 : decode cX12_window 164 = .ok (.iload_n 1, 1) := by decide +kernel
theorem dX12_window_165 : decode cX12_window 165 = .ok (.iconst 1, 1) := by decide +kernel
theorem dX12_window_166 : decode cX12_window 166 = .ok (.iand, 1) := by decide +kernel
theorem dX12_window_167 : decode cX12_window 167 = .ok (.ifCond .le 17, 3) := by decide +kernel
theorem dX12_window_170 : decode cX12_window 170 = .ok (.aload_n 0, 1) := by decide +kernel
theorem dX12_window_171 : decode cX12_window 171 = .ok (.getfield 39, 3) := by decide +kernel
theorem dX12_window_174 : decode cX12_window 174 = .ok (.lload 5, 2) := by decide +kernel
theorem dX12_window_176 : decode cX12_window 176 = .ok (.l2i, 1) := by decide +kernel
theorem dX12_window_177 : decode cX12_window 177 = .ok (.iload 7, 2) := by decide +kernel
theorem dX12_window_179 : decode cX12_window 179 = .ok (.iadd, 1) := by decide +kernel
theorem dX12_window_180 : decode cX12_window 180 = .ok (.baload, 1) := by decide +kernel
theorem dX12_window_181 : decode cX12_window 181 = .ok (.goto 14, 3) := by decide +kernel
theorem dX12_window_184 : decode cX12_window 184 = .ok (.aload_n 0, 1) := by decide +kernel
theorem dX12_window_185 : decode cX12_window 185 = .ok (.getfield 48, 3) := by decide +kernel
theorem dX12_window_188 : decode cX12_window 188 = .ok (.lload 5, 2) := by decide +kernel
theorem dX12_window_190 : decode cX12_window 190 = .ok (.l2i, 1) := by decide +kernel
theorem dX12_window_191 : decode cX12_window 191 = .ok (.iload 7, 2) := by decide +kernel
theorem dX12_window_193 : decode cX12_window 193 = .ok (.iadd, 1) := by decide +kernel
theorem dX12_window_194 : decode cX12_window 194 = .ok (.baload, 1) := by decide +kernel
theorem dX12_window_195 : decode cX12_window 195 = .ok (.bastore, 1) := by decide +kernel
theorem dX12_window_196 : decode cX12_window 196 = .ok (.iinc 7 1, 3) := by decide +kernel
theorem dX12_window_199 : decode cX12_window 199 = .ok (.goto (-50), 3) := by decide +kernel
theorem dX12_window_202 : decode cX12_window 202 = .ok (.aload_n 0, 1) := by decide +kernel
theorem dX12_window_203 : decode cX12_window 203 = .ok (.getfield 150, 3) := by decide +kernel
theorem dX12_window_206 : decode cX12_window 206 = .ok (.istore_n 2, 1) := by decide +kernel
theorem dX12_window_207 : decode cX12_window 207 = .ok (.aload_n 0, 1) := by decide +kernel
theorem dX12_window_208 : decode cX12_window 208 = .ok (.invokevirtual 176, 3) := by decide +kernel
theorem dX12_window_211 : decode cX12_window 211 = .ok (.lstore_n 3, 1) := by decide +kernel
theorem dX12_window_212 : decode cX12_window 212 = .ok (.aload_n 0, 1) := by decide +kernel
theorem dX12_window_213 : decode cX12_window 213 = .ok (.getfield 150, 3) := by decide +kernel
theorem dX12_window_216 : decode cX12_window 216 = .ok (.istore 5, 2) := by decide +kernel
theorem dX12_window_218 : decode cX12_window 218 = .ok (.aload_n 0, 1) := by decide +kernel
theorem dX12_window_219 : decode cX12_window 219 = .ok (.getfield 150, 3) := by decide +kernel
theorem dX12_window_222 : decode cX12_window 222 = .ok (.istore 6, 2) := by decide +kernel
theorem dX12_window_224 : decode cX12_window 224 = .ok (.aload_n 0, 1) := by decide +kernel
theorem dX12_window_225 : decode cX12_window 225 = .ok (.invokevirtual 176, 3) := by decide +kernel
theorem dX12_window_228 : decode cX12_window 228 = .ok (.lstore 7, 2) := by decide +kernel
theorem dX12_window_230 : decode cX12_window 230 = .ok (.aload_n 0, 1) := by decide +kernel
theorem dX12_window_231 : decode cX12_window 231 = .ok (.getfield 141, 3) := by decide +kernel
theorem dX12_window_234 : decode cX12_window 234 = .ok (.ifCond .ne 27, 3) := by decide +kernel
theorem dX12_window_237 : decode cX12_window 237 = .ok (.aload_n 0, 1) := by decide +kernel
theorem dX12_window_238 : decode cX12_window 238 = .ok (.getfield 204, 3) := by decide +kernel
theorem dX12_window_241 : decode cX12_window 241 = .ok (.i2l, 1) := by decide +kernel
theorem dX12_window_242 : decode cX12_window 242 = .ok (.lload 7, 2) := by decide +kernel
theorem dX12_window_244 : decode cX12_window 244 = .ok (.ladd, 1) := by decide +kernel
theorem dX12_window_245 : decode cX12_window 245 = .ok (.ldc2_w 222, 3) := by decide +kernel
theorem dX12_window_248 : decode cX12_window 248 = .ok (.lcmp, 1) := by decide +kernel
theorem dX12_window_249 : decode cX12_window 249 = .ok (.ifCond .le 12, 3) := by decide +kernel
theorem dX12_window_252 : decode cX12_window 252 = .ok (.aload_n 0, 1) := by decide +kernel
theorem dX12_window_253 : decode cX12_window 253 = .ok (.bipush 10, 2) := by decide +kernel
theorem dX12_window_255 : decode cX12_window 255 = .ok (.iload 6, 2) := by decide +kernel
theorem dX12_window_257 : decode cX12_window 257 = .ok (.invokevirtual 153, 3) := by decide +kernel
theorem dX12_window_260 : decode cX12_window 260 = .ok (.pop, 1) := by decide +kernel
theorem dX12_window_261 : decode cX12_window 261 = .ok (.aload_n 0, 1) := by decide +kernel
theorem dX12_window_262 : decode cX12_window 262 = .ok (.lconst 1, 1) := by decide +kernel
theorem dX12_window_263 : decode cX12_window 263 = .ok (.invokevirtual 172, 3) := by decide +kernel
theorem dX12_window_266 : decode cX12_window 266 = .ok (.ifCond .ne 4, 3) := by decide +kernel
theorem dX12_window_269 : decode cX12_window 269 = .ok (.return_, 1) := by decide +kernel
theorem dX12_window_270 : decode cX12_window 270 = .ok (.aload_n 0, 1) := by decide +kernel
theorem dX12_window_271 : decode cX12_window 271 = .ok (.getfield 36, 3) := by decide +kernel
theorem dX12_window_274 : decode cX12_window 274 = .ok (.aload_n 0, 1) := by decide +kernel
theorem dX12_window_275 : decode cX12_window 275 = .ok (.getfield 150, 3) := by decide +kernel
theorem dX12_window_278 : decode cX12_window 278 = .ok (.baload, 1) := by decide +kernel
theorem dX12_window_279 : decode cX12_window 279 = .ok (.ifCond .eq 15, 3) := by decide +kernel
theorem dX12_window_282 : decode cX12_window 282 = .ok (.aload_n 0, 1) := by decide +kernel
theorem dX12_window_283 : decode cX12_window 283 = .ok (.bipush 9, 2) := by decide +kernel
theorem dX12_window_285 : decode cX12_window 285 = .ok (.aload_n 0, 1) := by decide +kernel
theorem dX12_window_286 : decode cX12_window 286 = .ok (.getfield 150, 3) := by decide +kernel
theorem dX12_window_289 : decode cX12_window 289 = .ok (.invokevirtual 153, 3) := by decide +kernel
theorem dX12_window_292 : decode cX12_window 292 = .ok (.pop, 1) := by decide +kernel
theorem dX12_window_293 : decode cX12_window 293 = .ok (.return_, 1) := by decide +kernel
theorem dX12_window_294 : decode cX12_window 294 = .ok (.aload_n 0, 1) := by decide +kernel
theorem dX12_window_295 : decode cX12_window 295 = .ok (.dup, 1) := by decide +kernel
theorem dX12_window_296 : decode cX12_window 296 = .ok (.getfield 150, 3) := by decide +kernel
theorem dX12_window_299 : decode cX12_window 299 = .ok (.iconst 1, 1) := by decide +kernel
theorem dX12_window_300 : decode cX12_window 300 = .ok (.iadd, 1) := by decide +kernel
theorem dX12_window_301 : decode cX12_window 301 = .ok (.putfield 150, 3) := by decide +kernel
theorem dX12_window_304 : decode cX12_window 304 = .ok (.aload_n 0, 1) := by decide +kernel
theorem dX12_window_305 : decode cX12_window 305 = .ok (.invokevirtual 176, 3) := by decide +kernel
theorem dX12_window_308 : decode cX12_window 308 = .ok (.lstore 9, 2) := by decide +kernel
theorem dX12_window_310 : decode cX12_window 310 = .ok (.aload_n 0, 1) := by decide +kernel
theorem dX12_window_311 : decode cX12_window 311 = .ok (.invokevirtual 176, 3) := by decide +kernel
theorem dX12_window_314 : decode cX12_window 314 = .ok (.lstore 11, 2) := by decide +kernel
theorem dX12_window_316 : decode cX12_window 316 = .ok (.aload_n 0, 1) := by decide +kernel
theorem dX12_window_317 : decode cX12_window 317 = .ok (.invokevirtual 176, 3) := by decide +kernel
theorem dX12_window_320 : decode cX12_window 320 = .ok (.lstore 13, 2) := by decide +kernel
theorem dX12_window_322 : decode cX12_window 322 = .ok (.iload_n 1, 1) := by decide +kernel
theorem dX12_window_323 : decode cX12_window 323 = .ok (.iconst 4, 1) := by decide +kernel
theorem dX12_window_324 : decode cX12_window 324 = .ok (.iand, 1) := by decide +kernel
theorem dX12_window_325 : decode cX12_window 325 = .ok (.ifCond .le 7, 3) := by decide +kernel
theorem dX12_window_328 : decode cX12_window 328 = .ok (.iconst 1, 1) := by decide +kernel
theorem dX12_window_329 : decode cX12_window 329 = .ok (.goto 4, 3) := by decide +kernel
theorem dX12_window_332 : decode cX12_window 332 = .ok (.iconst 0, 1) := by decide +kernel
theorem dX12_window_333 : decode cX12_window 333 = .ok (.istore 15, 2) := by decide +kernel
theorem dX12_window_335 : decode cX12_window 335 = .ok (.aload_n 0, 1) := by decide +kernel
theorem dX12_window_336 : decode cX12_window 336 = .ok (.getfield 150, 3) := by decide +kernel
theorem dX12_window_339 : decode cX12_window 339 = .ok (.istore 16, 2) := by decide +kernel
theorem dX12_window_341 : decode cX12_window 341 = .ok (.lconst 0, 1) := by decide +kernel
theorem dX12_window_342 : decode cX12_window 342 = .ok (.lstore 17, 2) := by decide +kernel
theorem dX12_window_344 : decode cX12_window 344 = .ok (.iload 15, 2) := by decide +kernel
theorem dX12_window_346 : decode cX12_window 346 = .ok (.ifCond .eq 60, 3) := by decide +kernel
theorem dX12_window_349 : decode cX12_window 349 = .ok (.aload_n 0, 1) := by decide +kernel
theorem dX12_window_350 : decode cX12_window 350 = .ok (.ldc2_w 170, 3) := by decide +kernel
theorem dX12_window_353 : decode cX12_window 353 = .ok (.invokevirtual 172, 3) := by decide +kernel
theorem dX12_window_356 : decode cX12_window 356 = .ok (.ifCond .eq 50, 3) := by decide +kernel
theorem dX12_window_359 : decode cX12_window 359 = .ok (.iconst 0, 1) := by decide +kernel
theorem dX12_window_360 : decode cX12_window 360 = .ok (.istore 19, 2) := by decide +kernel
theorem dX12_window_362 : decode cX12_window 362 = .ok (.iload 19, 2) := by decide +kernel
theorem dX12_window_364 : decode cX12_window 364 = .ok (.iconst 4, 1) := by decide +kernel
theorem dX12_window_365 : decode cX12_window 365 = .ok (.if_icmp .ge 41, 3) := by decide +kernel
theorem dX12_window_368 : decode cX12_window 368 = .ok (.lload 17, 2) := by decide +kernel
theorem dX12_window_370 : decode cX12_window 370 = .ok (.bipush 8, 2) := by decide +kernel
theorem dX12_window_372 : decode cX12_window 372 = .ok (.lshl, 1) := by decide +kernel
theorem dX12_window_373 : decode cX12_window 373 = .ok (.aload_n 0, 1) := by decide +kernel
theorem dX12_window_374 : decode cX12_window 374 = .ok (.getfield 36, 3) := by decide +kernel
theorem dX12_window_377 : decode cX12_window 377 = .ok (.aload_n 0, 1) := by decide +kernel
theorem dX12_window_378 : decode cX12_window 378 = .ok (.getfield 150, 3) := by decide +kernel
theorem dX12_window_381 : decode cX12_window 381 = .ok (.baload, 1) := by decide +kernel
theorem dX12_window_382 : decode cX12_window 382 = .ok (.sipush 255, 3) := by decide +kernel
theorem dX12_window_385 : decode cX12_window 385 = .ok (.iand, 1) := by decide +kernel
theorem dX12_window_386 : decode cX12_window 386 = .ok (.i2l, 1) := by decide +kernel
theorem dX12_window_387 : decode cX12_window 387 = .ok (.lor, 1) := by decide +kernel
theorem dX12_window_388 : decode cX12_window 388 = .ok (.lstore 17, 2) := by decide +kernel
theorem dX12_window_390 : decode cX12_window 390 = .ok (.aload_n 0, 1) := by decide +kernel
theorem dX12_window_391 : decode cX12_window 391 = .ok (.dup, 1) := by decide +kernel
theorem dX12_window_392 : decode cX12_window 392 = .ok (.getfield 150, 3) := by decide +kernel
theorem dX12_window_395 : decode cX12_window 395 = .ok (.iconst 1, 1) := by decide +kernel
theorem dX12_window_396 : decode cX12_window 396 = .ok (.iadd, 1) := by decide +kernel
theorem dX12_window_397 : decode cX12_window 397 = .ok (.putfield 150, 3) := by decide +kernel
theorem dX12_window_400 : decode cX12_window 400 = .ok (.iinc 19 1, 3) := by decide +kernel
theorem dX12_window_403 : decode cX12_window 403 = .ok (.goto (-41), 3) := by decide +kernel
theorem dX12_window_406 : decode cX12_window 406 = .ok (.aload_n 0, 1) := by decide +kernel
theorem dX12_window_407 : decode cX12_window 407 = .ok (.getfield 141, 3) := by decide +kernel
theorem dX12_window_410 : decode cX12_window 410 = .ok (.ifCond .ne 33, 3) := by decide +kernel
theorem dX12_window_413 : decode cX12_window 413 = .ok (.lload_n 3, 1) := by decide +kernel
theorem dX12_window_414 : decode cX12_window 414 = .ok (.aload_n 0, 1) := by decide +kernel
theorem dX12_window_415 : decode cX12_window 415 = .ok (.getfield 150, 3) := by decide +kernel
theorem dX12_window_418 : decode cX12_window 418 = .ok (.iload 5, 2) := by decide +kernel
theorem dX12_window_420 : decode cX12_window 420 = .ok (.isub, 1) := by decide +kernel
theorem dX12_window_421 : decode cX12_window 421 = .ok (.i2l, 1) := by decide +kernel
theorem dX12_window_422 : decode cX12_window 422 = .ok (.lload 9, 2) := by decide +kernel
theorem dX12_window_424 : decode cX12_window 424 = .ok (.ladd, 1) := by decide +kernel
theorem dX12_window_425 : decode cX12_window 425 = .ok (.lload 11, 2) := by decide +kernel
theorem dX12_window_427 : decode cX12_window 427 = .ok (.ladd, 1) := by decide +kernel
theorem dX12_window_428 : decode cX12_window 428 = .ok (.lload 13, 2) := by decide +kernel
theorem dX12_window_430 : decode cX12_window 430 = .ok (.ladd, 1) := by decide +kernel
theorem dX12_window_431 : decode cX12_window 431 = .ok (.lcmp, 1) := by decide +kernel
theorem dX12_window_432 : decode cX12_window 432 = .ok (.ifCond .eq 11, 3) := by decide +kernel
theorem dX12_window_435 : decode cX12_window 435 = .ok (.aload_n 0, 1) := by decide +kernel
theorem dX12_window_436 : decode cX12_window 436 = .ok (.bipush 8, 2) := by decide +kernel
theorem dX12_window_438 : decode cX12_window 438 = .ok (.iload_n 2, 1) := by decide +kernel
theorem dX12_window_439 : decode cX12_window 439 = .ok (.invokevirtual 153, 3) := by decide +kernel
theorem dX12_window_442 : decode cX12_window 442 = .ok (.pop, 1) := by decide +kernel
theorem dX12_window_443 : decode cX12_window 443 = .ok (.aload_n 0, 1) := by decide +kernel
theorem dX12_window_444 : decode cX12_window 444 = .ok (.lload 9, 2) := by decide +kernel
theorem dX12_window_446 : decode cX12_window 446 = .ok (.lload 11, 2) := by decide +kernel
theorem dX12_window_448 : decode cX12_window 448 = .ok (.ladd, 1) := by decide +kernel
theorem dX12_window_449 : decode cX12_window 449 = .ok (.lload 13, 2) := by decide +kernel
theorem dX12_window_451 : decode cX12_window 451 = .ok (.ladd, 1) := by decide +kernel
theorem dX12_window_452 : decode cX12_window 452 = .ok (.invokevirtual 172, 3) := by decide +kernel
theorem dX12_window_455 : decode cX12_window 455 = .ok (.ifCond .ne 4, 3) := by decide +kernel
theorem dX12_window_458 : decode cX12_window 458 = .ok (.return_, 1) := by decide +kernel
theorem dX12_window_459 : decode cX12_window 459 = .ok (.aload_n 0, 1) := by decide +kernel
theorem dX12_window_460 : decode cX12_window 460 = .ok (.lload 7, 2) := by decide +kernel
theorem dX12_window_462 : decode cX12_window 462 = .ok (.l2i, 1) := by decide +kernel
theorem dX12_window_463 : decode cX12_window 463 = .ok (.aload_n 0, 1) := by decide +kernel
theorem dX12_window_464 : decode cX12_window 464 = .ok (.getfield 150, 3) := by decide +kernel
theorem dX12_window_467 : decode cX12_window 467 = .ok (.aload_n 0, 1) := by decide +kernel
theorem dX12_window_468 : decode cX12_window 468 = .ok (.getfield 150, 3) := by decide +kernel
theorem dX12_window_471 : decode cX12_window 471 = .ok (.lload 9, 2) := by decide +kernel
theorem dX12_window_473 : decode cX12_window 473 = .ok (.l2i, 1) := by decide +kernel
theorem dX12_window_474 : decode cX12_window 474 = .ok (.iadd, 1) := by decide +kernel
theorem dX12_window_475 : decode cX12_window 475 = .ok (.aload_n 0, 1) := by decide +kernel
theorem dX12_window_476 : decode cX12_window 476 = .ok (.getfield 150, 3) := by decide +kernel
theorem dX12_window_479 : decode cX12_window 479 = .ok (.lload 9, 2) := by decide +kernel
theorem dX12_window_481 : decode cX12_window 481 = .ok (.lload 11, 2) := by decide +kernel
theorem dX12_window_483 : decode cX12_window 483 = .ok (.ladd, 1) := by decide +kernel
theorem dX12_window_484 : decode cX12_window 484 = .ok (.l2i, 1) := by decide +kernel
theorem dX12_window_485 : decode cX12_window 485 = .ok (.iadd, 1) := by decide +kernel
theorem dX12_window_486 : decode cX12_window 486 = .ok (.aload_n 0, 1) := by decide +kernel
theorem dX12_window_487 : decode cX12_window 487 = .ok (.getfield 150, 3) := by decide +kernel
theorem dX12_window_490 : decode cX12_window 490 = .ok (.lload 9, 2) := by decide +kernel
theorem dX12_window_492 : decode cX12_window 492 = .ok (.lload 11, 2) := by decide +kernel
theorem dX12_window_494 : decode cX12_window 494 = .ok (.ladd, 1) := by decide +kernel
theorem dX12_window_495 : decode cX12_window 495 = .ok (.lload 13, 2) := by decide +kernel
theorem dX12_window_497 : decode cX12_window 497 = .ok (.ladd, 1) := by decide +kernel
theorem dX12_window_498 : decode cX12_window 498 = .ok (.l2i, 1) := by decide +kernel
theorem dX12_window_499 : decode cX12_window 499 = .ok (.iadd, 1) := by decide +kernel
theorem dX12_window_500 : decode cX12_window 500 = .ok (.invokevirtual 224, 3) := by decide +kernel
theorem dX12_window_503 : decode cX12_window 503 = .ok (.aload_n 0, 1) := by decide +kernel
theorem dX12_window_504 : decode cX12_window 504 = .ok (.getfield 141, 3) := by decide +kernel
theorem dX12_window_507 : decode cX12_window 507 = .ok (.ifCond .ne 37, 3) := by decide +kernel
theorem dX12_window_510 : decode cX12_window 510 = .ok (.iload 15, 2) := by decide +kernel
theorem dX12_window_512 : decode cX12_window 512 = .ok (.ifCond .eq 32, 3) := by decide +kernel
theorem dX12_window_515 : decode cX12_window 515 = .ok (.lload 17, 2) := by decide +kernel
theorem dX12_window_517 : decode cX12_window 517 = .ok (.aload_n 0, 1) := by decide +kernel
theorem dX12_window_518 : decode cX12_window 518 = .ok (.getfield 51, 3) := by decide +kernel
theorem dX12_window_521 : decode cX12_window 521 = .ok (.aload_n 0, 1) := by decide +kernel
theorem dX12_window_522 : decode cX12_window 522 = .ok (.getfield 219, 3) := by decide +kernel
theorem dX12_window_525 : decode cX12_window 525 = .ok (.lload 7, 2) := by decide +kernel
theorem dX12_window_527 : decode cX12_window 527 = .ok (.l2i, 1) := by decide +kernel
theorem dX12_window_528 : decode cX12_window 528 = .ok (.invokestatic 228, 3) := by decide +kernel
theorem dX12_window_531 : decode cX12_window 531 = .ok (.lcmp, 1) := by decide +kernel
theorem dX12_window_532 : decode cX12_window 532 = .ok (.ifCond .eq 12, 3) := by decide +kernel
theorem dX12_window_535 : decode cX12_window 535 = .ok (.aload_n 0, 1) := by decide +kernel
theorem dX12_window_536 : decode cX12_window 536 = .ok (.bipush 16, 2) := by decide +kernel
theorem dX12_window_538 : decode cX12_window 538 = .ok (.iload 16, 2) := by decide +kernel
theorem dX12_window_540 : decode cX12_window 540 = .ok (.invokevirtual 153, 3) := by decide +kernel
theorem dX12_window_543 : decode cX12_window 543 = .ok (.pop, 1) := by decide +kernel
theorem dX12_window_544 : decode cX12_window 544 = .ok (.iconst 0, 1) := by decide +kernel
theorem dX12_window_545 : decode cX12_window 545 = .ok (.istore 19, 2) := by decide +kernel
theorem dX12_window_547 : decode cX12_window 547 = .ok (.iload 19, 2) := by decide +kernel
theorem dX12_window_549 : decode cX12_window 549 = .ok (.i2l, 1) := by decide +kernel
theorem dX12_window_550 : decode cX12_window 550 = .ok (.lload 7, 2) := by decide +kernel
theorem dX12_window_552 : decode cX12_window 552 = .ok (.lcmp, 1) := by decide +kernel
theorem dX12_window_553 : decode cX12_window 553 = .ok (.ifCond .ge 47, 3) := by decide +kernel
theorem dX12_window_556 : decode cX12_window 556 = .ok (.aload_n 0, 1) := by decide +kernel
theorem dX12_window_557 : decode cX12_window 557 = .ok (.getfield 141, 3) := by decide +kernel
theorem dX12_window_560 : decode cX12_window 560 = .ok (.ifCond .ne 40, 3) := by decide +kernel
theorem dX12_window_563 : decode cX12_window 563 = .ok (.aload_n 0, 1) := by decide +kernel
theorem dX12_window_564 : decode cX12_window 564 = .ok (.getfield 48, 3) := by decide +kernel
theorem dX12_window_567 : decode cX12_window 567 = .ok (.aload_n 0, 1) := by decide +kernel
theorem dX12_window_568 : decode cX12_window 568 = .ok (.getfield 204, 3) := by decide +kernel
theorem dX12_window_571 : decode cX12_window 571 = .ok (.aload_n 0, 1) := by decide +kernel
theorem dX12_window_572 : decode cX12_window 572 = .ok (.getfield 51, 3) := by decide +kernel
theorem dX12_window_575 : decode cX12_window 575 = .ok (.aload_n 0, 1) := by decide +kernel
theorem dX12_window_576 : decode cX12_window 576 = .ok (.getfield 219, 3) := by decide +kernel
theorem dX12_window_579 : decode cX12_window 579 = .ok (.iload 19, 2) := by decide +kernel
theorem dX12_window_581 : decode cX12_window 581 = .ok (.iadd, 1) := by decide +kernel
theorem dX12_window_582 : decode cX12_window 582 = .ok (.baload, 1) := by decide +kernel
theorem dX12_window_583 : decode cX12_window 583 = .ok (.bastore, 1) := by decide +kernel
theorem dX12_window_584 : decode cX12_window 584 = .ok (.aload_n 0, 1) := by decide +kernel
theorem dX12_window_585 : decode cX12_window 585 = .ok (.dup, 1) := by decide +kernel
theorem dX12_window_586 : decode cX12_window 586 = .ok (.getfield 204, 3) := by decide +kernel
theorem dX12_window_589 : decode cX12_window 589 = .ok (.iconst 1, 1) := by decide +kernel
theorem dX12_window_590 : decode cX12_window 590 = .ok (.iadd, 1) := by decide +kernel
theorem dX12_window_591 : decode cX12_window 591 = .ok (.putfield 204, 3) := by decide +kernel
theorem dX12_window_594 : decode cX12_window 594 = .ok (.iinc 19 1, 3) := by decide +kernel
theorem dX12_window_597 : decode cX12_window 597 = .ok (.goto (-50), 3) := by decide +kernel
theorem dX12_window_600 : decode cX12_window 600 = .ok (.return_, 1) := by decide +kernel
theorem dX12_givenTable_0 : decode cX12_givenTable 0 = .ok (.aload_n 0, 1) := by decide +kernel
theorem dX12_givenTable_1 : decode cX12_givenTable 1 = .ok (.invokevirtual 176, 3) := by decide +kernel
theorem dX12_givenTable_4 : decode cX12_givenTable 4 = .ok (.lstore_n 1, 1) := by decide +kernel
theorem dX12_givenTable_5 : decode cX12_givenTable 5 = .ok (.aload_n 0, 1) := by decide +kernel
theorem dX12_givenTable_6 : decode cX12_givenTable 6 = .ok (.getfield 150, 3) := by decide +kernel
theorem dX12_givenTable_9 : decode cX12_givenTable 9 = .ok (.istore_n 3, 1) := by decide +kernel
theorem dX12_givenTable_10 : decode cX12_givenTable 10 = .ok (.aload_n 0, 1) := by decide +kernel
theorem dX12_givenTable_11 : decode cX12_givenTable 11 = .ok (.lload_n 1, 1) := by decide +kernel
theorem dX12_givenTable_12 : decode cX12_givenTable 12 = .ok (.invokevirtual 172, 3) := by decide +kernel
theorem dX12_givenTable_15 : decode cX12_givenTable 15 = .ok (.ifCond .ne 4, 3) := by decide +kernel
theorem dX12_givenTable_18 : decode cX12_givenTable 18 = .ok (.return_, 1) := by decide +kernel
theorem dX12_givenTable_19 : decode cX12_givenTable 19 = .ok (.aload_n 0, 1) := by decide +kernel
theorem dX12_givenTable_20 : decode cX12_givenTable 20 = .ok (.getfield 150, 3) := by decide +kernel
theorem dX12_givenTable_23 : decode cX12_givenTable 23 = .ok (.lload_n 1, 1) := by decide +kernel
theorem dX12_givenTable_24 : decode cX12_givenTable 24 = .ok (.l2i, 1) := by decide +kernel
theorem dX12_givenTable_25 : decode cX12_givenTable 25 = .ok (.iadd, 1) := by decide +kernel
theorem dX12_givenTable_26 : decode cX12_givenTable 26 = .ok (.istore 4, 2) := by decide +kernel
theorem dX12_givenTable_28 : decode cX12_givenTable 28 = .ok (.aload_n 0, 1) := by decide +kernel
theorem dX12_givenTable_29 : decode cX12_givenTable 29 = .ok (.getfield 147, 3) := by decide +kernel
theorem dX12_givenTable_32 : decode cX12_givenTable 32 = .ok (.istore 5, 2) := by decide +kernel
theorem dX12_givenTable_34 : decode cX12_givenTable 34 = .ok (.lload_n 1, 1) := by decide +kernel
theorem dX12_givenTable_35 : decode cX12_givenTable 35 = .ok (.ldc2_w 210, 3) := by decide +kernel
theorem dX12_givenTable_38 : decode cX12_givenTable 38 = .ok (.lcmp, 1) := by decide +kernel
theorem dX12_givenTable_39 : decode cX12_givenTable 39 = .ok (.ifCond .lt 41, 3) := by decide +kernel
theorem dX12_givenTable_42 : decode cX12_givenTable 42 = .ok (.aload_n 0, 1) := by decide +kernel
theorem dX12_givenTable_43 : decode cX12_givenTable 43 = .ok (.getfield 36, 3) := by decide +kernel
theorem dX12_givenTable_46 : decode cX12_givenTable 46 = .ok (.aload_n 0, 1) := by decide +kernel
theorem dX12_givenTable_47 : decode cX12_givenTable 47 = .ok (.getfield 150, 3) := by decide +kernel
theorem dX12_givenTable_50 : decode cX12_givenTable 50 = .ok (.baload, 1) := by decide +kernel
theorem dX12_givenTable_51 : decode cX12_givenTable 51 = .ok (.sipush 255, 3) := by decide +kernel
theorem dX12_givenTable_54 : decode cX12_givenTable 54 = .ok (.iand, 1) := by decide +kernel
theorem dX12_givenTable_55 : decode cX12_givenTable 55 = .ok (.bipush 32, 2) := by decide +kernel
theorem dX12_givenTable_57 : decode cX12_givenTable 57 = .ok (.if_icmp .gt 23, 3) := by decide +kernel
theorem dX12_givenTable_60 : decode cX12_givenTable 60 = .ok (.aload_n 0, 1) := by decide +kernel
theorem dX12_givenTable_61 : decode cX12_givenTable 61 = .ok (.getfield 36, 3) := by decide +kernel
theorem dX12_givenTable_64 : decode cX12_givenTable 64 = .ok (.aload_n 0, 1) := by decide +kernel
theorem dX12_givenTable_65 : decode cX12_givenTable 65 = .ok (.getfield 150, 3) := by decide +kernel
theorem dX12_givenTable_68 : decode cX12_givenTable 68 = .ok (.iconst 1, 1) := by decide +kernel
theorem dX12_givenTable_69 : decode cX12_givenTable 69 = .ok (.iadd, 1) := by decide +kernel
theorem dX12_givenTable_70 : decode cX12_givenTable 70 = .ok (.baload, 1) := by decide +kernel
theorem dX12_givenTable_71 : decode cX12_givenTable 71 = .ok (.sipush 255, 3) := by decide +kernel
theorem dX12_givenTable_74 : decode cX12_givenTable 74 = .ok (.iand, 1) := by decide +kernel
theorem dX12_givenTable_75 : decode cX12_givenTable 75 = .ok (.bipush 16, 2) := by decide +kernel
theorem dX12_givenTable_77 : decode cX12_givenTable 77 = .ok (.if_icmp .le 11, 3) := by decide +kernel
theorem dX12_givenTable_80 : decode cX12_givenTable 80 = .ok (.aload_n 0, 1) := by decide +kernel
theorem dX12_givenTable_81 : decode cX12_givenTable 81 = .ok (.iconst 5, 1) := by decide +kernel
theorem dX12_givenTable_82 : decode cX12_givenTable 82 = .ok (.iload_n 3, 1) := by decide +kernel
theorem dX12_givenTable_83 : decode cX12_givenTable 83 = .ok (.invokevirtual 153, 3) := by decide +kernel
theorem dX12_givenTable_86 : decode cX12_givenTable 86 = .ok (.pop, 1) := by decide +kernel
theorem dX12_givenTable_87 : decode cX12_givenTable 87 = .ok (.return_, 1) := by decide +kernel
theorem dX12_givenTable_88 : decode cX12_givenTable 88 = .ok (.aload_n 0, 1) := by decide +kernel
theorem dX12_givenTable_89 : decode cX12_givenTable 89 = .ok (.getfield 27, 3) := by decide +kernel
theorem dX12_givenTable_92 : decode cX12_givenTable 92 = .ok (.iconst 3, 1) := by decide +kernel
theorem dX12_givenTable_93 : decode cX12_givenTable 93 = .ok (.aload_n 0, 1) := by decide +kernel
theorem dX12_givenTable_94 : decode cX12_givenTable 94 = .ok (.getfield 36, 3) := by decide +kernel
theorem dX12_givenTable_97 : decode cX12_givenTable 97 = .ok (.aload_n 0, 1) := by decide +kernel
theorem dX12_givenTable_98 : decode cX12_givenTable 98 = .ok (.getfield 150, 3) := by decide +kernel
theorem dX12_givenTable_101 : decode cX12_givenTable 101 = .ok (.baload, 1) := by decide +kernel
theorem dX12_givenTable_102 : decode cX12_givenTable 102 = .ok (.sipush 255, 3) := by decide +kernel
theorem dX12_givenTable_105 : decode cX12_givenTable 105 = .ok (.iand, 1) := by decide +kernel
theorem dX12_givenTable_106 : decode cX12_givenTable 106 = .ok (.iastore, 1) := by decide +kernel
theorem dX12_givenTable_107 : decode cX12_givenTable 107 = .ok (.aload_n 0, 1) := by decide +kernel
theorem dX12_givenTable_108 : decode cX12_givenTable 108 = .ok (.getfield 30, 3) := by decide +kernel
theorem dX12_givenTable_111 : decode cX12_givenTable 111 = .ok (.iconst 3, 1) := by decide +kernel
theorem dX12_givenTable_112 : decode cX12_givenTable 112 = .ok (.aload_n 0, 1) := by decide +kernel
theorem dX12_givenTable_113 : decode cX12_givenTable 113 = .ok (.getfield 36, 3) := by decide +kernel
theorem dX12_givenTable_116 : decode cX12_givenTable 116 = .ok (.aload_n 0, 1) := by decide +kernel
theorem dX12_givenTable_117 : decode cX12_givenTable 117 = .ok (.getfield 150, 3) := by decide +kernel
theorem dX12_givenTable_120 : decode cX12_givenTable 120 = .ok (.iconst 1, 1) := by decide +kernel
theorem dX12_givenTable_121 : decode cX12_givenTable 121 = .ok (.iadd, 1) := by decide +kernel
theorem dX12_givenTable_122 : decode cX12_givenTable 122 = .ok (.baload, 1) := by decide +kernel
theorem dX12_givenTable_123 : decode cX12_givenTable 123 = .ok (.sipush 255, 3) := by decide +kernel
theorem dX12_givenTable_126 : decode cX12_givenTable 126 = .ok (.iand, 1) := by decide +kernel
theorem dX12_givenTable_127 : decode cX12_givenTable 127 = .ok (.iastore, 1) := by decide +kernel
theorem dX12_givenTable_128 : decode cX12_givenTable 128 = .ok (.aload_n 0, 1) := by decide +kernel
theorem dX12_givenTable_129 : decode cX12_givenTable 129 = .ok (.dup, 1) := by decide +kernel
theorem dX12_givenTable_130 : decode cX12_givenTable 130 = .ok (.getfield 150, 3) := by decide +kernel
theorem dX12_givenTable_133 : decode cX12_givenTable 133 = .ok (.iconst 2, 1) := by decide +kernel
theorem dX12_givenTable_134 : decode cX12_givenTable 134 = .ok (.iadd, 1) := by decide +kernel
theorem dX12_givenTable_135 : decode cX12_givenTable 135 = .ok (.putfield 150, 3) := by decide +kernel
theorem dX12_givenTable_138 : decode cX12_givenTable 138 = .ok (.aload_n 0, 1) := by decide +kernel
theorem dX12_givenTable_139 : decode cX12_givenTable 139 = .ok (.iload 4, 2) := by decide +kernel
theorem dX12_givenTable_141 : decode cX12_givenTable 141 = .ok (.putfield 147, 3) := by decide +kernel
theorem dX12_givenTable_144 : decode cX12_givenTable 144 = .ok (.aload_n 0, 1) := by decide +kernel
theorem dX12_givenTable_145 : decode cX12_givenTable 145 = .ok (.aload_n 0, 1) := by decide +kernel
theorem dX12_givenTable_146 : decode cX12_givenTable 146 = .ok (.getfield 33, 3) := by decide +kernel
theorem dX12_givenTable_149 : decode cX12_givenTable 149 = .ok (.putfield 39, 3) := by decide +kernel
theorem dX12_givenTable_152 : decode cX12_givenTable 152 = .ok (.aload_n 0, 1) := by decide +kernel
theorem dX12_givenTable_153 : decode cX12_givenTable 153 = .ok (.sipush 1536, 3) := by decide +kernel
theorem dX12_givenTable_156 : decode cX12_givenTable 156 = .ok (.putfield 201, 3) := by decide +kernel
theorem dX12_givenTable_159 : decode cX12_givenTable 159 = .ok (.aload_n 0, 1) := by decide +kernel
theorem dX12_givenTable_160 : decode cX12_givenTable 160 = .ok (.aload_n 0, 1) := by decide +kernel
theorem dX12_givenTable_161 : decode cX12_givenTable 161 = .ok (.getfield 45, 3) := by decide +kernel
theorem dX12_givenTable_164 : decode cX12_givenTable 164 = .ok (.putfield 48, 3) := by decide +kernel
theorem dX12_givenTable_167 : decode cX12_givenTable 167 = .ok (.aload_n 0, 1) := by decide +kernel
theorem dX12_givenTable_168 : decode cX12_givenTable 168 = .ok (.iconst 0, 1) := by decide +kernel
theorem dX12_givenTable_169 : decode cX12_givenTable 169 = .ok (.putfield 204, 3) := by decide +kernel
theorem dX12_givenTable_172 : decode cX12_givenTable 172 = .ok (.aload_n 0, 1) := by decide +kernel
theorem dX12_givenTable_173 : decode cX12_givenTable 173 = .ok (.iconst 0, 1) := by decide +kernel
theorem dX12_givenTable_174 : decode cX12_givenTable 174 = .ok (.putfield 183, 3) := by decide +kernel
theorem dX12_givenTable_177 : decode cX12_givenTable 177 = .ok (.aload_n 0, 1) := by decide +kernel
theorem dX12_givenTable_178 : decode cX12_givenTable 178 = .ok (.iconst 0, 1) := by decide +kernel
theorem dX12_givenTable_179 : decode cX12_givenTable 179 = .ok (.putfield 180, 3) := by decide +kernel
theorem dX12_givenTable_182 : decode cX12_givenTable 182 = .ok (.aload_n 0, 1) := by decide +kernel
theorem dX12_givenTable_183 : decode cX12_givenTable 183 = .ok (.iconst 4, 1) := by decide +kernel
theorem dX12_givenTable_184 : decode cX12_givenTable 184 = .ok (.invokevirtual 192, 3) := by decide +kernel
theorem dX12_givenTable_187 : decode cX12_givenTable 187 = .ok (.istore 6, 2) := by decide +kernel
theorem dX12_givenTable_189 : decode cX12_givenTable 189 = .ok (.aload_n 0, 1) := by decide +kernel
theorem dX12_givenTable_190 : decode cX12_givenTable 190 = .ok (.getfield 141, 3) := by decide +kernel
theorem dX12_givenTable_193 : decode cX12_givenTable 193 = .ok (.ifCond .ne 14, 3) := by decide +kernel
theorem dX12_givenTable_196 : decode cX12_givenTable 196 = .ok (.iload 6, 2) := by decide +kernel
theorem dX12_givenTable_198 : decode cX12_givenTable 198 = .ok (.iconst 4, 1) := by decide +kernel
theorem dX12_givenTable_199 : decode cX12_givenTable 199 = .ok (.iand, 1) := by decide +kernel
theorem dX12_givenTable_200 : decode cX12_givenTable 200 = .ok (.ifCond .le 7, 3) := by decide +kernel
theorem dX12_givenTable_203 : decode cX12_givenTable 203 = .ok (.aload_n 0, 1) := by decide +kernel
theorem dX12_givenTable_204 : decode cX12_givenTable 204 = .ok (.invokevirtual 198, 3) := by decide +kernel
theorem dX12_givenTable_207 : decode cX12_givenTable 207 = .ok (.aload_n 0, 1) := by decide +kernel
theorem dX12_givenTable_208 : decode cX12_givenTable 208 = .ok (.getfield 141, 3) := by decide +kernel
theorem dX12_givenTable_211 : decode cX12_givenTable 211 = .ok (.ifCond .ne 21, 3) := by decide +kernel
theorem dX12_givenTable_214 : decode cX12_givenTable 214 = .ok (.aload_n 0, 1) := by decide +kernel
theorem dX12_givenTable_215 : decode cX12_givenTable 215 = .ok (.getfield 150, 3) := by decide +kernel
theorem dX12_givenTable_218 : decode cX12_givenTable 218 = .ok (.aload_n 0, 1) := by decide +kernel
theorem dX12_givenTable_219 : decode cX12_givenTable 219 = .ok (.getfield 147, 3) := by decide +kernel
theorem dX12_givenTable_222 : decode cX12_givenTable 222 = .ok (.if_icmp .ge 10, 3) := by decide +kernel
theorem dX12_givenTable_225 : decode cX12_givenTable 225 = .ok (.aload_n 0, 1) := by decide +kernel
theorem dX12_givenTable_226 : decode cX12_givenTable 226 = .ok (.invokevirtual 207, 3) := by decide +kernel
theorem dX12_givenTable_229 : decode cX12_givenTable 229 = .ok (.goto (-22), 3) := by decide +kernel
theorem dX12_givenTable_232 : decode cX12_givenTable 232 = .ok (.aload_n 0, 1) := by decide +kernel
theorem dX12_givenTable_233 : decode cX12_givenTable 233 = .ok (.getfield 141, 3) := by decide +kernel
theorem dX12_givenTable_236 : decode cX12_givenTable 236 = .ok (.ifCond .ne 17, 3) := by decide +kernel
theorem dX12_givenTable_239 : decode cX12_givenTable 239 = .ok (.aload_n 0, 1) := by decide +kernel
theorem dX12_givenTable_240 : decode cX12_givenTable 240 = .ok (.getfield 204, 3) := by decide +kernel
theorem dX12_givenTable_243 : decode cX12_givenTable 243 = .ok (.sipush 1536, 3) := by decide +kernel
theorem dX12_givenTable_246 : decode cX12_givenTable 246 = .ok (.if_icmp .ne 7, 3) := by decide +kernel
theorem dX12_givenTable_249 : decode cX12_givenTable 249 = .ok (.iconst 1, 1) := by decide +kernel
theorem dX12_givenTable_250 : decode cX12_givenTable 250 = .ok (.goto 4, 3) := by decide +kernel
theorem dX12_givenTable_253 : decode cX12_givenTable 253 = .ok (.iconst 0, 1) := by decide +kernel
theorem dX12_givenTable_254 : decode cX12_givenTable 254 = .ok (.istore 7, 2) := by decide +kernel
theorem dX12_givenTable_256 : decode cX12_givenTable 256 = .ok (.iconst 0, 1) := by decide +kernel
theorem dX12_givenTable_257 : decode cX12_givenTable 257 = .ok (.istore 8, 2) := by decide +kernel
theorem dX12_givenTable_259 : decode cX12_givenTable 259 = .ok (.iload 8, 2) := by decide +kernel
theorem dX12_givenTable_261 : decode cX12_givenTable 261 = .ok (.sipush 1536, 3) := by decide +kernel
theorem dX12_givenTable_264 : decode cX12_givenTable 264 = .ok (.if_icmp .ge 54, 3) := by decide +kernel
theorem dX12_givenTable_267 : decode cX12_givenTable 267 = .ok (.iload 7, 2) := by decide +kernel
theorem dX12_givenTable_269 : decode cX12_givenTable 269 = .ok (.ifCond .eq 49, 3) := by decide +kernel
theorem dX12_givenTable_272 : decode cX12_givenTable 272 = .ok (.aload_n 0, 1) := by decide +kernel
theorem dX12_givenTable_273 : decode cX12_givenTable 273 = .ok (.getfield 23, 3) := by decide +kernel
theorem dX12_givenTable_276 : decode cX12_givenTable 276 = .ok (.sipush 4608, 3) := by decide +kernel
theorem dX12_givenTable_279 : decode cX12_givenTable 279 = .ok (.sipush 256, 3) := by decide +kernel
theorem dX12_givenTable_282 : decode cX12_givenTable 282 = .ok (.iload 8, 2) := by decide +kernel
theorem dX12_givenTable_284 : decode cX12_givenTable 284 = .ok (.sipush 256, 3) := by decide +kernel
theorem dX12_givenTable_287 : decode cX12_givenTable 287 = .ok (.idiv, 1) := by decide +kernel
theorem dX12_givenTable_288 : decode cX12_givenTable 288 = .ok (.invokestatic 122, 3) := by decide +kernel
theorem dX12_givenTable_291 : decode cX12_givenTable 291 = .ok (.imul, 1) := by decide +kernel
theorem dX12_givenTable_292 : decode cX12_givenTable 292 = .ok (.iadd, 1) := by decide +kernel
theorem dX12_givenTable_293 : decode cX12_givenTable 293 = .ok (.iload 8, 2) := by decide +kernel
theorem dX12_givenTable_295 : decode cX12_givenTable 295 = .ok (.sipush 256, 3) := by decide +kernel
theorem dX12_givenTable_298 : decode cX12_givenTable 298 = .ok (.irem, 1) := by decide +kernel
theorem dX12_givenTable_299 : decode cX12_givenTable 299 = .ok (.iadd, 1) := by decide +kernel
theorem dX12_givenTable_300 : decode cX12_givenTable 300 = .ok (.aload_n 0, 1) := by decide +kernel
theorem dX12_givenTable_301 : decode cX12_givenTable 301 = .ok (.getfield 45, 3) := by decide +kernel
theorem dX12_givenTable_304 : decode cX12_givenTable 304 = .ok (.iload 8, 2) := by decide +kernel
theorem dX12_givenTable_306 : decode cX12_givenTable 306 = .ok (.baload, 1) := by decide +kernel
theorem dX12_givenTable_307 : decode cX12_givenTable 307 = .ok (.sipush 255, 3) := by decide +kernel
theorem dX12_givenTable_310 : decode cX12_givenTable 310 = .ok (.iand, 1) := by decide +kernel
theorem dX12_givenTable_311 : decode cX12_givenTable 311 = .ok (.iastore, 1) := by decide +kernel
theorem dX12_givenTable_312 : decode cX12_givenTable 312 = .ok (.iinc 8 1, 3) := by decide +kernel
theorem dX12_givenTable_315 : decode cX12_givenTable 315 = .ok (.goto (-56), 3) := by decide +kernel
theorem dX12_givenTable_318 : decode cX12_givenTable 318 = .ok (.iload 7, 2) := by decide +kernel
theorem dX12_givenTable_320 : decode cX12_givenTable 320 = .ok (.ifCond .eq 15, 3) := by decide +kernel
theorem dX12_givenTable_323 : decode cX12_givenTable 323 = .ok (.aload_n 0, 1) := by decide +kernel
theorem dX12_givenTable_324 : decode cX12_givenTable 324 = .ok (.iconst 3, 1) := by decide +kernel
theorem dX12_givenTable_325 : decode cX12_givenTable 325 = .ok (.invokevirtual 212, 3) := by decide +kernel
theorem dX12_givenTable_328 : decode cX12_givenTable 328 = .ok (.ifCond .eq 7, 3) := by decide +kernel
theorem dX12_givenTable_331 : decode cX12_givenTable 331 = .ok (.iconst 1, 1) := by decide +kernel
theorem dX12_givenTable_332 : decode cX12_givenTable 332 = .ok (.goto 4, 3) := by decide +kernel
theorem dX12_givenTable_335 : decode cX12_givenTable 335 = .ok (.iconst 0, 1) := by decide +kernel
theorem dX12_givenTable_336 : decode cX12_givenTable 336 = .ok (.istore 7, 2) := by decide +kernel
theorem dX12_givenTable_338 : decode cX12_givenTable 338 = .ok (.aload_n 0, 1) := by decide +kernel
theorem dX12_givenTable_339 : decode cX12_givenTable 339 = .ok (.iconst 0, 1) := by decide +kernel
theorem dX12_givenTable_340 : decode cX12_givenTable 340 = .ok (.putfield 141, 3) := by decide +kernel
theorem dX12_givenTable_343 : decode cX12_givenTable 343 = .ok (.aload_n 0, 1) := by decide +kernel
theorem dX12_givenTable_344 : decode cX12_givenTable 344 = .ok (.iconst 1, 1) := by decide +kernel
theorem dX12_givenTable_345 : decode cX12_givenTable 345 = .ok (.putfield 180, 3) := by decide +kernel
theorem dX12_givenTable_348 : decode cX12_givenTable 348 = .ok (.aload_n 0, 1) := by decide +kernel
theorem dX12_givenTable_349 : decode cX12_givenTable 349 = .ok (.iconst 1, 1) := by decide +kernel
theorem dX12_givenTable_350 : decode cX12_givenTable 350 = .ok (.putfield 183, 3) := by decide +kernel
theorem dX12_givenTable_353 : decode cX12_givenTable 353 = .ok (.aload_n 0, 1) := by decide +kernel
theorem dX12_givenTable_354 : decode cX12_givenTable 354 = .ok (.iload 5, 2) := by decide +kernel
theorem dX12_givenTable_356 : decode cX12_givenTable 356 = .ok (.putfield 147, 3) := by decide +kernel
theorem dX12_givenTable_359 : decode cX12_givenTable 359 = .ok (.aload_n 0, 1) := by decide +kernel
theorem dX12_givenTable_360 : decode cX12_givenTable 360 = .ok (.iload 4, 2) := by decide +kernel
theorem dX12_givenTable_362 : decode cX12_givenTable 362 = .ok (.putfield 150, 3) := by decide +kernel
theorem dX12_givenTable_365 : decode cX12_givenTable 365 = .ok (.aload_n 0, 1) := by decide +kernel
theorem dX12_givenTable_366 : decode cX12_givenTable 366 = .ok (.invokevirtual 189, 3) := by decide +kernel
theorem dX12_givenTable_369 : decode cX12_givenTable 369 = .ok (.iload 7, 2) := by decide +kernel
theorem dX12_givenTable_371 : decode cX12_givenTable 371 = .ok (.ifCond .ne 11, 3) := by decide +kernel
theorem dX12_givenTable_374 : decode cX12_givenTable 374 = .ok (.aload_n 0, 1) := by decide +kernel
theorem dX12_givenTable_375 : decode cX12_givenTable 375 = .ok (.iconst 5, 1) := by decide +kernel
theorem dX12_givenTable_376 : decode cX12_givenTable 376 = .ok (.iload_n 3, 1) := by decide +kernel
theorem dX12_givenTable_377 : decode cX12_givenTable 377 = .ok (.invokevirtual 153, 3) := by decide +kernel
theorem dX12_givenTable_380 : decode cX12_givenTable 380 = .ok (.pop, 1) := by decide +kernel
theorem dX12_givenTable_381 : decode cX12_givenTable 381 = .ok (.return_, 1) := by decide +kernel
theorem dX12_givenTable_382 : decode cX12_givenTable 382 = .ok (.aload_n 0, 1) := by decide +kernel
theorem dX12_givenTable_383 : decode cX12_givenTable 383 = .ok (.iconst 3, 1) := by decide +kernel
theorem dX12_givenTable_384 : decode cX12_givenTable 384 = .ok (.iconst 1, 1) := by decide +kernel
theorem dX12_givenTable_385 : decode cX12_givenTable 385 = .ok (.invokevirtual 114, 3) := by decide +kernel
theorem dX12_givenTable_388 : decode cX12_givenTable 388 = .ok (.aload_n 0, 1) := by decide +kernel
theorem dX12_givenTable_389 : decode cX12_givenTable 389 = .ok (.getfield 61, 3) := by decide +kernel
theorem dX12_givenTable_392 : decode cX12_givenTable 392 = .ok (.bipush 7, 2) := by decide +kernel
theorem dX12_givenTable_394 : decode cX12_givenTable 394 = .ok (.iconst 1, 1) := by decide +kernel
theorem dX12_givenTable_395 : decode cX12_givenTable 395 = .ok (.iastore, 1) := by decide +kernel
theorem dX12_givenTable_396 : decode cX12_givenTable 396 = .ok (.return_, 1) := by decide +kernel
theorem dX12_open_0 : decode cX12_open 0 = .ok (.aload_n 0, 1) := by decide +kernel
theorem dX12_open_1 : decode cX12_open 1 = .ok (.iconst 0, 1) := by decide +kernel
theorem dX12_open_2 : decode cX12_open 2 = .ok (.putfield 141, 3) := by decide +kernel
theorem dX12_open_5 : decode cX12_open 5 = .ok (.aload_n 0, 1) := by decide +kernel
theorem dX12_open_6 : decode cX12_open 6 = .ok (.iconst (-1), 1) := by decide +kernel
theorem dX12_open_7 : decode cX12_open 7 = .ok (.putfield 19, 3) := by decide +kernel
theorem dX12_open_10 : decode cX12_open 10 = .ok (.aload_n 0, 1) := by decide +kernel
theorem dX12_open_11 : decode cX12_open 11 = .ok (.aload_n 0, 1) := by decide +kernel
theorem dX12_open_12 : decode cX12_open 12 = .ok (.getfield 7, 3) := by decide +kernel
theorem dX12_open_15 : decode cX12_open 15 = .ok (.putfield 36, 3) := by decide +kernel
theorem dX12_open_18 : decode cX12_open 18 = .ok (.aload_n 0, 1) := by decide +kernel
theorem dX12_open_19 : decode cX12_open 19 = .ok (.iconst 0, 1) := by decide +kernel
theorem dX12_open_20 : decode cX12_open 20 = .ok (.putfield 150, 3) := by decide +kernel
theorem dX12_open_23 : decode cX12_open 23 = .ok (.aload_n 0, 1) := by decide +kernel
theorem dX12_open_24 : decode cX12_open 24 = .ok (.aload_n 0, 1) := by decide +kernel
theorem dX12_open_25 : decode cX12_open 25 = .ok (.getfield 130, 3) := by decide +kernel
theorem dX12_open_28 : decode cX12_open 28 = .ok (.putfield 147, 3) := by decide +kernel
theorem dX12_open_31 : decode cX12_open 31 = .ok (.aload_n 0, 1) := by decide +kernel
theorem dX12_open_32 : decode cX12_open 32 = .ok (.iconst 0, 1) := by decide +kernel
theorem dX12_open_33 : decode cX12_open 33 = .ok (.iconst 1, 1) := by decide +kernel
theorem dX12_open_34 : decode cX12_open 34 = .ok (.invokevirtual 114, 3) := by decide +kernel
theorem dX12_open_37 : decode cX12_open 37 = .ok (.aload_n 0, 1) := by decide +kernel
theorem dX12_open_38 : decode cX12_open 38 = .ok (.iconst 1, 1) := by decide +kernel
theorem dX12_open_39 : decode cX12_open 39 = .ok (.putfield 183, 3) := by decide +kernel
theorem dX12_open_42 : decode cX12_open 42 = .ok (.aload_n 0, 1) := by decide +kernel
theorem dX12_open_43 : decode cX12_open 43 = .ok (.iconst 1, 1) := by decide +kernel
theorem dX12_open_44 : decode cX12_open 44 = .ok (.putfield 180, 3) := by decide +kernel
theorem dX12_open_47 : decode cX12_open 47 = .ok (.aload_n 0, 1) := by decide +kernel
theorem dX12_open_48 : decode cX12_open 48 = .ok (.iconst 0, 1) := by decide +kernel
theorem dX12_open_49 : decode cX12_open 49 = .ok (.putfield 186, 3) := by decide +kernel
theorem dX12_open_52 : decode cX12_open 52 = .ok (.iconst 0, 1) := by decide +kernel
theorem dX12_open_53 : decode cX12_open 53 = .ok (.istore_n 1, 1) := by decide +kernel
theorem dX12_open_54 : decode cX12_open 54 = .ok (.iload_n 1, 1) := by decide +kernel
theorem dX12_open_55 : decode cX12_open 55 = .ok (.bipush 8, 2) := by decide +kernel
theorem dX12_open_57 : decode cX12_open 57 = .ok (.if_icmp .ge 16, 3) := by decide +kernel
theorem dX12_open_60 : decode cX12_open 60 = .ok (.aload_n 0, 1) := by decide +kernel
theorem dX12_open_61 : decode cX12_open 61 = .ok (.getfield 61, 3) := by decide +kernel
theorem dX12_open_64 : decode cX12_open 64 = .ok (.iload_n 1, 1) := by decide +kernel
theorem dX12_open_65 : decode cX12_open 65 = .ok (.iconst 0, 1) := by decide +kernel
theorem dX12_open_66 : decode cX12_open 66 = .ok (.iastore, 1) := by decide +kernel
theorem dX12_open_67 : decode cX12_open 67 = .ok (.iinc 1 1, 3) := by decide +kernel
theorem dX12_open_70 : decode cX12_open 70 = .ok (.goto (-16), 3) := by decide +kernel
theorem dX12_open_73 : decode cX12_open 73 = .ok (.aload_n 0, 1) := by decide +kernel
theorem dX12_open_74 : decode cX12_open 74 = .ok (.invokevirtual 189, 3) := by decide +kernel
theorem dX12_open_77 : decode cX12_open 77 = .ok (.aload_n 0, 1) := by decide +kernel
theorem dX12_open_78 : decode cX12_open 78 = .ok (.bipush 6, 2) := by decide +kernel
theorem dX12_open_80 : decode cX12_open 80 = .ok (.invokevirtual 192, 3) := by decide +kernel
theorem dX12_open_83 : decode cX12_open 83 = .ok (.istore_n 1, 1) := by decide +kernel
theorem dX12_open_84 : decode cX12_open 84 = .ok (.aload_n 0, 1) := by decide +kernel
theorem dX12_open_85 : decode cX12_open 85 = .ok (.getfield 141, 3) := by decide +kernel
theorem dX12_open_88 : decode cX12_open 88 = .ok (.ifCond .ne 13, 3) := by decide +kernel
theorem dX12_open_91 : decode cX12_open 91 = .ok (.iload_n 1, 1) := by decide +kernel
theorem dX12_open_92 : decode cX12_open 92 = .ok (.iconst 2, 1) := by decide +kernel
theorem dX12_open_93 : decode cX12_open 93 = .ok (.iand, 1) := by decide +kernel
theorem dX12_open_94 : decode cX12_open 94 = .ok (.ifCond .le 7, 3) := by decide +kernel
theorem dX12_open_97 : decode cX12_open 97 = .ok (.aload_n 0, 1) := by decide +kernel
theorem dX12_open_98 : decode cX12_open 98 = .ok (.invokevirtual 195, 3) := by decide +kernel
theorem dX12_open_101 : decode cX12_open 101 = .ok (.aload_n 0, 1) := by decide +kernel
theorem dX12_open_102 : decode cX12_open 102 = .ok (.getfield 141, 3) := by decide +kernel
theorem dX12_open_105 : decode cX12_open 105 = .ok (.ifCond .ne 13, 3) := by decide +kernel
theorem dX12_open_108 : decode cX12_open 108 = .ok (.iload_n 1, 1) := by decide +kernel
theorem dX12_open_109 : decode cX12_open 109 = .ok (.iconst 4, 1) := by decide +kernel
theorem dX12_open_110 : decode cX12_open 110 = .ok (.iand, 1) := by decide +kernel
theorem dX12_open_111 : decode cX12_open 111 = .ok (.ifCond .le 7, 3) := by decide +kernel
theorem dX12_open_114 : decode cX12_open 114 = .ok (.aload_n 0, 1) := by decide +kernel
theorem dX12_open_115 : decode cX12_open 115 = .ok (.invokevirtual 198, 3) := by decide +kernel
theorem dX12_open_118 : decode cX12_open 118 = .ok (.aload_n 0, 1) := by decide +kernel
theorem dX12_open_119 : decode cX12_open 119 = .ok (.aload_n 0, 1) := by decide +kernel
theorem dX12_open_120 : decode cX12_open 120 = .ok (.getfield 16, 3) := by decide +kernel
theorem dX12_open_123 : decode cX12_open 123 = .ok (.putfield 39, 3) := by decide +kernel
theorem dX12_open_126 : decode cX12_open 126 = .ok (.aload_n 0, 1) := by decide +kernel
theorem dX12_open_127 : decode cX12_open 127 = .ok (.aload_n 0, 1) := by decide +kernel
theorem dX12_open_128 : decode cX12_open 128 = .ok (.getfield 138, 3) := by decide +kernel
theorem dX12_open_131 : decode cX12_open 131 = .ok (.putfield 201, 3) := by decide +kernel
theorem dX12_open_134 : decode cX12_open 134 = .ok (.aload_n 0, 1) := by decide +kernel
theorem dX12_open_135 : decode cX12_open 135 = .ok (.aload_n 0, 1) := by decide +kernel
theorem dX12_open_136 : decode cX12_open 136 = .ok (.getfield 42, 3) := by decide +kernel
theorem dX12_open_139 : decode cX12_open 139 = .ok (.putfield 48, 3) := by decide +kernel
theorem dX12_open_142 : decode cX12_open 142 = .ok (.aload_n 0, 1) := by decide +kernel
theorem dX12_open_143 : decode cX12_open 143 = .ok (.iconst 0, 1) := by decide +kernel
theorem dX12_open_144 : decode cX12_open 144 = .ok (.putfield 204, 3) := by decide +kernel
theorem dX12_open_147 : decode cX12_open 147 = .ok (.aload_n 0, 1) := by decide +kernel
theorem dX12_open_148 : decode cX12_open 148 = .ok (.getfield 141, 3) := by decide +kernel
theorem dX12_open_151 : decode cX12_open 151 = .ok (.ifCond .ne 21, 3) := by decide +kernel
theorem dX12_open_154 : decode cX12_open 154 = .ok (.aload_n 0, 1) := by decide +kernel
theorem dX12_open_155 : decode cX12_open 155 = .ok (.getfield 150, 3) := by decide +kernel
theorem dX12_open_158 : decode cX12_open 158 = .ok (.aload_n 0, 1) := by decide +kernel
theorem dX12_open_159 : decode cX12_open 159 = .ok (.getfield 147, 3) := by decide +kernel
theorem dX12_open_162 : decode cX12_open 162 = .ok (.if_icmp .ge 10, 3) := by decide +kernel
theorem dX12_open_165 : decode cX12_open 165 = .ok (.aload_n 0, 1) := by decide +kernel
theorem dX12_open_166 : decode cX12_open 166 = .ok (.invokevirtual 207, 3) := by decide +kernel
theorem dX12_open_169 : decode cX12_open 169 = .ok (.goto (-22), 3) := by decide +kernel
theorem dX12_open_172 : decode cX12_open 172 = .ok (.aload_n 0, 1) := by decide +kernel
theorem dX12_open_173 : decode cX12_open 173 = .ok (.getfield 141, 3) := by decide +kernel
theorem dX12_open_176 : decode cX12_open 176 = .ok (.ifCond .le 19, 3) := by decide +kernel
theorem dX12_open_179 : decode cX12_open 179 = .ok (.aload_n 0, 1) := by decide +kernel
theorem dX12_open_180 : decode cX12_open 180 = .ok (.aload_n 0, 1) := by decide +kernel
theorem dX12_open_181 : decode cX12_open 181 = .ok (.getfield 144, 3) := by decide +kernel
theorem dX12_open_184 : decode cX12_open 184 = .ok (.putfield 19, 3) := by decide +kernel
theorem dX12_open_187 : decode cX12_open 187 = .ok (.bipush (-10), 2) := by decide +kernel
theorem dX12_open_189 : decode cX12_open 189 = .ok (.aload_n 0, 1) := by decide +kernel
theorem dX12_open_190 : decode cX12_open 190 = .ok (.getfield 141, 3) := by decide +kernel
theorem dX12_open_193 : decode cX12_open 193 = .ok (.isub, 1) := by decide +kernel
theorem dX12_open_194 : decode cX12_open 194 = .ok (.ireturn, 1) := by decide +kernel
theorem dX12_open_195 : decode cX12_open 195 = .ok (.iconst 0, 1) := by decide +kernel
theorem dX12_open_196 : decode cX12_open 196 = .ok (.istore_n 2, 1) := by decide +kernel
theorem dX12_open_197 : decode cX12_open 197 = .ok (.iload_n 2, 1) := by decide +kernel
theorem dX12_open_198 : decode cX12_open 198 = .ok (.aload_n 0, 1) := by decide +kernel
theorem dX12_open_199 : decode cX12_open 199 = .ok (.getfield 204, 3) := by decide +kernel
theorem dX12_open_202 : decode cX12_open 202 = .ok (.if_icmp .ge 21, 3) := by decide +kernel
theorem dX12_open_205 : decode cX12_open 205 = .ok (.aload_n 0, 1) := by decide +kernel
theorem dX12_open_206 : decode cX12_open 206 = .ok (.getfield 13, 3) := by decide +kernel
theorem dX12_open_209 : decode cX12_open 209 = .ok (.iload_n 2, 1) := by decide +kernel
theorem dX12_open_210 : decode cX12_open 210 = .ok (.aload_n 0, 1) := by decide +kernel
theorem dX12_open_211 : decode cX12_open 211 = .ok (.getfield 42, 3) := by decide +kernel
theorem dX12_open_214 : decode cX12_open 214 = .ok (.iload_n 2, 1) := by decide +kernel
theorem dX12_open_215 : decode cX12_open 215 = .ok (.baload, 1) := by decide +kernel
theorem dX12_open_216 : decode cX12_open 216 = .ok (.bastore, 1) := by decide +kernel
theorem dX12_open_217 : decode cX12_open 217 = .ok (.iinc 2 1, 3) := by decide +kernel
theorem dX12_open_220 : decode cX12_open 220 = .ok (.goto (-23), 3) := by decide +kernel
theorem dX12_open_223 : decode cX12_open 223 = .ok (.aload_n 0, 1) := by decide +kernel
theorem dX12_open_224 : decode cX12_open 224 = .ok (.aload_n 0, 1) := by decide +kernel
theorem dX12_open_225 : decode cX12_open 225 = .ok (.getfield 204, 3) := by decide +kernel
theorem dX12_open_228 : decode cX12_open 228 = .ok (.putfield 135, 3) := by decide +kernel
theorem dX12_open_231 : decode cX12_open 231 = .ok (.aload_n 0, 1) := by decide +kernel
theorem dX12_open_232 : decode cX12_open 232 = .ok (.getfield 135, 3) := by decide +kernel
theorem dX12_open_235 : decode cX12_open 235 = .ok (.ireturn, 1) := by decide +kernel
theorem dX12_place_0 : decode cX12_place 0 = .ok (.aload_n 0, 1) := by decide +kernel
theorem dX12_place_1 : decode cX12_place 1 = .ok (.getfield 19, 3) := by decide +kernel
theorem dX12_place_4 : decode cX12_place 4 = .ok (.ireturn, 1) := by decide +kernel
theorem dX12_told_0 : decode cX12_told 0 = .ok (.iload_n 1, 1) := by decide +kernel
theorem dX12_told_1 : decode cX12_told 1 = .ok (.ifCond .lt 9, 3) := by decide +kernel
theorem dX12_told_4 : decode cX12_told 4 = .ok (.iload_n 1, 1) := by decide +kernel
theorem dX12_told_5 : decode cX12_told 5 = .ok (.bipush 9, 2) := by decide +kernel
theorem dX12_told_7 : decode cX12_told 7 = .ok (.if_icmp .le 8, 3) := by decide +kernel
theorem dX12_told_10 : decode cX12_told 10 = .ok (.bipush (-2), 2) := by decide +kernel
theorem dX12_told_12 : decode cX12_told 12 = .ok (.goto 39, 3) := by decide +kernel
theorem dX12_told_15 : decode cX12_told 15 = .ok (.iload_n 1, 1) := by decide +kernel
theorem dX12_told_16 : decode cX12_told 16 = .ok (.bipush 8, 2) := by decide +kernel
theorem dX12_told_18 : decode cX12_told 18 = .ok (.if_icmp .ne 12, 3) := by decide +kernel
theorem dX12_told_21 : decode cX12_told 21 = .ok (.aload_n 0, 1) := by decide +kernel
theorem dX12_told_22 : decode cX12_told 22 = .ok (.getfield 27, 3) := by decide +kernel
theorem dX12_told_25 : decode cX12_told 25 = .ok (.iconst 1, 1) := by decide +kernel
theorem dX12_told_26 : decode cX12_told 26 = .ok (.iaload, 1) := by decide +kernel
theorem dX12_told_27 : decode cX12_told 27 = .ok (.goto 24, 3) := by decide +kernel
theorem dX12_told_30 : decode cX12_told 30 = .ok (.iload_n 1, 1) := by decide +kernel
theorem dX12_told_31 : decode cX12_told 31 = .ok (.bipush 9, 2) := by decide +kernel
theorem dX12_told_33 : decode cX12_told 33 = .ok (.if_icmp .ne 12, 3) := by decide +kernel
theorem dX12_told_36 : decode cX12_told 36 = .ok (.aload_n 0, 1) := by decide +kernel
theorem dX12_told_37 : decode cX12_told 37 = .ok (.getfield 30, 3) := by decide +kernel
theorem dX12_told_40 : decode cX12_told 40 = .ok (.iconst 1, 1) := by decide +kernel
theorem dX12_told_41 : decode cX12_told 41 = .ok (.iaload, 1) := by decide +kernel
theorem dX12_told_42 : decode cX12_told 42 = .ok (.goto 9, 3) := by decide +kernel
theorem dX12_told_45 : decode cX12_told 45 = .ok (.aload_n 0, 1) := by decide +kernel
theorem dX12_told_46 : decode cX12_told 46 = .ok (.getfield 61, 3) := by decide +kernel
theorem dX12_told_49 : decode cX12_told 49 = .ok (.iload_n 1, 1) := by decide +kernel
theorem dX12_told_50 : decode cX12_told 50 = .ok (.iaload, 1) := by decide +kernel
theorem dX12_told_51 : decode cX12_told 51 = .ok (.ireturn, 1) := by decide +kernel
theorem dX12_instruction_0 : decode cX12_instruction 0 = .ok (.iload_n 1, 1) := by decide +kernel
theorem dX12_instruction_1 : decode cX12_instruction 1 = .ok (.ifCond .lt 20, 3) := by decide +kernel
theorem dX12_instruction_4 : decode cX12_instruction 4 = .ok (.iload_n 1, 1) := by decide +kernel
theorem dX12_instruction_5 : decode cX12_instruction 5 = .ok (.aload_n 0, 1) := by decide +kernel
theorem dX12_instruction_6 : decode cX12_instruction 6 = .ok (.getfield 186, 3) := by decide +kernel
theorem dX12_instruction_9 : decode cX12_instruction 9 = .ok (.if_icmp .ge 12, 3) := by decide +kernel
theorem dX12_instruction_12 : decode cX12_instruction 12 = .ok (.iload_n 2, 1) := by decide +kernel
theorem dX12_instruction_13 : decode cX12_instruction 13 = .ok (.ifCond .lt 8, 3) := by decide +kernel
theorem dX12_instruction_16 : decode cX12_instruction 16 = .ok (.iload_n 2, 1) := by decide +kernel
theorem dX12_instruction_17 : decode cX12_instruction 17 = .ok (.iconst 3, 1) := by decide +kernel
theorem dX12_instruction_18 : decode cX12_instruction 18 = .ok (.if_icmp .le 6, 3) := by decide +kernel
theorem dX12_instruction_21 : decode cX12_instruction 21 = .ok (.bipush (-2), 2) := by decide +kernel
theorem dX12_instruction_23 : decode cX12_instruction 23 = .ok (.ireturn, 1) := by decide +kernel
theorem dX12_instruction_24 : decode cX12_instruction 24 = .ok (.iload_n 2, 1) := by decide +kernel
theorem dX12_instruction_25 : decode cX12_instruction 25 = .ok (.ifCond .ne 12, 3) := by decide +kernel
theorem dX12_instruction_28 : decode cX12_instruction 28 = .ok (.aload_n 0, 1) := by decide +kernel
theorem dX12_instruction_29 : decode cX12_instruction 29 = .ok (.getfield 64, 3) := by decide +kernel
theorem dX12_instruction_32 : decode cX12_instruction 32 = .ok (.iload_n 1, 1) := by decide +kernel
theorem dX12_instruction_33 : decode cX12_instruction 33 = .ok (.iaload, 1) := by decide +kernel
theorem dX12_instruction_34 : decode cX12_instruction 34 = .ok (.goto 37, 3) := by decide +kernel
theorem dX12_instruction_37 : decode cX12_instruction 37 = .ok (.iload_n 2, 1) := by decide +kernel
theorem dX12_instruction_38 : decode cX12_instruction 38 = .ok (.iconst 1, 1) := by decide +kernel
theorem dX12_instruction_39 : decode cX12_instruction 39 = .ok (.if_icmp .ne 12, 3) := by decide +kernel
theorem dX12_instruction_42 : decode cX12_instruction 42 = .ok (.aload_n 0, 1) := by decide +kernel
theorem dX12_instruction_43 : decode cX12_instruction 43 = .ok (.getfield 67, 3) := by decide +kernel
theorem dX12_instruction_46 : decode cX12_instruction 46 = .ok (.iload_n 1, 1) := by decide +kernel
theorem dX12_instruction_47 : decode cX12_instruction 47 = .ok (.iaload, 1) := by decide +kernel
theorem dX12_instruction_48 : decode cX12_instruction 48 = .ok (.goto 23, 3) := by decide +kernel
theorem dX12_instruction_51 : decode cX12_instruction 51 = .ok (.iload_n 2, 1) := by decide +kernel
theorem dX12_instruction_52 : decode cX12_instruction 52 = .ok (.iconst 2, 1) := by decide +kernel
theorem dX12_instruction_53 : decode cX12_instruction 53 = .ok (.if_icmp .ne 12, 3) := by decide +kernel
theorem dX12_instruction_56 : decode cX12_instruction 56 = .ok (.aload_n 0, 1) := by decide +kernel
theorem dX12_instruction_57 : decode cX12_instruction 57 = .ok (.getfield 70, 3) := by decide +kernel
theorem dX12_instruction_60 : decode cX12_instruction 60 = .ok (.iload_n 1, 1) := by decide +kernel
theorem dX12_instruction_61 : decode cX12_instruction 61 = .ok (.iaload, 1) := by decide +kernel
theorem dX12_instruction_62 : decode cX12_instruction 62 = .ok (.goto 9, 3) := by decide +kernel
theorem dX12_instruction_65 : decode cX12_instruction 65 = .ok (.aload_n 0, 1) := by decide +kernel
theorem dX12_instruction_66 : decode cX12_instruction 66 = .ok (.getfield 73, 3) := by decide +kernel
theorem dX12_instruction_69 : decode cX12_instruction 69 = .ok (.iload_n 1, 1) := by decide +kernel
theorem dX12_instruction_70 : decode cX12_instruction 70 = .ok (.iaload, 1) := by decide +kernel
theorem dX12_instruction_71 : decode cX12_instruction 71 = .ok (.ireturn, 1) := by decide +kernel
theorem dX12_table_0 : decode cX12_table 0 = .ok (.iload_n 1, 1) := by decide +kernel
theorem dX12_table_1 : decode cX12_table 1 = .ok (.ifCond .lt 19, 3) := by decide +kernel
theorem dX12_table_4 : decode cX12_table 4 = .ok (.iload_n 1, 1) := by decide +kernel
theorem dX12_table_5 : decode cX12_table 5 = .ok (.sipush 255, 3) := by decide +kernel
theorem dX12_table_8 : decode cX12_table 8 = .ok (.if_icmp .gt 12, 3) := by decide +kernel
theorem dX12_table_11 : decode cX12_table 11 = .ok (.iload_n 2, 1) := by decide +kernel
theorem dX12_table_12 : decode cX12_table 12 = .ok (.ifCond .lt 8, 3) := by decide +kernel
theorem dX12_table_15 : decode cX12_table 15 = .ok (.iload_n 2, 1) := by decide +kernel
theorem dX12_table_16 : decode cX12_table 16 = .ok (.iconst 5, 1) := by decide +kernel
theorem dX12_table_17 : decode cX12_table 17 = .ok (.if_icmp .le 8, 3) := by decide +kernel
theorem dX12_table_20 : decode cX12_table 20 = .ok (.bipush (-2), 2) := by decide +kernel
theorem dX12_table_22 : decode cX12_table 22 = .ok (.goto 10, 3) := by decide +kernel
theorem dX12_table_25 : decode cX12_table 25 = .ok (.aload_n 0, 1) := by decide +kernel
theorem dX12_table_26 : decode cX12_table 26 = .ok (.iconst 1, 1) := by decide +kernel
theorem dX12_table_27 : decode cX12_table 27 = .ok (.iload_n 1, 1) := by decide +kernel
theorem dX12_table_28 : decode cX12_table 28 = .ok (.iload_n 2, 1) := by decide +kernel
theorem dX12_table_29 : decode cX12_table 29 = .ok (.invokevirtual 126, 3) := by decide +kernel
theorem dX12_table_32 : decode cX12_table 32 = .ok (.ireturn, 1) := by decide +kernel
theorem dX12_cache_0 : decode cX12_cache 0 = .ok (.iload_n 1, 1) := by decide +kernel
theorem dX12_cache_1 : decode cX12_cache 1 = .ok (.ifCond .lt 39, 3) := by decide +kernel
theorem dX12_cache_4 : decode cX12_cache 4 = .ok (.iload_n 1, 1) := by decide +kernel
theorem dX12_cache_5 : decode cX12_cache 5 = .ok (.iconst 1, 1) := by decide +kernel
theorem dX12_cache_6 : decode cX12_cache 6 = .ok (.if_icmp .gt 34, 3) := by decide +kernel
theorem dX12_cache_9 : decode cX12_cache 9 = .ok (.iload_n 2, 1) := by decide +kernel
theorem dX12_cache_10 : decode cX12_cache 10 = .ok (.ifCond .lt 30, 3) := by decide +kernel
theorem dX12_cache_13 : decode cX12_cache 13 = .ok (.iload_n 2, 1) := by decide +kernel
theorem dX12_cache_14 : decode cX12_cache 14 = .ok (.iload_n 1, 1) := by decide +kernel
theorem dX12_cache_15 : decode cX12_cache 15 = .ok (.ifCond .ne 12, 3) := by decide +kernel
theorem dX12_cache_18 : decode cX12_cache 18 = .ok (.aload_n 0, 1) := by decide +kernel
theorem dX12_cache_19 : decode cX12_cache 19 = .ok (.getfield 27, 3) := by decide +kernel
theorem dX12_cache_22 : decode cX12_cache 22 = .ok (.iconst 1, 1) := by decide +kernel
theorem dX12_cache_23 : decode cX12_cache 23 = .ok (.iaload, 1) := by decide +kernel
theorem dX12_cache_24 : decode cX12_cache 24 = .ok (.goto 13, 3) := by decide +kernel
theorem dX12_cache_27 : decode cX12_cache 27 = .ok (.sipush 256, 3) := by decide +kernel
theorem dX12_cache_30 : decode cX12_cache 30 = .ok (.aload_n 0, 1) := by decide +kernel
theorem dX12_cache_31 : decode cX12_cache 31 = .ok (.getfield 30, 3) := by decide +kernel
theorem dX12_cache_34 : decode cX12_cache 34 = .ok (.iconst 1, 1) := by decide +kernel
theorem dX12_cache_35 : decode cX12_cache 35 = .ok (.iaload, 1) := by decide +kernel
theorem dX12_cache_36 : decode cX12_cache 36 = .ok (.imul, 1) := by decide +kernel
theorem dX12_cache_37 : decode cX12_cache 37 = .ok (.if_icmp .lt 6, 3) := by decide +kernel
theorem dX12_cache_40 : decode cX12_cache 40 = .ok (.bipush (-2), 2) := by decide +kernel
theorem dX12_cache_42 : decode cX12_cache 42 = .ok (.ireturn, 1) := by decide +kernel
theorem dX12_cache_43 : decode cX12_cache 43 = .ok (.iload_n 1, 1) := by decide +kernel
theorem dX12_cache_44 : decode cX12_cache 44 = .ok (.ifCond .ne 12, 3) := by decide +kernel
theorem dX12_cache_47 : decode cX12_cache 47 = .ok (.aload_n 0, 1) := by decide +kernel
theorem dX12_cache_48 : decode cX12_cache 48 = .ok (.getfield 54, 3) := by decide +kernel
theorem dX12_cache_51 : decode cX12_cache 51 = .ok (.iload_n 2, 1) := by decide +kernel
theorem dX12_cache_52 : decode cX12_cache 52 = .ok (.laload, 1) := by decide +kernel
theorem dX12_cache_53 : decode cX12_cache 53 = .ok (.goto 9, 3) := by decide +kernel
theorem dX12_cache_56 : decode cX12_cache 56 = .ok (.aload_n 0, 1) := by decide +kernel
theorem dX12_cache_57 : decode cX12_cache 57 = .ok (.getfield 58, 3) := by decide +kernel
theorem dX12_cache_60 : decode cX12_cache 60 = .ok (.iload_n 2, 1) := by decide +kernel
theorem dX12_cache_61 : decode cX12_cache 61 = .ok (.laload, 1) := by decide +kernel
theorem dX12_cache_62 : decode cX12_cache 62 = .ok (.l2i, 1) := by decide +kernel
theorem dX12_cache_63 : decode cX12_cache 63 = .ok (.ireturn, 1) := by decide +kernel
theorem dX12_say_0 : decode cX12_say 0 = .ok (.aload_n 0, 1) := by decide +kernel
theorem dX12_say_1 : decode cX12_say 1 = .ok (.getfield 264, 3) := by decide +kernel
theorem dX12_say_4 : decode cX12_say 4 = .ok (.ldc 76, 2) := by decide +kernel
theorem dX12_say_6 : decode cX12_say 6 = .ok (.if_icmp .ge 14, 3) := by decide +kernel
theorem dX12_say_9 : decode cX12_say 9 = .ok (.aload_n 0, 1) := by decide +kernel
theorem dX12_say_10 : decode cX12_say 10 = .ok (.getfield 77, 3) := by decide +kernel
theorem dX12_say_13 : decode cX12_say 13 = .ok (.aload_n 0, 1) := by decide +kernel
theorem dX12_say_14 : decode cX12_say 14 = .ok (.getfield 264, 3) := by decide +kernel
theorem dX12_say_17 : decode cX12_say 17 = .ok (.iload_n 1, 1) := by decide +kernel
theorem dX12_say_18 : decode cX12_say 18 = .ok (.i2b, 1) := by decide +kernel
theorem dX12_say_19 : decode cX12_say 19 = .ok (.bastore, 1) := by decide +kernel
theorem dX12_say_20 : decode cX12_say 20 = .ok (.aload_n 0, 1) := by decide +kernel
theorem dX12_say_21 : decode cX12_say 21 = .ok (.dup, 1) := by decide +kernel
theorem dX12_say_22 : decode cX12_say 22 = .ok (.getfield 264, 3) := by decide +kernel
theorem dX12_say_25 : decode cX12_say 25 = .ok (.iconst 1, 1) := by decide +kernel
theorem dX12_say_26 : decode cX12_say 26 = .ok (.iadd, 1) := by decide +kernel
theorem dX12_say_27 : decode cX12_say 27 = .ok (.putfield 264, 3) := by decide +kernel
theorem dX12_say_30 : decode cX12_say 30 = .ok (.return_, 1) := by decide +kernel
theorem dX12_bigSize_0 : decode cX12_bigSize 0 = .ok (.iconst 1, 1) := by decide +kernel
theorem dX12_bigSize_1 : decode cX12_bigSize 1 = .ok (.istore_n 2, 1) := by decide +kernel
theorem dX12_bigSize_2 : decode cX12_bigSize 2 = .ok (.iload_n 2, 1) := by decide +kernel
theorem dX12_bigSize_3 : decode cX12_bigSize 3 = .ok (.iconst 5, 1) := by decide +kernel
theorem dX12_bigSize_4 : decode cX12_bigSize 4 = .ok (.if_icmp .ge 20, 3) := by decide +kernel
theorem dX12_bigSize_7 : decode cX12_bigSize 7 = .ok (.lload_n 0, 1) := by decide +kernel
theorem dX12_bigSize_8 : decode cX12_bigSize 8 = .ok (.bipush 7, 2) := by decide +kernel
theorem dX12_bigSize_10 : decode cX12_bigSize 10 = .ok (.iload_n 2, 1) := by decide +kernel
theorem dX12_bigSize_11 : decode cX12_bigSize 11 = .ok (.imul, 1) := by decide +kernel
theorem dX12_bigSize_12 : decode cX12_bigSize 12 = .ok (.lshr, 1) := by decide +kernel
theorem dX12_bigSize_13 : decode cX12_bigSize 13 = .ok (.lconst 0, 1) := by decide +kernel
theorem dX12_bigSize_14 : decode cX12_bigSize 14 = .ok (.lcmp, 1) := by decide +kernel
theorem dX12_bigSize_15 : decode cX12_bigSize 15 = .ok (.ifCond .le 9, 3) := by decide +kernel
theorem dX12_bigSize_18 : decode cX12_bigSize 18 = .ok (.iinc 2 1, 3) := by decide +kernel
theorem dX12_bigSize_21 : decode cX12_bigSize 21 = .ok (.goto (-19), 3) := by decide +kernel
theorem dX12_bigSize_24 : decode cX12_bigSize 24 = .ok (.iload_n 2, 1) := by decide +kernel
theorem dX12_bigSize_25 : decode cX12_bigSize 25 = .ok (.ireturn, 1) := by decide +kernel
theorem dX12_sayBig_0 : decode cX12_sayBig 0 = .ok (.lload_n 1, 1) := by decide +kernel
theorem dX12_sayBig_1 : decode cX12_sayBig 1 = .ok (.invokestatic 267, 3) := by decide +kernel
theorem dX12_sayBig_4 : decode cX12_sayBig 4 = .ok (.iconst 1, 1) := by decide +kernel
theorem dX12_sayBig_5 : decode cX12_sayBig 5 = .ok (.isub, 1) := by decide +kernel
theorem dX12_sayBig_6 : decode cX12_sayBig 6 = .ok (.istore_n 3, 1) := by decide +kernel
theorem dX12_sayBig_7 : decode cX12_sayBig 7 = .ok (.iload_n 3, 1) := by decide +kernel
theorem dX12_sayBig_8 : decode cX12_sayBig 8 = .ok (.ifCond .lt 36, 3) := by decide +kernel
theorem dX12_sayBig_11 : decode cX12_sayBig 11 = .ok (.aload_n 0, 1) := by decide +kernel
theorem dX12_sayBig_12 : decode cX12_sayBig 12 = .ok (.lload_n 1, 1) := by decide +kernel
theorem dX12_sayBig_13 : decode cX12_sayBig 13 = .ok (.bipush 7, 2) := by decide +kernel
theorem dX12_sayBig_15 : decode cX12_sayBig 15 = .ok (.iload_n 3, 1) := by decide +kernel
theorem dX12_sayBig_16 : decode cX12_sayBig 16 = .ok (.imul, 1) := by decide +kernel
theorem dX12_sayBig_17 : decode cX12_sayBig 17 = .ok (.lshr, 1) := by decide +kernel
theorem dX12_sayBig_18 : decode cX12_sayBig 18 = .ok (.ldc2_w 271, 3) := by decide +kernel
theorem dX12_sayBig_21 : decode cX12_sayBig 21 = .ok (.land, 1) := by decide +kernel
theorem dX12_sayBig_22 : decode cX12_sayBig 22 = .ok (.l2i, 1) := by decide +kernel
theorem dX12_sayBig_23 : decode cX12_sayBig 23 = .ok (.iload_n 3, 1) := by decide +kernel
theorem dX12_sayBig_24 : decode cX12_sayBig 24 = .ok (.ifCond .le 9, 3) := by decide +kernel
theorem dX12_sayBig_27 : decode cX12_sayBig 27 = .ok (.sipush 128, 3) := by decide +kernel
theorem dX12_sayBig_30 : decode cX12_sayBig 30 = .ok (.goto 4, 3) := by decide +kernel
theorem dX12_sayBig_33 : decode cX12_sayBig 33 = .ok (.iconst 0, 1) := by decide +kernel
theorem dX12_sayBig_34 : decode cX12_sayBig 34 = .ok (.ior, 1) := by decide +kernel
theorem dX12_sayBig_35 : decode cX12_sayBig 35 = .ok (.invokevirtual 273, 3) := by decide +kernel
theorem dX12_sayBig_38 : decode cX12_sayBig 38 = .ok (.iinc 3 (-1), 3) := by decide +kernel
theorem dX12_sayBig_41 : decode cX12_sayBig 41 = .ok (.goto (-34), 3) := by decide +kernel
theorem dX12_sayBig_44 : decode cX12_sayBig 44 = .ok (.return_, 1) := by decide +kernel
theorem dX12_sayHead_0 : decode cX12_sayHead 0 = .ok (.aload_n 0, 1) := by decide +kernel
theorem dX12_sayHead_1 : decode cX12_sayHead 1 = .ok (.sipush 214, 3) := by decide +kernel
theorem dX12_sayHead_4 : decode cX12_sayHead 4 = .ok (.invokevirtual 273, 3) := by decide +kernel
theorem dX12_sayHead_7 : decode cX12_sayHead 7 = .ok (.aload_n 0, 1) := by decide +kernel
theorem dX12_sayHead_8 : decode cX12_sayHead 8 = .ok (.sipush 195, 3) := by decide +kernel
theorem dX12_sayHead_11 : decode cX12_sayHead 11 = .ok (.invokevirtual 273, 3) := by decide +kernel
theorem dX12_sayHead_14 : decode cX12_sayHead 14 = .ok (.aload_n 0, 1) := by decide +kernel
theorem dX12_sayHead_15 : decode cX12_sayHead 15 = .ok (.sipush 196, 3) := by decide +kernel
theorem dX12_sayHead_18 : decode cX12_sayHead 18 = .ok (.invokevirtual 273, 3) := by decide +kernel
theorem dX12_sayHead_21 : decode cX12_sayHead 21 = .ok (.aload_n 0, 1) := by decide +kernel
theorem dX12_sayHead_22 : decode cX12_sayHead 22 = .ok (.iconst 0, 1) := by decide +kernel
theorem dX12_sayHead_23 : decode cX12_sayHead 23 = .ok (.invokevirtual 273, 3) := by decide +kernel
theorem dX12_sayHead_26 : decode cX12_sayHead 26 = .ok (.aload_n 0, 1) := by decide +kernel
theorem dX12_sayHead_27 : decode cX12_sayHead 27 = .ok (.iload_n 1, 1) := by decide +kernel
theorem dX12_sayHead_28 : decode cX12_sayHead 28 = .ok (.invokevirtual 273, 3) := by decide +kernel
theorem dX12_sayHead_31 : decode cX12_sayHead 31 = .ok (.return_, 1) := by decide +kernel
theorem dX12_step_0 : decode cX12_step 0 = .ok (.aload_n 0, 1) := by decide +kernel
theorem dX12_step_1 : decode cX12_step 1 = .ok (.getfield 89, 3) := by decide +kernel
theorem dX12_step_4 : decode cX12_step 4 = .ok (.aload_n 0, 1) := by decide +kernel
theorem dX12_step_5 : decode cX12_step 5 = .ok (.getfield 314, 3) := by decide +kernel
theorem dX12_step_8 : decode cX12_step 8 = .ok (.iload_n 1, 1) := by decide +kernel
theorem dX12_step_9 : decode cX12_step 9 = .ok (.iastore, 1) := by decide +kernel
theorem dX12_step_10 : decode cX12_step 10 = .ok (.aload_n 0, 1) := by decide +kernel
theorem dX12_step_11 : decode cX12_step 11 = .ok (.getfield 92, 3) := by decide +kernel
theorem dX12_step_14 : decode cX12_step 14 = .ok (.aload_n 0, 1) := by decide +kernel
theorem dX12_step_15 : decode cX12_step 15 = .ok (.getfield 314, 3) := by decide +kernel
theorem dX12_step_18 : decode cX12_step 18 = .ok (.iload_n 2, 1) := by decide +kernel
theorem dX12_step_19 : decode cX12_step 19 = .ok (.iastore, 1) := by decide +kernel
theorem dX12_step_20 : decode cX12_step 20 = .ok (.aload_n 0, 1) := by decide +kernel
theorem dX12_step_21 : decode cX12_step 21 = .ok (.getfield 95, 3) := by decide +kernel
theorem dX12_step_24 : decode cX12_step 24 = .ok (.aload_n 0, 1) := by decide +kernel
theorem dX12_step_25 : decode cX12_step 25 = .ok (.getfield 314, 3) := by decide +kernel
theorem dX12_step_28 : decode cX12_step 28 = .ok (.iload_n 3, 1) := by decide +kernel
theorem dX12_step_29 : decode cX12_step 29 = .ok (.iastore, 1) := by decide +kernel
theorem dX12_step_30 : decode cX12_step 30 = .ok (.aload_n 0, 1) := by decide +kernel
theorem dX12_step_31 : decode cX12_step 31 = .ok (.getfield 98, 3) := by decide +kernel
theorem dX12_step_34 : decode cX12_step 34 = .ok (.aload_n 0, 1) := by decide +kernel
theorem dX12_step_35 : decode cX12_step 35 = .ok (.getfield 314, 3) := by decide +kernel
theorem dX12_step_38 : decode cX12_step 38 = .ok (.iconst 0, 1) := by decide +kernel
theorem dX12_step_39 : decode cX12_step 39 = .ok (.iastore, 1) := by decide +kernel
theorem dX12_step_40 : decode cX12_step 40 = .ok (.aload_n 0, 1) := by decide +kernel
theorem dX12_step_41 : decode cX12_step 41 = .ok (.dup, 1) := by decide +kernel
theorem dX12_step_42 : decode cX12_step 42 = .ok (.getfield 314, 3) := by decide +kernel
theorem dX12_step_45 : decode cX12_step 45 = .ok (.iconst 1, 1) := by decide +kernel
theorem dX12_step_46 : decode cX12_step 46 = .ok (.iadd, 1) := by decide +kernel
theorem dX12_step_47 : decode cX12_step 47 = .ok (.putfield 314, 3) := by decide +kernel
theorem dX12_step_50 : decode cX12_step 50 = .ok (.return_, 1) := by decide +kernel
theorem dX12_findSteps_0 : decode cX12_findSteps 0 = .ok (.aload_n 0, 1) := by decide +kernel
theorem dX12_findSteps_1 : decode cX12_findSteps 1 = .ok (.iconst 0, 1) := by decide +kernel
theorem dX12_findSteps_2 : decode cX12_findSteps 2 = .ok (.putfield 314, 3) := by decide +kernel
theorem dX12_findSteps_5 : decode cX12_findSteps 5 = .ok (.aload_n 0, 1) := by decide +kernel
theorem dX12_findSteps_6 : decode cX12_findSteps 6 = .ok (.getfield 293, 3) := by decide +kernel
theorem dX12_findSteps_9 : decode cX12_findSteps 9 = .ok (.istore_n 2, 1) := by decide +kernel
theorem dX12_findSteps_10 : decode cX12_findSteps 10 = .ok (.aload_n 0, 1) := by decide +kernel
theorem dX12_findSteps_11 : decode cX12_findSteps 11 = .ok (.getfield 293, 3) := by decide +kernel
theorem dX12_findSteps_14 : decode cX12_findSteps 14 = .ok (.iload_n 1, 1) := by decide +kernel
theorem dX12_findSteps_15 : decode cX12_findSteps 15 = .ok (.iadd, 1) := by decide +kernel
theorem dX12_findSteps_16 : decode cX12_findSteps 16 = .ok (.istore_n 3, 1) := by decide +kernel
theorem dX12_findSteps_17 : decode cX12_findSteps 17 = .ok (.iload_n 2, 1) := by decide +kernel
theorem dX12_findSteps_18 : decode cX12_findSteps 18 = .ok (.iload_n 3, 1) := by decide +kernel
theorem dX12_findSteps_19 : decode cX12_findSteps 19 = .ok (.if_icmp .ge 272, 3) := by decide +kernel
theorem dX12_findSteps_22 : decode cX12_findSteps 22 = .ok (.iconst (-1), 1) := by decide +kernel
theorem dX12_findSteps_23 : decode cX12_findSteps 23 = .ok (.istore 4, 2) := by decide +kernel
theorem dX12_findSteps_25 : decode cX12_findSteps 25 = .ok (.iconst 0, 1) := by decide +kernel
theorem dX12_findSteps_26 : decode cX12_findSteps 26 = .ok (.istore 5, 2) := by decide +kernel
theorem dX12_findSteps_28 : decode cX12_findSteps 28 = .ok (.iconst 0, 1) := by decide +kernel
theorem dX12_findSteps_29 : decode cX12_findSteps 29 = .ok (.istore 6, 2) := by decide +kernel
theorem dX12_findSteps_31 : decode cX12_findSteps 31 = .ok (.iload_n 2, 1) := by decide +kernel
theorem dX12_findSteps_32 : decode cX12_findSteps 32 = .ok (.iconst 1, 1) := by decide +kernel
theorem dX12_findSteps_33 : decode cX12_findSteps 33 = .ok (.isub, 1) := by decide +kernel
theorem dX12_findSteps_34 : decode cX12_findSteps 34 = .ok (.istore 7, 2) := by decide +kernel
theorem dX12_findSteps_36 : decode cX12_findSteps 36 = .ok (.iload 7, 2) := by decide +kernel
theorem dX12_findSteps_38 : decode cX12_findSteps 38 = .ok (.ifCond .lt 103, 3) := by decide +kernel
theorem dX12_findSteps_41 : decode cX12_findSteps 41 = .ok (.iload 6, 2) := by decide +kernel
theorem dX12_findSteps_43 : decode cX12_findSteps 43 = .ok (.bipush 16, 2) := by decide +kernel
theorem dX12_findSteps_45 : decode cX12_findSteps 45 = .ok (.if_icmp .ge 96, 3) := by decide +kernel
theorem dX12_findSteps_48 : decode cX12_findSteps 48 = .ok (.iload_n 2, 1) := by decide +kernel
theorem dX12_findSteps_49 : decode cX12_findSteps 49 = .ok (.iconst 4, 1) := by decide +kernel
theorem dX12_findSteps_50 : decode cX12_findSteps 50 = .ok (.iadd, 1) := by decide +kernel
theorem dX12_findSteps_51 : decode cX12_findSteps 51 = .ok (.iload_n 3, 1) := by decide +kernel
theorem dX12_findSteps_52 : decode cX12_findSteps 52 = .ok (.if_icmp .gt 89, 3) := by decide +kernel
theorem dX12_findSteps_55 : decode cX12_findSteps 55 = .ok (.iconst 0, 1) := by decide +kernel
theorem dX12_findSteps_56 : decode cX12_findSteps 56 = .ok (.istore 8, 2) := by decide +kernel
theorem dX12_findSteps_58 : decode cX12_findSteps 58 = .ok (.iload_n 2, 1) := by decide +kernel
theorem dX12_findSteps_59 : decode cX12_findSteps 59 = .ok (.iload 8, 2) := by decide +kernel
theorem dX12_findSteps_61 : decode cX12_findSteps 61 = .ok (.iadd, 1) := by decide +kernel
theorem dX12_findSteps_62 : decode cX12_findSteps 62 = .ok (.iload_n 3, 1) := by decide +kernel
theorem dX12_findSteps_63 : decode cX12_findSteps 63 = .ok (.if_icmp .ge 31, 3) := by decide +kernel
theorem dX12_findSteps_66 : decode cX12_findSteps 66 = .ok (.aload_n 0, 1) := by decide +kernel
theorem dX12_findSteps_67 : decode cX12_findSteps 67 = .ok (.getfield 107, 3) := by decide +kernel
theorem dX12_findSteps_70 : decode cX12_findSteps 70 = .ok (.iload 7, 2) := by decide +kernel
theorem dX12_findSteps_72 : decode cX12_findSteps 72 = .ok (.iload 8, 2) := by decide +kernel
theorem dX12_findSteps_74 : decode cX12_findSteps 74 = .ok (.iadd, 1) := by decide +kernel
theorem dX12_findSteps_75 : decode cX12_findSteps 75 = .ok (.baload, 1) := by decide +kernel
theorem dX12_findSteps_76 : decode cX12_findSteps 76 = .ok (.aload_n 0, 1) := by decide +kernel
theorem dX12_findSteps_77 : decode cX12_findSteps 77 = .ok (.getfield 107, 3) := by decide +kernel
theorem dX12_findSteps_80 : decode cX12_findSteps 80 = .ok (.iload_n 2, 1) := by decide +kernel
theorem dX12_findSteps_81 : decode cX12_findSteps 81 = .ok (.iload 8, 2) := by decide +kernel
theorem dX12_findSteps_83 : decode cX12_findSteps 83 = .ok (.iadd, 1) := by decide +kernel
theorem dX12_findSteps_84 : decode cX12_findSteps 84 = .ok (.baload, 1) := by decide +kernel
theorem dX12_findSteps_85 : decode cX12_findSteps 85 = .ok (.if_icmp .ne 9, 3) := by decide +kernel
theorem dX12_findSteps_88 : decode cX12_findSteps 88 = .ok (.iinc 8 1, 3) := by decide +kernel
theorem dX12_findSteps_91 : decode cX12_findSteps 91 = .ok (.goto (-33), 3) := by decide +kernel
theorem dX12_findSteps_94 : decode cX12_findSteps 94 = .ok (.iload 8, 2) := by decide +kernel
theorem dX12_findSteps_96 : decode cX12_findSteps 96 = .ok (.iconst 4, 1) := by decide +kernel
theorem dX12_findSteps_97 : decode cX12_findSteps 97 = .ok (.if_icmp .lt 38, 3) := by decide +kernel
theorem dX12_findSteps_100 : decode cX12_findSteps 100 = .ok (.iinc 6 1, 3) := by decide +kernel
theorem dX12_findSteps_103 : decode cX12_findSteps 103 = .ok (.iload 8, 2) := by decide +kernel
theorem dX12_findSteps_105 : decode cX12_findSteps 105 = .ok (.iload 5, 2) := by decide +kernel
theorem dX12_findSteps_107 : decode cX12_findSteps 107 = .ok (.if_icmp .le 8, 3) := by decide +kernel
theorem dX12_findSteps_110 : decode cX12_findSteps 110 = .ok (.iload 7, 2) := by decide +kernel
theorem dX12_findSteps_112 : decode cX12_findSteps 112 = .ok (.goto 5, 3) := by decide +kernel
theorem dX12_findSteps_115 : decode cX12_findSteps 115 = .ok (.iload 4, 2) := by decide +kernel
theorem dX12_findSteps_117 : decode cX12_findSteps 117 = .ok (.istore 4, 2) := by decide +kernel
theorem dX12_findSteps_119 : decode cX12_findSteps 119 = .ok (.iload 8, 2) := by decide +kernel
theorem dX12_findSteps_121 : decode cX12_findSteps 121 = .ok (.iload 5, 2) := by decide +kernel
theorem dX12_findSteps_123 : decode cX12_findSteps 123 = .ok (.if_icmp .le 8, 3) := by decide +kernel
theorem dX12_findSteps_126 : decode cX12_findSteps 126 = .ok (.iload 8, 2) := by decide +kernel
theorem dX12_findSteps_128 : decode cX12_findSteps 128 = .ok (.goto 5, 3) := by decide +kernel
theorem dX12_findSteps_131 : decode cX12_findSteps 131 = .ok (.iload 5, 2) := by decide +kernel
theorem dX12_findSteps_133 : decode cX12_findSteps 133 = .ok (.istore 5, 2) := by decide +kernel
theorem dX12_findSteps_135 : decode cX12_findSteps 135 = .ok (.iinc 7 (-1), 3) := by decide +kernel
theorem dX12_findSteps_138 : decode cX12_findSteps 138 = .ok (.goto (-102), 3) := by decide +kernel
theorem dX12_findSteps_141 : decode cX12_findSteps 141 = .ok (.iconst 1, 1) := by decide +kernel
theorem dX12_findSteps_142 : decode cX12_findSteps 142 = .ok (.istore 7, 2) := by decide +kernel
theorem dX12_findSteps_144 : decode cX12_findSteps 144 = .ok (.iload_n 2, 1) := by decide +kernel
theorem dX12_findSteps_145 : decode cX12_findSteps 145 = .ok (.iload 7, 2) := by decide +kernel
theorem dX12_findSteps_147 : decode cX12_findSteps 147 = .ok (.iadd, 1) := by decide +kernel
theorem dX12_findSteps_148 : decode cX12_findSteps 148 = .ok (.iload_n 3, 1) := by decide +kernel
theorem dX12_findSteps_149 : decode cX12_findSteps 149 = .ok (.if_icmp .ge 27, 3) := by decide +kernel
theorem dX12_findSteps_152 : decode cX12_findSteps 152 = .ok (.aload_n 0, 1) := by decide +kernel
theorem dX12_findSteps_153 : decode cX12_findSteps 153 = .ok (.getfield 107, 3) := by decide +kernel
theorem dX12_findSteps_156 : decode cX12_findSteps 156 = .ok (.iload_n 2, 1) := by decide +kernel
theorem dX12_findSteps_157 : decode cX12_findSteps 157 = .ok (.iload 7, 2) := by decide +kernel
theorem dX12_findSteps_159 : decode cX12_findSteps 159 = .ok (.iadd, 1) := by decide +kernel
theorem dX12_findSteps_160 : decode cX12_findSteps 160 = .ok (.baload, 1) := by decide +kernel
theorem dX12_findSteps_161 : decode cX12_findSteps 161 = .ok (.aload_n 0, 1) := by decide +kernel
theorem dX12_findSteps_162 : decode cX12_findSteps 162 = .ok (.getfield 107, 3) := by decide +kernel
theorem dX12_findSteps_165 : decode cX12_findSteps 165 = .ok (.iload_n 2, 1) := by decide +kernel
theorem dX12_findSteps_166 : decode cX12_findSteps 166 = .ok (.baload, 1) := by decide +kernel
theorem dX12_findSteps_167 : decode cX12_findSteps 167 = .ok (.if_icmp .ne 9, 3) := by decide +kernel
theorem dX12_findSteps_170 : decode cX12_findSteps 170 = .ok (.iinc 7 1, 3) := by decide +kernel
theorem dX12_findSteps_173 : decode cX12_findSteps 173 = .ok (.goto (-29), 3) := by decide +kernel
theorem dX12_findSteps_176 : decode cX12_findSteps 176 = .ok (.iload 7, 2) := by decide +kernel
theorem dX12_findSteps_178 : decode cX12_findSteps 178 = .ok (.iconst 4, 1) := by decide +kernel
theorem dX12_findSteps_179 : decode cX12_findSteps 179 = .ok (.if_icmp .lt 26, 3) := by decide +kernel
theorem dX12_findSteps_182 : decode cX12_findSteps 182 = .ok (.iload 5, 2) := by decide +kernel
theorem dX12_findSteps_184 : decode cX12_findSteps 184 = .ok (.iload 7, 2) := by decide +kernel
theorem dX12_findSteps_186 : decode cX12_findSteps 186 = .ok (.if_icmp .gt 19, 3) := by decide +kernel
theorem dX12_findSteps_189 : decode cX12_findSteps 189 = .ok (.aload_n 0, 1) := by decide +kernel
theorem dX12_findSteps_190 : decode cX12_findSteps 190 = .ok (.iconst 2, 1) := by decide +kernel
theorem dX12_findSteps_191 : decode cX12_findSteps 191 = .ok (.iload 7, 2) := by decide +kernel
theorem dX12_findSteps_193 : decode cX12_findSteps 193 = .ok (.iconst (-1), 1) := by decide +kernel
theorem dX12_findSteps_194 : decode cX12_findSteps 194 = .ok (.invokevirtual 317, 3) := by decide +kernel
theorem dX12_findSteps_197 : decode cX12_findSteps 197 = .ok (.iload_n 2, 1) := by decide +kernel
theorem dX12_findSteps_198 : decode cX12_findSteps 198 = .ok (.iload 7, 2) := by decide +kernel
theorem dX12_findSteps_200 : decode cX12_findSteps 200 = .ok (.iadd, 1) := by decide +kernel
theorem dX12_findSteps_201 : decode cX12_findSteps 201 = .ok (.istore_n 2, 1) := by decide +kernel
theorem dX12_findSteps_202 : decode cX12_findSteps 202 = .ok (.goto 86, 3) := by decide +kernel
theorem dX12_findSteps_205 : decode cX12_findSteps 205 = .ok (.iload 4, 2) := by decide +kernel
theorem dX12_findSteps_207 : decode cX12_findSteps 207 = .ok (.ifCond .lt 20, 3) := by decide +kernel
theorem dX12_findSteps_210 : decode cX12_findSteps 210 = .ok (.aload_n 0, 1) := by decide +kernel
theorem dX12_findSteps_211 : decode cX12_findSteps 211 = .ok (.iconst 3, 1) := by decide +kernel
theorem dX12_findSteps_212 : decode cX12_findSteps 212 = .ok (.iload 5, 2) := by decide +kernel
theorem dX12_findSteps_214 : decode cX12_findSteps 214 = .ok (.iload 4, 2) := by decide +kernel
theorem dX12_findSteps_216 : decode cX12_findSteps 216 = .ok (.invokevirtual 317, 3) := by decide +kernel
theorem dX12_findSteps_219 : decode cX12_findSteps 219 = .ok (.iload_n 2, 1) := by decide +kernel
theorem dX12_findSteps_220 : decode cX12_findSteps 220 = .ok (.iload 5, 2) := by decide +kernel
theorem dX12_findSteps_222 : decode cX12_findSteps 222 = .ok (.iadd, 1) := by decide +kernel
theorem dX12_findSteps_223 : decode cX12_findSteps 223 = .ok (.istore_n 2, 1) := by decide +kernel
theorem dX12_findSteps_224 : decode cX12_findSteps 224 = .ok (.goto 64, 3) := by decide +kernel
theorem dX12_findSteps_227 : decode cX12_findSteps 227 = .ok (.aload_n 0, 1) := by decide +kernel
theorem dX12_findSteps_228 : decode cX12_findSteps 228 = .ok (.getfield 314, 3) := by decide +kernel
theorem dX12_findSteps_231 : decode cX12_findSteps 231 = .ok (.iconst 1, 1) := by decide +kernel
theorem dX12_findSteps_232 : decode cX12_findSteps 232 = .ok (.isub, 1) := by decide +kernel
theorem dX12_findSteps_233 : decode cX12_findSteps 233 = .ok (.istore 8, 2) := by decide +kernel
theorem dX12_findSteps_235 : decode cX12_findSteps 235 = .ok (.iload 8, 2) := by decide +kernel
theorem dX12_findSteps_237 : decode cX12_findSteps 237 = .ok (.ifCond .lt 41, 3) := by decide +kernel
theorem dX12_findSteps_240 : decode cX12_findSteps 240 = .ok (.aload_n 0, 1) := by decide +kernel
theorem dX12_findSteps_241 : decode cX12_findSteps 241 = .ok (.getfield 89, 3) := by decide +kernel
theorem dX12_findSteps_244 : decode cX12_findSteps 244 = .ok (.iload 8, 2) := by decide +kernel
theorem dX12_findSteps_246 : decode cX12_findSteps 246 = .ok (.iaload, 1) := by decide +kernel
theorem dX12_findSteps_247 : decode cX12_findSteps 247 = .ok (.iconst 1, 1) := by decide +kernel
theorem dX12_findSteps_248 : decode cX12_findSteps 248 = .ok (.if_icmp .ne 30, 3) := by decide +kernel
theorem dX12_findSteps_251 : decode cX12_findSteps 251 = .ok (.aload_n 0, 1) := by decide +kernel
theorem dX12_findSteps_252 : decode cX12_findSteps 252 = .ok (.getfield 92, 3) := by decide +kernel
theorem dX12_findSteps_255 : decode cX12_findSteps 255 = .ok (.iload 8, 2) := by decide +kernel
theorem dX12_findSteps_257 : decode cX12_findSteps 257 = .ok (.iaload, 1) := by decide +kernel
theorem dX12_findSteps_258 : decode cX12_findSteps 258 = .ok (.sipush 255, 3) := by decide +kernel
theorem dX12_findSteps_261 : decode cX12_findSteps 261 = .ok (.if_icmp .ge 17, 3) := by decide +kernel
theorem dX12_findSteps_264 : decode cX12_findSteps 264 = .ok (.aload_n 0, 1) := by decide +kernel
theorem dX12_findSteps_265 : decode cX12_findSteps 265 = .ok (.getfield 92, 3) := by decide +kernel
theorem dX12_findSteps_268 : decode cX12_findSteps 268 = .ok (.iload 8, 2) := by decide +kernel
theorem dX12_findSteps_270 : decode cX12_findSteps 270 = .ok (.dup2, 1) := by decide +kernel
theorem dX12_findSteps_271 : decode cX12_findSteps 271 = .ok (.iaload, 1) := by decide +kernel
theorem dX12_findSteps_272 : decode cX12_findSteps 272 = .ok (.iconst 1, 1) := by decide +kernel
theorem dX12_findSteps_273 : decode cX12_findSteps 273 = .ok (.iadd, 1) := by decide +kernel
theorem dX12_findSteps_274 : decode cX12_findSteps 274 = .ok (.iastore, 1) := by decide +kernel
theorem dX12_findSteps_275 : decode cX12_findSteps 275 = .ok (.goto 10, 3) := by decide +kernel
theorem dX12_findSteps_278 : decode cX12_findSteps 278 = .ok (.aload_n 0, 1) := by decide +kernel
theorem dX12_findSteps_279 : decode cX12_findSteps 279 = .ok (.iconst 1, 1) := by decide +kernel
theorem dX12_findSteps_280 : decode cX12_findSteps 280 = .ok (.iconst 1, 1) := by decide +kernel
theorem dX12_findSteps_281 : decode cX12_findSteps 281 = .ok (.iconst (-1), 1) := by decide +kernel
theorem dX12_findSteps_282 : decode cX12_findSteps 282 = .ok (.invokevirtual 317, 3) := by decide +kernel
theorem dX12_findSteps_285 : decode cX12_findSteps 285 = .ok (.iinc 2 1, 3) := by decide +kernel
theorem dX12_findSteps_288 : decode cX12_findSteps 288 = .ok (.goto (-271), 3) := by decide +kernel
theorem dX12_findSteps_291 : decode cX12_findSteps 291 = .ok (.return_, 1) := by decide +kernel
theorem dX12_addAddress_0 : decode cX12_addAddress 0 = .ok (.aload_n 0, 1) := by decide +kernel
theorem dX12_addAddress_1 : decode cX12_addAddress 1 = .ok (.getfield 86, 3) := by decide +kernel
theorem dX12_addAddress_4 : decode cX12_addAddress 4 = .ok (.sipush 20000, 3) := by decide +kernel
theorem dX12_addAddress_7 : decode cX12_addAddress 7 = .ok (.aload_n 0, 1) := by decide +kernel
theorem dX12_addAddress_8 : decode cX12_addAddress 8 = .ok (.getfield 311, 3) := by decide +kernel
theorem dX12_addAddress_11 : decode cX12_addAddress 11 = .ok (.iadd, 1) := by decide +kernel
theorem dX12_addAddress_12 : decode cX12_addAddress 12 = .ok (.iload_n 1, 1) := by decide +kernel
theorem dX12_addAddress_13 : decode cX12_addAddress 13 = .ok (.i2b, 1) := by decide +kernel
theorem dX12_addAddress_14 : decode cX12_addAddress 14 = .ok (.bastore, 1) := by decide +kernel
theorem dX12_addAddress_15 : decode cX12_addAddress 15 = .ok (.aload_n 0, 1) := by decide +kernel
theorem dX12_addAddress_16 : decode cX12_addAddress 16 = .ok (.dup, 1) := by decide +kernel
theorem dX12_addAddress_17 : decode cX12_addAddress 17 = .ok (.getfield 311, 3) := by decide +kernel
theorem dX12_addAddress_20 : decode cX12_addAddress 20 = .ok (.iconst 1, 1) := by decide +kernel
theorem dX12_addAddress_21 : decode cX12_addAddress 21 = .ok (.iadd, 1) := by decide +kernel
theorem dX12_addAddress_22 : decode cX12_addAddress 22 = .ok (.putfield 311, 3) := by decide +kernel
theorem dX12_addAddress_25 : decode cX12_addAddress 25 = .ok (.return_, 1) := by decide +kernel
theorem dX12_findModes_0 : decode cX12_findModes 0 = .ok (.aload_n 0, 1) := by decide +kernel
theorem dX12_findModes_1 : decode cX12_findModes 1 = .ok (.getfield 27, 3) := by decide +kernel
theorem dX12_findModes_4 : decode cX12_findModes 4 = .ok (.iload_n 1, 1) := by decide +kernel
theorem dX12_findModes_5 : decode cX12_findModes 5 = .ok (.iaload, 1) := by decide +kernel
theorem dX12_findModes_6 : decode cX12_findModes 6 = .ok (.istore_n 2, 1) := by decide +kernel
theorem dX12_findModes_7 : decode cX12_findModes 7 = .ok (.aload_n 0, 1) := by decide +kernel
theorem dX12_findModes_8 : decode cX12_findModes 8 = .ok (.getfield 30, 3) := by decide +kernel
theorem dX12_findModes_11 : decode cX12_findModes 11 = .ok (.iload_n 1, 1) := by decide +kernel
theorem dX12_findModes_12 : decode cX12_findModes 12 = .ok (.iaload, 1) := by decide +kernel
theorem dX12_findModes_13 : decode cX12_findModes 13 = .ok (.istore_n 3, 1) := by decide +kernel
theorem dX12_findModes_14 : decode cX12_findModes 14 = .ok (.iconst 0, 1) := by decide +kernel
theorem dX12_findModes_15 : decode cX12_findModes 15 = .ok (.istore 4, 2) := by decide +kernel
theorem dX12_findModes_17 : decode cX12_findModes 17 = .ok (.iload 4, 2) := by decide +kernel
theorem dX12_findModes_19 : decode cX12_findModes 19 = .ok (.bipush 32, 2) := by decide +kernel
theorem dX12_findModes_21 : decode cX12_findModes 21 = .ok (.if_icmp .ge 17, 3) := by decide +kernel
theorem dX12_findModes_24 : decode cX12_findModes 24 = .ok (.aload_n 0, 1) := by decide +kernel
theorem dX12_findModes_25 : decode cX12_findModes 25 = .ok (.getfield 101, 3) := by decide +kernel
theorem dX12_findModes_28 : decode cX12_findModes 28 = .ok (.iload 4, 2) := by decide +kernel
theorem dX12_findModes_30 : decode cX12_findModes 30 = .ok (.iconst 0, 1) := by decide +kernel
theorem dX12_findModes_31 : decode cX12_findModes 31 = .ok (.iastore, 1) := by decide +kernel
theorem dX12_findModes_32 : decode cX12_findModes 32 = .ok (.iinc 4 1, 3) := by decide +kernel
theorem dX12_findModes_35 : decode cX12_findModes 35 = .ok (.goto (-18), 3) := by decide +kernel
theorem dX12_findModes_38 : decode cX12_findModes 38 = .ok (.iconst 0, 1) := by decide +kernel
theorem dX12_findModes_39 : decode cX12_findModes 39 = .ok (.istore 4, 2) := by decide +kernel
theorem dX12_findModes_41 : decode cX12_findModes 41 = .ok (.iload 4, 2) := by decide +kernel
theorem dX12_findModes_43 : decode cX12_findModes 43 = .ok (.sipush 4096, 3) := by decide +kernel
theorem dX12_findModes_46 : decode cX12_findModes 46 = .ok (.if_icmp .ge 17, 3) := by decide +kernel
theorem dX12_findModes_49 : decode cX12_findModes 49 = .ok (.aload_n 0, 1) := by decide +kernel
theorem dX12_findModes_50 : decode cX12_findModes 50 = .ok (.getfield 104, 3) := by decide +kernel
theorem dX12_findModes_53 : decode cX12_findModes 53 = .ok (.iload 4, 2) := by decide +kernel
theorem dX12_findModes_55 : decode cX12_findModes 55 = .ok (.iconst 0, 1) := by decide +kernel
theorem dX12_findModes_56 : decode cX12_findModes 56 = .ok (.iastore, 1) := by decide +kernel
theorem dX12_findModes_57 : decode cX12_findModes 57 = .ok (.iinc 4 1, 3) := by decide +kernel
theorem dX12_findModes_60 : decode cX12_findModes 60 = .ok (.goto (-19), 3) := by decide +kernel
theorem dX12_findModes_63 : decode cX12_findModes 63 = .ok (.iconst 0, 1) := by decide +kernel
theorem dX12_findModes_64 : decode cX12_findModes 64 = .ok (.istore 4, 2) := by decide +kernel
theorem dX12_findModes_66 : decode cX12_findModes 66 = .ok (.aload_n 0, 1) := by decide +kernel
theorem dX12_findModes_67 : decode cX12_findModes 67 = .ok (.iconst 0, 1) := by decide +kernel
theorem dX12_findModes_68 : decode cX12_findModes 68 = .ok (.putfield 311, 3) := by decide +kernel
theorem dX12_findModes_71 : decode cX12_findModes 71 = .ok (.aload_n 0, 1) := by decide +kernel
theorem dX12_findModes_72 : decode cX12_findModes 72 = .ok (.getfield 293, 3) := by decide +kernel
theorem dX12_findModes_75 : decode cX12_findModes 75 = .ok (.istore 5, 2) := by decide +kernel
theorem dX12_findModes_77 : decode cX12_findModes 77 = .ok (.iconst 0, 1) := by decide +kernel
theorem dX12_findModes_78 : decode cX12_findModes 78 = .ok (.istore 6, 2) := by decide +kernel
theorem dX12_findModes_80 : decode cX12_findModes 80 = .ok (.iload 6, 2) := by decide +kernel
theorem dX12_findModes_82 : decode cX12_findModes 82 = .ok (.aload_n 0, 1) := by decide +kernel
theorem dX12_findModes_83 : decode cX12_findModes 83 = .ok (.getfield 314, 3) := by decide +kernel
theorem dX12_findModes_86 : decode cX12_findModes 86 = .ok (.if_icmp .ge 298, 3) := by decide +kernel
theorem dX12_findModes_89 : decode cX12_findModes 89 = .ok (.aload_n 0, 1) := by decide +kernel
theorem dX12_findModes_90 : decode cX12_findModes 90 = .ok (.getfield 89, 3) := by decide +kernel
theorem dX12_findModes_93 : decode cX12_findModes 93 = .ok (.iload 6, 2) := by decide +kernel
theorem dX12_findModes_95 : decode cX12_findModes 95 = .ok (.iaload, 1) := by decide +kernel
theorem dX12_findModes_96 : decode cX12_findModes 96 = .ok (.iconst 3, 1) := by decide +kernel
theorem dX12_findModes_97 : decode cX12_findModes 97 = .ok (.if_icmp .ne 269, 3) := by decide +kernel
theorem dX12_findModes_100 : decode cX12_findModes 100 = .ok (.aload_n 0, 1) := by decide +kernel
theorem dX12_findModes_101 : decode cX12_findModes 101 = .ok (.getfield 95, 3) := by decide +kernel
theorem dX12_findModes_104 : decode cX12_findModes 104 = .ok (.iload 6, 2) := by decide +kernel
theorem dX12_findModes_106 : decode cX12_findModes 106 = .ok (.iaload, 1) := by decide +kernel
theorem dX12_findModes_107 : decode cX12_findModes 107 = .ok (.istore 7, 2) := by decide +kernel
theorem dX12_findModes_109 : decode cX12_findModes 109 = .ok (.iconst 0, 1) := by decide +kernel
theorem dX12_findModes_110 : decode cX12_findModes 110 = .ok (.istore 8, 2) := by decide +kernel
theorem dX12_findModes_112 : decode cX12_findModes 112 = .ok (.iload 7, 2) := by decide +kernel
theorem dX12_findModes_114 : decode cX12_findModes 114 = .ok (.i2l, 1) := by decide +kernel
theorem dX12_findModes_115 : decode cX12_findModes 115 = .ok (.invokestatic 267, 3) := by decide +kernel
theorem dX12_findModes_118 : decode cX12_findModes 118 = .ok (.istore 9, 2) := by decide +kernel
theorem dX12_findModes_120 : decode cX12_findModes 120 = .ok (.iload 7, 2) := by decide +kernel
theorem dX12_findModes_122 : decode cX12_findModes 122 = .ok (.istore 10, 2) := by decide +kernel
theorem dX12_findModes_124 : decode cX12_findModes 124 = .ok (.iconst 1, 1) := by decide +kernel
theorem dX12_findModes_125 : decode cX12_findModes 125 = .ok (.istore 11, 2) := by decide +kernel
theorem dX12_findModes_127 : decode cX12_findModes 127 = .ok (.iload 11, 2) := by decide +kernel
theorem dX12_findModes_129 : decode cX12_findModes 129 = .ok (.iconst 2, 1) := by decide +kernel
theorem dX12_findModes_130 : decode cX12_findModes 130 = .ok (.iload_n 2, 1) := by decide +kernel
theorem dX12_findModes_131 : decode cX12_findModes 131 = .ok (.iadd, 1) := by decide +kernel
theorem dX12_findModes_132 : decode cX12_findModes 132 = .ok (.if_icmp .ge 69, 3) := by decide +kernel
theorem dX12_findModes_135 : decode cX12_findModes 135 = .ok (.iload 11, 2) := by decide +kernel
theorem dX12_findModes_137 : decode cX12_findModes 137 = .ok (.iconst 1, 1) := by decide +kernel
theorem dX12_findModes_138 : decode cX12_findModes 138 = .ok (.if_icmp .ne 11, 3) := by decide +kernel
theorem dX12_findModes_141 : decode cX12_findModes 141 = .ok (.iload 5, 2) := by decide +kernel
theorem dX12_findModes_143 : decode cX12_findModes 143 = .ok (.iload 7, 2) := by decide +kernel
theorem dX12_findModes_145 : decode cX12_findModes 145 = .ok (.isub, 1) := by decide +kernel
theorem dX12_findModes_146 : decode cX12_findModes 146 = .ok (.goto 15, 3) := by decide +kernel
theorem dX12_findModes_149 : decode cX12_findModes 149 = .ok (.iload 7, 2) := by decide +kernel
theorem dX12_findModes_151 : decode cX12_findModes 151 = .ok (.aload_n 0, 1) := by decide +kernel
theorem dX12_findModes_152 : decode cX12_findModes 152 = .ok (.getfield 101, 3) := by decide +kernel
theorem dX12_findModes_155 : decode cX12_findModes 155 = .ok (.iload 11, 2) := by decide +kernel
theorem dX12_findModes_157 : decode cX12_findModes 157 = .ok (.iconst 2, 1) := by decide +kernel
theorem dX12_findModes_158 : decode cX12_findModes 158 = .ok (.isub, 1) := by decide +kernel
theorem dX12_findModes_159 : decode cX12_findModes 159 = .ok (.iaload, 1) := by decide +kernel
theorem dX12_findModes_160 : decode cX12_findModes 160 = .ok (.isub, 1) := by decide +kernel
theorem dX12_findModes_161 : decode cX12_findModes 161 = .ok (.istore 12, 2) := by decide +kernel
theorem dX12_findModes_163 : decode cX12_findModes 163 = .ok (.iload 12, 2) := by decide +kernel
theorem dX12_findModes_165 : decode cX12_findModes 165 = .ok (.ifCond .lt 30, 3) := by decide +kernel
theorem dX12_findModes_168 : decode cX12_findModes 168 = .ok (.iload 12, 2) := by decide +kernel
theorem dX12_findModes_170 : decode cX12_findModes 170 = .ok (.i2l, 1) := by decide +kernel
theorem dX12_findModes_171 : decode cX12_findModes 171 = .ok (.invokestatic 267, 3) := by decide +kernel
theorem dX12_findModes_174 : decode cX12_findModes 174 = .ok (.iload 9, 2) := by decide +kernel
theorem dX12_findModes_176 : decode cX12_findModes 176 = .ok (.if_icmp .ge 19, 3) := by decide +kernel
theorem dX12_findModes_179 : decode cX12_findModes 179 = .ok (.iload 12, 2) := by decide +kernel
theorem dX12_findModes_181 : decode cX12_findModes 181 = .ok (.i2l, 1) := by decide +kernel
theorem dX12_findModes_182 : decode cX12_findModes 182 = .ok (.invokestatic 267, 3) := by decide +kernel
theorem dX12_findModes_185 : decode cX12_findModes 185 = .ok (.istore 9, 2) := by decide +kernel
theorem dX12_findModes_187 : decode cX12_findModes 187 = .ok (.iload 11, 2) := by decide +kernel
theorem dX12_findModes_189 : decode cX12_findModes 189 = .ok (.istore 8, 2) := by decide +kernel
theorem dX12_findModes_191 : decode cX12_findModes 191 = .ok (.iload 12, 2) := by decide +kernel
theorem dX12_findModes_193 : decode cX12_findModes 193 = .ok (.istore 10, 2) := by decide +kernel
theorem dX12_findModes_195 : decode cX12_findModes 195 = .ok (.iinc 11 1, 3) := by decide +kernel
theorem dX12_findModes_198 : decode cX12_findModes 198 = .ok (.goto (-71), 3) := by decide +kernel
theorem dX12_findModes_201 : decode cX12_findModes 201 = .ok (.iload_n 3, 1) := by decide +kernel
theorem dX12_findModes_202 : decode cX12_findModes 202 = .ok (.ifCond .le 31, 3) := by decide +kernel
theorem dX12_findModes_205 : decode cX12_findModes 205 = .ok (.aload_n 0, 1) := by decide +kernel
theorem dX12_findModes_206 : decode cX12_findModes 206 = .ok (.getfield 104, 3) := by decide +kernel
theorem dX12_findModes_209 : decode cX12_findModes 209 = .ok (.iload 7, 2) := by decide +kernel
theorem dX12_findModes_211 : decode cX12_findModes 211 = .ok (.sipush 256, 3) := by decide +kernel
theorem dX12_findModes_214 : decode cX12_findModes 214 = .ok (.iload_n 3, 1) := by decide +kernel
theorem dX12_findModes_215 : decode cX12_findModes 215 = .ok (.imul, 1) := by decide +kernel
theorem dX12_findModes_216 : decode cX12_findModes 216 = .ok (.irem, 1) := by decide +kernel
theorem dX12_findModes_217 : decode cX12_findModes 217 = .ok (.iaload, 1) := by decide +kernel
theorem dX12_findModes_218 : decode cX12_findModes 218 = .ok (.iload 7, 2) := by decide +kernel
theorem dX12_findModes_220 : decode cX12_findModes 220 = .ok (.if_icmp .ne 13, 3) := by decide +kernel
theorem dX12_findModes_223 : decode cX12_findModes 223 = .ok (.iconst 1, 1) := by decide +kernel
theorem dX12_findModes_224 : decode cX12_findModes 224 = .ok (.iload 9, 2) := by decide +kernel
theorem dX12_findModes_226 : decode cX12_findModes 226 = .ok (.if_icmp .ge 7, 3) := by decide +kernel
theorem dX12_findModes_229 : decode cX12_findModes 229 = .ok (.iconst 1, 1) := by decide +kernel
theorem dX12_findModes_230 : decode cX12_findModes 230 = .ok (.goto 4, 3) := by decide +kernel
theorem dX12_findModes_233 : decode cX12_findModes 233 = .ok (.iconst 0, 1) := by decide +kernel
theorem dX12_findModes_234 : decode cX12_findModes 234 = .ok (.istore 11, 2) := by decide +kernel
theorem dX12_findModes_236 : decode cX12_findModes 236 = .ok (.iload 11, 2) := by decide +kernel
theorem dX12_findModes_238 : decode cX12_findModes 238 = .ok (.ifCond .eq 34, 3) := by decide +kernel
theorem dX12_findModes_241 : decode cX12_findModes 241 = .ok (.iconst 2, 1) := by decide +kernel
theorem dX12_findModes_242 : decode cX12_findModes 242 = .ok (.iload_n 2, 1) := by decide +kernel
theorem dX12_findModes_243 : decode cX12_findModes 243 = .ok (.iadd, 1) := by decide +kernel
theorem dX12_findModes_244 : decode cX12_findModes 244 = .ok (.iload 7, 2) := by decide +kernel
theorem dX12_findModes_246 : decode cX12_findModes 246 = .ok (.sipush 256, 3) := by decide +kernel
theorem dX12_findModes_249 : decode cX12_findModes 249 = .ok (.iload_n 3, 1) := by decide +kernel
theorem dX12_findModes_250 : decode cX12_findModes 250 = .ok (.imul, 1) := by decide +kernel
theorem dX12_findModes_251 : decode cX12_findModes 251 = .ok (.irem, 1) := by decide +kernel
theorem dX12_findModes_252 : decode cX12_findModes 252 = .ok (.sipush 256, 3) := by decide +kernel
theorem dX12_findModes_255 : decode cX12_findModes 255 = .ok (.idiv, 1) := by decide +kernel
theorem dX12_findModes_256 : decode cX12_findModes 256 = .ok (.iadd, 1) := by decide +kernel
theorem dX12_findModes_257 : decode cX12_findModes 257 = .ok (.istore 8, 2) := by decide +kernel
theorem dX12_findModes_259 : decode cX12_findModes 259 = .ok (.aload_n 0, 1) := by decide +kernel
theorem dX12_findModes_260 : decode cX12_findModes 260 = .ok (.iload 7, 2) := by decide +kernel
theorem dX12_findModes_262 : decode cX12_findModes 262 = .ok (.sipush 256, 3) := by decide +kernel
theorem dX12_findModes_265 : decode cX12_findModes 265 = .ok (.irem, 1) := by decide +kernel
theorem dX12_findModes_266 : decode cX12_findModes 266 = .ok (.invokevirtual 321, 3) := by decide +kernel
theorem dX12_findModes_269 : decode cX12_findModes 269 = .ok (.goto 48, 3) := by decide +kernel
theorem dX12_findModes_272 : decode cX12_findModes 272 = .ok (.iload 9, 2) := by decide +kernel
theorem dX12_findModes_274 : decode cX12_findModes 274 = .ok (.iconst 1, 1) := by decide +kernel
theorem dX12_findModes_275 : decode cX12_findModes 275 = .ok (.isub, 1) := by decide +kernel
theorem dX12_findModes_276 : decode cX12_findModes 276 = .ok (.istore 12, 2) := by decide +kernel
theorem dX12_findModes_278 : decode cX12_findModes 278 = .ok (.iload 12, 2) := by decide +kernel
theorem dX12_findModes_280 : decode cX12_findModes 280 = .ok (.ifCond .lt 37, 3) := by decide +kernel
theorem dX12_findModes_283 : decode cX12_findModes 283 = .ok (.aload_n 0, 1) := by decide +kernel
theorem dX12_findModes_284 : decode cX12_findModes 284 = .ok (.iload 10, 2) := by decide +kernel
theorem dX12_findModes_286 : decode cX12_findModes 286 = .ok (.bipush 7, 2) := by decide +kernel
theorem dX12_findModes_288 : decode cX12_findModes 288 = .ok (.iload 12, 2) := by decide +kernel
theorem dX12_findModes_290 : decode cX12_findModes 290 = .ok (.imul, 1) := by decide +kernel
theorem dX12_findModes_291 : decode cX12_findModes 291 = .ok (.ishr, 1) := by decide +kernel
theorem dX12_findModes_292 : decode cX12_findModes 292 = .ok (.bipush 127, 2) := by decide +kernel
theorem dX12_findModes_294 : decode cX12_findModes 294 = .ok (.iand, 1) := by decide +kernel
theorem dX12_findModes_295 : decode cX12_findModes 295 = .ok (.iload 12, 2) := by decide +kernel
theorem dX12_findModes_297 : decode cX12_findModes 297 = .ok (.ifCond .le 9, 3) := by decide +kernel
theorem dX12_findModes_300 : decode cX12_findModes 300 = .ok (.sipush 128, 3) := by decide +kernel
theorem dX12_findModes_303 : decode cX12_findModes 303 = .ok (.goto 4, 3) := by decide +kernel
theorem dX12_findModes_306 : decode cX12_findModes 306 = .ok (.iconst 0, 1) := by decide +kernel
theorem dX12_findModes_307 : decode cX12_findModes 307 = .ok (.ior, 1) := by decide +kernel
theorem dX12_findModes_308 : decode cX12_findModes 308 = .ok (.invokevirtual 321, 3) := by decide +kernel
theorem dX12_findModes_311 : decode cX12_findModes 311 = .ok (.iinc 12 (-1), 3) := by decide +kernel
theorem dX12_findModes_314 : decode cX12_findModes 314 = .ok (.goto (-36), 3) := by decide +kernel
theorem dX12_findModes_317 : decode cX12_findModes 317 = .ok (.aload_n 0, 1) := by decide +kernel
theorem dX12_findModes_318 : decode cX12_findModes 318 = .ok (.getfield 98, 3) := by decide +kernel
theorem dX12_findModes_321 : decode cX12_findModes 321 = .ok (.iload 6, 2) := by decide +kernel
theorem dX12_findModes_323 : decode cX12_findModes 323 = .ok (.iload 8, 2) := by decide +kernel
theorem dX12_findModes_325 : decode cX12_findModes 325 = .ok (.iastore, 1) := by decide +kernel
theorem dX12_findModes_326 : decode cX12_findModes 326 = .ok (.iload_n 2, 1) := by decide +kernel
theorem dX12_findModes_327 : decode cX12_findModes 327 = .ok (.ifCond .le 20, 3) := by decide +kernel
theorem dX12_findModes_330 : decode cX12_findModes 330 = .ok (.aload_n 0, 1) := by decide +kernel
theorem dX12_findModes_331 : decode cX12_findModes 331 = .ok (.getfield 101, 3) := by decide +kernel
theorem dX12_findModes_334 : decode cX12_findModes 334 = .ok (.iload 4, 2) := by decide +kernel
theorem dX12_findModes_336 : decode cX12_findModes 336 = .ok (.iload 7, 2) := by decide +kernel
theorem dX12_findModes_338 : decode cX12_findModes 338 = .ok (.iastore, 1) := by decide +kernel
theorem dX12_findModes_339 : decode cX12_findModes 339 = .ok (.iload 4, 2) := by decide +kernel
theorem dX12_findModes_341 : decode cX12_findModes 341 = .ok (.iconst 1, 1) := by decide +kernel
theorem dX12_findModes_342 : decode cX12_findModes 342 = .ok (.iadd, 1) := by decide +kernel
theorem dX12_findModes_343 : decode cX12_findModes 343 = .ok (.iload_n 2, 1) := by decide +kernel
theorem dX12_findModes_344 : decode cX12_findModes 344 = .ok (.irem, 1) := by decide +kernel
theorem dX12_findModes_345 : decode cX12_findModes 345 = .ok (.istore 4, 2) := by decide +kernel
theorem dX12_findModes_347 : decode cX12_findModes 347 = .ok (.iload_n 3, 1) := by decide +kernel
theorem dX12_findModes_348 : decode cX12_findModes 348 = .ok (.ifCond .le 18, 3) := by decide +kernel
theorem dX12_findModes_351 : decode cX12_findModes 351 = .ok (.aload_n 0, 1) := by decide +kernel
theorem dX12_findModes_352 : decode cX12_findModes 352 = .ok (.getfield 104, 3) := by decide +kernel
theorem dX12_findModes_355 : decode cX12_findModes 355 = .ok (.iload 7, 2) := by decide +kernel
theorem dX12_findModes_357 : decode cX12_findModes 357 = .ok (.sipush 256, 3) := by decide +kernel
theorem dX12_findModes_360 : decode cX12_findModes 360 = .ok (.iload_n 3, 1) := by decide +kernel
theorem dX12_findModes_361 : decode cX12_findModes 361 = .ok (.imul, 1) := by decide +kernel
theorem dX12_findModes_362 : decode cX12_findModes 362 = .ok (.irem, 1) := by decide +kernel
theorem dX12_findModes_363 : decode cX12_findModes 363 = .ok (.iload 7, 2) := by decide +kernel
theorem dX12_findModes_365 : decode cX12_findModes 365 = .ok (.iastore, 1) := by decide +kernel
theorem dX12_findModes_366 : decode cX12_findModes 366 = .ok (.iload 5, 2) := by decide +kernel
theorem dX12_findModes_368 : decode cX12_findModes 368 = .ok (.aload_n 0, 1) := by decide +kernel
theorem dX12_findModes_369 : decode cX12_findModes 369 = .ok (.getfield 92, 3) := by decide +kernel
theorem dX12_findModes_372 : decode cX12_findModes 372 = .ok (.iload 6, 2) := by decide +kernel
theorem dX12_findModes_374 : decode cX12_findModes 374 = .ok (.iaload, 1) := by decide +kernel
theorem dX12_findModes_375 : decode cX12_findModes 375 = .ok (.iadd, 1) := by decide +kernel
theorem dX12_findModes_376 : decode cX12_findModes 376 = .ok (.istore 5, 2) := by decide +kernel
theorem dX12_findModes_378 : decode cX12_findModes 378 = .ok (.iinc 6 1, 3) := by decide +kernel
theorem dX12_findModes_381 : decode cX12_findModes 381 = .ok (.goto (-301), 3) := by decide +kernel
theorem dX12_findModes_384 : decode cX12_findModes 384 = .ok (.return_, 1) := by decide +kernel
theorem dX12_isFirst_0 : decode cX12_isFirst 0 = .ok (.aload_n 0, 1) := by decide +kernel
theorem dX12_isFirst_1 : decode cX12_isFirst 1 = .ok (.iload_n 1, 1) := by decide +kernel
theorem dX12_isFirst_2 : decode cX12_isFirst 2 = .ok (.iload_n 2, 1) := by decide +kernel
theorem dX12_isFirst_3 : decode cX12_isFirst 3 = .ok (.iconst 0, 1) := by decide +kernel
theorem dX12_isFirst_4 : decode cX12_isFirst 4 = .ok (.invokevirtual 126, 3) := by decide +kernel
theorem dX12_isFirst_7 : decode cX12_isFirst 7 = .ok (.aload_n 0, 1) := by decide +kernel
theorem dX12_isFirst_8 : decode cX12_isFirst 8 = .ok (.getfield 89, 3) := by decide +kernel
theorem dX12_isFirst_11 : decode cX12_isFirst 11 = .ok (.iload_n 3, 1) := by decide +kernel
theorem dX12_isFirst_12 : decode cX12_isFirst 12 = .ok (.iaload, 1) := by decide +kernel
theorem dX12_isFirst_13 : decode cX12_isFirst 13 = .ok (.if_icmp .ne 35, 3) := by decide +kernel
theorem dX12_isFirst_16 : decode cX12_isFirst 16 = .ok (.aload_n 0, 1) := by decide +kernel
theorem dX12_isFirst_17 : decode cX12_isFirst 17 = .ok (.iload_n 1, 1) := by decide +kernel
theorem dX12_isFirst_18 : decode cX12_isFirst 18 = .ok (.iload_n 2, 1) := by decide +kernel
theorem dX12_isFirst_19 : decode cX12_isFirst 19 = .ok (.iconst 1, 1) := by decide +kernel
theorem dX12_isFirst_20 : decode cX12_isFirst 20 = .ok (.invokevirtual 126, 3) := by decide +kernel
theorem dX12_isFirst_23 : decode cX12_isFirst 23 = .ok (.iload 4, 2) := by decide +kernel
theorem dX12_isFirst_25 : decode cX12_isFirst 25 = .ok (.if_icmp .ne 23, 3) := by decide +kernel
theorem dX12_isFirst_28 : decode cX12_isFirst 28 = .ok (.aload_n 0, 1) := by decide +kernel
theorem dX12_isFirst_29 : decode cX12_isFirst 29 = .ok (.iload_n 1, 1) := by decide +kernel
theorem dX12_isFirst_30 : decode cX12_isFirst 30 = .ok (.iload_n 2, 1) := by decide +kernel
theorem dX12_isFirst_31 : decode cX12_isFirst 31 = .ok (.iconst 2, 1) := by decide +kernel
theorem dX12_isFirst_32 : decode cX12_isFirst 32 = .ok (.invokevirtual 126, 3) := by decide +kernel
theorem dX12_isFirst_35 : decode cX12_isFirst 35 = .ok (.aload_n 0, 1) := by decide +kernel
theorem dX12_isFirst_36 : decode cX12_isFirst 36 = .ok (.getfield 98, 3) := by decide +kernel
theorem dX12_isFirst_39 : decode cX12_isFirst 39 = .ok (.iload_n 3, 1) := by decide +kernel
theorem dX12_isFirst_40 : decode cX12_isFirst 40 = .ok (.iaload, 1) := by decide +kernel
theorem dX12_isFirst_41 : decode cX12_isFirst 41 = .ok (.if_icmp .ne 7, 3) := by decide +kernel
theorem dX12_isFirst_44 : decode cX12_isFirst 44 = .ok (.iconst 1, 1) := by decide +kernel
theorem dX12_isFirst_45 : decode cX12_isFirst 45 = .ok (.goto 4, 3) := by decide +kernel
theorem dX12_isFirst_48 : decode cX12_isFirst 48 = .ok (.iconst 0, 1) := by decide +kernel
theorem dX12_isFirst_49 : decode cX12_isFirst 49 = .ok (.ireturn, 1) := by decide +kernel
theorem dX12_addCode_0 : decode cX12_addCode 0 = .ok (.aload_n 0, 1) := by decide +kernel
theorem dX12_addCode_1 : decode cX12_addCode 1 = .ok (.getfield 86, 3) := by decide +kernel
theorem dX12_addCode_4 : decode cX12_addCode 4 = .ok (.sipush 10000, 3) := by decide +kernel
theorem dX12_addCode_7 : decode cX12_addCode 7 = .ok (.aload_n 0, 1) := by decide +kernel
theorem dX12_addCode_8 : decode cX12_addCode 8 = .ok (.getfield 308, 3) := by decide +kernel
theorem dX12_addCode_11 : decode cX12_addCode 11 = .ok (.iadd, 1) := by decide +kernel
theorem dX12_addCode_12 : decode cX12_addCode 12 = .ok (.iload_n 1, 1) := by decide +kernel
theorem dX12_addCode_13 : decode cX12_addCode 13 = .ok (.i2b, 1) := by decide +kernel
theorem dX12_addCode_14 : decode cX12_addCode 14 = .ok (.bastore, 1) := by decide +kernel
theorem dX12_addCode_15 : decode cX12_addCode 15 = .ok (.aload_n 0, 1) := by decide +kernel
theorem dX12_addCode_16 : decode cX12_addCode 16 = .ok (.dup, 1) := by decide +kernel
theorem dX12_addCode_17 : decode cX12_addCode 17 = .ok (.getfield 308, 3) := by decide +kernel
theorem dX12_addCode_20 : decode cX12_addCode 20 = .ok (.iconst 1, 1) := by decide +kernel
theorem dX12_addCode_21 : decode cX12_addCode 21 = .ok (.iadd, 1) := by decide +kernel
theorem dX12_addCode_22 : decode cX12_addCode 22 = .ok (.putfield 308, 3) := by decide +kernel
theorem dX12_addCode_25 : decode cX12_addCode 25 = .ok (.return_, 1) := by decide +kernel
theorem dX12_sayParts_0 : decode cX12_sayParts 0 = .ok (.aload_n 0, 1) := by decide +kernel
theorem dX12_sayParts_1 : decode cX12_sayParts 1 = .ok (.iconst 0, 1) := by decide +kernel
theorem dX12_sayParts_2 : decode cX12_sayParts 2 = .ok (.putfield 308, 3) := by decide +kernel
theorem dX12_sayParts_5 : decode cX12_sayParts 5 = .ok (.aload_n 0, 1) := by decide +kernel
theorem dX12_sayParts_6 : decode cX12_sayParts 6 = .ok (.iconst 0, 1) := by decide +kernel
theorem dX12_sayParts_7 : decode cX12_sayParts 7 = .ok (.putfield 305, 3) := by decide +kernel
theorem dX12_sayParts_10 : decode cX12_sayParts 10 = .ok (.aload_n 0, 1) := by decide +kernel
theorem dX12_sayParts_11 : decode cX12_sayParts 11 = .ok (.getfield 293, 3) := by decide +kernel
theorem dX12_sayParts_14 : decode cX12_sayParts 14 = .ok (.istore_n 2, 1) := by decide +kernel
theorem dX12_sayParts_15 : decode cX12_sayParts 15 = .ok (.iconst 0, 1) := by decide +kernel
theorem dX12_sayParts_16 : decode cX12_sayParts 16 = .ok (.istore_n 3, 1) := by decide +kernel
theorem dX12_sayParts_17 : decode cX12_sayParts 17 = .ok (.iload_n 3, 1) := by decide +kernel
theorem dX12_sayParts_18 : decode cX12_sayParts 18 = .ok (.aload_n 0, 1) := by decide +kernel
theorem dX12_sayParts_19 : decode cX12_sayParts 19 = .ok (.getfield 314, 3) := by decide +kernel
theorem dX12_sayParts_22 : decode cX12_sayParts 22 = .ok (.if_icmp .ge 98, 3) := by decide +kernel
theorem dX12_sayParts_25 : decode cX12_sayParts 25 = .ok (.aload_n 0, 1) := by decide +kernel
theorem dX12_sayParts_26 : decode cX12_sayParts 26 = .ok (.getfield 89, 3) := by decide +kernel
theorem dX12_sayParts_29 : decode cX12_sayParts 29 = .ok (.iload_n 3, 1) := by decide +kernel
theorem dX12_sayParts_30 : decode cX12_sayParts 30 = .ok (.iaload, 1) := by decide +kernel
theorem dX12_sayParts_31 : decode cX12_sayParts 31 = .ok (.iconst 1, 1) := by decide +kernel
theorem dX12_sayParts_32 : decode cX12_sayParts 32 = .ok (.if_icmp .ne 12, 3) := by decide +kernel
theorem dX12_sayParts_35 : decode cX12_sayParts 35 = .ok (.aload_n 0, 1) := by decide +kernel
theorem dX12_sayParts_36 : decode cX12_sayParts 36 = .ok (.getfield 92, 3) := by decide +kernel
theorem dX12_sayParts_39 : decode cX12_sayParts 39 = .ok (.iload_n 3, 1) := by decide +kernel
theorem dX12_sayParts_40 : decode cX12_sayParts 40 = .ok (.iaload, 1) := by decide +kernel
theorem dX12_sayParts_41 : decode cX12_sayParts 41 = .ok (.goto 18, 3) := by decide +kernel
theorem dX12_sayParts_44 : decode cX12_sayParts 44 = .ok (.aload_n 0, 1) := by decide +kernel
theorem dX12_sayParts_45 : decode cX12_sayParts 45 = .ok (.getfield 89, 3) := by decide +kernel
theorem dX12_sayParts_48 : decode cX12_sayParts 48 = .ok (.iload_n 3, 1) := by decide +kernel
theorem dX12_sayParts_49 : decode cX12_sayParts 49 = .ok (.iaload, 1) := by decide +kernel
theorem dX12_sayParts_50 : decode cX12_sayParts 50 = .ok (.iconst 2, 1) := by decide +kernel
theorem dX12_sayParts_51 : decode cX12_sayParts 51 = .ok (.if_icmp .ne 7, 3) := by decide +kernel
theorem dX12_sayParts_54 : decode cX12_sayParts 54 = .ok (.iconst 1, 1) := by decide +kernel
theorem dX12_sayParts_55 : decode cX12_sayParts 55 = .ok (.goto 4, 3) := by decide +kernel
theorem dX12_sayParts_58 : decode cX12_sayParts 58 = .ok (.iconst 0, 1) := by decide +kernel
theorem dX12_sayParts_59 : decode cX12_sayParts 59 = .ok (.istore 4, 2) := by decide +kernel
theorem dX12_sayParts_61 : decode cX12_sayParts 61 = .ok (.iconst 0, 1) := by decide +kernel
theorem dX12_sayParts_62 : decode cX12_sayParts 62 = .ok (.istore 5, 2) := by decide +kernel
theorem dX12_sayParts_64 : decode cX12_sayParts 64 = .ok (.iload 5, 2) := by decide +kernel
theorem dX12_sayParts_66 : decode cX12_sayParts 66 = .ok (.iload 4, 2) := by decide +kernel
theorem dX12_sayParts_68 : decode cX12_sayParts 68 = .ok (.if_icmp .ge 37, 3) := by decide +kernel
theorem dX12_sayParts_71 : decode cX12_sayParts 71 = .ok (.aload_n 0, 1) := by decide +kernel
theorem dX12_sayParts_72 : decode cX12_sayParts 72 = .ok (.getfield 86, 3) := by decide +kernel
theorem dX12_sayParts_75 : decode cX12_sayParts 75 = .ok (.aload_n 0, 1) := by decide +kernel
theorem dX12_sayParts_76 : decode cX12_sayParts 76 = .ok (.getfield 305, 3) := by decide +kernel
theorem dX12_sayParts_79 : decode cX12_sayParts 79 = .ok (.aload_n 0, 1) := by decide +kernel
theorem dX12_sayParts_80 : decode cX12_sayParts 80 = .ok (.getfield 107, 3) := by decide +kernel
theorem dX12_sayParts_83 : decode cX12_sayParts 83 = .ok (.iload_n 2, 1) := by decide +kernel
theorem dX12_sayParts_84 : decode cX12_sayParts 84 = .ok (.iload 5, 2) := by decide +kernel
theorem dX12_sayParts_86 : decode cX12_sayParts 86 = .ok (.iadd, 1) := by decide +kernel
theorem dX12_sayParts_87 : decode cX12_sayParts 87 = .ok (.baload, 1) := by decide +kernel
theorem dX12_sayParts_88 : decode cX12_sayParts 88 = .ok (.bastore, 1) := by decide +kernel
theorem dX12_sayParts_89 : decode cX12_sayParts 89 = .ok (.aload_n 0, 1) := by decide +kernel
theorem dX12_sayParts_90 : decode cX12_sayParts 90 = .ok (.dup, 1) := by decide +kernel
theorem dX12_sayParts_91 : decode cX12_sayParts 91 = .ok (.getfield 305, 3) := by decide +kernel
theorem dX12_sayParts_94 : decode cX12_sayParts 94 = .ok (.iconst 1, 1) := by decide +kernel
theorem dX12_sayParts_95 : decode cX12_sayParts 95 = .ok (.iadd, 1) := by decide +kernel
theorem dX12_sayParts_96 : decode cX12_sayParts 96 = .ok (.putfield 305, 3) := by decide +kernel
theorem dX12_sayParts_99 : decode cX12_sayParts 99 = .ok (.iinc 5 1, 3) := by decide +kernel
theorem dX12_sayParts_102 : decode cX12_sayParts 102 = .ok (.goto (-38), 3) := by decide +kernel
theorem dX12_sayParts_105 : decode cX12_sayParts 105 = .ok (.iload_n 2, 1) := by decide +kernel
theorem dX12_sayParts_106 : decode cX12_sayParts 106 = .ok (.aload_n 0, 1) := by decide +kernel
theorem dX12_sayParts_107 : decode cX12_sayParts 107 = .ok (.getfield 92, 3) := by decide +kernel
theorem dX12_sayParts_110 : decode cX12_sayParts 110 = .ok (.iload_n 3, 1) := by decide +kernel
theorem dX12_sayParts_111 : decode cX12_sayParts 111 = .ok (.iaload, 1) := by decide +kernel
theorem dX12_sayParts_112 : decode cX12_sayParts 112 = .ok (.iadd, 1) := by decide +kernel
theorem dX12_sayParts_113 : decode cX12_sayParts 113 = .ok (.istore_n 2, 1) := by decide +kernel
theorem dX12_sayParts_114 : decode cX12_sayParts 114 = .ok (.iinc 3 1, 3) := by decide +kernel
theorem dX12_sayParts_117 : decode cX12_sayParts 117 = .ok (.goto (-100), 3) := by decide +kernel
theorem dX12_sayParts_120 : decode cX12_sayParts 120 = .ok (.iconst 0, 1) := by decide +kernel
theorem dX12_sayParts_121 : decode cX12_sayParts 121 = .ok (.istore_n 3, 1) := by decide +kernel
theorem dX12_sayParts_122 : decode cX12_sayParts 122 = .ok (.iload_n 3, 1) := by decide +kernel
theorem dX12_sayParts_123 : decode cX12_sayParts 123 = .ok (.aload_n 0, 1) := by decide +kernel
theorem dX12_sayParts_124 : decode cX12_sayParts 124 = .ok (.getfield 314, 3) := by decide +kernel
theorem dX12_sayParts_127 : decode cX12_sayParts 127 = .ok (.if_icmp .ge 324, 3) := by decide +kernel
theorem dX12_sayParts_130 : decode cX12_sayParts 130 = .ok (.iconst (-1), 1) := by decide +kernel
theorem dX12_sayParts_131 : decode cX12_sayParts 131 = .ok (.istore 4, 2) := by decide +kernel
theorem dX12_sayParts_133 : decode cX12_sayParts 133 = .ok (.iconst (-1), 1) := by decide +kernel
theorem dX12_sayParts_134 : decode cX12_sayParts 134 = .ok (.istore 5, 2) := by decide +kernel
theorem dX12_sayParts_136 : decode cX12_sayParts 136 = .ok (.iconst (-1), 1) := by decide +kernel
theorem dX12_sayParts_137 : decode cX12_sayParts 137 = .ok (.istore 6, 2) := by decide +kernel
theorem dX12_sayParts_139 : decode cX12_sayParts 139 = .ok (.sipush 255, 3) := by decide +kernel
theorem dX12_sayParts_142 : decode cX12_sayParts 142 = .ok (.istore 7, 2) := by decide +kernel
theorem dX12_sayParts_144 : decode cX12_sayParts 144 = .ok (.iload 7, 2) := by decide +kernel
theorem dX12_sayParts_146 : decode cX12_sayParts 146 = .ok (.ifCond .lt 181, 3) := by decide +kernel
theorem dX12_sayParts_149 : decode cX12_sayParts 149 = .ok (.aload_n 0, 1) := by decide +kernel
theorem dX12_sayParts_150 : decode cX12_sayParts 150 = .ok (.iload_n 1, 1) := by decide +kernel
theorem dX12_sayParts_151 : decode cX12_sayParts 151 = .ok (.iload 7, 2) := by decide +kernel
theorem dX12_sayParts_153 : decode cX12_sayParts 153 = .ok (.iload_n 3, 1) := by decide +kernel
theorem dX12_sayParts_154 : decode cX12_sayParts 154 = .ok (.aload_n 0, 1) := by decide +kernel
theorem dX12_sayParts_155 : decode cX12_sayParts 155 = .ok (.getfield 92, 3) := by decide +kernel
theorem dX12_sayParts_158 : decode cX12_sayParts 158 = .ok (.iload_n 3, 1) := by decide +kernel
theorem dX12_sayParts_159 : decode cX12_sayParts 159 = .ok (.iaload, 1) := by decide +kernel
theorem dX12_sayParts_160 : decode cX12_sayParts 160 = .ok (.invokevirtual 324, 3) := by decide +kernel
theorem dX12_sayParts_163 : decode cX12_sayParts 163 = .ok (.istore 8, 2) := by decide +kernel
theorem dX12_sayParts_165 : decode cX12_sayParts 165 = .ok (.aload_n 0, 1) := by decide +kernel
theorem dX12_sayParts_166 : decode cX12_sayParts 166 = .ok (.iload_n 1, 1) := by decide +kernel
theorem dX12_sayParts_167 : decode cX12_sayParts 167 = .ok (.iload 7, 2) := by decide +kernel
theorem dX12_sayParts_169 : decode cX12_sayParts 169 = .ok (.iconst 3, 1) := by decide +kernel
theorem dX12_sayParts_170 : decode cX12_sayParts 170 = .ok (.invokevirtual 126, 3) := by decide +kernel
theorem dX12_sayParts_173 : decode cX12_sayParts 173 = .ok (.ifCond .ne 7, 3) := by decide +kernel
theorem dX12_sayParts_176 : decode cX12_sayParts 176 = .ok (.iconst 1, 1) := by decide +kernel
theorem dX12_sayParts_177 : decode cX12_sayParts 177 = .ok (.goto 4, 3) := by decide +kernel
theorem dX12_sayParts_180 : decode cX12_sayParts 180 = .ok (.iconst 0, 1) := by decide +kernel
theorem dX12_sayParts_181 : decode cX12_sayParts 181 = .ok (.istore 9, 2) := by decide +kernel
theorem dX12_sayParts_183 : decode cX12_sayParts 183 = .ok (.iload 8, 2) := by decide +kernel
theorem dX12_sayParts_185 : decode cX12_sayParts 185 = .ok (.ifCond .eq 13, 3) := by decide +kernel
theorem dX12_sayParts_188 : decode cX12_sayParts 188 = .ok (.iload 9, 2) := by decide +kernel
theorem dX12_sayParts_190 : decode cX12_sayParts 190 = .ok (.ifCond .eq 8, 3) := by decide +kernel
theorem dX12_sayParts_193 : decode cX12_sayParts 193 = .ok (.iload 7, 2) := by decide +kernel
theorem dX12_sayParts_195 : decode cX12_sayParts 195 = .ok (.goto 5, 3) := by decide +kernel
theorem dX12_sayParts_198 : decode cX12_sayParts 198 = .ok (.iload 5, 2) := by decide +kernel
theorem dX12_sayParts_200 : decode cX12_sayParts 200 = .ok (.istore 5, 2) := by decide +kernel
theorem dX12_sayParts_202 : decode cX12_sayParts 202 = .ok (.iload 9, 2) := by decide +kernel
theorem dX12_sayParts_204 : decode cX12_sayParts 204 = .ok (.ifCond .eq 20, 3) := by decide +kernel
theorem dX12_sayParts_207 : decode cX12_sayParts 207 = .ok (.aload_n 0, 1) := by decide +kernel
theorem dX12_sayParts_208 : decode cX12_sayParts 208 = .ok (.iload_n 1, 1) := by decide +kernel
theorem dX12_sayParts_209 : decode cX12_sayParts 209 = .ok (.iload 7, 2) := by decide +kernel
theorem dX12_sayParts_211 : decode cX12_sayParts 211 = .ok (.iload_n 3, 1) := by decide +kernel
theorem dX12_sayParts_212 : decode cX12_sayParts 212 = .ok (.iconst 0, 1) := by decide +kernel
theorem dX12_sayParts_213 : decode cX12_sayParts 213 = .ok (.invokevirtual 324, 3) := by decide +kernel
theorem dX12_sayParts_216 : decode cX12_sayParts 216 = .ok (.ifCond .eq 8, 3) := by decide +kernel
theorem dX12_sayParts_219 : decode cX12_sayParts 219 = .ok (.iload 7, 2) := by decide +kernel
theorem dX12_sayParts_221 : decode cX12_sayParts 221 = .ok (.goto 5, 3) := by decide +kernel
theorem dX12_sayParts_224 : decode cX12_sayParts 224 = .ok (.iload 6, 2) := by decide +kernel
theorem dX12_sayParts_226 : decode cX12_sayParts 226 = .ok (.istore 6, 2) := by decide +kernel
theorem dX12_sayParts_228 : decode cX12_sayParts 228 = .ok (.iload 8, 2) := by decide +kernel
theorem dX12_sayParts_230 : decode cX12_sayParts 230 = .ok (.ifCond .eq 74, 3) := by decide +kernel
theorem dX12_sayParts_233 : decode cX12_sayParts 233 = .ok (.iload_n 3, 1) := by decide +kernel
theorem dX12_sayParts_234 : decode cX12_sayParts 234 = .ok (.iconst 1, 1) := by decide +kernel
theorem dX12_sayParts_235 : decode cX12_sayParts 235 = .ok (.iadd, 1) := by decide +kernel
theorem dX12_sayParts_236 : decode cX12_sayParts 236 = .ok (.aload_n 0, 1) := by decide +kernel
theorem dX12_sayParts_237 : decode cX12_sayParts 237 = .ok (.getfield 314, 3) := by decide +kernel
theorem dX12_sayParts_240 : decode cX12_sayParts 240 = .ok (.if_icmp .ge 64, 3) := by decide +kernel
theorem dX12_sayParts_243 : decode cX12_sayParts 243 = .ok (.aload_n 0, 1) := by decide +kernel
theorem dX12_sayParts_244 : decode cX12_sayParts 244 = .ok (.iload_n 1, 1) := by decide +kernel
theorem dX12_sayParts_245 : decode cX12_sayParts 245 = .ok (.iload 7, 2) := by decide +kernel
theorem dX12_sayParts_247 : decode cX12_sayParts 247 = .ok (.iconst 3, 1) := by decide +kernel
theorem dX12_sayParts_248 : decode cX12_sayParts 248 = .ok (.invokevirtual 126, 3) := by decide +kernel
theorem dX12_sayParts_251 : decode cX12_sayParts 251 = .ok (.aload_n 0, 1) := by decide +kernel
theorem dX12_sayParts_252 : decode cX12_sayParts 252 = .ok (.getfield 89, 3) := by decide +kernel
theorem dX12_sayParts_255 : decode cX12_sayParts 255 = .ok (.iload_n 3, 1) := by decide +kernel
theorem dX12_sayParts_256 : decode cX12_sayParts 256 = .ok (.iconst 1, 1) := by decide +kernel
theorem dX12_sayParts_257 : decode cX12_sayParts 257 = .ok (.iadd, 1) := by decide +kernel
theorem dX12_sayParts_258 : decode cX12_sayParts 258 = .ok (.iaload, 1) := by decide +kernel
theorem dX12_sayParts_259 : decode cX12_sayParts 259 = .ok (.if_icmp .ne 45, 3) := by decide +kernel
theorem dX12_sayParts_262 : decode cX12_sayParts 262 = .ok (.aload_n 0, 1) := by decide +kernel
theorem dX12_sayParts_263 : decode cX12_sayParts 263 = .ok (.iload_n 1, 1) := by decide +kernel
theorem dX12_sayParts_264 : decode cX12_sayParts 264 = .ok (.iload 7, 2) := by decide +kernel
theorem dX12_sayParts_266 : decode cX12_sayParts 266 = .ok (.iconst 4, 1) := by decide +kernel
theorem dX12_sayParts_267 : decode cX12_sayParts 267 = .ok (.invokevirtual 126, 3) := by decide +kernel
theorem dX12_sayParts_270 : decode cX12_sayParts 270 = .ok (.aload_n 0, 1) := by decide +kernel
theorem dX12_sayParts_271 : decode cX12_sayParts 271 = .ok (.getfield 92, 3) := by decide +kernel
theorem dX12_sayParts_274 : decode cX12_sayParts 274 = .ok (.iload_n 3, 1) := by decide +kernel
theorem dX12_sayParts_275 : decode cX12_sayParts 275 = .ok (.iconst 1, 1) := by decide +kernel
theorem dX12_sayParts_276 : decode cX12_sayParts 276 = .ok (.iadd, 1) := by decide +kernel
theorem dX12_sayParts_277 : decode cX12_sayParts 277 = .ok (.iaload, 1) := by decide +kernel
theorem dX12_sayParts_278 : decode cX12_sayParts 278 = .ok (.if_icmp .ne 26, 3) := by decide +kernel
theorem dX12_sayParts_281 : decode cX12_sayParts 281 = .ok (.aload_n 0, 1) := by decide +kernel
theorem dX12_sayParts_282 : decode cX12_sayParts 282 = .ok (.iload_n 1, 1) := by decide +kernel
theorem dX12_sayParts_283 : decode cX12_sayParts 283 = .ok (.iload 7, 2) := by decide +kernel
theorem dX12_sayParts_285 : decode cX12_sayParts 285 = .ok (.iconst 5, 1) := by decide +kernel
theorem dX12_sayParts_286 : decode cX12_sayParts 286 = .ok (.invokevirtual 126, 3) := by decide +kernel
theorem dX12_sayParts_289 : decode cX12_sayParts 289 = .ok (.aload_n 0, 1) := by decide +kernel
theorem dX12_sayParts_290 : decode cX12_sayParts 290 = .ok (.getfield 98, 3) := by decide +kernel
theorem dX12_sayParts_293 : decode cX12_sayParts 293 = .ok (.iload_n 3, 1) := by decide +kernel
theorem dX12_sayParts_294 : decode cX12_sayParts 294 = .ok (.iconst 1, 1) := by decide +kernel
theorem dX12_sayParts_295 : decode cX12_sayParts 295 = .ok (.iadd, 1) := by decide +kernel
theorem dX12_sayParts_296 : decode cX12_sayParts 296 = .ok (.iaload, 1) := by decide +kernel
theorem dX12_sayParts_297 : decode cX12_sayParts 297 = .ok (.if_icmp .ne 7, 3) := by decide +kernel
theorem dX12_sayParts_300 : decode cX12_sayParts 300 = .ok (.iconst 1, 1) := by decide +kernel
theorem dX12_sayParts_301 : decode cX12_sayParts 301 = .ok (.goto 4, 3) := by decide +kernel
theorem dX12_sayParts_304 : decode cX12_sayParts 304 = .ok (.iconst 0, 1) := by decide +kernel
theorem dX12_sayParts_305 : decode cX12_sayParts 305 = .ok (.istore 10, 2) := by decide +kernel
theorem dX12_sayParts_307 : decode cX12_sayParts 307 = .ok (.iload 10, 2) := by decide +kernel
theorem dX12_sayParts_309 : decode cX12_sayParts 309 = .ok (.ifCond .eq 8, 3) := by decide +kernel
theorem dX12_sayParts_312 : decode cX12_sayParts 312 = .ok (.iload 7, 2) := by decide +kernel
theorem dX12_sayParts_314 : decode cX12_sayParts 314 = .ok (.goto 5, 3) := by decide +kernel
theorem dX12_sayParts_317 : decode cX12_sayParts 317 = .ok (.iload 4, 2) := by decide +kernel
theorem dX12_sayParts_319 : decode cX12_sayParts 319 = .ok (.istore 4, 2) := by decide +kernel
theorem dX12_sayParts_321 : decode cX12_sayParts 321 = .ok (.iinc 7 (-1), 3) := by decide +kernel
theorem dX12_sayParts_324 : decode cX12_sayParts 324 = .ok (.goto (-180), 3) := by decide +kernel
theorem dX12_sayParts_327 : decode cX12_sayParts 327 = .ok (.iload 4, 2) := by decide +kernel
theorem dX12_sayParts_329 : decode cX12_sayParts 329 = .ok (.ifCond .lt 8, 3) := by decide +kernel
theorem dX12_sayParts_332 : decode cX12_sayParts 332 = .ok (.iload 4, 2) := by decide +kernel
theorem dX12_sayParts_334 : decode cX12_sayParts 334 = .ok (.goto 15, 3) := by decide +kernel
theorem dX12_sayParts_337 : decode cX12_sayParts 337 = .ok (.iload 5, 2) := by decide +kernel
theorem dX12_sayParts_339 : decode cX12_sayParts 339 = .ok (.ifCond .lt 8, 3) := by decide +kernel
theorem dX12_sayParts_342 : decode cX12_sayParts 342 = .ok (.iload 5, 2) := by decide +kernel
theorem dX12_sayParts_344 : decode cX12_sayParts 344 = .ok (.goto 5, 3) := by decide +kernel
theorem dX12_sayParts_347 : decode cX12_sayParts 347 = .ok (.iload 6, 2) := by decide +kernel
theorem dX12_sayParts_349 : decode cX12_sayParts 349 = .ok (.istore 7, 2) := by decide +kernel
theorem dX12_sayParts_351 : decode cX12_sayParts 351 = .ok (.iload 7, 2) := by decide +kernel
theorem dX12_sayParts_353 : decode cX12_sayParts 353 = .ok (.ifCond .ge 9, 3) := by decide +kernel
theorem dX12_sayParts_356 : decode cX12_sayParts 356 = .ok (.aload_n 0, 1) := by decide +kernel
theorem dX12_sayParts_357 : decode cX12_sayParts 357 = .ok (.iconst 1, 1) := by decide +kernel
theorem dX12_sayParts_358 : decode cX12_sayParts 358 = .ok (.putfield 277, 3) := by decide +kernel
theorem dX12_sayParts_361 : decode cX12_sayParts 361 = .ok (.return_, 1) := by decide +kernel
theorem dX12_sayParts_362 : decode cX12_sayParts 362 = .ok (.aload_n 0, 1) := by decide +kernel
theorem dX12_sayParts_363 : decode cX12_sayParts 363 = .ok (.iload 7, 2) := by decide +kernel
theorem dX12_sayParts_365 : decode cX12_sayParts 365 = .ok (.invokevirtual 328, 3) := by decide +kernel
theorem dX12_sayParts_368 : decode cX12_sayParts 368 = .ok (.iload 4, 2) := by decide +kernel
theorem dX12_sayParts_370 : decode cX12_sayParts 370 = .ok (.ifCond .ge 65, 3) := by decide +kernel
theorem dX12_sayParts_373 : decode cX12_sayParts 373 = .ok (.iload 5, 2) := by decide +kernel
theorem dX12_sayParts_375 : decode cX12_sayParts 375 = .ok (.ifCond .ge 60, 3) := by decide +kernel
theorem dX12_sayParts_378 : decode cX12_sayParts 378 = .ok (.aload_n 0, 1) := by decide +kernel
theorem dX12_sayParts_379 : decode cX12_sayParts 379 = .ok (.getfield 92, 3) := by decide +kernel
theorem dX12_sayParts_382 : decode cX12_sayParts 382 = .ok (.iload_n 3, 1) := by decide +kernel
theorem dX12_sayParts_383 : decode cX12_sayParts 383 = .ok (.iaload, 1) := by decide +kernel
theorem dX12_sayParts_384 : decode cX12_sayParts 384 = .ok (.i2l, 1) := by decide +kernel
theorem dX12_sayParts_385 : decode cX12_sayParts 385 = .ok (.invokestatic 267, 3) := by decide +kernel
theorem dX12_sayParts_388 : decode cX12_sayParts 388 = .ok (.iconst 1, 1) := by decide +kernel
theorem dX12_sayParts_389 : decode cX12_sayParts 389 = .ok (.isub, 1) := by decide +kernel
theorem dX12_sayParts_390 : decode cX12_sayParts 390 = .ok (.istore 8, 2) := by decide +kernel
theorem dX12_sayParts_392 : decode cX12_sayParts 392 = .ok (.iload 8, 2) := by decide +kernel
theorem dX12_sayParts_394 : decode cX12_sayParts 394 = .ok (.ifCond .lt 41, 3) := by decide +kernel
theorem dX12_sayParts_397 : decode cX12_sayParts 397 = .ok (.aload_n 0, 1) := by decide +kernel
theorem dX12_sayParts_398 : decode cX12_sayParts 398 = .ok (.aload_n 0, 1) := by decide +kernel
theorem dX12_sayParts_399 : decode cX12_sayParts 399 = .ok (.getfield 92, 3) := by decide +kernel
theorem dX12_sayParts_402 : decode cX12_sayParts 402 = .ok (.iload_n 3, 1) := by decide +kernel
theorem dX12_sayParts_403 : decode cX12_sayParts 403 = .ok (.iaload, 1) := by decide +kernel
theorem dX12_sayParts_404 : decode cX12_sayParts 404 = .ok (.bipush 7, 2) := by decide +kernel
theorem dX12_sayParts_406 : decode cX12_sayParts 406 = .ok (.iload 8, 2) := by decide +kernel
theorem dX12_sayParts_408 : decode cX12_sayParts 408 = .ok (.imul, 1) := by decide +kernel
theorem dX12_sayParts_409 : decode cX12_sayParts 409 = .ok (.ishr, 1) := by decide +kernel
theorem dX12_sayParts_410 : decode cX12_sayParts 410 = .ok (.bipush 127, 2) := by decide +kernel
theorem dX12_sayParts_412 : decode cX12_sayParts 412 = .ok (.iand, 1) := by decide +kernel
theorem dX12_sayParts_413 : decode cX12_sayParts 413 = .ok (.iload 8, 2) := by decide +kernel
theorem dX12_sayParts_415 : decode cX12_sayParts 415 = .ok (.ifCond .le 9, 3) := by decide +kernel
theorem dX12_sayParts_418 : decode cX12_sayParts 418 = .ok (.sipush 128, 3) := by decide +kernel
theorem dX12_sayParts_421 : decode cX12_sayParts 421 = .ok (.goto 4, 3) := by decide +kernel
theorem dX12_sayParts_424 : decode cX12_sayParts 424 = .ok (.iconst 0, 1) := by decide +kernel
theorem dX12_sayParts_425 : decode cX12_sayParts 425 = .ok (.ior, 1) := by decide +kernel
theorem dX12_sayParts_426 : decode cX12_sayParts 426 = .ok (.invokevirtual 328, 3) := by decide +kernel
theorem dX12_sayParts_429 : decode cX12_sayParts 429 = .ok (.iinc 8 (-1), 3) := by decide +kernel
theorem dX12_sayParts_432 : decode cX12_sayParts 432 = .ok (.goto (-40), 3) := by decide +kernel
theorem dX12_sayParts_435 : decode cX12_sayParts 435 = .ok (.iload_n 3, 1) := by decide +kernel
theorem dX12_sayParts_436 : decode cX12_sayParts 436 = .ok (.iload 4, 2) := by decide +kernel
theorem dX12_sayParts_438 : decode cX12_sayParts 438 = .ok (.ifCond .lt 7, 3) := by decide +kernel
theorem dX12_sayParts_441 : decode cX12_sayParts 441 = .ok (.iconst 2, 1) := by decide +kernel
theorem dX12_sayParts_442 : decode cX12_sayParts 442 = .ok (.goto 4, 3) := by decide +kernel
theorem dX12_sayParts_445 : decode cX12_sayParts 445 = .ok (.iconst 1, 1) := by decide +kernel
theorem dX12_sayParts_446 : decode cX12_sayParts 446 = .ok (.iadd, 1) := by decide +kernel
theorem dX12_sayParts_447 : decode cX12_sayParts 447 = .ok (.istore_n 3, 1) := by decide +kernel
theorem dX12_sayParts_448 : decode cX12_sayParts 448 = .ok (.goto (-326), 3) := by decide +kernel
theorem dX12_sayParts_451 : decode cX12_sayParts 451 = .ok (.return_, 1) := by decide +kernel
theorem dX12_windows_0 : decode cX12_windows 0 = .ok (.iconst 0, 1) := by decide +kernel
theorem dX12_windows_1 : decode cX12_windows 1 = .ok (.istore 7, 2) := by decide +kernel
theorem dX12_windows_3 : decode cX12_windows 3 = .ok (.iload 7, 2) := by decide +kernel
theorem dX12_windows_5 : decode cX12_windows 5 = .ok (.iload_n 2, 1) := by decide +kernel
theorem dX12_windows_6 : decode cX12_windows 6 = .ok (.if_icmp .ge 524, 3) := by decide +kernel
theorem dX12_windows_9 : decode cX12_windows 9 = .ok (.aload_n 0, 1) := by decide +kernel
theorem dX12_windows_10 : decode cX12_windows 10 = .ok (.getfield 277, 3) := by decide +kernel
theorem dX12_windows_13 : decode cX12_windows 13 = .ok (.ifCond .ne 517, 3) := by decide +kernel
theorem dX12_windows_16 : decode cX12_windows 16 = .ok (.iload_n 2, 1) := by decide +kernel
theorem dX12_windows_17 : decode cX12_windows 17 = .ok (.iload 7, 2) := by decide +kernel
theorem dX12_windows_19 : decode cX12_windows 19 = .ok (.isub, 1) := by decide +kernel
theorem dX12_windows_20 : decode cX12_windows 20 = .ok (.sipush 2048, 3) := by decide +kernel
theorem dX12_windows_23 : decode cX12_windows 23 = .ok (.if_icmp .ge 10, 3) := by decide +kernel
theorem dX12_windows_26 : decode cX12_windows 26 = .ok (.iload_n 2, 1) := by decide +kernel
theorem dX12_windows_27 : decode cX12_windows 27 = .ok (.iload 7, 2) := by decide +kernel
theorem dX12_windows_29 : decode cX12_windows 29 = .ok (.isub, 1) := by decide +kernel
theorem dX12_windows_30 : decode cX12_windows 30 = .ok (.goto 6, 3) := by decide +kernel
theorem dX12_windows_33 : decode cX12_windows 33 = .ok (.sipush 2048, 3) := by decide +kernel
theorem dX12_windows_36 : decode cX12_windows 36 = .ok (.istore 8, 2) := by decide +kernel
theorem dX12_windows_38 : decode cX12_windows 38 = .ok (.iload 4, 2) := by decide +kernel
theorem dX12_windows_40 : decode cX12_windows 40 = .ok (.ifCond .le 7, 3) := by decide +kernel
theorem dX12_windows_43 : decode cX12_windows 43 = .ok (.iconst 1, 1) := by decide +kernel
theorem dX12_windows_44 : decode cX12_windows 44 = .ok (.goto 20, 3) := by decide +kernel
theorem dX12_windows_47 : decode cX12_windows 47 = .ok (.iload 6, 2) := by decide +kernel
theorem dX12_windows_49 : decode cX12_windows 49 = .ok (.iconst 4, 1) := by decide +kernel
theorem dX12_windows_50 : decode cX12_windows 50 = .ok (.iand, 1) := by decide +kernel
theorem dX12_windows_51 : decode cX12_windows 51 = .ok (.ifCond .le 12, 3) := by decide +kernel
theorem dX12_windows_54 : decode cX12_windows 54 = .ok (.iload 7, 2) := by decide +kernel
theorem dX12_windows_56 : decode cX12_windows 56 = .ok (.ifCond .le 7, 3) := by decide +kernel
theorem dX12_windows_59 : decode cX12_windows 59 = .ok (.iconst 2, 1) := by decide +kernel
theorem dX12_windows_60 : decode cX12_windows 60 = .ok (.goto 4, 3) := by decide +kernel
theorem dX12_windows_63 : decode cX12_windows 63 = .ok (.iconst 0, 1) := by decide +kernel
theorem dX12_windows_64 : decode cX12_windows 64 = .ok (.istore 9, 2) := by decide +kernel
theorem dX12_windows_66 : decode cX12_windows 66 = .ok (.aload_n 0, 1) := by decide +kernel
theorem dX12_windows_67 : decode cX12_windows 67 = .ok (.iload 9, 2) := by decide +kernel
theorem dX12_windows_69 : decode cX12_windows 69 = .ok (.iconst 1, 1) := by decide +kernel
theorem dX12_windows_70 : decode cX12_windows 70 = .ok (.if_icmp .ne 8, 3) := by decide +kernel
theorem dX12_windows_73 : decode cX12_windows 73 = .ok (.iload 4, 2) := by decide +kernel
theorem dX12_windows_75 : decode cX12_windows 75 = .ok (.goto 16, 3) := by decide +kernel
theorem dX12_windows_78 : decode cX12_windows 78 = .ok (.iload 9, 2) := by decide +kernel
theorem dX12_windows_80 : decode cX12_windows 80 = .ok (.iconst 2, 1) := by decide +kernel
theorem dX12_windows_81 : decode cX12_windows 81 = .ok (.if_icmp .ne 9, 3) := by decide +kernel
theorem dX12_windows_84 : decode cX12_windows 84 = .ok (.sipush 2048, 3) := by decide +kernel
theorem dX12_windows_87 : decode cX12_windows 87 = .ok (.goto 4, 3) := by decide +kernel
theorem dX12_windows_90 : decode cX12_windows 90 = .ok (.iconst 0, 1) := by decide +kernel
theorem dX12_windows_91 : decode cX12_windows 91 = .ok (.putfield 293, 3) := by decide +kernel
theorem dX12_windows_94 : decode cX12_windows 94 = .ok (.iconst 0, 1) := by decide +kernel
theorem dX12_windows_95 : decode cX12_windows 95 = .ok (.istore 10, 2) := by decide +kernel
theorem dX12_windows_97 : decode cX12_windows 97 = .ok (.iload 10, 2) := by decide +kernel
theorem dX12_windows_99 : decode cX12_windows 99 = .ok (.aload_n 0, 1) := by decide +kernel
theorem dX12_windows_100 : decode cX12_windows 100 = .ok (.getfield 293, 3) := by decide +kernel
theorem dX12_windows_103 : decode cX12_windows 103 = .ok (.if_icmp .ge 40, 3) := by decide +kernel
theorem dX12_windows_106 : decode cX12_windows 106 = .ok (.aload_n 0, 1) := by decide +kernel
theorem dX12_windows_107 : decode cX12_windows 107 = .ok (.getfield 107, 3) := by decide +kernel
theorem dX12_windows_110 : decode cX12_windows 110 = .ok (.iload 10, 2) := by decide +kernel
theorem dX12_windows_112 : decode cX12_windows 112 = .ok (.iload 9, 2) := by decide +kernel
theorem dX12_windows_114 : decode cX12_windows 114 = .ok (.iconst 1, 1) := by decide +kernel
theorem dX12_windows_115 : decode cX12_windows 115 = .ok (.if_icmp .ne 10, 3) := by decide +kernel
theorem dX12_windows_118 : decode cX12_windows 118 = .ok (.aload_n 3, 1) := by decide +kernel
theorem dX12_windows_119 : decode cX12_windows 119 = .ok (.iload 10, 2) := by decide +kernel
theorem dX12_windows_121 : decode cX12_windows 121 = .ok (.baload, 1) := by decide +kernel
theorem dX12_windows_122 : decode cX12_windows 122 = .ok (.goto 14, 3) := by decide +kernel
theorem dX12_windows_125 : decode cX12_windows 125 = .ok (.aload_n 1, 1) := by decide +kernel
theorem dX12_windows_126 : decode cX12_windows 126 = .ok (.iload 7, 2) := by decide +kernel
theorem dX12_windows_128 : decode cX12_windows 128 = .ok (.sipush 2048, 3) := by decide +kernel
theorem dX12_windows_131 : decode cX12_windows 131 = .ok (.isub, 1) := by decide +kernel
theorem dX12_windows_132 : decode cX12_windows 132 = .ok (.iload 10, 2) := by decide +kernel
theorem dX12_windows_134 : decode cX12_windows 134 = .ok (.iadd, 1) := by decide +kernel
theorem dX12_windows_135 : decode cX12_windows 135 = .ok (.baload, 1) := by decide +kernel
theorem dX12_windows_136 : decode cX12_windows 136 = .ok (.bastore, 1) := by decide +kernel
theorem dX12_windows_137 : decode cX12_windows 137 = .ok (.iinc 10 1, 3) := by decide +kernel
theorem dX12_windows_140 : decode cX12_windows 140 = .ok (.goto (-43), 3) := by decide +kernel
theorem dX12_windows_143 : decode cX12_windows 143 = .ok (.iconst 0, 1) := by decide +kernel
theorem dX12_windows_144 : decode cX12_windows 144 = .ok (.istore 10, 2) := by decide +kernel
theorem dX12_windows_146 : decode cX12_windows 146 = .ok (.iload 10, 2) := by decide +kernel
theorem dX12_windows_148 : decode cX12_windows 148 = .ok (.iload 8, 2) := by decide +kernel
theorem dX12_windows_150 : decode cX12_windows 150 = .ok (.if_icmp .ge 28, 3) := by decide +kernel
theorem dX12_windows_153 : decode cX12_windows 153 = .ok (.aload_n 0, 1) := by decide +kernel
theorem dX12_windows_154 : decode cX12_windows 154 = .ok (.getfield 107, 3) := by decide +kernel
theorem dX12_windows_157 : decode cX12_windows 157 = .ok (.aload_n 0, 1) := by decide +kernel
theorem dX12_windows_158 : decode cX12_windows 158 = .ok (.getfield 293, 3) := by decide +kernel
theorem dX12_windows_161 : decode cX12_windows 161 = .ok (.iload 10, 2) := by decide +kernel
theorem dX12_windows_163 : decode cX12_windows 163 = .ok (.iadd, 1) := by decide +kernel
theorem dX12_windows_164 : decode cX12_windows 164 = .ok (.aload_n 1, 1) := by decide +kernel
theorem dX12_windows_165 : decode cX12_windows 165 = .ok (.iload 7, 2) := by decide +kernel
theorem dX12_windows_167 : decode cX12_windows 167 = .ok (.iload 10, 2) := by decide +kernel
theorem dX12_windows_169 : decode cX12_windows 169 = .ok (.iadd, 1) := by decide +kernel
theorem dX12_windows_170 : decode cX12_windows 170 = .ok (.baload, 1) := by decide +kernel
theorem dX12_windows_171 : decode cX12_windows 171 = .ok (.bastore, 1) := by decide +kernel
theorem dX12_windows_172 : decode cX12_windows 172 = .ok (.iinc 10 1, 3) := by decide +kernel
theorem dX12_windows_175 : decode cX12_windows 175 = .ok (.goto (-29), 3) := by decide +kernel
theorem dX12_windows_178 : decode cX12_windows 178 = .ok (.aload_n 0, 1) := by decide +kernel
theorem dX12_windows_179 : decode cX12_windows 179 = .ok (.iload 8, 2) := by decide +kernel
theorem dX12_windows_181 : decode cX12_windows 181 = .ok (.invokevirtual 296, 3) := by decide +kernel
theorem dX12_windows_184 : decode cX12_windows 184 = .ok (.aload_n 0, 1) := by decide +kernel
theorem dX12_windows_185 : decode cX12_windows 185 = .ok (.iload 5, 2) := by decide +kernel
theorem dX12_windows_187 : decode cX12_windows 187 = .ok (.invokevirtual 299, 3) := by decide +kernel
theorem dX12_windows_190 : decode cX12_windows 190 = .ok (.aload_n 0, 1) := by decide +kernel
theorem dX12_windows_191 : decode cX12_windows 191 = .ok (.iload 5, 2) := by decide +kernel
theorem dX12_windows_193 : decode cX12_windows 193 = .ok (.invokevirtual 302, 3) := by decide +kernel
theorem dX12_windows_196 : decode cX12_windows 196 = .ok (.aload_n 0, 1) := by decide +kernel
theorem dX12_windows_197 : decode cX12_windows 197 = .ok (.getfield 277, 3) := by decide +kernel
theorem dX12_windows_200 : decode cX12_windows 200 = .ok (.ifCond .eq 4, 3) := by decide +kernel
theorem dX12_windows_203 : decode cX12_windows 203 = .ok (.return_, 1) := by decide +kernel
theorem dX12_windows_204 : decode cX12_windows 204 = .ok (.iload 6, 2) := by decide +kernel
theorem dX12_windows_206 : decode cX12_windows 206 = .ok (.iconst 1, 1) := by decide +kernel
theorem dX12_windows_207 : decode cX12_windows 207 = .ok (.iand, 1) := by decide +kernel
theorem dX12_windows_208 : decode cX12_windows 208 = .ok (.ifCond .le 7, 3) := by decide +kernel
theorem dX12_windows_211 : decode cX12_windows 211 = .ok (.iconst 1, 1) := by decide +kernel
theorem dX12_windows_212 : decode cX12_windows 212 = .ok (.goto 4, 3) := by decide +kernel
theorem dX12_windows_215 : decode cX12_windows 215 = .ok (.iconst 0, 1) := by decide +kernel
theorem dX12_windows_216 : decode cX12_windows 216 = .ok (.istore 10, 2) := by decide +kernel
theorem dX12_windows_218 : decode cX12_windows 218 = .ok (.aload_n 0, 1) := by decide +kernel
theorem dX12_windows_219 : decode cX12_windows 219 = .ok (.iload 9, 2) := by decide +kernel
theorem dX12_windows_221 : decode cX12_windows 221 = .ok (.iload 10, 2) := by decide +kernel
theorem dX12_windows_223 : decode cX12_windows 223 = .ok (.ifCond .eq 7, 3) := by decide +kernel
theorem dX12_windows_226 : decode cX12_windows 226 = .ok (.iconst 4, 1) := by decide +kernel
theorem dX12_windows_227 : decode cX12_windows 227 = .ok (.goto 4, 3) := by decide +kernel
theorem dX12_windows_230 : decode cX12_windows 230 = .ok (.iconst 0, 1) := by decide +kernel
theorem dX12_windows_231 : decode cX12_windows 231 = .ok (.iadd, 1) := by decide +kernel
theorem dX12_windows_232 : decode cX12_windows 232 = .ok (.invokevirtual 273, 3) := by decide +kernel
theorem dX12_windows_235 : decode cX12_windows 235 = .ok (.iload 9, 2) := by decide +kernel
theorem dX12_windows_237 : decode cX12_windows 237 = .ok (.ifCond .le 33, 3) := by decide +kernel
theorem dX12_windows_240 : decode cX12_windows 240 = .ok (.aload_n 0, 1) := by decide +kernel
theorem dX12_windows_241 : decode cX12_windows 241 = .ok (.aload_n 0, 1) := by decide +kernel
theorem dX12_windows_242 : decode cX12_windows 242 = .ok (.getfield 293, 3) := by decide +kernel
theorem dX12_windows_245 : decode cX12_windows 245 = .ok (.i2l, 1) := by decide +kernel
theorem dX12_windows_246 : decode cX12_windows 246 = .ok (.invokevirtual 290, 3) := by decide +kernel
theorem dX12_windows_249 : decode cX12_windows 249 = .ok (.aload_n 0, 1) := by decide +kernel
theorem dX12_windows_250 : decode cX12_windows 250 = .ok (.iload 9, 2) := by decide +kernel
theorem dX12_windows_252 : decode cX12_windows 252 = .ok (.iconst 1, 1) := by decide +kernel
theorem dX12_windows_253 : decode cX12_windows 253 = .ok (.if_icmp .ne 7, 3) := by decide +kernel
theorem dX12_windows_256 : decode cX12_windows 256 = .ok (.lconst 0, 1) := by decide +kernel
theorem dX12_windows_257 : decode cX12_windows 257 = .ok (.goto 10, 3) := by decide +kernel
theorem dX12_windows_260 : decode cX12_windows 260 = .ok (.iload 7, 2) := by decide +kernel
theorem dX12_windows_262 : decode cX12_windows 262 = .ok (.sipush 2048, 3) := by decide +kernel
theorem dX12_windows_265 : decode cX12_windows 265 = .ok (.isub, 1) := by decide +kernel
theorem dX12_windows_266 : decode cX12_windows 266 = .ok (.i2l, 1) := by decide +kernel
theorem dX12_windows_267 : decode cX12_windows 267 = .ok (.invokevirtual 290, 3) := by decide +kernel
theorem dX12_windows_270 : decode cX12_windows 270 = .ok (.aload_n 0, 1) := by decide +kernel
theorem dX12_windows_271 : decode cX12_windows 271 = .ok (.getfield 305, 3) := by decide +kernel
theorem dX12_windows_274 : decode cX12_windows 274 = .ok (.aload_n 0, 1) := by decide +kernel
theorem dX12_windows_275 : decode cX12_windows 275 = .ok (.getfield 308, 3) := by decide +kernel
theorem dX12_windows_278 : decode cX12_windows 278 = .ok (.iadd, 1) := by decide +kernel
theorem dX12_windows_279 : decode cX12_windows 279 = .ok (.aload_n 0, 1) := by decide +kernel
theorem dX12_windows_280 : decode cX12_windows 280 = .ok (.getfield 311, 3) := by decide +kernel
theorem dX12_windows_283 : decode cX12_windows 283 = .ok (.iadd, 1) := by decide +kernel
theorem dX12_windows_284 : decode cX12_windows 284 = .ok (.istore 11, 2) := by decide +kernel
theorem dX12_windows_286 : decode cX12_windows 286 = .ok (.aload_n 0, 1) := by decide +kernel
theorem dX12_windows_287 : decode cX12_windows 287 = .ok (.iload 8, 2) := by decide +kernel
theorem dX12_windows_289 : decode cX12_windows 289 = .ok (.i2l, 1) := by decide +kernel
theorem dX12_windows_290 : decode cX12_windows 290 = .ok (.invokestatic 267, 3) := by decide +kernel
theorem dX12_windows_293 : decode cX12_windows 293 = .ok (.iconst 1, 1) := by decide +kernel
theorem dX12_windows_294 : decode cX12_windows 294 = .ok (.iadd, 1) := by decide +kernel
theorem dX12_windows_295 : decode cX12_windows 295 = .ok (.aload_n 0, 1) := by decide +kernel
theorem dX12_windows_296 : decode cX12_windows 296 = .ok (.getfield 305, 3) := by decide +kernel
theorem dX12_windows_299 : decode cX12_windows 299 = .ok (.i2l, 1) := by decide +kernel
theorem dX12_windows_300 : decode cX12_windows 300 = .ok (.invokestatic 267, 3) := by decide +kernel
theorem dX12_windows_303 : decode cX12_windows 303 = .ok (.iadd, 1) := by decide +kernel
theorem dX12_windows_304 : decode cX12_windows 304 = .ok (.aload_n 0, 1) := by decide +kernel
theorem dX12_windows_305 : decode cX12_windows 305 = .ok (.getfield 308, 3) := by decide +kernel
theorem dX12_windows_308 : decode cX12_windows 308 = .ok (.i2l, 1) := by decide +kernel
theorem dX12_windows_309 : decode cX12_windows 309 = .ok (.invokestatic 267, 3) := by decide +kernel
theorem dX12_windows_312 : decode cX12_windows 312 = .ok (.iadd, 1) := by decide +kernel
theorem dX12_windows_313 : decode cX12_windows 313 = .ok (.aload_n 0, 1) := by decide +kernel
theorem dX12_windows_314 : decode cX12_windows 314 = .ok (.getfield 311, 3) := by decide +kernel
theorem dX12_windows_317 : decode cX12_windows 317 = .ok (.i2l, 1) := by decide +kernel
theorem dX12_windows_318 : decode cX12_windows 318 = .ok (.invokestatic 267, 3) := by decide +kernel
theorem dX12_windows_321 : decode cX12_windows 321 = .ok (.iadd, 1) := by decide +kernel
theorem dX12_windows_322 : decode cX12_windows 322 = .ok (.iload 10, 2) := by decide +kernel
theorem dX12_windows_324 : decode cX12_windows 324 = .ok (.ifCond .eq 7, 3) := by decide +kernel
theorem dX12_windows_327 : decode cX12_windows 327 = .ok (.iconst 4, 1) := by decide +kernel
theorem dX12_windows_328 : decode cX12_windows 328 = .ok (.goto 4, 3) := by decide +kernel
theorem dX12_windows_331 : decode cX12_windows 331 = .ok (.iconst 0, 1) := by decide +kernel
theorem dX12_windows_332 : decode cX12_windows 332 = .ok (.iadd, 1) := by decide +kernel
theorem dX12_windows_333 : decode cX12_windows 333 = .ok (.iload 11, 2) := by decide +kernel
theorem dX12_windows_335 : decode cX12_windows 335 = .ok (.iadd, 1) := by decide +kernel
theorem dX12_windows_336 : decode cX12_windows 336 = .ok (.i2l, 1) := by decide +kernel
theorem dX12_windows_337 : decode cX12_windows 337 = .ok (.invokevirtual 290, 3) := by decide +kernel
theorem dX12_windows_340 : decode cX12_windows 340 = .ok (.aload_n 0, 1) := by decide +kernel
theorem dX12_windows_341 : decode cX12_windows 341 = .ok (.iload 8, 2) := by decide +kernel
theorem dX12_windows_343 : decode cX12_windows 343 = .ok (.i2l, 1) := by decide +kernel
theorem dX12_windows_344 : decode cX12_windows 344 = .ok (.invokevirtual 290, 3) := by decide +kernel
theorem dX12_windows_347 : decode cX12_windows 347 = .ok (.aload_n 0, 1) := by decide +kernel
theorem dX12_windows_348 : decode cX12_windows 348 = .ok (.iconst 0, 1) := by decide +kernel
theorem dX12_windows_349 : decode cX12_windows 349 = .ok (.invokevirtual 273, 3) := by decide +kernel
theorem dX12_windows_352 : decode cX12_windows 352 = .ok (.aload_n 0, 1) := by decide +kernel
theorem dX12_windows_353 : decode cX12_windows 353 = .ok (.aload_n 0, 1) := by decide +kernel
theorem dX12_windows_354 : decode cX12_windows 354 = .ok (.getfield 305, 3) := by decide +kernel
theorem dX12_windows_357 : decode cX12_windows 357 = .ok (.i2l, 1) := by decide +kernel
theorem dX12_windows_358 : decode cX12_windows 358 = .ok (.invokevirtual 290, 3) := by decide +kernel
theorem dX12_windows_361 : decode cX12_windows 361 = .ok (.aload_n 0, 1) := by decide +kernel
theorem dX12_windows_362 : decode cX12_windows 362 = .ok (.aload_n 0, 1) := by decide +kernel
theorem dX12_windows_363 : decode cX12_windows 363 = .ok (.getfield 308, 3) := by decide +kernel
theorem dX12_windows_366 : decode cX12_windows 366 = .ok (.i2l, 1) := by decide +kernel
theorem dX12_windows_367 : decode cX12_windows 367 = .ok (.invokevirtual 290, 3) := by decide +kernel
theorem dX12_windows_370 : decode cX12_windows 370 = .ok (.aload_n 0, 1) := by decide +kernel
theorem dX12_windows_371 : decode cX12_windows 371 = .ok (.aload_n 0, 1) := by decide +kernel
theorem dX12_windows_372 : decode cX12_windows 372 = .ok (.getfield 311, 3) := by decide +kernel
theorem dX12_windows_375 : decode cX12_windows 375 = .ok (.i2l, 1) := by decide +kernel
theorem dX12_windows_376 : decode cX12_windows 376 = .ok (.invokevirtual 290, 3) := by decide +kernel
theorem dX12_windows_379 : decode cX12_windows 379 = .ok (.aload_n 0, 1) := by decide +kernel
theorem dX12_windows_380 : decode cX12_windows 380 = .ok (.getfield 107, 3) := by decide +kernel
theorem dX12_windows_383 : decode cX12_windows 383 = .ok (.aload_n 0, 1) := by decide +kernel
theorem dX12_windows_384 : decode cX12_windows 384 = .ok (.getfield 293, 3) := by decide +kernel
theorem dX12_windows_387 : decode cX12_windows 387 = .ok (.iload 8, 2) := by decide +kernel
theorem dX12_windows_389 : decode cX12_windows 389 = .ok (.invokestatic 228, 3) := by decide +kernel
theorem dX12_windows_392 : decode cX12_windows 392 = .ok (.lstore 12, 2) := by decide +kernel
theorem dX12_windows_394 : decode cX12_windows 394 = .ok (.iconst 3, 1) := by decide +kernel
theorem dX12_windows_395 : decode cX12_windows 395 = .ok (.istore 14, 2) := by decide +kernel
theorem dX12_windows_397 : decode cX12_windows 397 = .ok (.iload 14, 2) := by decide +kernel
theorem dX12_windows_399 : decode cX12_windows 399 = .ok (.ifCond .lt 27, 3) := by decide +kernel
theorem dX12_windows_402 : decode cX12_windows 402 = .ok (.iload 10, 2) := by decide +kernel
theorem dX12_windows_404 : decode cX12_windows 404 = .ok (.ifCond .eq 22, 3) := by decide +kernel
theorem dX12_windows_407 : decode cX12_windows 407 = .ok (.aload_n 0, 1) := by decide +kernel
theorem dX12_windows_408 : decode cX12_windows 408 = .ok (.lload 12, 2) := by decide +kernel
theorem dX12_windows_410 : decode cX12_windows 410 = .ok (.bipush 8, 2) := by decide +kernel
theorem dX12_windows_412 : decode cX12_windows 412 = .ok (.iload 14, 2) := by decide +kernel
theorem dX12_windows_414 : decode cX12_windows 414 = .ok (.imul, 1) := by decide +kernel
theorem dX12_windows_415 : decode cX12_windows 415 = .ok (.lshr, 1) := by decide +kernel
theorem dX12_windows_416 : decode cX12_windows 416 = .ok (.l2i, 1) := by decide +kernel
theorem dX12_windows_417 : decode cX12_windows 417 = .ok (.invokevirtual 273, 3) := by decide +kernel
theorem dX12_windows_420 : decode cX12_windows 420 = .ok (.iinc 14 (-1), 3) := by decide +kernel
theorem dX12_windows_423 : decode cX12_windows 423 = .ok (.goto (-26), 3) := by decide +kernel
theorem dX12_windows_426 : decode cX12_windows 426 = .ok (.iconst 0, 1) := by decide +kernel
theorem dX12_windows_427 : decode cX12_windows 427 = .ok (.istore 14, 2) := by decide +kernel
theorem dX12_windows_429 : decode cX12_windows 429 = .ok (.iload 14, 2) := by decide +kernel
theorem dX12_windows_431 : decode cX12_windows 431 = .ok (.aload_n 0, 1) := by decide +kernel
theorem dX12_windows_432 : decode cX12_windows 432 = .ok (.getfield 305, 3) := by decide +kernel
theorem dX12_windows_435 : decode cX12_windows 435 = .ok (.if_icmp .ge 20, 3) := by decide +kernel
theorem dX12_windows_438 : decode cX12_windows 438 = .ok (.aload_n 0, 1) := by decide +kernel
theorem dX12_windows_439 : decode cX12_windows 439 = .ok (.aload_n 0, 1) := by decide +kernel
theorem dX12_windows_440 : decode cX12_windows 440 = .ok (.getfield 86, 3) := by decide +kernel
theorem dX12_windows_443 : decode cX12_windows 443 = .ok (.iload 14, 2) := by decide +kernel
theorem dX12_windows_445 : decode cX12_windows 445 = .ok (.baload, 1) := by decide +kernel
theorem dX12_windows_446 : decode cX12_windows 446 = .ok (.invokevirtual 273, 3) := by decide +kernel
theorem dX12_windows_449 : decode cX12_windows 449 = .ok (.iinc 14 1, 3) := by decide +kernel
theorem dX12_windows_452 : decode cX12_windows 452 = .ok (.goto (-23), 3) := by decide +kernel
theorem dX12_windows_455 : decode cX12_windows 455 = .ok (.iconst 0, 1) := by decide +kernel
theorem dX12_windows_456 : decode cX12_windows 456 = .ok (.istore 14, 2) := by decide +kernel
theorem dX12_windows_458 : decode cX12_windows 458 = .ok (.iload 14, 2) := by decide +kernel
theorem dX12_windows_460 : decode cX12_windows 460 = .ok (.aload_n 0, 1) := by decide +kernel
theorem dX12_windows_461 : decode cX12_windows 461 = .ok (.getfield 308, 3) := by decide +kernel
theorem dX12_windows_464 : decode cX12_windows 464 = .ok (.if_icmp .ge 24, 3) := by decide +kernel
theorem dX12_windows_467 : decode cX12_windows 467 = .ok (.aload_n 0, 1) := by decide +kernel
theorem dX12_windows_468 : decode cX12_windows 468 = .ok (.aload_n 0, 1) := by decide +kernel
theorem dX12_windows_469 : decode cX12_windows 469 = .ok (.getfield 86, 3) := by decide +kernel
theorem dX12_windows_472 : decode cX12_windows 472 = .ok (.sipush 10000, 3) := by decide +kernel
theorem dX12_windows_475 : decode cX12_windows 475 = .ok (.iload 14, 2) := by decide +kernel
theorem dX12_windows_477 : decode cX12_windows 477 = .ok (.iadd, 1) := by decide +kernel
theorem dX12_windows_478 : decode cX12_windows 478 = .ok (.baload, 1) := by decide +kernel
theorem dX12_windows_479 : decode cX12_windows 479 = .ok (.invokevirtual 273, 3) := by decide +kernel
theorem dX12_windows_482 : decode cX12_windows 482 = .ok (.iinc 14 1, 3) := by decide +kernel
theorem dX12_windows_485 : decode cX12_windows 485 = .ok (.goto (-27), 3) := by decide +kernel
theorem dX12_windows_488 : decode cX12_windows 488 = .ok (.iconst 0, 1) := by decide +kernel
theorem dX12_windows_489 : decode cX12_windows 489 = .ok (.istore 14, 2) := by decide +kernel
theorem dX12_windows_491 : decode cX12_windows 491 = .ok (.iload 14, 2) := by decide +kernel
theorem dX12_windows_493 : decode cX12_windows 493 = .ok (.aload_n 0, 1) := by decide +kernel
theorem dX12_windows_494 : decode cX12_windows 494 = .ok (.getfield 311, 3) := by decide +kernel
theorem dX12_windows_497 : decode cX12_windows 497 = .ok (.if_icmp .ge 24, 3) := by decide +kernel
theorem dX12_windows_500 : decode cX12_windows 500 = .ok (.aload_n 0, 1) := by decide +kernel
theorem dX12_windows_501 : decode cX12_windows 501 = .ok (.aload_n 0, 1) := by decide +kernel
theorem dX12_windows_502 : decode cX12_windows 502 = .ok (.getfield 86, 3) := by decide +kernel
theorem dX12_windows_505 : decode cX12_windows 505 = .ok (.sipush 20000, 3) := by decide +kernel
theorem dX12_windows_508 : decode cX12_windows 508 = .ok (.iload 14, 2) := by decide +kernel
theorem dX12_windows_510 : decode cX12_windows 510 = .ok (.iadd, 1) := by decide +kernel
theorem dX12_windows_511 : decode cX12_windows 511 = .ok (.baload, 1) := by decide +kernel
theorem dX12_windows_512 : decode cX12_windows 512 = .ok (.invokevirtual 273, 3) := by decide +kernel
theorem dX12_windows_515 : decode cX12_windows 515 = .ok (.iinc 14 1, 3) := by decide +kernel
theorem dX12_windows_518 : decode cX12_windows 518 = .ok (.goto (-27), 3) := by decide +kernel
theorem dX12_windows_521 : decode cX12_windows 521 = .ok (.iinc 7 2048, 6) := by decide +kernel
theorem dX12_windows_527 : decode cX12_windows 527 = .ok (.goto (-524), 3) := by decide +kernel
theorem dX12_windows_530 : decode cX12_windows 530 = .ok (.return_, 1) := by decide +kernel
theorem dX12_make_0 : decode cX12_make 0 = .ok (.iload_n 1, 1) := by decide +kernel
theorem dX12_make_1 : decode cX12_make 1 = .ok (.ifCond .lt 9, 3) := by decide +kernel
theorem dX12_make_4 : decode cX12_make 4 = .ok (.iload_n 1, 1) := by decide +kernel
theorem dX12_make_5 : decode cX12_make 5 = .ok (.bipush 7, 2) := by decide +kernel
theorem dX12_make_7 : decode cX12_make 7 = .ok (.if_icmp .le 6, 3) := by decide +kernel
theorem dX12_make_10 : decode cX12_make 10 = .ok (.bipush (-2), 2) := by decide +kernel
theorem dX12_make_12 : decode cX12_make 12 = .ok (.ireturn, 1) := by decide +kernel
theorem dX12_make_13 : decode cX12_make 13 = .ok (.iload_n 1, 1) := by decide +kernel
theorem dX12_make_14 : decode cX12_make 14 = .ok (.iconst 2, 1) := by decide +kernel
theorem dX12_make_15 : decode cX12_make 15 = .ok (.iand, 1) := by decide +kernel
theorem dX12_make_16 : decode cX12_make 16 = .ok (.ifCond .le 7, 3) := by decide +kernel
theorem dX12_make_19 : decode cX12_make 19 = .ok (.iconst 1, 1) := by decide +kernel
theorem dX12_make_20 : decode cX12_make 20 = .ok (.goto 4, 3) := by decide +kernel
theorem dX12_make_23 : decode cX12_make 23 = .ok (.iconst 0, 1) := by decide +kernel
theorem dX12_make_24 : decode cX12_make 24 = .ok (.istore_n 2, 1) := by decide +kernel
theorem dX12_make_25 : decode cX12_make 25 = .ok (.iload_n 2, 1) := by decide +kernel
theorem dX12_make_26 : decode cX12_make 26 = .ok (.ifCond .eq 14, 3) := by decide +kernel
theorem dX12_make_29 : decode cX12_make 29 = .ok (.aload_n 0, 1) := by decide +kernel
theorem dX12_make_30 : decode cX12_make 30 = .ok (.iconst 2, 1) := by decide +kernel
theorem dX12_make_31 : decode cX12_make 31 = .ok (.invokevirtual 212, 3) := by decide +kernel
theorem dX12_make_34 : decode cX12_make 34 = .ok (.ifCond .ne 6, 3) := by decide +kernel
theorem dX12_make_37 : decode cX12_make 37 = .ok (.bipush (-3), 2) := by decide +kernel
theorem dX12_make_39 : decode cX12_make 39 = .ok (.ireturn, 1) := by decide +kernel
theorem dX12_make_40 : decode cX12_make 40 = .ok (.aload_n 0, 1) := by decide +kernel
theorem dX12_make_41 : decode cX12_make 41 = .ok (.getfield 130, 3) := by decide +kernel
theorem dX12_make_44 : decode cX12_make 44 = .ok (.sipush 6000, 3) := by decide +kernel
theorem dX12_make_47 : decode cX12_make 47 = .ok (.if_icmp .le 6, 3) := by decide +kernel
theorem dX12_make_50 : decode cX12_make 50 = .ok (.bipush (-4), 2) := by decide +kernel
theorem dX12_make_52 : decode cX12_make 52 = .ok (.ireturn, 1) := by decide +kernel
theorem dX12_make_53 : decode cX12_make 53 = .ok (.aload_n 0, 1) := by decide +kernel
theorem dX12_make_54 : decode cX12_make 54 = .ok (.iconst 0, 1) := by decide +kernel
theorem dX12_make_55 : decode cX12_make 55 = .ok (.putfield 277, 3) := by decide +kernel
theorem dX12_make_58 : decode cX12_make 58 = .ok (.aload_n 0, 1) := by decide +kernel
theorem dX12_make_59 : decode cX12_make 59 = .ok (.iconst 0, 1) := by decide +kernel
theorem dX12_make_60 : decode cX12_make 60 = .ok (.putfield 280, 3) := by decide +kernel
theorem dX12_make_63 : decode cX12_make 63 = .ok (.iload_n 2, 1) := by decide +kernel
theorem dX12_make_64 : decode cX12_make 64 = .ok (.ifCond .eq 78, 3) := by decide +kernel
theorem dX12_make_67 : decode cX12_make 67 = .ok (.aload_n 0, 1) := by decide +kernel
theorem dX12_make_68 : decode cX12_make 68 = .ok (.iconst 2, 1) := by decide +kernel
theorem dX12_make_69 : decode cX12_make 69 = .ok (.aload_n 0, 1) := by decide +kernel
theorem dX12_make_70 : decode cX12_make 70 = .ok (.getfield 83, 3) := by decide +kernel
theorem dX12_make_73 : decode cX12_make 73 = .ok (.invokevirtual 118, 3) := by decide +kernel
theorem dX12_make_76 : decode cX12_make 76 = .ok (.aload_n 0, 1) := by decide +kernel
theorem dX12_make_77 : decode cX12_make 77 = .ok (.iconst 0, 1) := by decide +kernel
theorem dX12_make_78 : decode cX12_make 78 = .ok (.putfield 264, 3) := by decide +kernel
theorem dX12_make_81 : decode cX12_make 81 = .ok (.aload_n 0, 1) := by decide +kernel
theorem dX12_make_82 : decode cX12_make 82 = .ok (.iconst 0, 1) := by decide +kernel
theorem dX12_make_83 : decode cX12_make 83 = .ok (.invokevirtual 283, 3) := by decide +kernel
theorem dX12_make_86 : decode cX12_make 86 = .ok (.aload_n 0, 1) := by decide +kernel
theorem dX12_make_87 : decode cX12_make 87 = .ok (.aload_n 0, 1) := by decide +kernel
theorem dX12_make_88 : decode cX12_make 88 = .ok (.getfield 83, 3) := by decide +kernel
theorem dX12_make_91 : decode cX12_make 91 = .ok (.sipush 1536, 3) := by decide +kernel
theorem dX12_make_94 : decode cX12_make 94 = .ok (.aload_n 0, 1) := by decide +kernel
theorem dX12_make_95 : decode cX12_make 95 = .ok (.getfield 33, 3) := by decide +kernel
theorem dX12_make_98 : decode cX12_make 98 = .ok (.sipush 1536, 3) := by decide +kernel
theorem dX12_make_101 : decode cX12_make 101 = .ok (.iconst 0, 1) := by decide +kernel
theorem dX12_make_102 : decode cX12_make 102 = .ok (.iconst 0, 1) := by decide +kernel
theorem dX12_make_103 : decode cX12_make 103 = .ok (.invokevirtual 286, 3) := by decide +kernel
theorem dX12_make_106 : decode cX12_make 106 = .ok (.aload_n 0, 1) := by decide +kernel
theorem dX12_make_107 : decode cX12_make 107 = .ok (.aload_n 0, 1) := by decide +kernel
theorem dX12_make_108 : decode cX12_make 108 = .ok (.getfield 264, 3) := by decide +kernel
theorem dX12_make_111 : decode cX12_make 111 = .ok (.putfield 280, 3) := by decide +kernel
theorem dX12_make_114 : decode cX12_make 114 = .ok (.iconst 0, 1) := by decide +kernel
theorem dX12_make_115 : decode cX12_make 115 = .ok (.istore_n 3, 1) := by decide +kernel
theorem dX12_make_116 : decode cX12_make 116 = .ok (.iload_n 3, 1) := by decide +kernel
theorem dX12_make_117 : decode cX12_make 117 = .ok (.aload_n 0, 1) := by decide +kernel
theorem dX12_make_118 : decode cX12_make 118 = .ok (.getfield 280, 3) := by decide +kernel
theorem dX12_make_121 : decode cX12_make 121 = .ok (.if_icmp .ge 21, 3) := by decide +kernel
theorem dX12_make_124 : decode cX12_make 124 = .ok (.aload_n 0, 1) := by decide +kernel
theorem dX12_make_125 : decode cX12_make 125 = .ok (.getfield 80, 3) := by decide +kernel
theorem dX12_make_128 : decode cX12_make 128 = .ok (.iload_n 3, 1) := by decide +kernel
theorem dX12_make_129 : decode cX12_make 129 = .ok (.aload_n 0, 1) := by decide +kernel
theorem dX12_make_130 : decode cX12_make 130 = .ok (.getfield 77, 3) := by decide +kernel
theorem dX12_make_133 : decode cX12_make 133 = .ok (.iload_n 3, 1) := by decide +kernel
theorem dX12_make_134 : decode cX12_make 134 = .ok (.baload, 1) := by decide +kernel
theorem dX12_make_135 : decode cX12_make 135 = .ok (.bastore, 1) := by decide +kernel
theorem dX12_make_136 : decode cX12_make 136 = .ok (.iinc 3 1, 3) := by decide +kernel
theorem dX12_make_139 : decode cX12_make 139 = .ok (.goto (-23), 3) := by decide +kernel
theorem dX12_make_142 : decode cX12_make 142 = .ok (.aload_n 0, 1) := by decide +kernel
theorem dX12_make_143 : decode cX12_make 143 = .ok (.iconst 0, 1) := by decide +kernel
theorem dX12_make_144 : decode cX12_make 144 = .ok (.putfield 264, 3) := by decide +kernel
theorem dX12_make_147 : decode cX12_make 147 = .ok (.aload_n 0, 1) := by decide +kernel
theorem dX12_make_148 : decode cX12_make 148 = .ok (.iload_n 2, 1) := by decide +kernel
theorem dX12_make_149 : decode cX12_make 149 = .ok (.ifCond .eq 7, 3) := by decide +kernel
theorem dX12_make_152 : decode cX12_make 152 = .ok (.iconst 2, 1) := by decide +kernel
theorem dX12_make_153 : decode cX12_make 153 = .ok (.goto 4, 3) := by decide +kernel
theorem dX12_make_156 : decode cX12_make 156 = .ok (.iconst 0, 1) := by decide +kernel
theorem dX12_make_157 : decode cX12_make 157 = .ok (.invokevirtual 283, 3) := by decide +kernel
theorem dX12_make_160 : decode cX12_make 160 = .ok (.iload_n 2, 1) := by decide +kernel
theorem dX12_make_161 : decode cX12_make 161 = .ok (.ifCond .eq 60, 3) := by decide +kernel
theorem dX12_make_164 : decode cX12_make 164 = .ok (.aload_n 0, 1) := by decide +kernel
theorem dX12_make_165 : decode cX12_make 165 = .ok (.iconst 2, 1) := by decide +kernel
theorem dX12_make_166 : decode cX12_make 166 = .ok (.aload_n 0, 1) := by decide +kernel
theorem dX12_make_167 : decode cX12_make 167 = .ok (.getfield 280, 3) := by decide +kernel
theorem dX12_make_170 : decode cX12_make 170 = .ok (.iadd, 1) := by decide +kernel
theorem dX12_make_171 : decode cX12_make 171 = .ok (.i2l, 1) := by decide +kernel
theorem dX12_make_172 : decode cX12_make 172 = .ok (.invokevirtual 290, 3) := by decide +kernel
theorem dX12_make_175 : decode cX12_make 175 = .ok (.aload_n 0, 1) := by decide +kernel
theorem dX12_make_176 : decode cX12_make 176 = .ok (.aload_n 0, 1) := by decide +kernel
theorem dX12_make_177 : decode cX12_make 177 = .ok (.getfield 27, 3) := by decide +kernel
theorem dX12_make_180 : decode cX12_make 180 = .ok (.iconst 2, 1) := by decide +kernel
theorem dX12_make_181 : decode cX12_make 181 = .ok (.iaload, 1) := by decide +kernel
theorem dX12_make_182 : decode cX12_make 182 = .ok (.invokevirtual 273, 3) := by decide +kernel
theorem dX12_make_185 : decode cX12_make 185 = .ok (.aload_n 0, 1) := by decide +kernel
theorem dX12_make_186 : decode cX12_make 186 = .ok (.aload_n 0, 1) := by decide +kernel
theorem dX12_make_187 : decode cX12_make 187 = .ok (.getfield 30, 3) := by decide +kernel
theorem dX12_make_190 : decode cX12_make 190 = .ok (.iconst 2, 1) := by decide +kernel
theorem dX12_make_191 : decode cX12_make 191 = .ok (.iaload, 1) := by decide +kernel
theorem dX12_make_192 : decode cX12_make 192 = .ok (.invokevirtual 273, 3) := by decide +kernel
theorem dX12_make_195 : decode cX12_make 195 = .ok (.iconst 0, 1) := by decide +kernel
theorem dX12_make_196 : decode cX12_make 196 = .ok (.istore_n 3, 1) := by decide +kernel
theorem dX12_make_197 : decode cX12_make 197 = .ok (.iload_n 3, 1) := by decide +kernel
theorem dX12_make_198 : decode cX12_make 198 = .ok (.aload_n 0, 1) := by decide +kernel
theorem dX12_make_199 : decode cX12_make 199 = .ok (.getfield 280, 3) := by decide +kernel
theorem dX12_make_202 : decode cX12_make 202 = .ok (.if_icmp .ge 19, 3) := by decide +kernel
theorem dX12_make_205 : decode cX12_make 205 = .ok (.aload_n 0, 1) := by decide +kernel
theorem dX12_make_206 : decode cX12_make 206 = .ok (.aload_n 0, 1) := by decide +kernel
theorem dX12_make_207 : decode cX12_make 207 = .ok (.getfield 80, 3) := by decide +kernel
theorem dX12_make_210 : decode cX12_make 210 = .ok (.iload_n 3, 1) := by decide +kernel
theorem dX12_make_211 : decode cX12_make 211 = .ok (.baload, 1) := by decide +kernel
theorem dX12_make_212 : decode cX12_make 212 = .ok (.invokevirtual 273, 3) := by decide +kernel
theorem dX12_make_215 : decode cX12_make 215 = .ok (.iinc 3 1, 3) := by decide +kernel
theorem dX12_make_218 : decode cX12_make 218 = .ok (.goto (-21), 3) := by decide +kernel
theorem dX12_make_221 : decode cX12_make 221 = .ok (.aload_n 0, 1) := by decide +kernel
theorem dX12_make_222 : decode cX12_make 222 = .ok (.aload_n 0, 1) := by decide +kernel
theorem dX12_make_223 : decode cX12_make 223 = .ok (.getfield 7, 3) := by decide +kernel
theorem dX12_make_226 : decode cX12_make 226 = .ok (.aload_n 0, 1) := by decide +kernel
theorem dX12_make_227 : decode cX12_make 227 = .ok (.getfield 130, 3) := by decide +kernel
theorem dX12_make_230 : decode cX12_make 230 = .ok (.aload_n 0, 1) := by decide +kernel
theorem dX12_make_231 : decode cX12_make 231 = .ok (.getfield 16, 3) := by decide +kernel
theorem dX12_make_234 : decode cX12_make 234 = .ok (.aload_n 0, 1) := by decide +kernel
theorem dX12_make_235 : decode cX12_make 235 = .ok (.getfield 138, 3) := by decide +kernel
theorem dX12_make_238 : decode cX12_make 238 = .ok (.iload_n 2, 1) := by decide +kernel
theorem dX12_make_239 : decode cX12_make 239 = .ok (.ifCond .eq 7, 3) := by decide +kernel
theorem dX12_make_242 : decode cX12_make 242 = .ok (.iconst 2, 1) := by decide +kernel
theorem dX12_make_243 : decode cX12_make 243 = .ok (.goto 4, 3) := by decide +kernel
theorem dX12_make_246 : decode cX12_make 246 = .ok (.iconst 0, 1) := by decide +kernel
theorem dX12_make_247 : decode cX12_make 247 = .ok (.iload_n 1, 1) := by decide +kernel
theorem dX12_make_248 : decode cX12_make 248 = .ok (.invokevirtual 286, 3) := by decide +kernel
theorem dX12_make_251 : decode cX12_make 251 = .ok (.aload_n 0, 1) := by decide +kernel
theorem dX12_make_252 : decode cX12_make 252 = .ok (.getfield 277, 3) := by decide +kernel
theorem dX12_make_255 : decode cX12_make 255 = .ok (.ifCond .eq 6, 3) := by decide +kernel
theorem dX12_make_258 : decode cX12_make 258 = .ok (.bipush (-3), 2) := by decide +kernel
theorem dX12_make_260 : decode cX12_make 260 = .ok (.ireturn, 1) := by decide +kernel
theorem dX12_make_261 : decode cX12_make 261 = .ok (.aload_n 0, 1) := by decide +kernel
theorem dX12_make_262 : decode cX12_make 262 = .ok (.getfield 264, 3) := by decide +kernel
theorem dX12_make_265 : decode cX12_make 265 = .ok (.sipush 8000, 3) := by decide +kernel
theorem dX12_make_268 : decode cX12_make 268 = .ok (.if_icmp .le 6, 3) := by decide +kernel
theorem dX12_make_271 : decode cX12_make 271 = .ok (.bipush (-4), 2) := by decide +kernel
theorem dX12_make_273 : decode cX12_make 273 = .ok (.ireturn, 1) := by decide +kernel
theorem dX12_make_274 : decode cX12_make 274 = .ok (.iconst 0, 1) := by decide +kernel
theorem dX12_make_275 : decode cX12_make 275 = .ok (.istore_n 3, 1) := by decide +kernel
theorem dX12_make_276 : decode cX12_make 276 = .ok (.iload_n 3, 1) := by decide +kernel
theorem dX12_make_277 : decode cX12_make 277 = .ok (.aload_n 0, 1) := by decide +kernel
theorem dX12_make_278 : decode cX12_make 278 = .ok (.getfield 264, 3) := by decide +kernel
theorem dX12_make_281 : decode cX12_make 281 = .ok (.if_icmp .ge 21, 3) := by decide +kernel
theorem dX12_make_284 : decode cX12_make 284 = .ok (.aload_n 0, 1) := by decide +kernel
theorem dX12_make_285 : decode cX12_make 285 = .ok (.getfield 13, 3) := by decide +kernel
theorem dX12_make_288 : decode cX12_make 288 = .ok (.iload_n 3, 1) := by decide +kernel
theorem dX12_make_289 : decode cX12_make 289 = .ok (.aload_n 0, 1) := by decide +kernel
theorem dX12_make_290 : decode cX12_make 290 = .ok (.getfield 77, 3) := by decide +kernel
theorem dX12_make_293 : decode cX12_make 293 = .ok (.iload_n 3, 1) := by decide +kernel
theorem dX12_make_294 : decode cX12_make 294 = .ok (.baload, 1) := by decide +kernel
theorem dX12_make_295 : decode cX12_make 295 = .ok (.bastore, 1) := by decide +kernel
theorem dX12_make_296 : decode cX12_make 296 = .ok (.iinc 3 1, 3) := by decide +kernel
theorem dX12_make_299 : decode cX12_make 299 = .ok (.goto (-23), 3) := by decide +kernel
theorem dX12_make_302 : decode cX12_make 302 = .ok (.aload_n 0, 1) := by decide +kernel
theorem dX12_make_303 : decode cX12_make 303 = .ok (.aload_n 0, 1) := by decide +kernel
theorem dX12_make_304 : decode cX12_make 304 = .ok (.getfield 264, 3) := by decide +kernel
theorem dX12_make_307 : decode cX12_make 307 = .ok (.putfield 135, 3) := by decide +kernel
theorem dX12_make_310 : decode cX12_make 310 = .ok (.aload_n 0, 1) := by decide +kernel
theorem dX12_make_311 : decode cX12_make 311 = .ok (.getfield 135, 3) := by decide +kernel
theorem dX12_make_314 : decode cX12_make 314 = .ok (.ireturn, 1) := by decide +kernel
