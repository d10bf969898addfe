theorem dX10_takeLand_59 : decode cX10_takeLand 59 = .ok (.getfield 58, 3) := by decide +kernel
theorem dX10_takeLand_62 : decode cX10_takeLand 62 = .ok (.iload_n 1, 1) := by decide +kernel
theorem dX10_takeLand_63 : decode cX10_takeLand 63 = .ok (.aload_n 0, 1) := by decide +kernel
theorem dX10_takeLand_64 : decode cX10_takeLand 64 = .ok (.getfield 49, 3) := by decide +kernel
theorem dX10_takeLand_67 : decode cX10_takeLand 67 = .ok (.iload_n 1, 1) := by decide +kernel
theorem dX10_takeLand_68 : decode cX10_takeLand 68 = .ok (.iaload, 1) := by decide +kernel
theorem dX10_takeLand_69 : decode cX10_takeLand 69 = .ok (.iastore, 1) := by decide +kernel
theorem dX10_takeLand_70 : decode cX10_takeLand 70 = .ok (.iinc 1 1, 3) := by decide +kernel
theorem dX10_takeLand_73 : decode cX10_takeLand 73 = .ok (.goto (-21), 3) := by decide +kernel
theorem dX10_takeLand_76 : decode cX10_takeLand 76 = .ok (.iconst 0, 1) := by decide +kernel
theorem dX10_takeLand_77 : decode cX10_takeLand 77 = .ok (.istore_n 1, 1) := by decide +kernel
theorem dX10_takeLand_78 : decode cX10_takeLand 78 = .ok (.iload_n 1, 1) := by decide +kernel
theorem dX10_takeLand_79 : decode cX10_takeLand 79 = .ok (.sipush 223, 3) := by decide +kernel
theorem dX10_takeLand_82 : decode cX10_takeLand 82 = .ok (.if_icmp .ge 16, 3) := by decide +kernel
theorem dX10_takeLand_85 : decode cX10_takeLand 85 = .ok (.aload_n 0, 1) := by decide +kernel
theorem dX10_takeLand_86 : decode cX10_takeLand 86 = .ok (.getfield 61, 3) := by decide +kernel
theorem dX10_takeLand_89 : decode cX10_takeLand 89 = .ok (.iload_n 1, 1) := by decide +kernel
theorem dX10_takeLand_90 : decode cX10_takeLand 90 = .ok (.iconst 0, 1) := by decide +kernel
theorem dX10_takeLand_91 : decode cX10_takeLand 91 = .ok (.iastore, 1) := by decide +kernel
theorem dX10_takeLand_92 : decode cX10_takeLand 92 = .ok (.iinc 1 1, 3) := by decide +kernel
theorem dX10_takeLand_95 : decode cX10_takeLand 95 = .ok (.goto (-17), 3) := by decide +kernel
theorem dX10_takeLand_98 : decode cX10_takeLand 98 = .ok (.iconst 0, 1) := by decide +kernel
theorem dX10_takeLand_99 : decode cX10_takeLand 99 = .ok (.istore_n 1, 1) := by decide +kernel
theorem dX10_takeLand_100 : decode cX10_takeLand 100 = .ok (.iload_n 1, 1) := by decide +kernel
theorem dX10_takeLand_101 : decode cX10_takeLand 101 = .ok (.bipush 30, 2) := by decide +kernel
theorem dX10_takeLand_103 : decode cX10_takeLand 103 = .ok (.if_icmp .ge 91, 3) := by decide +kernel
theorem dX10_takeLand_106 : decode cX10_takeLand 106 = .ok (.iload_n 1, 1) := by decide +kernel
theorem dX10_takeLand_107 : decode cX10_takeLand 107 = .ok (.aload_n 0, 1) := by decide +kernel
theorem dX10_takeLand_108 : decode cX10_takeLand 108 = .ok (.getfield 264, 3) := by decide +kernel
theorem dX10_takeLand_111 : decode cX10_takeLand 111 = .ok (.if_icmp .ge 22, 3) := by decide +kernel
theorem dX10_takeLand_114 : decode cX10_takeLand 114 = .ok (.iload_n 1, 1) := by decide +kernel
theorem dX10_takeLand_115 : decode cX10_takeLand 115 = .ok (.aload_n 0, 1) := by decide +kernel
theorem dX10_takeLand_116 : decode cX10_takeLand 116 = .ok (.getfield 52, 3) := by decide +kernel
theorem dX10_takeLand_119 : decode cX10_takeLand 119 = .ok (.iconst 0, 1) := by decide +kernel
theorem dX10_takeLand_120 : decode cX10_takeLand 120 = .ok (.iaload, 1) := by decide +kernel
theorem dX10_takeLand_121 : decode cX10_takeLand 121 = .ok (.idiv, 1) := by decide +kernel
theorem dX10_takeLand_122 : decode cX10_takeLand 122 = .ok (.aload_n 0, 1) := by decide +kernel
theorem dX10_takeLand_123 : decode cX10_takeLand 123 = .ok (.getfield 238, 3) := by decide +kernel
theorem dX10_takeLand_126 : decode cX10_takeLand 126 = .ok (.if_icmp .ge 7, 3) := by decide +kernel
theorem dX10_takeLand_129 : decode cX10_takeLand 129 = .ok (.iconst 1, 1) := by decide +kernel
theorem dX10_takeLand_130 : decode cX10_takeLand 130 = .ok (.goto 4, 3) := by decide +kernel
theorem dX10_takeLand_133 : decode cX10_takeLand 133 = .ok (.iconst 0, 1) := by decide +kernel
theorem dX10_takeLand_134 : decode cX10_takeLand 134 = .ok (.istore_n 2, 1) := by decide +kernel
theorem dX10_takeLand_135 : decode cX10_takeLand 135 = .ok (.aload_n 0, 1) := by decide +kernel
theorem dX10_takeLand_136 : decode cX10_takeLand 136 = .ok (.getfield 55, 3) := by decide +kernel
theorem dX10_takeLand_139 : decode cX10_takeLand 139 = .ok (.iload_n 1, 1) := by decide +kernel
theorem dX10_takeLand_140 : decode cX10_takeLand 140 = .ok (.iload_n 2, 1) := by decide +kernel
theorem dX10_takeLand_141 : decode cX10_takeLand 141 = .ok (.ifCond .eq 31, 3) := by decide +kernel
theorem dX10_takeLand_144 : decode cX10_takeLand 144 = .ok (.aload_n 0, 1) := by decide +kernel
theorem dX10_takeLand_145 : decode cX10_takeLand 145 = .ok (.getfield 43, 3) := by decide +kernel
theorem dX10_takeLand_148 : decode cX10_takeLand 148 = .ok (.bipush 6, 2) := by decide +kernel
theorem dX10_takeLand_150 : decode cX10_takeLand 150 = .ok (.iload_n 1, 1) := by decide +kernel
theorem dX10_takeLand_151 : decode cX10_takeLand 151 = .ok (.aload_n 0, 1) := by decide +kernel
theorem dX10_takeLand_152 : decode cX10_takeLand 152 = .ok (.getfield 52, 3) := by decide +kernel
theorem dX10_takeLand_155 : decode cX10_takeLand 155 = .ok (.iconst 0, 1) := by decide +kernel
theorem dX10_takeLand_156 : decode cX10_takeLand 156 = .ok (.iaload, 1) := by decide +kernel
theorem dX10_takeLand_157 : decode cX10_takeLand 157 = .ok (.idiv, 1) := by decide +kernel
theorem dX10_takeLand_158 : decode cX10_takeLand 158 = .ok (.imul, 1) := by decide +kernel
theorem dX10_takeLand_159 : decode cX10_takeLand 159 = .ok (.iload_n 1, 1) := by decide +kernel
theorem dX10_takeLand_160 : decode cX10_takeLand 160 = .ok (.aload_n 0, 1) := by decide +kernel
theorem dX10_takeLand_161 : decode cX10_takeLand 161 = .ok (.getfield 52, 3) := by decide +kernel
theorem dX10_takeLand_164 : decode cX10_takeLand 164 = .ok (.iconst 0, 1) := by decide +kernel
theorem dX10_takeLand_165 : decode cX10_takeLand 165 = .ok (.iaload, 1) := by decide +kernel
theorem dX10_takeLand_166 : decode cX10_takeLand 166 = .ok (.irem, 1) := by decide +kernel
theorem dX10_takeLand_167 : decode cX10_takeLand 167 = .ok (.iadd, 1) := by decide +kernel
theorem dX10_takeLand_168 : decode cX10_takeLand 168 = .ok (.iaload, 1) := by decide +kernel
theorem dX10_takeLand_169 : decode cX10_takeLand 169 = .ok (.goto 4, 3) := by decide +kernel
theorem dX10_takeLand_172 : decode cX10_takeLand 172 = .ok (.iconst 0, 1) := by decide +kernel
theorem dX10_takeLand_173 : decode cX10_takeLand 173 = .ok (.iastore, 1) := by decide +kernel
theorem dX10_takeLand_174 : decode cX10_takeLand 174 = .ok (.aload_n 0, 1) := by decide +kernel
theorem dX10_takeLand_175 : decode cX10_takeLand 175 = .ok (.getfield 61, 3) := by decide +kernel
theorem dX10_takeLand_178 : decode cX10_takeLand 178 = .ok (.iconst 0, 1) := by decide +kernel
theorem dX10_takeLand_179 : decode cX10_takeLand 179 = .ok (.iload_n 1, 1) := by decide +kernel
theorem dX10_takeLand_180 : decode cX10_takeLand 180 = .ok (.iadd, 1) := by decide +kernel
theorem dX10_takeLand_181 : decode cX10_takeLand 181 = .ok (.aload_n 0, 1) := by decide +kernel
theorem dX10_takeLand_182 : decode cX10_takeLand 182 = .ok (.getfield 55, 3) := by decide +kernel
theorem dX10_takeLand_185 : decode cX10_takeLand 185 = .ok (.iload_n 1, 1) := by decide +kernel
theorem dX10_takeLand_186 : decode cX10_takeLand 186 = .ok (.iaload, 1) := by decide +kernel
theorem dX10_takeLand_187 : decode cX10_takeLand 187 = .ok (.iastore, 1) := by decide +kernel
theorem dX10_takeLand_188 : decode cX10_takeLand 188 = .ok (.iinc 1 1, 3) := by decide +kernel
theorem dX10_takeLand_191 : decode cX10_takeLand 191 = .ok (.goto (-91), 3) := by decide +kernel
theorem dX10_takeLand_194 : decode cX10_takeLand 194 = .ok (.iconst 0, 1) := by decide +kernel
theorem dX10_takeLand_195 : decode cX10_takeLand 195 = .ok (.istore_n 1, 1) := by decide +kernel
theorem dX10_takeLand_196 : decode cX10_takeLand 196 = .ok (.iload_n 1, 1) := by decide +kernel
theorem dX10_takeLand_197 : decode cX10_takeLand 197 = .ok (.aload_n 0, 1) := by decide +kernel
theorem dX10_takeLand_198 : decode cX10_takeLand 198 = .ok (.getfield 261, 3) := by decide +kernel
theorem dX10_takeLand_201 : decode cX10_takeLand 201 = .ok (.if_icmp .ge 42, 3) := by decide +kernel
theorem dX10_takeLand_204 : decode cX10_takeLand 204 = .ok (.aload_n 0, 1) := by decide +kernel
theorem dX10_takeLand_205 : decode cX10_takeLand 205 = .ok (.getfield 61, 3) := by decide +kernel
theorem dX10_takeLand_208 : decode cX10_takeLand 208 = .ok (.bipush 30, 2) := by decide +kernel
theorem dX10_takeLand_210 : decode cX10_takeLand 210 = .ok (.iload_n 1, 1) := by decide +kernel
theorem dX10_takeLand_211 : decode cX10_takeLand 211 = .ok (.iadd, 1) := by decide +kernel
theorem dX10_takeLand_212 : decode cX10_takeLand 212 = .ok (.aload_n 0, 1) := by decide +kernel
theorem dX10_takeLand_213 : decode cX10_takeLand 213 = .ok (.iload_n 1, 1) := by decide +kernel
theorem dX10_takeLand_214 : decode cX10_takeLand 214 = .ok (.invokevirtual 267, 3) := by decide +kernel
theorem dX10_takeLand_217 : decode cX10_takeLand 217 = .ok (.iastore, 1) := by decide +kernel
theorem dX10_takeLand_218 : decode cX10_takeLand 218 = .ok (.aload_n 0, 1) := by decide +kernel
theorem dX10_takeLand_219 : decode cX10_takeLand 219 = .ok (.getfield 61, 3) := by decide +kernel
theorem dX10_takeLand_222 : decode cX10_takeLand 222 = .ok (.bipush 34, 2) := by decide +kernel
theorem dX10_takeLand_224 : decode cX10_takeLand 224 = .ok (.iload_n 1, 1) := by decide +kernel
theorem dX10_takeLand_225 : decode cX10_takeLand 225 = .ok (.iadd, 1) := by decide +kernel
theorem dX10_takeLand_226 : decode cX10_takeLand 226 = .ok (.aload_n 0, 1) := by decide +kernel
theorem dX10_takeLand_227 : decode cX10_takeLand 227 = .ok (.getfield 58, 3) := by decide +kernel
theorem dX10_takeLand_230 : decode cX10_takeLand 230 = .ok (.iconst 4, 1) := by decide +kernel
theorem dX10_takeLand_231 : decode cX10_takeLand 231 = .ok (.iload_n 1, 1) := by decide +kernel
theorem dX10_takeLand_232 : decode cX10_takeLand 232 = .ok (.imul, 1) := by decide +kernel
theorem dX10_takeLand_233 : decode cX10_takeLand 233 = .ok (.iconst 2, 1) := by decide +kernel
theorem dX10_takeLand_234 : decode cX10_takeLand 234 = .ok (.iadd, 1) := by decide +kernel
theorem dX10_takeLand_235 : decode cX10_takeLand 235 = .ok (.iaload, 1) := by decide +kernel
theorem dX10_takeLand_236 : decode cX10_takeLand 236 = .ok (.iastore, 1) := by decide +kernel
theorem dX10_takeLand_237 : decode cX10_takeLand 237 = .ok (.iinc 1 1, 3) := by decide +kernel
theorem dX10_takeLand_240 : decode cX10_takeLand 240 = .ok (.goto (-44), 3) := by decide +kernel
theorem dX10_takeLand_243 : decode cX10_takeLand 243 = .ok (.aload_n 0, 1) := by decide +kernel
theorem dX10_takeLand_244 : decode cX10_takeLand 244 = .ok (.getfield 61, 3) := by decide +kernel
theorem dX10_takeLand_247 : decode cX10_takeLand 247 = .ok (.bipush 39, 2) := by decide +kernel
theorem dX10_takeLand_249 : decode cX10_takeLand 249 = .ok (.aload_n 0, 1) := by decide +kernel
theorem dX10_takeLand_250 : decode cX10_takeLand 250 = .ok (.getfield 52, 3) := by decide +kernel
theorem dX10_takeLand_253 : decode cX10_takeLand 253 = .ok (.iconst 3, 1) := by decide +kernel
theorem dX10_takeLand_254 : decode cX10_takeLand 254 = .ok (.iaload, 1) := by decide +kernel
theorem dX10_takeLand_255 : decode cX10_takeLand 255 = .ok (.iastore, 1) := by decide +kernel
theorem dX10_takeLand_256 : decode cX10_takeLand 256 = .ok (.aload_n 0, 1) := by decide +kernel
theorem dX10_takeLand_257 : decode cX10_takeLand 257 = .ok (.getfield 61, 3) := by decide +kernel
theorem dX10_takeLand_260 : decode cX10_takeLand 260 = .ok (.bipush 40, 2) := by decide +kernel
theorem dX10_takeLand_262 : decode cX10_takeLand 262 = .ok (.aload_n 0, 1) := by decide +kernel
theorem dX10_takeLand_263 : decode cX10_takeLand 263 = .ok (.getfield 52, 3) := by decide +kernel
theorem dX10_takeLand_266 : decode cX10_takeLand 266 = .ok (.iconst 2, 1) := by decide +kernel
theorem dX10_takeLand_267 : decode cX10_takeLand 267 = .ok (.iaload, 1) := by decide +kernel
theorem dX10_takeLand_268 : decode cX10_takeLand 268 = .ok (.iastore, 1) := by decide +kernel
theorem dX10_takeLand_269 : decode cX10_takeLand 269 = .ok (.aload_n 0, 1) := by decide +kernel
theorem dX10_takeLand_270 : decode cX10_takeLand 270 = .ok (.iconst 0, 1) := by decide +kernel
theorem dX10_takeLand_271 : decode cX10_takeLand 271 = .ok (.putfield 270, 3) := by decide +kernel
theorem dX10_takeLand_274 : decode cX10_takeLand 274 = .ok (.aload_n 0, 1) := by decide +kernel
theorem dX10_takeLand_275 : decode cX10_takeLand 275 = .ok (.iconst 0, 1) := by decide +kernel
theorem dX10_takeLand_276 : decode cX10_takeLand 276 = .ok (.putfield 273, 3) := by decide +kernel
theorem dX10_takeLand_279 : decode cX10_takeLand 279 = .ok (.aload_n 0, 1) := by decide +kernel
theorem dX10_takeLand_280 : decode cX10_takeLand 280 = .ok (.iconst 0, 1) := by decide +kernel
theorem dX10_takeLand_281 : decode cX10_takeLand 281 = .ok (.putfield 276, 3) := by decide +kernel
theorem dX10_takeLand_284 : decode cX10_takeLand 284 = .ok (.aload_n 0, 1) := by decide +kernel
theorem dX10_takeLand_285 : decode cX10_takeLand 285 = .ok (.iconst 0, 1) := by decide +kernel
theorem dX10_takeLand_286 : decode cX10_takeLand 286 = .ok (.putfield 279, 3) := by decide +kernel
theorem dX10_takeLand_289 : decode cX10_takeLand 289 = .ok (.aload_n 0, 1) := by decide +kernel
theorem dX10_takeLand_290 : decode cX10_takeLand 290 = .ok (.getfield 264, 3) := by decide +kernel
theorem dX10_takeLand_293 : decode cX10_takeLand 293 = .ok (.ireturn, 1) := by decide +kernel
theorem dX10_text_0 : decode cX10_text 0 = .ok (.iload_n 1, 1) := by decide +kernel
theorem dX10_text_1 : decode cX10_text 1 = .ok (.ifCond .ne 21, 3) := by decide +kernel
theorem dX10_text_4 : decode cX10_text 4 = .ok (.aload_n 0, 1) := by decide +kernel
theorem dX10_text_5 : decode cX10_text 5 = .ok (.invokevirtual 255, 3) := by decide +kernel
theorem dX10_text_8 : decode cX10_text 8 = .ok (.iconst (-1), 1) := by decide +kernel
theorem dX10_text_9 : decode cX10_text 9 = .ok (.if_icmp .ne 13, 3) := by decide +kernel
theorem dX10_text_12 : decode cX10_text 12 = .ok (.aload_n 0, 1) := by decide +kernel
theorem dX10_text_13 : decode cX10_text 13 = .ok (.iconst 0, 1) := by decide +kernel
theorem dX10_text_14 : decode cX10_text 14 = .ok (.putfield 109, 3) := by decide +kernel
theorem dX10_text_17 : decode cX10_text 17 = .ok (.aload_n 0, 1) := by decide +kernel
theorem dX10_text_18 : decode cX10_text 18 = .ok (.invokevirtual 283, 3) := by decide +kernel
theorem dX10_text_21 : decode cX10_text 21 = .ok (.ireturn, 1) := by decide +kernel
theorem dX10_text_22 : decode cX10_text 22 = .ok (.iload_n 1, 1) := by decide +kernel
theorem dX10_text_23 : decode cX10_text 23 = .ok (.iconst 1, 1) := by decide +kernel
theorem dX10_text_24 : decode cX10_text 24 = .ok (.if_icmp .ne 45, 3) := by decide +kernel
theorem dX10_text_27 : decode cX10_text 27 = .ok (.aload_n 0, 1) := by decide +kernel
theorem dX10_text_28 : decode cX10_text 28 = .ok (.getfield 286, 3) := by decide +kernel
theorem dX10_text_31 : decode cX10_text 31 = .ok (.iconst 4, 1) := by decide +kernel
theorem dX10_text_32 : decode cX10_text 32 = .ok (.if_icmp .ge 37, 3) := by decide +kernel
theorem dX10_text_35 : decode cX10_text 35 = .ok (.aload_n 0, 1) := by decide +kernel
theorem dX10_text_36 : decode cX10_text 36 = .ok (.aload_n 0, 1) := by decide +kernel
theorem dX10_text_37 : decode cX10_text 37 = .ok (.getfield 286, 3) := by decide +kernel
theorem dX10_text_40 : decode cX10_text 40 = .ok (.invokevirtual 258, 3) := by decide +kernel
theorem dX10_text_43 : decode cX10_text 43 = .ok (.iconst (-1), 1) := by decide +kernel
theorem dX10_text_44 : decode cX10_text 44 = .ok (.if_icmp .ne 25, 3) := by decide +kernel
theorem dX10_text_47 : decode cX10_text 47 = .ok (.aload_n 0, 1) := by decide +kernel
theorem dX10_text_48 : decode cX10_text 48 = .ok (.iconst 0, 1) := by decide +kernel
theorem dX10_text_49 : decode cX10_text 49 = .ok (.putfield 109, 3) := by decide +kernel
theorem dX10_text_52 : decode cX10_text 52 = .ok (.aload_n 0, 1) := by decide +kernel
theorem dX10_text_53 : decode cX10_text 53 = .ok (.dup, 1) := by decide +kernel
theorem dX10_text_54 : decode cX10_text 54 = .ok (.getfield 286, 3) := by decide +kernel
theorem dX10_text_57 : decode cX10_text 57 = .ok (.iconst 1, 1) := by decide +kernel
theorem dX10_text_58 : decode cX10_text 58 = .ok (.iadd, 1) := by decide +kernel
theorem dX10_text_59 : decode cX10_text 59 = .ok (.putfield 286, 3) := by decide +kernel
theorem dX10_text_62 : decode cX10_text 62 = .ok (.aload_n 0, 1) := by decide +kernel
theorem dX10_text_63 : decode cX10_text 63 = .ok (.getfield 286, 3) := by decide +kernel
theorem dX10_text_66 : decode cX10_text 66 = .ok (.iconst 1, 1) := by decide +kernel
theorem dX10_text_67 : decode cX10_text 67 = .ok (.isub, 1) := by decide +kernel
theorem dX10_text_68 : decode cX10_text 68 = .ok (.ireturn, 1) := by decide +kernel
theorem dX10_text_69 : decode cX10_text 69 = .ok (.iconst (-1), 1) := by decide +kernel
theorem dX10_text_70 : decode cX10_text 70 = .ok (.ireturn, 1) := by decide +kernel
theorem dX10_firstSpot_0 : decode cX10_firstSpot 0 = .ok (.aload_n 0, 1) := by decide +kernel
theorem dX10_firstSpot_1 : decode cX10_firstSpot 1 = .ok (.getfield 52, 3) := by decide +kernel
theorem dX10_firstSpot_4 : decode cX10_firstSpot 4 = .ok (.iconst 0, 1) := by decide +kernel
theorem dX10_firstSpot_5 : decode cX10_firstSpot 5 = .ok (.iaload, 1) := by decide +kernel
theorem dX10_firstSpot_6 : decode cX10_firstSpot 6 = .ok (.aload_n 0, 1) := by decide +kernel
theorem dX10_firstSpot_7 : decode cX10_firstSpot 7 = .ok (.getfield 58, 3) := by decide +kernel
theorem dX10_firstSpot_10 : decode cX10_firstSpot 10 = .ok (.iconst 4, 1) := by decide +kernel
theorem dX10_firstSpot_11 : decode cX10_firstSpot 11 = .ok (.iload_n 1, 1) := by decide +kernel
theorem dX10_firstSpot_12 : decode cX10_firstSpot 12 = .ok (.imul, 1) := by decide +kernel
theorem dX10_firstSpot_13 : decode cX10_firstSpot 13 = .ok (.iconst 1, 1) := by decide +kernel
theorem dX10_firstSpot_14 : decode cX10_firstSpot 14 = .ok (.iadd, 1) := by decide +kernel
theorem dX10_firstSpot_15 : decode cX10_firstSpot 15 = .ok (.iaload, 1) := by decide +kernel
theorem dX10_firstSpot_16 : decode cX10_firstSpot 16 = .ok (.imul, 1) := by decide +kernel
theorem dX10_firstSpot_17 : decode cX10_firstSpot 17 = .ok (.aload_n 0, 1) := by decide +kernel
theorem dX10_firstSpot_18 : decode cX10_firstSpot 18 = .ok (.getfield 58, 3) := by decide +kernel
theorem dX10_firstSpot_21 : decode cX10_firstSpot 21 = .ok (.iconst 4, 1) := by decide +kernel
theorem dX10_firstSpot_22 : decode cX10_firstSpot 22 = .ok (.iload_n 1, 1) := by decide +kernel
theorem dX10_firstSpot_23 : decode cX10_firstSpot 23 = .ok (.imul, 1) := by decide +kernel
theorem dX10_firstSpot_24 : decode cX10_firstSpot 24 = .ok (.iconst 0, 1) := by decide +kernel
theorem dX10_firstSpot_25 : decode cX10_firstSpot 25 = .ok (.iadd, 1) := by decide +kernel
theorem dX10_firstSpot_26 : decode cX10_firstSpot 26 = .ok (.iaload, 1) := by decide +kernel
theorem dX10_firstSpot_27 : decode cX10_firstSpot 27 = .ok (.iadd, 1) := by decide +kernel
theorem dX10_firstSpot_28 : decode cX10_firstSpot 28 = .ok (.ireturn, 1) := by decide +kernel
theorem dX10_isCell_0 : decode cX10_isCell 0 = .ok (.iload_n 1, 1) := by decide +kernel
theorem dX10_isCell_1 : decode cX10_isCell 1 = .ok (.iconst 0, 1) := by decide +kernel
theorem dX10_isCell_2 : decode cX10_isCell 2 = .ok (.aload_n 0, 1) := by decide +kernel
theorem dX10_isCell_3 : decode cX10_isCell 3 = .ok (.getfield 264, 3) := by decide +kernel
theorem dX10_isCell_6 : decode cX10_isCell 6 = .ok (.iconst 1, 1) := by decide +kernel
theorem dX10_isCell_7 : decode cX10_isCell 7 = .ok (.isub, 1) := by decide +kernel
theorem dX10_isCell_8 : decode cX10_isCell 8 = .ok (.invokestatic 217, 3) := by decide +kernel
theorem dX10_isCell_11 : decode cX10_isCell 11 = .ok (.ireturn, 1) := by decide +kernel
theorem dX10_isTower_0 : decode cX10_isTower 0 = .ok (.iload_n 1, 1) := by decide +kernel
theorem dX10_isTower_1 : decode cX10_isTower 1 = .ok (.iconst 0, 1) := by decide +kernel
theorem dX10_isTower_2 : decode cX10_isTower 2 = .ok (.aload_n 0, 1) := by decide +kernel
theorem dX10_isTower_3 : decode cX10_isTower 3 = .ok (.getfield 261, 3) := by decide +kernel
theorem dX10_isTower_6 : decode cX10_isTower 6 = .ok (.iconst 1, 1) := by decide +kernel
theorem dX10_isTower_7 : decode cX10_isTower 7 = .ok (.isub, 1) := by decide +kernel
theorem dX10_isTower_8 : decode cX10_isTower 8 = .ok (.invokestatic 217, 3) := by decide +kernel
theorem dX10_isTower_11 : decode cX10_isTower 11 = .ok (.ireturn, 1) := by decide +kernel
theorem dX10_acrossOf_0 : decode cX10_acrossOf 0 = .ok (.iload_n 1, 1) := by decide +kernel
theorem dX10_acrossOf_1 : decode cX10_acrossOf 1 = .ok (.aload_n 0, 1) := by decide +kernel
theorem dX10_acrossOf_2 : decode cX10_acrossOf 2 = .ok (.getfield 52, 3) := by decide +kernel
theorem dX10_acrossOf_5 : decode cX10_acrossOf 5 = .ok (.iconst 0, 1) := by decide +kernel
theorem dX10_acrossOf_6 : decode cX10_acrossOf 6 = .ok (.iaload, 1) := by decide +kernel
theorem dX10_acrossOf_7 : decode cX10_acrossOf 7 = .ok (.irem, 1) := by decide +kernel
theorem dX10_acrossOf_8 : decode cX10_acrossOf 8 = .ok (.ireturn, 1) := by decide +kernel
theorem dX10_downOf_0 : decode cX10_downOf 0 = .ok (.iload_n 1, 1) := by decide +kernel
theorem dX10_downOf_1 : decode cX10_downOf 1 = .ok (.aload_n 0, 1) := by decide +kernel
theorem dX10_downOf_2 : decode cX10_downOf 2 = .ok (.getfield 52, 3) := by decide +kernel
theorem dX10_downOf_5 : decode cX10_downOf 5 = .ok (.iconst 0, 1) := by decide +kernel
theorem dX10_downOf_6 : decode cX10_downOf 6 = .ok (.iaload, 1) := by decide +kernel
theorem dX10_downOf_7 : decode cX10_downOf 7 = .ok (.idiv, 1) := by decide +kernel
theorem dX10_downOf_8 : decode cX10_downOf 8 = .ok (.ireturn, 1) := by decide +kernel
theorem dX10_stepped_0 : decode cX10_stepped 0 = .ok (.iconst 2, 1) := by decide +kernel
theorem dX10_stepped_1 : decode cX10_stepped 1 = .ok (.iload_n 1, 1) := by decide +kernel
theorem dX10_stepped_2 : decode cX10_stepped 2 = .ok (.imul, 1) := by decide +kernel
theorem dX10_stepped_3 : decode cX10_stepped 3 = .ok (.iload_n 0, 1) := by decide +kernel
theorem dX10_stepped_4 : decode cX10_stepped 4 = .ok (.imul, 1) := by decide +kernel
theorem dX10_stepped_5 : decode cX10_stepped 5 = .ok (.iload_n 2, 1) := by decide +kernel
theorem dX10_stepped_6 : decode cX10_stepped 6 = .ok (.iadd, 1) := by decide +kernel
theorem dX10_stepped_7 : decode cX10_stepped 7 = .ok (.iconst 2, 1) := by decide +kernel
theorem dX10_stepped_8 : decode cX10_stepped 8 = .ok (.iload_n 2, 1) := by decide +kernel
theorem dX10_stepped_9 : decode cX10_stepped 9 = .ok (.imul, 1) := by decide +kernel
theorem dX10_stepped_10 : decode cX10_stepped 10 = .ok (.invokestatic 289, 3) := by decide +kernel
theorem dX10_stepped_13 : decode cX10_stepped 13 = .ok (.ireturn, 1) := by decide +kernel
theorem dX10_isSeen_0 : decode cX10_isSeen 0 = .ok (.aload_n 0, 1) := by decide +kernel
theorem dX10_isSeen_1 : decode cX10_isSeen 1 = .ok (.iload 6, 2) := by decide +kernel
theorem dX10_isSeen_3 : decode cX10_isSeen 3 = .ok (.invokevirtual 292, 3) := by decide +kernel
theorem dX10_isSeen_6 : decode cX10_isSeen 6 = .ok (.aload_n 0, 1) := by decide +kernel
theorem dX10_isSeen_7 : decode cX10_isSeen 7 = .ok (.iload_n 2, 1) := by decide +kernel
theorem dX10_isSeen_8 : decode cX10_isSeen 8 = .ok (.invokevirtual 292, 3) := by decide +kernel
theorem dX10_isSeen_11 : decode cX10_isSeen 11 = .ok (.isub, 1) := by decide +kernel
theorem dX10_isSeen_12 : decode cX10_isSeen 12 = .ok (.istore 7, 2) := by decide +kernel
theorem dX10_isSeen_14 : decode cX10_isSeen 14 = .ok (.aload_n 0, 1) := by decide +kernel
theorem dX10_isSeen_15 : decode cX10_isSeen 15 = .ok (.iload 6, 2) := by decide +kernel
theorem dX10_isSeen_17 : decode cX10_isSeen 17 = .ok (.invokevirtual 295, 3) := by decide +kernel
theorem dX10_isSeen_20 : decode cX10_isSeen 20 = .ok (.aload_n 0, 1) := by decide +kernel
theorem dX10_isSeen_21 : decode cX10_isSeen 21 = .ok (.iload_n 2, 1) := by decide +kernel
theorem dX10_isSeen_22 : decode cX10_isSeen 22 = .ok (.invokevirtual 295, 3) := by decide +kernel
theorem dX10_isSeen_25 : decode cX10_isSeen 25 = .ok (.isub, 1) := by decide +kernel
theorem dX10_isSeen_26 : decode cX10_isSeen 26 = .ok (.istore 8, 2) := by decide +kernel
theorem dX10_isSeen_28 : decode cX10_isSeen 28 = .ok (.iload 7, 2) := by decide +kernel
theorem dX10_isSeen_30 : decode cX10_isSeen 30 = .ok (.invokestatic 298, 3) := by decide +kernel
theorem dX10_isSeen_33 : decode cX10_isSeen 33 = .ok (.iload 8, 2) := by decide +kernel
theorem dX10_isSeen_35 : decode cX10_isSeen 35 = .ok (.invokestatic 298, 3) := by decide +kernel
theorem dX10_isSeen_38 : decode cX10_isSeen 38 = .ok (.invokestatic 301, 3) := by decide +kernel
theorem dX10_isSeen_41 : decode cX10_isSeen 41 = .ok (.istore 9, 2) := by decide +kernel
theorem dX10_isSeen_43 : decode cX10_isSeen 43 = .ok (.aload_n 1, 1) := by decide +kernel
theorem dX10_isSeen_44 : decode cX10_isSeen 44 = .ok (.iload 6, 2) := by decide +kernel
theorem dX10_isSeen_46 : decode cX10_isSeen 46 = .ok (.iaload, 1) := by decide +kernel
theorem dX10_isSeen_47 : decode cX10_isSeen 47 = .ok (.iload 5, 2) := by decide +kernel
theorem dX10_isSeen_49 : decode cX10_isSeen 49 = .ok (.if_icmp .lt 14, 3) := by decide +kernel
theorem dX10_isSeen_52 : decode cX10_isSeen 52 = .ok (.iload 9, 2) := by decide +kernel
theorem dX10_isSeen_54 : decode cX10_isSeen 54 = .ok (.iload 4, 2) := by decide +kernel
theorem dX10_isSeen_56 : decode cX10_isSeen 56 = .ok (.if_icmp .gt 7, 3) := by decide +kernel
theorem dX10_isSeen_59 : decode cX10_isSeen 59 = .ok (.iconst 1, 1) := by decide +kernel
theorem dX10_isSeen_60 : decode cX10_isSeen 60 = .ok (.goto 4, 3) := by decide +kernel
theorem dX10_isSeen_63 : decode cX10_isSeen 63 = .ok (.iconst 0, 1) := by decide +kernel
theorem dX10_isSeen_64 : decode cX10_isSeen 64 = .ok (.istore 10, 2) := by decide +kernel
theorem dX10_isSeen_66 : decode cX10_isSeen 66 = .ok (.iconst 1, 1) := by decide +kernel
theorem dX10_isSeen_67 : decode cX10_isSeen 67 = .ok (.istore 11, 2) := by decide +kernel
theorem dX10_isSeen_69 : decode cX10_isSeen 69 = .ok (.iload 11, 2) := by decide +kernel
theorem dX10_isSeen_71 : decode cX10_isSeen 71 = .ok (.iload 9, 2) := by decide +kernel
theorem dX10_isSeen_73 : decode cX10_isSeen 73 = .ok (.if_icmp .ge 85, 3) := by decide +kernel
theorem dX10_isSeen_76 : decode cX10_isSeen 76 = .ok (.iload 10, 2) := by decide +kernel
theorem dX10_isSeen_78 : decode cX10_isSeen 78 = .ok (.ifCond .eq 80, 3) := by decide +kernel
theorem dX10_isSeen_81 : decode cX10_isSeen 81 = .ok (.aload_n 0, 1) := by decide +kernel
theorem dX10_isSeen_82 : decode cX10_isSeen 82 = .ok (.getfield 52, 3) := by decide +kernel
theorem dX10_isSeen_85 : decode cX10_isSeen 85 = .ok (.iconst 0, 1) := by decide +kernel
theorem dX10_isSeen_86 : decode cX10_isSeen 86 = .ok (.iaload, 1) := by decide +kernel
theorem dX10_isSeen_87 : decode cX10_isSeen 87 = .ok (.aload_n 0, 1) := by decide +kernel
theorem dX10_isSeen_88 : decode cX10_isSeen 88 = .ok (.iload_n 2, 1) := by decide +kernel
theorem dX10_isSeen_89 : decode cX10_isSeen 89 = .ok (.invokevirtual 295, 3) := by decide +kernel
theorem dX10_isSeen_92 : decode cX10_isSeen 92 = .ok (.iload 8, 2) := by decide +kernel
theorem dX10_isSeen_94 : decode cX10_isSeen 94 = .ok (.iload 11, 2) := by decide +kernel
theorem dX10_isSeen_96 : decode cX10_isSeen 96 = .ok (.iload 9, 2) := by decide +kernel
theorem dX10_isSeen_98 : decode cX10_isSeen 98 = .ok (.invokestatic 303, 3) := by decide +kernel
theorem dX10_isSeen_101 : decode cX10_isSeen 101 = .ok (.iadd, 1) := by decide +kernel
theorem dX10_isSeen_102 : decode cX10_isSeen 102 = .ok (.imul, 1) := by decide +kernel
theorem dX10_isSeen_103 : decode cX10_isSeen 103 = .ok (.aload_n 0, 1) := by decide +kernel
theorem dX10_isSeen_104 : decode cX10_isSeen 104 = .ok (.iload_n 2, 1) := by decide +kernel
theorem dX10_isSeen_105 : decode cX10_isSeen 105 = .ok (.invokevirtual 292, 3) := by decide +kernel
theorem dX10_isSeen_108 : decode cX10_isSeen 108 = .ok (.iadd, 1) := by decide +kernel
theorem dX10_isSeen_109 : decode cX10_isSeen 109 = .ok (.iload 7, 2) := by decide +kernel
theorem dX10_isSeen_111 : decode cX10_isSeen 111 = .ok (.iload 11, 2) := by decide +kernel
theorem dX10_isSeen_113 : decode cX10_isSeen 113 = .ok (.iload 9, 2) := by decide +kernel
theorem dX10_isSeen_115 : decode cX10_isSeen 115 = .ok (.invokestatic 303, 3) := by decide +kernel
theorem dX10_isSeen_118 : decode cX10_isSeen 118 = .ok (.iadd, 1) := by decide +kernel
theorem dX10_isSeen_119 : decode cX10_isSeen 119 = .ok (.istore 12, 2) := by decide +kernel
theorem dX10_isSeen_121 : decode cX10_isSeen 121 = .ok (.aload_n 1, 1) := by decide +kernel
theorem dX10_isSeen_122 : decode cX10_isSeen 122 = .ok (.iload 12, 2) := by decide +kernel
theorem dX10_isSeen_124 : decode cX10_isSeen 124 = .ok (.iaload, 1) := by decide +kernel
theorem dX10_isSeen_125 : decode cX10_isSeen 125 = .ok (.iload 9, 2) := by decide +kernel
theorem dX10_isSeen_127 : decode cX10_isSeen 127 = .ok (.imul, 1) := by decide +kernel
theorem dX10_isSeen_128 : decode cX10_isSeen 128 = .ok (.iload_n 3, 1) := by decide +kernel
theorem dX10_isSeen_129 : decode cX10_isSeen 129 = .ok (.iload 9, 2) := by decide +kernel
theorem dX10_isSeen_131 : decode cX10_isSeen 131 = .ok (.imul, 1) := by decide +kernel
theorem dX10_isSeen_132 : decode cX10_isSeen 132 = .ok (.iload 11, 2) := by decide +kernel
theorem dX10_isSeen_134 : decode cX10_isSeen 134 = .ok (.aload_n 1, 1) := by decide +kernel
theorem dX10_isSeen_135 : decode cX10_isSeen 135 = .ok (.iload 6, 2) := by decide +kernel
theorem dX10_isSeen_137 : decode cX10_isSeen 137 = .ok (.iaload, 1) := by decide +kernel
theorem dX10_isSeen_138 : decode cX10_isSeen 138 = .ok (.iload_n 3, 1) := by decide +kernel
theorem dX10_isSeen_139 : decode cX10_isSeen 139 = .ok (.isub, 1) := by decide +kernel
theorem dX10_isSeen_140 : decode cX10_isSeen 140 = .ok (.imul, 1) := by decide +kernel
theorem dX10_isSeen_141 : decode cX10_isSeen 141 = .ok (.iadd, 1) := by decide +kernel
theorem dX10_isSeen_142 : decode cX10_isSeen 142 = .ok (.if_icmp .gt 7, 3) := by decide +kernel
theorem dX10_isSeen_145 : decode cX10_isSeen 145 = .ok (.iconst 1, 1) := by decide +kernel
theorem dX10_isSeen_146 : decode cX10_isSeen 146 = .ok (.goto 4, 3) := by decide +kernel
theorem dX10_isSeen_149 : decode cX10_isSeen 149 = .ok (.iconst 0, 1) := by decide +kernel
theorem dX10_isSeen_150 : decode cX10_isSeen 150 = .ok (.istore 10, 2) := by decide +kernel
theorem dX10_isSeen_152 : decode cX10_isSeen 152 = .ok (.iinc 11 1, 3) := by decide +kernel
theorem dX10_isSeen_155 : decode cX10_isSeen 155 = .ok (.goto (-86), 3) := by decide +kernel
theorem dX10_isSeen_158 : decode cX10_isSeen 158 = .ok (.iload 10, 2) := by decide +kernel
theorem dX10_isSeen_160 : decode cX10_isSeen 160 = .ok (.ireturn, 1) := by decide +kernel
theorem dX10_reachBy_0 : decode cX10_reachBy 0 = .ok (.aload_n 0, 1) := by decide +kernel
theorem dX10_reachBy_1 : decode cX10_reachBy 1 = .ok (.getfield 58, 3) := by decide +kernel
theorem dX10_reachBy_4 : decode cX10_reachBy 4 = .ok (.iconst 4, 1) := by decide +kernel
theorem dX10_reachBy_5 : decode cX10_reachBy 5 = .ok (.iload_n 1, 1) := by decide +kernel
theorem dX10_reachBy_6 : decode cX10_reachBy 6 = .ok (.imul, 1) := by decide +kernel
theorem dX10_reachBy_7 : decode cX10_reachBy 7 = .ok (.iconst 3, 1) := by decide +kernel
theorem dX10_reachBy_8 : decode cX10_reachBy 8 = .ok (.iadd, 1) := by decide +kernel
theorem dX10_reachBy_9 : decode cX10_reachBy 9 = .ok (.iaload, 1) := by decide +kernel
theorem dX10_reachBy_10 : decode cX10_reachBy 10 = .ok (.istore 6, 2) := by decide +kernel
theorem dX10_reachBy_12 : decode cX10_reachBy 12 = .ok (.aload_n 0, 1) := by decide +kernel
theorem dX10_reachBy_13 : decode cX10_reachBy 13 = .ok (.getfield 67, 3) := by decide +kernel
theorem dX10_reachBy_16 : decode cX10_reachBy 16 = .ok (.iconst (-1), 1) := by decide +kernel
theorem dX10_reachBy_17 : decode cX10_reachBy 17 = .ok (.if_icmp .eq 64, 3) := by decide +kernel
theorem dX10_reachBy_20 : decode cX10_reachBy 20 = .ok (.aload_n 0, 1) := by decide +kernel
theorem dX10_reachBy_21 : decode cX10_reachBy 21 = .ok (.getfield 34, 3) := by decide +kernel
theorem dX10_reachBy_24 : decode cX10_reachBy 24 = .ok (.iconst 0, 1) := by decide +kernel
theorem dX10_reachBy_25 : decode cX10_reachBy 25 = .ok (.iload 6, 2) := by decide +kernel
theorem dX10_reachBy_27 : decode cX10_reachBy 27 = .ok (.iastore, 1) := by decide +kernel
theorem dX10_reachBy_28 : decode cX10_reachBy 28 = .ok (.aload_n 0, 1) := by decide +kernel
theorem dX10_reachBy_29 : decode cX10_reachBy 29 = .ok (.getfield 34, 3) := by decide +kernel
theorem dX10_reachBy_32 : decode cX10_reachBy 32 = .ok (.iconst 1, 1) := by decide +kernel
theorem dX10_reachBy_33 : decode cX10_reachBy 33 = .ok (.iload_n 2, 1) := by decide +kernel
theorem dX10_reachBy_34 : decode cX10_reachBy 34 = .ok (.iastore, 1) := by decide +kernel
theorem dX10_reachBy_35 : decode cX10_reachBy 35 = .ok (.aload_n 0, 1) := by decide +kernel
theorem dX10_reachBy_36 : decode cX10_reachBy 36 = .ok (.getfield 34, 3) := by decide +kernel
theorem dX10_reachBy_39 : decode cX10_reachBy 39 = .ok (.iconst 2, 1) := by decide +kernel
theorem dX10_reachBy_40 : decode cX10_reachBy 40 = .ok (.iload_n 3, 1) := by decide +kernel
theorem dX10_reachBy_41 : decode cX10_reachBy 41 = .ok (.bipush 24, 2) := by decide +kernel
theorem dX10_reachBy_43 : decode cX10_reachBy 43 = .ok (.irem, 1) := by decide +kernel
theorem dX10_reachBy_44 : decode cX10_reachBy 44 = .ok (.iastore, 1) := by decide +kernel
theorem dX10_reachBy_45 : decode cX10_reachBy 45 = .ok (.aload_n 0, 1) := by decide +kernel
theorem dX10_reachBy_46 : decode cX10_reachBy 46 = .ok (.getfield 34, 3) := by decide +kernel
theorem dX10_reachBy_49 : decode cX10_reachBy 49 = .ok (.iconst 3, 1) := by decide +kernel
theorem dX10_reachBy_50 : decode cX10_reachBy 50 = .ok (.iload 4, 2) := by decide +kernel
theorem dX10_reachBy_52 : decode cX10_reachBy 52 = .ok (.iastore, 1) := by decide +kernel
theorem dX10_reachBy_53 : decode cX10_reachBy 53 = .ok (.aload_n 0, 1) := by decide +kernel
theorem dX10_reachBy_54 : decode cX10_reachBy 54 = .ok (.getfield 34, 3) := by decide +kernel
theorem dX10_reachBy_57 : decode cX10_reachBy 57 = .ok (.iconst 4, 1) := by decide +kernel
theorem dX10_reachBy_58 : decode cX10_reachBy 58 = .ok (.iload 5, 2) := by decide +kernel
theorem dX10_reachBy_60 : decode cX10_reachBy 60 = .ok (.iastore, 1) := by decide +kernel
theorem dX10_reachBy_61 : decode cX10_reachBy 61 = .ok (.aload_n 0, 1) := by decide +kernel
theorem dX10_reachBy_62 : decode cX10_reachBy 62 = .ok (.getfield 34, 3) := by decide +kernel
theorem dX10_reachBy_65 : decode cX10_reachBy 65 = .ok (.iconst 5, 1) := by decide +kernel
theorem dX10_reachBy_66 : decode cX10_reachBy 66 = .ok (.aload_n 0, 1) := by decide +kernel
theorem dX10_reachBy_67 : decode cX10_reachBy 67 = .ok (.getfield 261, 3) := by decide +kernel
theorem dX10_reachBy_70 : decode cX10_reachBy 70 = .ok (.iastore, 1) := by decide +kernel
theorem dX10_reachBy_71 : decode cX10_reachBy 71 = .ok (.aload_n 0, 1) := by decide +kernel
theorem dX10_reachBy_72 : decode cX10_reachBy 72 = .ok (.aload_n 0, 1) := by decide +kernel
theorem dX10_reachBy_73 : decode cX10_reachBy 73 = .ok (.getfield 67, 3) := by decide +kernel
theorem dX10_reachBy_76 : decode cX10_reachBy 76 = .ok (.invokevirtual 306, 3) := by decide +kernel
theorem dX10_reachBy_79 : decode cX10_reachBy 79 = .ok (.istore 6, 2) := by decide +kernel
theorem dX10_reachBy_81 : decode cX10_reachBy 81 = .ok (.iconst 0, 1) := by decide +kernel
theorem dX10_reachBy_82 : decode cX10_reachBy 82 = .ok (.bipush 9, 2) := by decide +kernel
theorem dX10_reachBy_84 : decode cX10_reachBy 84 = .ok (.iload 6, 2) := by decide +kernel
theorem dX10_reachBy_86 : decode cX10_reachBy 86 = .ok (.invokestatic 309, 3) := by decide +kernel
theorem dX10_reachBy_89 : decode cX10_reachBy 89 = .ok (.invokestatic 301, 3) := by decide +kernel
theorem dX10_reachBy_92 : decode cX10_reachBy 92 = .ok (.ireturn, 1) := by decide +kernel
theorem dX10_groundOf_0 : decode cX10_groundOf 0 = .ok (.aload_n 0, 1) := by decide +kernel
theorem dX10_groundOf_1 : decode cX10_groundOf 1 = .ok (.getfield 61, 3) := by decide +kernel
theorem dX10_groundOf_4 : decode cX10_groundOf 4 = .ok (.iconst 0, 1) := by decide +kernel
theorem dX10_groundOf_5 : decode cX10_groundOf 5 = .ok (.aload_n 0, 1) := by decide +kernel
theorem dX10_groundOf_6 : decode cX10_groundOf 6 = .ok (.getfield 61, 3) := by decide +kernel
theorem dX10_groundOf_9 : decode cX10_groundOf 9 = .ok (.bipush 30, 2) := by decide +kernel
theorem dX10_groundOf_11 : decode cX10_groundOf 11 = .ok (.iload_n 1, 1) := by decide +kernel
theorem dX10_groundOf_12 : decode cX10_groundOf 12 = .ok (.iadd, 1) := by decide +kernel
theorem dX10_groundOf_13 : decode cX10_groundOf 13 = .ok (.iaload, 1) := by decide +kernel
theorem dX10_groundOf_14 : decode cX10_groundOf 14 = .ok (.iadd, 1) := by decide +kernel
theorem dX10_groundOf_15 : decode cX10_groundOf 15 = .ok (.iaload, 1) := by decide +kernel
theorem dX10_groundOf_16 : decode cX10_groundOf 16 = .ok (.ireturn, 1) := by decide +kernel
theorem dX10_reachOf_0 : decode cX10_reachOf 0 = .ok (.aload_n 0, 1) := by decide +kernel
theorem dX10_reachOf_1 : decode cX10_reachOf 1 = .ok (.iload_n 1, 1) := by decide +kernel
theorem dX10_reachOf_2 : decode cX10_reachOf 2 = .ok (.aload_n 0, 1) := by decide +kernel
theorem dX10_reachOf_3 : decode cX10_reachOf 3 = .ok (.getfield 61, 3) := by decide +kernel
theorem dX10_reachOf_6 : decode cX10_reachOf 6 = .ok (.bipush 39, 2) := by decide +kernel
theorem dX10_reachOf_8 : decode cX10_reachOf 8 = .ok (.iaload, 1) := by decide +kernel
theorem dX10_reachOf_9 : decode cX10_reachOf 9 = .ok (.aload_n 0, 1) := by decide +kernel
theorem dX10_reachOf_10 : decode cX10_reachOf 10 = .ok (.getfield 61, 3) := by decide +kernel
theorem dX10_reachOf_13 : decode cX10_reachOf 13 = .ok (.bipush 41, 2) := by decide +kernel
theorem dX10_reachOf_15 : decode cX10_reachOf 15 = .ok (.iaload, 1) := by decide +kernel
theorem dX10_reachOf_16 : decode cX10_reachOf 16 = .ok (.aload_n 0, 1) := by decide +kernel
theorem dX10_reachOf_17 : decode cX10_reachOf 17 = .ok (.iload_n 1, 1) := by decide +kernel
theorem dX10_reachOf_18 : decode cX10_reachOf 18 = .ok (.invokevirtual 311, 3) := by decide +kernel
theorem dX10_reachOf_21 : decode cX10_reachOf 21 = .ok (.aload_n 0, 1) := by decide +kernel
theorem dX10_reachOf_22 : decode cX10_reachOf 22 = .ok (.getfield 61, 3) := by decide +kernel
theorem dX10_reachOf_25 : decode cX10_reachOf 25 = .ok (.bipush 34, 2) := by decide +kernel
theorem dX10_reachOf_27 : decode cX10_reachOf 27 = .ok (.iload_n 1, 1) := by decide +kernel
theorem dX10_reachOf_28 : decode cX10_reachOf 28 = .ok (.iadd, 1) := by decide +kernel
theorem dX10_reachOf_29 : decode cX10_reachOf 29 = .ok (.iaload, 1) := by decide +kernel
theorem dX10_reachOf_30 : decode cX10_reachOf 30 = .ok (.invokevirtual 314, 3) := by decide +kernel
theorem dX10_reachOf_33 : decode cX10_reachOf 33 = .ok (.ireturn, 1) := by decide +kernel
theorem dX10_seesNow_0 : decode cX10_seesNow 0 = .ok (.aload_n 0, 1) := by decide +kernel
theorem dX10_seesNow_1 : decode cX10_seesNow 1 = .ok (.aload_n 0, 1) := by decide +kernel
theorem dX10_seesNow_2 : decode cX10_seesNow 2 = .ok (.getfield 61, 3) := by decide +kernel
theorem dX10_seesNow_5 : decode cX10_seesNow 5 = .ok (.aload_n 0, 1) := by decide +kernel
theorem dX10_seesNow_6 : decode cX10_seesNow 6 = .ok (.getfield 61, 3) := by decide +kernel
theorem dX10_seesNow_9 : decode cX10_seesNow 9 = .ok (.bipush 30, 2) := by decide +kernel
theorem dX10_seesNow_11 : decode cX10_seesNow 11 = .ok (.iload_n 1, 1) := by decide +kernel
theorem dX10_seesNow_12 : decode cX10_seesNow 12 = .ok (.iadd, 1) := by decide +kernel
theorem dX10_seesNow_13 : decode cX10_seesNow 13 = .ok (.iaload, 1) := by decide +kernel
theorem dX10_seesNow_14 : decode cX10_seesNow 14 = .ok (.aload_n 0, 1) := by decide +kernel
theorem dX10_seesNow_15 : decode cX10_seesNow 15 = .ok (.iload_n 1, 1) := by decide +kernel
theorem dX10_seesNow_16 : decode cX10_seesNow 16 = .ok (.invokevirtual 311, 3) := by decide +kernel
theorem dX10_seesNow_19 : decode cX10_seesNow 19 = .ok (.aload_n 0, 1) := by decide +kernel
theorem dX10_seesNow_20 : decode cX10_seesNow 20 = .ok (.getfield 61, 3) := by decide +kernel
theorem dX10_seesNow_23 : decode cX10_seesNow 23 = .ok (.bipush 34, 2) := by decide +kernel
theorem dX10_seesNow_25 : decode cX10_seesNow 25 = .ok (.iload_n 1, 1) := by decide +kernel
theorem dX10_seesNow_26 : decode cX10_seesNow 26 = .ok (.iadd, 1) := by decide +kernel
theorem dX10_seesNow_27 : decode cX10_seesNow 27 = .ok (.iaload, 1) := by decide +kernel
theorem dX10_seesNow_28 : decode cX10_seesNow 28 = .ok (.iadd, 1) := by decide +kernel
theorem dX10_seesNow_29 : decode cX10_seesNow 29 = .ok (.aload_n 0, 1) := by decide +kernel
theorem dX10_seesNow_30 : decode cX10_seesNow 30 = .ok (.iload_n 1, 1) := by decide +kernel
theorem dX10_seesNow_31 : decode cX10_seesNow 31 = .ok (.invokevirtual 318, 3) := by decide +kernel
theorem dX10_seesNow_34 : decode cX10_seesNow 34 = .ok (.aload_n 0, 1) := by decide +kernel
theorem dX10_seesNow_35 : decode cX10_seesNow 35 = .ok (.getfield 61, 3) := by decide +kernel
theorem dX10_seesNow_38 : decode cX10_seesNow 38 = .ok (.bipush 39, 2) := by decide +kernel
theorem dX10_seesNow_40 : decode cX10_seesNow 40 = .ok (.iaload, 1) := by decide +kernel
theorem dX10_seesNow_41 : decode cX10_seesNow 41 = .ok (.iload_n 2, 1) := by decide +kernel
theorem dX10_seesNow_42 : decode cX10_seesNow 42 = .ok (.invokevirtual 321, 3) := by decide +kernel
theorem dX10_seesNow_45 : decode cX10_seesNow 45 = .ok (.ireturn, 1) := by decide +kernel
theorem dX10_seenBy_0 : decode cX10_seenBy 0 = .ok (.iconst 0, 1) := by decide +kernel
theorem dX10_seenBy_1 : decode cX10_seenBy 1 = .ok (.istore_n 2, 1) := by decide +kernel
theorem dX10_seenBy_2 : decode cX10_seenBy 2 = .ok (.iconst 0, 1) := by decide +kernel
theorem dX10_seenBy_3 : decode cX10_seenBy 3 = .ok (.istore_n 3, 1) := by decide +kernel
theorem dX10_seenBy_4 : decode cX10_seenBy 4 = .ok (.iload_n 3, 1) := by decide +kernel
theorem dX10_seenBy_5 : decode cX10_seenBy 5 = .ok (.aload_n 0, 1) := by decide +kernel
theorem dX10_seenBy_6 : decode cX10_seenBy 6 = .ok (.getfield 264, 3) := by decide +kernel
theorem dX10_seenBy_9 : decode cX10_seenBy 9 = .ok (.if_icmp .ge 28, 3) := by decide +kernel
theorem dX10_seenBy_12 : decode cX10_seenBy 12 = .ok (.iload_n 2, 1) := by decide +kernel
theorem dX10_seenBy_13 : decode cX10_seenBy 13 = .ok (.aload_n 0, 1) := by decide +kernel
theorem dX10_seenBy_14 : decode cX10_seenBy 14 = .ok (.iload_n 1, 1) := by decide +kernel
theorem dX10_seenBy_15 : decode cX10_seenBy 15 = .ok (.iload_n 3, 1) := by decide +kernel
theorem dX10_seenBy_16 : decode cX10_seenBy 16 = .ok (.invokevirtual 325, 3) := by decide +kernel
theorem dX10_seenBy_19 : decode cX10_seenBy 19 = .ok (.ifCond .eq 9, 3) := by decide +kernel
theorem dX10_seenBy_22 : decode cX10_seenBy 22 = .ok (.iconst 1, 1) := by decide +kernel
theorem dX10_seenBy_23 : decode cX10_seenBy 23 = .ok (.iload_n 3, 1) := by decide +kernel
theorem dX10_seenBy_24 : decode cX10_seenBy 24 = .ok (.ishl, 1) := by decide +kernel
theorem dX10_seenBy_25 : decode cX10_seenBy 25 = .ok (.goto 4, 3) := by decide +kernel
theorem dX10_seenBy_28 : decode cX10_seenBy 28 = .ok (.iconst 0, 1) := by decide +kernel
theorem dX10_seenBy_29 : decode cX10_seenBy 29 = .ok (.ior, 1) := by decide +kernel
theorem dX10_seenBy_30 : decode cX10_seenBy 30 = .ok (.istore_n 2, 1) := by decide +kernel
theorem dX10_seenBy_31 : decode cX10_seenBy 31 = .ok (.iinc 3 1, 3) := by decide +kernel
theorem dX10_seenBy_34 : decode cX10_seenBy 34 = .ok (.goto (-30), 3) := by decide +kernel
theorem dX10_seenBy_37 : decode cX10_seenBy 37 = .ok (.iload_n 2, 1) := by decide +kernel
theorem dX10_seenBy_38 : decode cX10_seenBy 38 = .ok (.ireturn, 1) := by decide +kernel
theorem dX10_seenByAll_0 : decode cX10_seenByAll 0 = .ok (.iconst 0, 1) := by decide +kernel
theorem dX10_seenByAll_1 : decode cX10_seenByAll 1 = .ok (.istore_n 1, 1) := by decide +kernel
theorem dX10_seenByAll_2 : decode cX10_seenByAll 2 = .ok (.iconst 0, 1) := by decide +kernel
theorem dX10_seenByAll_3 : decode cX10_seenByAll 3 = .ok (.istore_n 2, 1) := by decide +kernel
theorem dX10_seenByAll_4 : decode cX10_seenByAll 4 = .ok (.iload_n 2, 1) := by decide +kernel
theorem dX10_seenByAll_5 : decode cX10_seenByAll 5 = .ok (.aload_n 0, 1) := by decide +kernel
theorem dX10_seenByAll_6 : decode cX10_seenByAll 6 = .ok (.getfield 261, 3) := by decide +kernel
theorem dX10_seenByAll_9 : decode cX10_seenByAll 9 = .ok (.if_icmp .ge 17, 3) := by decide +kernel
theorem dX10_seenByAll_12 : decode cX10_seenByAll 12 = .ok (.iload_n 1, 1) := by decide +kernel
theorem dX10_seenByAll_13 : decode cX10_seenByAll 13 = .ok (.aload_n 0, 1) := by decide +kernel
theorem dX10_seenByAll_14 : decode cX10_seenByAll 14 = .ok (.iload_n 2, 1) := by decide +kernel
theorem dX10_seenByAll_15 : decode cX10_seenByAll 15 = .ok (.invokevirtual 328, 3) := by decide +kernel
theorem dX10_seenByAll_18 : decode cX10_seenByAll 18 = .ok (.ior, 1) := by decide +kernel
theorem dX10_seenByAll_19 : decode cX10_seenByAll 19 = .ok (.istore_n 1, 1) := by decide +kernel
theorem dX10_seenByAll_20 : decode cX10_seenByAll 20 = .ok (.iinc 2 1, 3) := by decide +kernel
theorem dX10_seenByAll_23 : decode cX10_seenByAll 23 = .ok (.goto (-19), 3) := by decide +kernel
theorem dX10_seenByAll_26 : decode cX10_seenByAll 26 = .ok (.iload_n 1, 1) := by decide +kernel
theorem dX10_seenByAll_27 : decode cX10_seenByAll 27 = .ok (.ireturn, 1) := by decide +kernel
theorem dX10_whole_0 : decode cX10_whole 0 = .ok (.iconst 1, 1) := by decide +kernel
theorem dX10_whole_1 : decode cX10_whole 1 = .ok (.aload_n 0, 1) := by decide +kernel
theorem dX10_whole_2 : decode cX10_whole 2 = .ok (.getfield 264, 3) := by decide +kernel
theorem dX10_whole_5 : decode cX10_whole 5 = .ok (.ishl, 1) := by decide +kernel
theorem dX10_whole_6 : decode cX10_whole 6 = .ok (.iconst 1, 1) := by decide +kernel
theorem dX10_whole_7 : decode cX10_whole 7 = .ok (.isub, 1) := by decide +kernel
theorem dX10_whole_8 : decode cX10_whole 8 = .ok (.ireturn, 1) := by decide +kernel
theorem dX10_hid_0 : decode cX10_hid 0 = .ok (.aload_n 0, 1) := by decide +kernel
theorem dX10_hid_1 : decode cX10_hid 1 = .ok (.invokevirtual 331, 3) := by decide +kernel
theorem dX10_hid_4 : decode cX10_hid 4 = .ok (.aload_n 0, 1) := by decide +kernel
theorem dX10_hid_5 : decode cX10_hid 5 = .ok (.invokevirtual 334, 3) := by decide +kernel
theorem dX10_hid_8 : decode cX10_hid 8 = .ok (.iconst (-1), 1) := by decide +kernel
theorem dX10_hid_9 : decode cX10_hid 9 = .ok (.ixor, 1) := by decide +kernel
theorem dX10_hid_10 : decode cX10_hid 10 = .ok (.iand, 1) := by decide +kernel
theorem dX10_hid_11 : decode cX10_hid 11 = .ok (.ireturn, 1) := by decide +kernel
theorem dX10_rule_0 : decode cX10_rule 0 = .ok (.aload_n 0, 1) := by decide +kernel
theorem dX10_rule_1 : decode cX10_rule 1 = .ok (.getfield 264, 3) := by decide +kernel
theorem dX10_rule_4 : decode cX10_rule 4 = .ok (.ifCond .eq 12, 3) := by decide +kernel
theorem dX10_rule_7 : decode cX10_rule 7 = .ok (.iload_n 1, 1) := by decide +kernel
theorem dX10_rule_8 : decode cX10_rule 8 = .ok (.iconst 0, 1) := by decide +kernel
theorem dX10_rule_9 : decode cX10_rule 9 = .ok (.iconst 3, 1) := by decide +kernel
theorem dX10_rule_10 : decode cX10_rule 10 = .ok (.invokestatic 217, 3) := by decide +kernel
theorem dX10_rule_13 : decode cX10_rule 13 = .ok (.ifCond .ne 5, 3) := by decide +kernel
theorem dX10_rule_16 : decode cX10_rule 16 = .ok (.iconst (-1), 1) := by decide +kernel
theorem dX10_rule_17 : decode cX10_rule 17 = .ok (.ireturn, 1) := by decide +kernel
theorem dX10_rule_18 : decode cX10_rule 18 = .ok (.iload_n 1, 1) := by decide +kernel
theorem dX10_rule_19 : decode cX10_rule 19 = .ok (.iconst 2, 1) := by decide +kernel
theorem dX10_rule_20 : decode cX10_rule 20 = .ok (.if_icmp .ne 13, 3) := by decide +kernel
theorem dX10_rule_23 : decode cX10_rule 23 = .ok (.aload_n 0, 1) := by decide +kernel
theorem dX10_rule_24 : decode cX10_rule 24 = .ok (.getfield 61, 3) := by decide +kernel
theorem dX10_rule_27 : decode cX10_rule 27 = .ok (.bipush 40, 2) := by decide +kernel
theorem dX10_rule_29 : decode cX10_rule 29 = .ok (.iaload, 1) := by decide +kernel
theorem dX10_rule_30 : decode cX10_rule 30 = .ok (.goto 24, 3) := by decide +kernel
theorem dX10_rule_33 : decode cX10_rule 33 = .ok (.iload_n 1, 1) := by decide +kernel
theorem dX10_rule_34 : decode cX10_rule 34 = .ok (.iconst 3, 1) := by decide +kernel
theorem dX10_rule_35 : decode cX10_rule 35 = .ok (.if_icmp .ne 13, 3) := by decide +kernel
theorem dX10_rule_38 : decode cX10_rule 38 = .ok (.aload_n 0, 1) := by decide +kernel
theorem dX10_rule_39 : decode cX10_rule 39 = .ok (.getfield 61, 3) := by decide +kernel
theorem dX10_rule_42 : decode cX10_rule 42 = .ok (.bipush 39, 2) := by decide +kernel
theorem dX10_rule_44 : decode cX10_rule 44 = .ok (.iaload, 1) := by decide +kernel
theorem dX10_rule_45 : decode cX10_rule 45 = .ok (.goto 9, 3) := by decide +kernel
theorem dX10_rule_48 : decode cX10_rule 48 = .ok (.aload_n 0, 1) := by decide +kernel
theorem dX10_rule_49 : decode cX10_rule 49 = .ok (.getfield 52, 3) := by decide +kernel
theorem dX10_rule_52 : decode cX10_rule 52 = .ok (.iload_n 1, 1) := by decide +kernel
theorem dX10_rule_53 : decode cX10_rule 53 = .ok (.iaload, 1) := by decide +kernel
theorem dX10_rule_54 : decode cX10_rule 54 = .ok (.ireturn, 1) := by decide +kernel
theorem dX10_height_0 : decode cX10_height 0 = .ok (.aload_n 0, 1) := by decide +kernel
theorem dX10_height_1 : decode cX10_height 1 = .ok (.iload_n 1, 1) := by decide +kernel
theorem dX10_height_2 : decode cX10_height 2 = .ok (.invokevirtual 337, 3) := by decide +kernel
theorem dX10_height_5 : decode cX10_height 5 = .ok (.ifCond .eq 14, 3) := by decide +kernel
theorem dX10_height_8 : decode cX10_height 8 = .ok (.aload_n 0, 1) := by decide +kernel
theorem dX10_height_9 : decode cX10_height 9 = .ok (.getfield 61, 3) := by decide +kernel
theorem dX10_height_12 : decode cX10_height 12 = .ok (.iconst 0, 1) := by decide +kernel
theorem dX10_height_13 : decode cX10_height 13 = .ok (.iload_n 1, 1) := by decide +kernel
theorem dX10_height_14 : decode cX10_height 14 = .ok (.iadd, 1) := by decide +kernel
theorem dX10_height_15 : decode cX10_height 15 = .ok (.iaload, 1) := by decide +kernel
theorem dX10_height_16 : decode cX10_height 16 = .ok (.goto 4, 3) := by decide +kernel
theorem dX10_height_19 : decode cX10_height 19 = .ok (.iconst (-1), 1) := by decide +kernel
theorem dX10_height_20 : decode cX10_height 20 = .ok (.ireturn, 1) := by decide +kernel
theorem dX10_tower_0 : decode cX10_tower 0 = .ok (.aload_n 0, 1) := by decide +kernel
theorem dX10_tower_1 : decode cX10_tower 1 = .ok (.aload_n 0, 1) := by decide +kernel
theorem dX10_tower_2 : decode cX10_tower 2 = .ok (.iload_n 1, 1) := by decide +kernel
theorem dX10_tower_3 : decode cX10_tower 3 = .ok (.invokevirtual 340, 3) := by decide +kernel
theorem dX10_tower_6 : decode cX10_tower 6 = .ok (.ifCond .eq 16, 3) := by decide +kernel
theorem dX10_tower_9 : decode cX10_tower 9 = .ok (.iload_n 2, 1) := by decide +kernel
theorem dX10_tower_10 : decode cX10_tower 10 = .ok (.iconst 0, 1) := by decide +kernel
theorem dX10_tower_11 : decode cX10_tower 11 = .ok (.iconst 5, 1) := by decide +kernel
theorem dX10_tower_12 : decode cX10_tower 12 = .ok (.invokestatic 217, 3) := by decide +kernel
theorem dX10_tower_15 : decode cX10_tower 15 = .ok (.ifCond .eq 7, 3) := by decide +kernel
theorem dX10_tower_18 : decode cX10_tower 18 = .ok (.iconst 0, 1) := by decide +kernel
theorem dX10_tower_19 : decode cX10_tower 19 = .ok (.goto 4, 3) := by decide +kernel
theorem dX10_tower_22 : decode cX10_tower 22 = .ok (.iconst 1, 1) := by decide +kernel
theorem dX10_tower_23 : decode cX10_tower 23 = .ok (.putfield 102, 3) := by decide +kernel
theorem dX10_tower_26 : decode cX10_tower 26 = .ok (.aload_n 0, 1) := by decide +kernel
theorem dX10_tower_27 : decode cX10_tower 27 = .ok (.getfield 102, 3) := by decide +kernel
theorem dX10_tower_30 : decode cX10_tower 30 = .ok (.iconst 1, 1) := by decide +kernel
theorem dX10_tower_31 : decode cX10_tower 31 = .ok (.if_icmp .ne 5, 3) := by decide +kernel
theorem dX10_tower_34 : decode cX10_tower 34 = .ok (.iconst 0, 1) := by decide +kernel
theorem dX10_tower_35 : decode cX10_tower 35 = .ok (.ireturn, 1) := by decide +kernel
theorem dX10_tower_36 : decode cX10_tower 36 = .ok (.iload_n 2, 1) := by decide +kernel
theorem dX10_tower_37 : decode cX10_tower 37 = .ok (.tableswitch 84 0 4 #[35, 45, 55, 66, 72], 35) := by decide +kernel
theorem dX10_tower_72 : decode cX10_tower 72 = .ok (.aload_n 0, 1) := by decide +kernel
theorem dX10_tower_73 : decode cX10_tower 73 = .ok (.getfield 61, 3) := by decide +kernel
theorem dX10_tower_76 : decode cX10_tower 76 = .ok (.bipush 30, 2) := by decide +kernel
theorem dX10_tower_78 : decode cX10_tower 78 = .ok (.iload_n 1, 1) := by decide +kernel
theorem dX10_tower_79 : decode cX10_tower 79 = .ok (.iadd, 1) := by decide +kernel
theorem dX10_tower_80 : decode cX10_tower 80 = .ok (.iaload, 1) := by decide +kernel
theorem dX10_tower_81 : decode cX10_tower 81 = .ok (.ireturn, 1) := by decide +kernel
theorem dX10_tower_82 : decode cX10_tower 82 = .ok (.aload_n 0, 1) := by decide +kernel
theorem dX10_tower_83 : decode cX10_tower 83 = .ok (.getfield 61, 3) := by decide +kernel
theorem dX10_tower_86 : decode cX10_tower 86 = .ok (.bipush 34, 2) := by decide +kernel
theorem dX10_tower_88 : decode cX10_tower 88 = .ok (.iload_n 1, 1) := by decide +kernel
theorem dX10_tower_89 : decode cX10_tower 89 = .ok (.iadd, 1) := by decide +kernel
theorem dX10_tower_90 : decode cX10_tower 90 = .ok (.iaload, 1) := by decide +kernel
theorem dX10_tower_91 : decode cX10_tower 91 = .ok (.ireturn, 1) := by decide +kernel
theorem dX10_tower_92 : decode cX10_tower 92 = .ok (.aload_n 0, 1) := by decide +kernel
theorem dX10_tower_93 : decode cX10_tower 93 = .ok (.getfield 58, 3) := by decide +kernel
theorem dX10_tower_96 : decode cX10_tower 96 = .ok (.iconst 4, 1) := by decide +kernel
theorem dX10_tower_97 : decode cX10_tower 97 = .ok (.iload_n 1, 1) := by decide +kernel
theorem dX10_tower_98 : decode cX10_tower 98 = .ok (.imul, 1) := by decide +kernel
theorem dX10_tower_99 : decode cX10_tower 99 = .ok (.iconst 3, 1) := by decide +kernel
theorem dX10_tower_100 : decode cX10_tower 100 = .ok (.iadd, 1) := by decide +kernel
theorem dX10_tower_101 : decode cX10_tower 101 = .ok (.iaload, 1) := by decide +kernel
theorem dX10_tower_102 : decode cX10_tower 102 = .ok (.ireturn, 1) := by decide +kernel
theorem dX10_tower_103 : decode cX10_tower 103 = .ok (.aload_n 0, 1) := by decide +kernel
theorem dX10_tower_104 : decode cX10_tower 104 = .ok (.iload_n 1, 1) := by decide +kernel
theorem dX10_tower_105 : decode cX10_tower 105 = .ok (.invokevirtual 318, 3) := by decide +kernel
theorem dX10_tower_108 : decode cX10_tower 108 = .ok (.ireturn, 1) := by decide +kernel
theorem dX10_tower_109 : decode cX10_tower 109 = .ok (.aload_n 0, 1) := by decide +kernel
theorem dX10_tower_110 : decode cX10_tower 110 = .ok (.getfield 61, 3) := by decide +kernel
theorem dX10_tower_113 : decode cX10_tower 113 = .ok (.bipush 38, 2) := by decide +kernel
theorem dX10_tower_115 : decode cX10_tower 115 = .ok (.iaload, 1) := by decide +kernel
theorem dX10_tower_116 : decode cX10_tower 116 = .ok (.iload_n 1, 1) := by decide +kernel
theorem dX10_tower_117 : decode cX10_tower 117 = .ok (.ishr, 1) := by decide +kernel
theorem dX10_tower_118 : decode cX10_tower 118 = .ok (.iconst 1, 1) := by decide +kernel
theorem dX10_tower_119 : decode cX10_tower 119 = .ok (.iand, 1) := by decide +kernel
theorem dX10_tower_120 : decode cX10_tower 120 = .ok (.ireturn, 1) := by decide +kernel
theorem dX10_tower_121 : decode cX10_tower 121 = .ok (.aload_n 0, 1) := by decide +kernel
theorem dX10_tower_122 : decode cX10_tower 122 = .ok (.iload_n 1, 1) := by decide +kernel
theorem dX10_tower_123 : decode cX10_tower 123 = .ok (.invokevirtual 328, 3) := by decide +kernel
theorem dX10_tower_126 : decode cX10_tower 126 = .ok (.invokestatic 343, 3) := by decide +kernel
theorem dX10_tower_129 : decode cX10_tower 129 = .ok (.ireturn, 1) := by decide +kernel
theorem dX10_law_0 : decode cX10_law 0 = .ok (.iload_n 1, 1) := by decide +kernel
theorem dX10_law_1 : decode cX10_law 1 = .ok (.iconst (-1), 1) := by decide +kernel
theorem dX10_law_2 : decode cX10_law 2 = .ok (.aload_n 0, 1) := by decide +kernel
theorem dX10_law_3 : decode cX10_law 3 = .ok (.getfield 286, 3) := by decide +kernel
theorem dX10_law_6 : decode cX10_law 6 = .ok (.iconst 1, 1) := by decide +kernel
theorem dX10_law_7 : decode cX10_law 7 = .ok (.isub, 1) := by decide +kernel
theorem dX10_law_8 : decode cX10_law 8 = .ok (.invokestatic 217, 3) := by decide +kernel
theorem dX10_law_11 : decode cX10_law 11 = .ok (.ifCond .ne 5, 3) := by decide +kernel
theorem dX10_law_14 : decode cX10_law 14 = .ok (.iconst 0, 1) := by decide +kernel
theorem dX10_law_15 : decode cX10_law 15 = .ok (.ireturn, 1) := by decide +kernel
theorem dX10_law_16 : decode cX10_law 16 = .ok (.aload_n 0, 1) := by decide +kernel
theorem dX10_law_17 : decode cX10_law 17 = .ok (.iload_n 1, 1) := by decide +kernel
theorem dX10_law_18 : decode cX10_law 18 = .ok (.putfield 67, 3) := by decide +kernel
theorem dX10_law_21 : decode cX10_law 21 = .ok (.iconst 1, 1) := by decide +kernel
theorem dX10_law_22 : decode cX10_law 22 = .ok (.ireturn, 1) := by decide +kernel
theorem dX10_keep_0 : decode cX10_keep 0 = .ok (.aload_n 0, 1) := by decide +kernel
theorem dX10_keep_1 : decode cX10_keep 1 = .ok (.getfield 276, 3) := by decide +kernel
theorem dX10_keep_4 : decode cX10_keep 4 = .ok (.bipush 40, 2) := by decide +kernel
theorem dX10_keep_6 : decode cX10_keep 6 = .ok (.if_icmp .ne 46, 3) := by decide +kernel
theorem dX10_keep_9 : decode cX10_keep 9 = .ok (.sipush 223, 3) := by decide +kernel
theorem dX10_keep_12 : decode cX10_keep 12 = .ok (.istore_n 1, 1) := by decide +kernel
theorem dX10_keep_13 : decode cX10_keep 13 = .ok (.iload_n 1, 1) := by decide +kernel
theorem dX10_keep_14 : decode cX10_keep 14 = .ok (.sipush 8920, 3) := by decide +kernel
theorem dX10_keep_17 : decode cX10_keep 17 = .ok (.if_icmp .ge 25, 3) := by decide +kernel
theorem dX10_keep_20 : decode cX10_keep 20 = .ok (.aload_n 0, 1) := by decide +kernel
theorem dX10_keep_21 : decode cX10_keep 21 = .ok (.getfield 74, 3) := by decide +kernel
theorem dX10_keep_24 : decode cX10_keep 24 = .ok (.iload_n 1, 1) := by decide +kernel
theorem dX10_keep_25 : decode cX10_keep 25 = .ok (.sipush 223, 3) := by decide +kernel
theorem dX10_keep_28 : decode cX10_keep 28 = .ok (.isub, 1) := by decide +kernel
theorem dX10_keep_29 : decode cX10_keep 29 = .ok (.aload_n 0, 1) := by decide +kernel
theorem dX10_keep_30 : decode cX10_keep 30 = .ok (.getfield 74, 3) := by decide +kernel
theorem dX10_keep_33 : decode cX10_keep 33 = .ok (.iload_n 1, 1) := by decide +kernel
theorem dX10_keep_34 : decode cX10_keep 34 = .ok (.iaload, 1) := by decide +kernel
theorem dX10_keep_35 : decode cX10_keep 35 = .ok (.iastore, 1) := by decide +kernel
theorem dX10_keep_36 : decode cX10_keep 36 = .ok (.iinc 1 1, 3) := by decide +kernel
theorem dX10_keep_39 : decode cX10_keep 39 = .ok (.goto (-26), 3) := by decide +kernel
theorem dX10_keep_42 : decode cX10_keep 42 = .ok (.aload_n 0, 1) := by decide +kernel
theorem dX10_keep_43 : decode cX10_keep 43 = .ok (.dup, 1) := by decide +kernel
theorem dX10_keep_44 : decode cX10_keep 44 = .ok (.getfield 276, 3) := by decide +kernel
theorem dX10_keep_47 : decode cX10_keep 47 = .ok (.iconst 1, 1) := by decide +kernel
theorem dX10_keep_48 : decode cX10_keep 48 = .ok (.isub, 1) := by decide +kernel
theorem dX10_keep_49 : decode cX10_keep 49 = .ok (.putfield 276, 3) := by decide +kernel
theorem dX10_keep_52 : decode cX10_keep 52 = .ok (.iconst 0, 1) := by decide +kernel
theorem dX10_keep_53 : decode cX10_keep 53 = .ok (.istore_n 1, 1) := by decide +kernel
theorem dX10_keep_54 : decode cX10_keep 54 = .ok (.iload_n 1, 1) := by decide +kernel
theorem dX10_keep_55 : decode cX10_keep 55 = .ok (.sipush 223, 3) := by decide +kernel
theorem dX10_keep_58 : decode cX10_keep 58 = .ok (.if_icmp .ge 30, 3) := by decide +kernel
theorem dX10_keep_61 : decode cX10_keep 61 = .ok (.aload_n 0, 1) := by decide +kernel
theorem dX10_keep_62 : decode cX10_keep 62 = .ok (.getfield 74, 3) := by decide +kernel
theorem dX10_keep_65 : decode cX10_keep 65 = .ok (.sipush 223, 3) := by decide +kernel
theorem dX10_keep_68 : decode cX10_keep 68 = .ok (.aload_n 0, 1) := by decide +kernel
theorem dX10_keep_69 : decode cX10_keep 69 = .ok (.getfield 276, 3) := by decide +kernel
theorem dX10_keep_72 : decode cX10_keep 72 = .ok (.imul, 1) := by decide +kernel
theorem dX10_keep_73 : decode cX10_keep 73 = .ok (.iload_n 1, 1) := by decide +kernel
theorem dX10_keep_74 : decode cX10_keep 74 = .ok (.iadd, 1) := by decide +kernel
theorem dX10_keep_75 : decode cX10_keep 75 = .ok (.aload_n 0, 1) := by decide +kernel
theorem dX10_keep_76 : decode cX10_keep 76 = .ok (.getfield 61, 3) := by decide +kernel
theorem dX10_keep_79 : decode cX10_keep 79 = .ok (.iload_n 1, 1) := by decide +kernel
theorem dX10_keep_80 : decode cX10_keep 80 = .ok (.iaload, 1) := by decide +kernel
theorem dX10_keep_81 : decode cX10_keep 81 = .ok (.iastore, 1) := by decide +kernel
theorem dX10_keep_82 : decode cX10_keep 82 = .ok (.iinc 1 1, 3) := by decide +kernel
theorem dX10_keep_85 : decode cX10_keep 85 = .ok (.goto (-31), 3) := by decide +kernel
theorem dX10_keep_88 : decode cX10_keep 88 = .ok (.aload_n 0, 1) := by decide +kernel
theorem dX10_keep_89 : decode cX10_keep 89 = .ok (.dup, 1) := by decide +kernel
theorem dX10_keep_90 : decode cX10_keep 90 = .ok (.getfield 276, 3) := by decide +kernel
theorem dX10_keep_93 : decode cX10_keep 93 = .ok (.iconst 1, 1) := by decide +kernel
theorem dX10_keep_94 : decode cX10_keep 94 = .ok (.iadd, 1) := by decide +kernel
theorem dX10_keep_95 : decode cX10_keep 95 = .ok (.putfield 276, 3) := by decide +kernel
theorem dX10_keep_98 : decode cX10_keep 98 = .ok (.return_, 1) := by decide +kernel
theorem dX10_isRefused_0 : decode cX10_isRefused 0 = .ok (.iload_n 1, 1) := by decide +kernel
theorem dX10_isRefused_1 : decode cX10_isRefused 1 = .ok (.iconst (-1), 1) := by decide +kernel
theorem dX10_isRefused_2 : decode cX10_isRefused 2 = .ok (.if_icmp .eq 13, 3) := by decide +kernel
theorem dX10_isRefused_5 : decode cX10_isRefused 5 = .ok (.aload_n 0, 1) := by decide +kernel
theorem dX10_isRefused_6 : decode cX10_isRefused 6 = .ok (.getfield 64, 3) := by decide +kernel
theorem dX10_isRefused_9 : decode cX10_isRefused 9 = .ok (.iload_n 1, 1) := by decide +kernel
theorem dX10_isRefused_10 : decode cX10_isRefused 10 = .ok (.dup2, 1) := by decide +kernel
theorem dX10_isRefused_11 : decode cX10_isRefused 11 = .ok (.iaload, 1) := by decide +kernel
theorem dX10_isRefused_12 : decode cX10_isRefused 12 = .ok (.iconst 1, 1) := by decide +kernel
theorem dX10_isRefused_13 : decode cX10_isRefused 13 = .ok (.iadd, 1) := by decide +kernel
theorem dX10_isRefused_14 : decode cX10_isRefused 14 = .ok (.iastore, 1) := by decide +kernel
theorem dX10_isRefused_15 : decode cX10_isRefused 15 = .ok (.iload_n 1, 1) := by decide +kernel
theorem dX10_isRefused_16 : decode cX10_isRefused 16 = .ok (.iconst (-1), 1) := by decide +kernel
theorem dX10_isRefused_17 : decode cX10_isRefused 17 = .ok (.if_icmp .eq 7, 3) := by decide +kernel
theorem dX10_isRefused_20 : decode cX10_isRefused 20 = .ok (.iconst 1, 1) := by decide +kernel
theorem dX10_isRefused_21 : decode cX10_isRefused 21 = .ok (.goto 4, 3) := by decide +kernel
theorem dX10_isRefused_24 : decode cX10_isRefused 24 = .ok (.iconst 0, 1) := by decide +kernel
theorem dX10_isRefused_25 : decode cX10_isRefused 25 = .ok (.ireturn, 1) := by decide +kernel
theorem dX10_passHour_0 : decode cX10_passHour 0 = .ok (.aload_n 0, 1) := by decide +kernel
theorem dX10_passHour_1 : decode cX10_passHour 1 = .ok (.getfield 61, 3) := by decide +kernel
theorem dX10_passHour_4 : decode cX10_passHour 4 = .ok (.bipush 42, 2) := by decide +kernel
theorem dX10_passHour_6 : decode cX10_passHour 6 = .ok (.iaload, 1) := by decide +kernel
theorem dX10_passHour_7 : decode cX10_passHour 7 = .ok (.bipush 60, 2) := by decide +kernel
theorem dX10_passHour_9 : decode cX10_passHour 9 = .ok (.if_icmp .ne 49, 3) := by decide +kernel
theorem dX10_passHour_12 : decode cX10_passHour 12 = .ok (.iconst 3, 1) := by decide +kernel
theorem dX10_passHour_13 : decode cX10_passHour 13 = .ok (.istore_n 1, 1) := by decide +kernel
theorem dX10_passHour_14 : decode cX10_passHour 14 = .ok (.iload_n 1, 1) := by decide +kernel
theorem dX10_passHour_15 : decode cX10_passHour 15 = .ok (.sipush 180, 3) := by decide +kernel
theorem dX10_passHour_18 : decode cX10_passHour 18 = .ok (.if_icmp .ge 29, 3) := by decide +kernel
theorem dX10_passHour_21 : decode cX10_passHour 21 = .ok (.aload_n 0, 1) := by decide +kernel
theorem dX10_passHour_22 : decode cX10_passHour 22 = .ok (.getfield 61, 3) := by decide +kernel
theorem dX10_passHour_25 : decode cX10_passHour 25 = .ok (.bipush 43, 2) := by decide +kernel
theorem dX10_passHour_27 : decode cX10_passHour 27 = .ok (.iload_n 1, 1) := by decide +kernel
theorem dX10_passHour_28 : decode cX10_passHour 28 = .ok (.iadd, 1) := by decide +kernel
theorem dX10_passHour_29 : decode cX10_passHour 29 = .ok (.iconst 3, 1) := by decide +kernel
theorem dX10_passHour_30 : decode cX10_passHour 30 = .ok (.isub, 1) := by decide +kernel
theorem dX10_passHour_31 : decode cX10_passHour 31 = .ok (.aload_n 0, 1) := by decide +kernel
theorem dX10_passHour_32 : decode cX10_passHour 32 = .ok (.getfield 61, 3) := by decide +kernel
theorem dX10_passHour_35 : decode cX10_passHour 35 = .ok (.bipush 43, 2) := by decide +kernel
theorem dX10_passHour_37 : decode cX10_passHour 37 = .ok (.iload_n 1, 1) := by decide +kernel
theorem dX10_passHour_38 : decode cX10_passHour 38 = .ok (.iadd, 1) := by decide +kernel
theorem dX10_passHour_39 : decode cX10_passHour 39 = .ok (.iaload, 1) := by decide +kernel
theorem dX10_passHour_40 : decode cX10_passHour 40 = .ok (.iastore, 1) := by decide +kernel
theorem dX10_passHour_41 : decode cX10_passHour 41 = .ok (.iinc 1 1, 3) := by decide +kernel
theorem dX10_passHour_44 : decode cX10_passHour 44 = .ok (.goto (-30), 3) := by decide +kernel
theorem dX10_passHour_47 : decode cX10_passHour 47 = .ok (.aload_n 0, 1) := by decide +kernel
theorem dX10_passHour_48 : decode cX10_passHour 48 = .ok (.getfield 61, 3) := by decide +kernel
theorem dX10_passHour_51 : decode cX10_passHour 51 = .ok (.bipush 42, 2) := by decide +kernel
theorem dX10_passHour_53 : decode cX10_passHour 53 = .ok (.dup2, 1) := by decide +kernel
theorem dX10_passHour_54 : decode cX10_passHour 54 = .ok (.iaload, 1) := by decide +kernel
theorem dX10_passHour_55 : decode cX10_passHour 55 = .ok (.iconst 1, 1) := by decide +kernel
theorem dX10_passHour_56 : decode cX10_passHour 56 = .ok (.isub, 1) := by decide +kernel
theorem dX10_passHour_57 : decode cX10_passHour 57 = .ok (.iastore, 1) := by decide +kernel
theorem dX10_passHour_58 : decode cX10_passHour 58 = .ok (.bipush 43, 2) := by decide +kernel
theorem dX10_passHour_60 : decode cX10_passHour 60 = .ok (.iconst 3, 1) := by decide +kernel
theorem dX10_passHour_61 : decode cX10_passHour 61 = .ok (.aload_n 0, 1) := by decide +kernel
theorem dX10_passHour_62 : decode cX10_passHour 62 = .ok (.getfield 61, 3) := by decide +kernel
theorem dX10_passHour_65 : decode cX10_passHour 65 = .ok (.bipush 42, 2) := by decide +kernel
theorem dX10_passHour_67 : decode cX10_passHour 67 = .ok (.iaload, 1) := by decide +kernel
theorem dX10_passHour_68 : decode cX10_passHour 68 = .ok (.imul, 1) := by decide +kernel
theorem dX10_passHour_69 : decode cX10_passHour 69 = .ok (.iadd, 1) := by decide +kernel
theorem dX10_passHour_70 : decode cX10_passHour 70 = .ok (.istore_n 1, 1) := by decide +kernel
theorem dX10_passHour_71 : decode cX10_passHour 71 = .ok (.aload_n 0, 1) := by decide +kernel
theorem dX10_passHour_72 : decode cX10_passHour 72 = .ok (.getfield 61, 3) := by decide +kernel
theorem dX10_passHour_75 : decode cX10_passHour 75 = .ok (.iload_n 1, 1) := by decide +kernel
theorem dX10_passHour_76 : decode cX10_passHour 76 = .ok (.aload_n 0, 1) := by decide +kernel
theorem dX10_passHour_77 : decode cX10_passHour 77 = .ok (.invokevirtual 348, 3) := by decide +kernel
theorem dX10_passHour_80 : decode cX10_passHour 80 = .ok (.invokestatic 343, 3) := by decide +kernel
theorem dX10_passHour_83 : decode cX10_passHour 83 = .ok (.iastore, 1) := by decide +kernel
theorem dX10_passHour_84 : decode cX10_passHour 84 = .ok (.aload_n 0, 1) := by decide +kernel
theorem dX10_passHour_85 : decode cX10_passHour 85 = .ok (.getfield 61, 3) := by decide +kernel
theorem dX10_passHour_88 : decode cX10_passHour 88 = .ok (.iload_n 1, 1) := by decide +kernel
theorem dX10_passHour_89 : decode cX10_passHour 89 = .ok (.iconst 1, 1) := by decide +kernel
theorem dX10_passHour_90 : decode cX10_passHour 90 = .ok (.iadd, 1) := by decide +kernel
theorem dX10_passHour_91 : decode cX10_passHour 91 = .ok (.aload_n 0, 1) := by decide +kernel
theorem dX10_passHour_92 : decode cX10_passHour 92 = .ok (.getfield 61, 3) := by decide +kernel
theorem dX10_passHour_95 : decode cX10_passHour 95 = .ok (.bipush 38, 2) := by decide +kernel
theorem dX10_passHour_97 : decode cX10_passHour 97 = .ok (.iaload, 1) := by decide +kernel
theorem dX10_passHour_98 : decode cX10_passHour 98 = .ok (.iastore, 1) := by decide +kernel
theorem dX10_passHour_99 : decode cX10_passHour 99 = .ok (.aload_n 0, 1) := by decide +kernel
theorem dX10_passHour_100 : decode cX10_passHour 100 = .ok (.getfield 61, 3) := by decide +kernel
theorem dX10_passHour_103 : decode cX10_passHour 103 = .ok (.iload_n 1, 1) := by decide +kernel
theorem dX10_passHour_104 : decode cX10_passHour 104 = .ok (.iconst 2, 1) := by decide +kernel
theorem dX10_passHour_105 : decode cX10_passHour 105 = .ok (.iadd, 1) := by decide +kernel
theorem dX10_passHour_106 : decode cX10_passHour 106 = .ok (.aload_n 0, 1) := by decide +kernel
theorem dX10_passHour_107 : decode cX10_passHour 107 = .ok (.getfield 61, 3) := by decide +kernel
theorem dX10_passHour_110 : decode cX10_passHour 110 = .ok (.bipush 39, 2) := by decide +kernel
theorem dX10_passHour_112 : decode cX10_passHour 112 = .ok (.iaload, 1) := by decide +kernel
theorem dX10_passHour_113 : decode cX10_passHour 113 = .ok (.iastore, 1) := by decide +kernel
theorem dX10_passHour_114 : decode cX10_passHour 114 = .ok (.aload_n 0, 1) := by decide +kernel
theorem dX10_passHour_115 : decode cX10_passHour 115 = .ok (.getfield 61, 3) := by decide +kernel
theorem dX10_passHour_118 : decode cX10_passHour 118 = .ok (.bipush 42, 2) := by decide +kernel
theorem dX10_passHour_120 : decode cX10_passHour 120 = .ok (.dup2, 1) := by decide +kernel
theorem dX10_passHour_121 : decode cX10_passHour 121 = .ok (.iaload, 1) := by decide +kernel
theorem dX10_passHour_122 : decode cX10_passHour 122 = .ok (.iconst 1, 1) := by decide +kernel
theorem dX10_passHour_123 : decode cX10_passHour 123 = .ok (.iadd, 1) := by decide +kernel
theorem dX10_passHour_124 : decode cX10_passHour 124 = .ok (.iastore, 1) := by decide +kernel
theorem dX10_passHour_125 : decode cX10_passHour 125 = .ok (.aload_n 0, 1) := by decide +kernel
theorem dX10_passHour_126 : decode cX10_passHour 126 = .ok (.getfield 61, 3) := by decide +kernel
theorem dX10_passHour_129 : decode cX10_passHour 129 = .ok (.bipush 39, 2) := by decide +kernel
theorem dX10_passHour_131 : decode cX10_passHour 131 = .ok (.iconst 0, 1) := by decide +kernel
theorem dX10_passHour_132 : decode cX10_passHour 132 = .ok (.aload_n 0, 1) := by decide +kernel
theorem dX10_passHour_133 : decode cX10_passHour 133 = .ok (.getfield 61, 3) := by decide +kernel
theorem dX10_passHour_136 : decode cX10_passHour 136 = .ok (.bipush 39, 2) := by decide +kernel
theorem dX10_passHour_138 : decode cX10_passHour 138 = .ok (.iaload, 1) := by decide +kernel
theorem dX10_passHour_139 : decode cX10_passHour 139 = .ok (.iconst 1, 1) := by decide +kernel
theorem dX10_passHour_140 : decode cX10_passHour 140 = .ok (.isub, 1) := by decide +kernel
theorem dX10_passHour_141 : decode cX10_passHour 141 = .ok (.invokestatic 301, 3) := by decide +kernel
theorem dX10_passHour_144 : decode cX10_passHour 144 = .ok (.iastore, 1) := by decide +kernel
theorem dX10_passHour_145 : decode cX10_passHour 145 = .ok (.aload_n 0, 1) := by decide +kernel
theorem dX10_passHour_146 : decode cX10_passHour 146 = .ok (.getfield 61, 3) := by decide +kernel
theorem dX10_passHour_149 : decode cX10_passHour 149 = .ok (.bipush 40, 2) := by decide +kernel
theorem dX10_passHour_151 : decode cX10_passHour 151 = .ok (.sipush 999, 3) := by decide +kernel
theorem dX10_passHour_154 : decode cX10_passHour 154 = .ok (.aload_n 0, 1) := by decide +kernel
theorem dX10_passHour_155 : decode cX10_passHour 155 = .ok (.getfield 61, 3) := by decide +kernel
theorem dX10_passHour_158 : decode cX10_passHour 158 = .ok (.bipush 40, 2) := by decide +kernel
theorem dX10_passHour_160 : decode cX10_passHour 160 = .ok (.iaload, 1) := by decide +kernel
theorem dX10_passHour_161 : decode cX10_passHour 161 = .ok (.iconst 1, 1) := by decide +kernel
theorem dX10_passHour_162 : decode cX10_passHour 162 = .ok (.iadd, 1) := by decide +kernel
theorem dX10_passHour_163 : decode cX10_passHour 163 = .ok (.invokestatic 309, 3) := by decide +kernel
theorem dX10_passHour_166 : decode cX10_passHour 166 = .ok (.iastore, 1) := by decide +kernel
theorem dX10_passHour_167 : decode cX10_passHour 167 = .ok (.aload_n 0, 1) := by decide +kernel
theorem dX10_passHour_168 : decode cX10_passHour 168 = .ok (.getfield 61, 3) := by decide +kernel
theorem dX10_passHour_171 : decode cX10_passHour 171 = .ok (.bipush 41, 2) := by decide +kernel
theorem dX10_passHour_173 : decode cX10_passHour 173 = .ok (.dup2, 1) := by decide +kernel
theorem dX10_passHour_174 : decode cX10_passHour 174 = .ok (.iaload, 1) := by decide +kernel
theorem dX10_passHour_175 : decode cX10_passHour 175 = .ok (.iconst 1, 1) := by decide +kernel
theorem dX10_passHour_176 : decode cX10_passHour 176 = .ok (.iadd, 1) := by decide +kernel
theorem dX10_passHour_177 : decode cX10_passHour 177 = .ok (.iastore, 1) := by decide +kernel
theorem dX10_passHour_178 : decode cX10_passHour 178 = .ok (.return_, 1) := by decide +kernel
theorem dX10_areHours_0 : decode cX10_areHours 0 = .ok (.iload_n 1, 1) := by decide +kernel
theorem dX10_areHours_1 : decode cX10_areHours 1 = .ok (.iconst 1, 1) := by decide +kernel
theorem dX10_areHours_2 : decode cX10_areHours 2 = .ok (.bipush 60, 2) := by decide +kernel
theorem dX10_areHours_4 : decode cX10_areHours 4 = .ok (.invokestatic 217, 3) := by decide +kernel
theorem dX10_areHours_7 : decode cX10_areHours 7 = .ok (.ifCond .eq 22, 3) := by decide +kernel
theorem dX10_areHours_10 : decode cX10_areHours 10 = .ok (.aload_n 0, 1) := by decide +kernel
theorem dX10_areHours_11 : decode cX10_areHours 11 = .ok (.getfield 61, 3) := by decide +kernel
theorem dX10_areHours_14 : decode cX10_areHours 14 = .ok (.bipush 41, 2) := by decide +kernel
theorem dX10_areHours_16 : decode cX10_areHours 16 = .ok (.iaload, 1) := by decide +kernel
theorem dX10_areHours_17 : decode cX10_areHours 17 = .ok (.iload_n 1, 1) := by decide +kernel
theorem dX10_areHours_18 : decode cX10_areHours 18 = .ok (.iadd, 1) := by decide +kernel
theorem dX10_areHours_19 : decode cX10_areHours 19 = .ok (.sipush 9999, 3) := by decide +kernel
theorem dX10_areHours_22 : decode cX10_areHours 22 = .ok (.if_icmp .gt 7, 3) := by decide +kernel
theorem dX10_areHours_25 : decode cX10_areHours 25 = .ok (.iconst 1, 1) := by decide +kernel
theorem dX10_areHours_26 : decode cX10_areHours 26 = .ok (.goto 4, 3) := by decide +kernel
theorem dX10_areHours_29 : decode cX10_areHours 29 = .ok (.iconst 0, 1) := by decide +kernel
theorem dX10_areHours_30 : decode cX10_areHours 30 = .ok (.ireturn, 1) := by decide +kernel
theorem dX10_hours_0 : decode cX10_hours 0 = .ok (.aload_n 0, 1) := by decide +kernel
theorem dX10_hours_1 : decode cX10_hours 1 = .ok (.aload_n 0, 1) := by decide +kernel
theorem dX10_hours_2 : decode cX10_hours 2 = .ok (.getfield 264, 3) := by decide +kernel
theorem dX10_hours_5 : decode cX10_hours 5 = .ok (.ifCond .ne 7, 3) := by decide +kernel
theorem dX10_hours_8 : decode cX10_hours 8 = .ok (.iconst 0, 1) := by decide +kernel
theorem dX10_hours_9 : decode cX10_hours 9 = .ok (.goto 30, 3) := by decide +kernel
theorem dX10_hours_12 : decode cX10_hours 12 = .ok (.iload_n 1, 1) := by decide +kernel
theorem dX10_hours_13 : decode cX10_hours 13 = .ok (.iconst 1, 1) := by decide +kernel
theorem dX10_hours_14 : decode cX10_hours 14 = .ok (.bipush 60, 2) := by decide +kernel
theorem dX10_hours_16 : decode cX10_hours 16 = .ok (.invokestatic 217, 3) := by decide +kernel
theorem dX10_hours_19 : decode cX10_hours 19 = .ok (.ifCond .ne 7, 3) := by decide +kernel
theorem dX10_hours_22 : decode cX10_hours 22 = .ok (.iconst 1, 1) := by decide +kernel
theorem dX10_hours_23 : decode cX10_hours 23 = .ok (.goto 16, 3) := by decide +kernel
theorem dX10_hours_26 : decode cX10_hours 26 = .ok (.aload_n 0, 1) := by decide +kernel
theorem dX10_hours_27 : decode cX10_hours 27 = .ok (.iload_n 1, 1) := by decide +kernel
theorem dX10_hours_28 : decode cX10_hours 28 = .ok (.invokevirtual 351, 3) := by decide +kernel
theorem dX10_hours_31 : decode cX10_hours 31 = .ok (.ifCond .ne 7, 3) := by decide +kernel
theorem dX10_hours_34 : decode cX10_hours 34 = .ok (.iconst 4, 1) := by decide +kernel
theorem dX10_hours_35 : decode cX10_hours 35 = .ok (.goto 4, 3) := by decide +kernel
theorem dX10_hours_38 : decode cX10_hours 38 = .ok (.iconst (-1), 1) := by decide +kernel
theorem dX10_hours_39 : decode cX10_hours 39 = .ok (.invokevirtual 354, 3) := by decide +kernel
theorem dX10_hours_42 : decode cX10_hours 42 = .ok (.ifCond .eq 5, 3) := by decide +kernel
theorem dX10_hours_45 : decode cX10_hours 45 = .ok (.iconst (-1), 1) := by decide +kernel
theorem dX10_hours_46 : decode cX10_hours 46 = .ok (.ireturn, 1) := by decide +kernel
theorem dX10_hours_47 : decode cX10_hours 47 = .ok (.iconst 0, 1) := by decide +kernel
theorem dX10_hours_48 : decode cX10_hours 48 = .ok (.istore_n 2, 1) := by decide +kernel
theorem dX10_hours_49 : decode cX10_hours 49 = .ok (.iload_n 2, 1) := by decide +kernel
theorem dX10_hours_50 : decode cX10_hours 50 = .ok (.iload_n 1, 1) := by decide +kernel
theorem dX10_hours_51 : decode cX10_hours 51 = .ok (.if_icmp .ge 17, 3) := by decide +kernel
theorem dX10_hours_54 : decode cX10_hours 54 = .ok (.aload_n 0, 1) := by decide +kernel
theorem dX10_hours_55 : decode cX10_hours 55 = .ok (.invokevirtual 357, 3) := by decide +kernel
theorem dX10_hours_58 : decode cX10_hours 58 = .ok (.aload_n 0, 1) := by decide +kernel
theorem dX10_hours_59 : decode cX10_hours 59 = .ok (.invokevirtual 360, 3) := by decide +kernel
theorem dX10_hours_62 : decode cX10_hours 62 = .ok (.iinc 2 1, 3) := by decide +kernel
theorem dX10_hours_65 : decode cX10_hours 65 = .ok (.goto (-16), 3) := by decide +kernel
theorem dX10_hours_68 : decode cX10_hours 68 = .ok (.aload_n 0, 1) := by decide +kernel
theorem dX10_hours_69 : decode cX10_hours 69 = .ok (.getfield 61, 3) := by decide +kernel
theorem dX10_hours_72 : decode cX10_hours 72 = .ok (.bipush 41, 2) := by decide +kernel
theorem dX10_hours_74 : decode cX10_hours 74 = .ok (.iaload, 1) := by decide +kernel
theorem dX10_hours_75 : decode cX10_hours 75 = .ok (.ireturn, 1) := by decide +kernel
theorem dX10_heapBy_0 : decode cX10_heapBy 0 = .ok (.aload_n 0, 1) := by decide +kernel
theorem dX10_heapBy_1 : decode cX10_heapBy 1 = .ok (.aload_n 0, 1) := by decide +kernel
theorem dX10_heapBy_2 : decode cX10_heapBy 2 = .ok (.iload_n 1, 1) := by decide +kernel
theorem dX10_heapBy_3 : decode cX10_heapBy 3 = .ok (.invokevirtual 337, 3) := by decide +kernel
theorem dX10_heapBy_6 : decode cX10_heapBy 6 = .ok (.ifCond .ne 7, 3) := by decide +kernel
theorem dX10_heapBy_9 : decode cX10_heapBy 9 = .ok (.iconst 0, 1) := by decide +kernel
theorem dX10_heapBy_10 : decode cX10_heapBy 10 = .ok (.goto 35, 3) := by decide +kernel
theorem dX10_heapBy_13 : decode cX10_heapBy 13 = .ok (.aload_n 0, 1) := by decide +kernel
theorem dX10_heapBy_14 : decode cX10_heapBy 14 = .ok (.getfield 61, 3) := by decide +kernel
theorem dX10_heapBy_17 : decode cX10_heapBy 17 = .ok (.iconst 0, 1) := by decide +kernel
theorem dX10_heapBy_18 : decode cX10_heapBy 18 = .ok (.iload_n 1, 1) := by decide +kernel
theorem dX10_heapBy_19 : decode cX10_heapBy 19 = .ok (.iadd, 1) := by decide +kernel
theorem dX10_heapBy_20 : decode cX10_heapBy 20 = .ok (.iaload, 1) := by decide +kernel
theorem dX10_heapBy_21 : decode cX10_heapBy 21 = .ok (.iload_n 2, 1) := by decide +kernel
theorem dX10_heapBy_22 : decode cX10_heapBy 22 = .ok (.if_icmp .ne 7, 3) := by decide +kernel
theorem dX10_heapBy_25 : decode cX10_heapBy 25 = .ok (.iconst 2, 1) := by decide +kernel
theorem dX10_heapBy_26 : decode cX10_heapBy 26 = .ok (.goto 19, 3) := by decide +kernel
theorem dX10_heapBy_29 : decode cX10_heapBy 29 = .ok (.aload_n 0, 1) := by decide +kernel
theorem dX10_heapBy_30 : decode cX10_heapBy 30 = .ok (.getfield 61, 3) := by decide +kernel
theorem dX10_heapBy_33 : decode cX10_heapBy 33 = .ok (.bipush 40, 2) := by decide +kernel
theorem dX10_heapBy_35 : decode cX10_heapBy 35 = .ok (.iaload, 1) := by decide +kernel
theorem dX10_heapBy_36 : decode cX10_heapBy 36 = .ok (.iconst 1, 1) := by decide +kernel
theorem dX10_heapBy_37 : decode cX10_heapBy 37 = .ok (.if_icmp .ge 7, 3) := by decide +kernel
theorem dX10_heapBy_40 : decode cX10_heapBy 40 = .ok (.iconst 3, 1) := by decide +kernel
theorem dX10_heapBy_41 : decode cX10_heapBy 41 = .ok (.goto 4, 3) := by decide +kernel
theorem dX10_heapBy_44 : decode cX10_heapBy 44 = .ok (.iconst (-1), 1) := by decide +kernel
theorem dX10_heapBy_45 : decode cX10_heapBy 45 = .ok (.invokevirtual 354, 3) := by decide +kernel
theorem dX10_heapBy_48 : decode cX10_heapBy 48 = .ok (.ifCond .eq 5, 3) := by decide +kernel
theorem dX10_heapBy_51 : decode cX10_heapBy 51 = .ok (.iconst (-1), 1) := by decide +kernel
theorem dX10_heapBy_52 : decode cX10_heapBy 52 = .ok (.ireturn, 1) := by decide +kernel
theorem dX10_heapBy_53 : decode cX10_heapBy 53 = .ok (.aload_n 0, 1) := by decide +kernel
theorem dX10_heapBy_54 : decode cX10_heapBy 54 = .ok (.invokevirtual 357, 3) := by decide +kernel
theorem dX10_heapBy_57 : decode cX10_heapBy 57 = .ok (.aload_n 0, 1) := by decide +kernel
theorem dX10_heapBy_58 : decode cX10_heapBy 58 = .ok (.getfield 61, 3) := by decide +kernel
theorem dX10_heapBy_61 : decode cX10_heapBy 61 = .ok (.bipush 40, 2) := by decide +kernel
theorem dX10_heapBy_63 : decode cX10_heapBy 63 = .ok (.dup2, 1) := by decide +kernel
theorem dX10_heapBy_64 : decode cX10_heapBy 64 = .ok (.iaload, 1) := by decide +kernel
theorem dX10_heapBy_65 : decode cX10_heapBy 65 = .ok (.iconst 1, 1) := by decide +kernel
theorem dX10_heapBy_66 : decode cX10_heapBy 66 = .ok (.isub, 1) := by decide +kernel
theorem dX10_heapBy_67 : decode cX10_heapBy 67 = .ok (.iastore, 1) := by decide +kernel
theorem dX10_heapBy_68 : decode cX10_heapBy 68 = .ok (.aload_n 0, 1) := by decide +kernel
theorem dX10_heapBy_69 : decode cX10_heapBy 69 = .ok (.getfield 61, 3) := by decide +kernel
theorem dX10_heapBy_72 : decode cX10_heapBy 72 = .ok (.iconst 0, 1) := by decide +kernel
theorem dX10_heapBy_73 : decode cX10_heapBy 73 = .ok (.iload_n 1, 1) := by decide +kernel
theorem dX10_heapBy_74 : decode cX10_heapBy 74 = .ok (.iadd, 1) := by decide +kernel
theorem dX10_heapBy_75 : decode cX10_heapBy 75 = .ok (.dup2, 1) := by decide +kernel
theorem dX10_heapBy_76 : decode cX10_heapBy 76 = .ok (.iaload, 1) := by decide +kernel
theorem dX10_heapBy_77 : decode cX10_heapBy 77 = .ok (.iload_n 3, 1) := by decide +kernel
theorem dX10_heapBy_78 : decode cX10_heapBy 78 = .ok (.iadd, 1) := by decide +kernel
theorem dX10_heapBy_79 : decode cX10_heapBy 79 = .ok (.iastore, 1) := by decide +kernel
theorem dX10_heapBy_80 : decode cX10_heapBy 80 = .ok (.aload_n 0, 1) := by decide +kernel
theorem dX10_heapBy_81 : decode cX10_heapBy 81 = .ok (.getfield 61, 3) := by decide +kernel
theorem dX10_heapBy_84 : decode cX10_heapBy 84 = .ok (.iconst 0, 1) := by decide +kernel
theorem dX10_heapBy_85 : decode cX10_heapBy 85 = .ok (.iload_n 1, 1) := by decide +kernel
theorem dX10_heapBy_86 : decode cX10_heapBy 86 = .ok (.iadd, 1) := by decide +kernel
theorem dX10_heapBy_87 : decode cX10_heapBy 87 = .ok (.iaload, 1) := by decide +kernel
theorem dX10_heapBy_88 : decode cX10_heapBy 88 = .ok (.ireturn, 1) := by decide +kernel
theorem dX10_heap_0 : decode cX10_heap 0 = .ok (.aload_n 0, 1) := by decide +kernel
theorem dX10_heap_1 : decode cX10_heap 1 = .ok (.iload_n 1, 1) := by decide +kernel
theorem dX10_heap_2 : decode cX10_heap 2 = .ok (.bipush 9, 2) := by decide +kernel
theorem dX10_heap_4 : decode cX10_heap 4 = .ok (.iconst 1, 1) := by decide +kernel
theorem dX10_heap_5 : decode cX10_heap 5 = .ok (.invokevirtual 363, 3) := by decide +kernel
theorem dX10_heap_8 : decode cX10_heap 8 = .ok (.ireturn, 1) := by decide +kernel
theorem dX10_dig_0 : decode cX10_dig 0 = .ok (.aload_n 0, 1) := by decide +kernel
theorem dX10_dig_1 : decode cX10_dig 1 = .ok (.iload_n 1, 1) := by decide +kernel
theorem dX10_dig_2 : decode cX10_dig 2 = .ok (.iconst 0, 1) := by decide +kernel
theorem dX10_dig_3 : decode cX10_dig 3 = .ok (.iconst (-1), 1) := by decide +kernel
theorem dX10_dig_4 : decode cX10_dig 4 = .ok (.invokevirtual 363, 3) := by decide +kernel
theorem dX10_dig_7 : decode cX10_dig 7 = .ok (.ireturn, 1) := by decide +kernel
theorem dX10_mast_0 : decode cX10_mast 0 = .ok (.aload_n 0, 1) := by decide +kernel
theorem dX10_mast_1 : decode cX10_mast 1 = .ok (.aload_n 0, 1) := by decide +kernel
theorem dX10_mast_2 : decode cX10_mast 2 = .ok (.iload_n 1, 1) := by decide +kernel
theorem dX10_mast_3 : decode cX10_mast 3 = .ok (.invokevirtual 340, 3) := by decide +kernel
theorem dX10_mast_6 : decode cX10_mast 6 = .ok (.ifCond .ne 7, 3) := by decide +kernel
theorem dX10_mast_9 : decode cX10_mast 9 = .ok (.iconst 0, 1) := by decide +kernel
theorem dX10_mast_10 : decode cX10_mast 10 = .ok (.goto 37, 3) := by decide +kernel
theorem dX10_mast_13 : decode cX10_mast 13 = .ok (.aload_n 0, 1) := by decide +kernel
theorem dX10_mast_14 : decode cX10_mast 14 = .ok (.getfield 61, 3) := by decide +kernel
theorem dX10_mast_17 : decode cX10_mast 17 = .ok (.bipush 34, 2) := by decide +kernel
theorem dX10_mast_19 : decode cX10_mast 19 = .ok (.iload_n 1, 1) := by decide +kernel
theorem dX10_mast_20 : decode cX10_mast 20 = .ok (.iadd, 1) := by decide +kernel
theorem dX10_mast_21 : decode cX10_mast 21 = .ok (.iaload, 1) := by decide +kernel
theorem dX10_mast_22 : decode cX10_mast 22 = .ok (.bipush 9, 2) := by decide +kernel
theorem dX10_mast_24 : decode cX10_mast 24 = .ok (.if_icmp .ne 7, 3) := by decide +kernel
theorem dX10_mast_27 : decode cX10_mast 27 = .ok (.iconst 2, 1) := by decide +kernel
theorem dX10_mast_28 : decode cX10_mast 28 = .ok (.goto 19, 3) := by decide +kernel
theorem dX10_mast_31 : decode cX10_mast 31 = .ok (.aload_n 0, 1) := by decide +kernel
theorem dX10_mast_32 : decode cX10_mast 32 = .ok (.getfield 61, 3) := by decide +kernel
theorem dX10_mast_35 : decode cX10_mast 35 = .ok (.bipush 40, 2) := by decide +kernel
theorem dX10_mast_37 : decode cX10_mast 37 = .ok (.iaload, 1) := by decide +kernel
theorem dX10_mast_38 : decode cX10_mast 38 = .ok (.iconst 2, 1) := by decide +kernel
theorem dX10_mast_39 : decode cX10_mast 39 = .ok (.if_icmp .ge 7, 3) := by decide +kernel
theorem dX10_mast_42 : decode cX10_mast 42 = .ok (.iconst 3, 1) := by decide +kernel
theorem dX10_mast_43 : decode cX10_mast 43 = .ok (.goto 4, 3) := by decide +kernel
theorem dX10_mast_46 : decode cX10_mast 46 = .ok (.iconst (-1), 1) := by decide +kernel
theorem dX10_mast_47 : decode cX10_mast 47 = .ok (.invokevirtual 354, 3) := by decide +kernel
theorem dX10_mast_50 : decode cX10_mast 50 = .ok (.ifCond .eq 5, 3) := by decide +kernel
theorem dX10_mast_53 : decode cX10_mast 53 = .ok (.iconst (-1), 1) := by decide +kernel
theorem dX10_mast_54 : decode cX10_mast 54 = .ok (.ireturn, 1) := by decide +kernel
theorem dX10_mast_55 : decode cX10_mast 55 = .ok (.aload_n 0, 1) := by decide +kernel
theorem dX10_mast_56 : decode cX10_mast 56 = .ok (.invokevirtual 357, 3) := by decide +kernel
theorem dX10_mast_59 : decode cX10_mast 59 = .ok (.aload_n 0, 1) := by decide +kernel
theorem dX10_mast_60 : decode cX10_mast 60 = .ok (.getfield 61, 3) := by decide +kernel
theorem dX10_mast_63 : decode cX10_mast 63 = .ok (.bipush 40, 2) := by decide +kernel
theorem dX10_mast_65 : decode cX10_mast 65 = .ok (.dup2, 1) := by decide +kernel
theorem dX10_mast_66 : decode cX10_mast 66 = .ok (.iaload, 1) := by decide +kernel
theorem dX10_mast_67 : decode cX10_mast 67 = .ok (.iconst 2, 1) := by decide +kernel
theorem dX10_mast_68 : decode cX10_mast 68 = .ok (.isub, 1) := by decide +kernel
theorem dX10_mast_69 : decode cX10_mast 69 = .ok (.iastore, 1) := by decide +kernel
theorem dX10_mast_70 : decode cX10_mast 70 = .ok (.aload_n 0, 1) := by decide +kernel
theorem dX10_mast_71 : decode cX10_mast 71 = .ok (.getfield 61, 3) := by decide +kernel
theorem dX10_mast_74 : decode cX10_mast 74 = .ok (.bipush 34, 2) := by decide +kernel
theorem dX10_mast_76 : decode cX10_mast 76 = .ok (.iload_n 1, 1) := by decide +kernel
theorem dX10_mast_77 : decode cX10_mast 77 = .ok (.iadd, 1) := by decide +kernel
theorem dX10_mast_78 : decode cX10_mast 78 = .ok (.dup2, 1) := by decide +kernel
theorem dX10_mast_79 : decode cX10_mast 79 = .ok (.iaload, 1) := by decide +kernel
theorem dX10_mast_80 : decode cX10_mast 80 = .ok (.iconst 1, 1) := by decide +kernel
theorem dX10_mast_81 : decode cX10_mast 81 = .ok (.iadd, 1) := by decide +kernel
theorem dX10_mast_82 : decode cX10_mast 82 = .ok (.iastore, 1) := by decide +kernel
theorem dX10_mast_83 : decode cX10_mast 83 = .ok (.aload_n 0, 1) := by decide +kernel
theorem dX10_mast_84 : decode cX10_mast 84 = .ok (.getfield 61, 3) := by decide +kernel
theorem dX10_mast_87 : decode cX10_mast 87 = .ok (.bipush 34, 2) := by decide +kernel
theorem dX10_mast_89 : decode cX10_mast 89 = .ok (.iload_n 1, 1) := by decide +kernel
theorem dX10_mast_90 : decode cX10_mast 90 = .ok (.iadd, 1) := by decide +kernel
theorem dX10_mast_91 : decode cX10_mast 91 = .ok (.iaload, 1) := by decide +kernel
theorem dX10_mast_92 : decode cX10_mast 92 = .ok (.ireturn, 1) := by decide +kernel
theorem dX10_moves_0 : decode cX10_moves 0 = .ok (.aload_n 0, 1) := by decide +kernel
theorem dX10_moves_1 : decode cX10_moves 1 = .ok (.aload_n 0, 1) := by decide +kernel
theorem dX10_moves_2 : decode cX10_moves 2 = .ok (.iload_n 1, 1) := by decide +kernel
theorem dX10_moves_3 : decode cX10_moves 3 = .ok (.invokevirtual 340, 3) := by decide +kernel
theorem dX10_moves_6 : decode cX10_moves 6 = .ok (.ifCond .ne 7, 3) := by decide +kernel
theorem dX10_moves_9 : decode cX10_moves 9 = .ok (.iconst 0, 1) := by decide +kernel
theorem dX10_moves_10 : decode cX10_moves 10 = .ok (.goto 48, 3) := by decide +kernel
theorem dX10_moves_13 : decode cX10_moves 13 = .ok (.aload_n 0, 1) := by decide +kernel
theorem dX10_moves_14 : decode cX10_moves 14 = .ok (.iload_n 2, 1) := by decide +kernel
theorem dX10_moves_15 : decode cX10_moves 15 = .ok (.invokevirtual 337, 3) := by decide +kernel
theorem dX10_moves_18 : decode cX10_moves 18 = .ok (.ifCond .ne 7, 3) := by decide +kernel
theorem dX10_moves_21 : decode cX10_moves 21 = .ok (.iconst 1, 1) := by decide +kernel
theorem dX10_moves_22 : decode cX10_moves 22 = .ok (.goto 36, 3) := by decide +kernel
theorem dX10_moves_25 : decode cX10_moves 25 = .ok (.aload_n 0, 1) := by decide +kernel
theorem dX10_moves_26 : decode cX10_moves 26 = .ok (.getfield 61, 3) := by decide +kernel
theorem dX10_moves_29 : decode cX10_moves 29 = .ok (.bipush 30, 2) := by decide +kernel
theorem dX10_moves_31 : decode cX10_moves 31 = .ok (.iload_n 1, 1) := by decide +kernel
theorem dX10_moves_32 : decode cX10_moves 32 = .ok (.iadd, 1) := by decide +kernel
theorem dX10_moves_33 : decode cX10_moves 33 = .ok (.iaload, 1) := by decide +kernel
theorem dX10_moves_34 : decode cX10_moves 34 = .ok (.iload_n 2, 1) := by decide +kernel
theorem dX10_moves_35 : decode cX10_moves 35 = .ok (.if_icmp .ne 7, 3) := by decide +kernel
theorem dX10_moves_38 : decode cX10_moves 38 = .ok (.iconst 2, 1) := by decide +kernel
theorem dX10_moves_39 : decode cX10_moves 39 = .ok (.goto 19, 3) := by decide +kernel
theorem dX10_moves_42 : decode cX10_moves 42 = .ok (.aload_n 0, 1) := by decide +kernel
theorem dX10_moves_43 : decode cX10_moves 43 = .ok (.getfield 61, 3) := by decide +kernel
theorem dX10_moves_46 : decode cX10_moves 46 = .ok (.bipush 40, 2) := by decide +kernel
theorem dX10_moves_48 : decode cX10_moves 48 = .ok (.iaload, 1) := by decide +kernel
theorem dX10_moves_49 : decode cX10_moves 49 = .ok (.iconst 3, 1) := by decide +kernel
theorem dX10_moves_50 : decode cX10_moves 50 = .ok (.if_icmp .ge 7, 3) := by decide +kernel
theorem dX10_moves_53 : decode cX10_moves 53 = .ok (.iconst 3, 1) := by decide +kernel
theorem dX10_moves_54 : decode cX10_moves 54 = .ok (.goto 4, 3) := by decide +kernel
theorem dX10_moves_57 : decode cX10_moves 57 = .ok (.iconst (-1), 1) := by decide +kernel
theorem dX10_moves_58 : decode cX10_moves 58 = .ok (.invokevirtual 354, 3) := by decide +kernel
theorem dX10_moves_61 : decode cX10_moves 61 = .ok (.ifCond .eq 5, 3) := by decide +kernel
theorem dX10_moves_64 : decode cX10_moves 64 = .ok (.iconst (-1), 1) := by decide +kernel
theorem dX10_moves_65 : decode cX10_moves 65 = .ok (.ireturn, 1) := by decide +kernel
theorem dX10_moves_66 : decode cX10_moves 66 = .ok (.aload_n 0, 1) := by decide +kernel
theorem dX10_moves_67 : decode cX10_moves 67 = .ok (.invokevirtual 357, 3) := by decide +kernel
theorem dX10_moves_70 : decode cX10_moves 70 = .ok (.aload_n 0, 1) := by decide +kernel
theorem dX10_moves_71 : decode cX10_moves 71 = .ok (.getfield 61, 3) := by decide +kernel
theorem dX10_moves_74 : decode cX10_moves 74 = .ok (.bipush 30, 2) := by decide +kernel
theorem dX10_moves_76 : decode cX10_moves 76 = .ok (.iload_n 1, 1) := by decide +kernel
theorem dX10_moves_77 : decode cX10_moves 77 = .ok (.iadd, 1) := by decide +kernel
theorem dX10_moves_78 : decode cX10_moves 78 = .ok (.iaload, 1) := by decide +kernel
theorem dX10_moves_79 : decode cX10_moves 79 = .ok (.istore_n 3, 1) := by decide +kernel
theorem dX10_moves_80 : decode cX10_moves 80 = .ok (.aload_n 0, 1) := by decide +kernel
theorem dX10_moves_81 : decode cX10_moves 81 = .ok (.getfield 61, 3) := by decide +kernel
theorem dX10_moves_84 : decode cX10_moves 84 = .ok (.bipush 40, 2) := by decide +kernel
theorem dX10_moves_86 : decode cX10_moves 86 = .ok (.dup2, 1) := by decide +kernel
theorem dX10_moves_87 : decode cX10_moves 87 = .ok (.iaload, 1) := by decide +kernel
theorem dX10_moves_88 : decode cX10_moves 88 = .ok (.iconst 3, 1) := by decide +kernel
theorem dX10_moves_89 : decode cX10_moves 89 = .ok (.isub, 1) := by decide +kernel
theorem dX10_moves_90 : decode cX10_moves 90 = .ok (.iastore, 1) := by decide +kernel
theorem dX10_moves_91 : decode cX10_moves 91 = .ok (.aload_n 0, 1) := by decide +kernel
theorem dX10_moves_92 : decode cX10_moves 92 = .ok (.getfield 61, 3) := by decide +kernel
theorem dX10_moves_95 : decode cX10_moves 95 = .ok (.bipush 30, 2) := by decide +kernel
theorem dX10_moves_97 : decode cX10_moves 97 = .ok (.iload_n 1, 1) := by decide +kernel
theorem dX10_moves_98 : decode cX10_moves 98 = .ok (.iadd, 1) := by decide +kernel
theorem dX10_moves_99 : decode cX10_moves 99 = .ok (.iload_n 2, 1) := by decide +kernel
theorem dX10_moves_100 : decode cX10_moves 100 = .ok (.iastore, 1) := by decide +kernel
theorem dX10_moves_101 : decode cX10_moves 101 = .ok (.iload_n 3, 1) := by decide +kernel
theorem dX10_moves_102 : decode cX10_moves 102 = .ok (.ireturn, 1) := by decide +kernel
theorem dX10_fog_0 : decode cX10_fog 0 = .ok (.aload_n 0, 1) := by decide +kernel
theorem dX10_fog_1 : decode cX10_fog 1 = .ok (.aload_n 0, 1) := by decide +kernel
theorem dX10_fog_2 : decode cX10_fog 2 = .ok (.getfield 264, 3) := by decide +kernel
theorem dX10_fog_5 : decode cX10_fog 5 = .ok (.ifCond .ne 7, 3) := by decide +kernel
theorem dX10_fog_8 : decode cX10_fog 8 = .ok (.iconst 0, 1) := by decide +kernel
theorem dX10_fog_9 : decode cX10_fog 9 = .ok (.goto 33, 3) := by decide +kernel
theorem dX10_fog_12 : decode cX10_fog 12 = .ok (.iload_n 1, 1) := by decide +kernel
theorem dX10_fog_13 : decode cX10_fog 13 = .ok (.iconst 0, 1) := by decide +kernel
theorem dX10_fog_14 : decode cX10_fog 14 = .ok (.bipush 9, 2) := by decide +kernel
theorem dX10_fog_16 : decode cX10_fog 16 = .ok (.invokestatic 217, 3) := by decide +kernel
theorem dX10_fog_19 : decode cX10_fog 19 = .ok (.ifCond .ne 7, 3) := by decide +kernel
theorem dX10_fog_22 : decode cX10_fog 22 = .ok (.iconst 1, 1) := by decide +kernel
theorem dX10_fog_23 : decode cX10_fog 23 = .ok (.goto 19, 3) := by decide +kernel
theorem dX10_fog_26 : decode cX10_fog 26 = .ok (.aload_n 0, 1) := by decide +kernel
theorem dX10_fog_27 : decode cX10_fog 27 = .ok (.getfield 61, 3) := by decide +kernel
theorem dX10_fog_30 : decode cX10_fog 30 = .ok (.bipush 39, 2) := by decide +kernel
theorem dX10_fog_32 : decode cX10_fog 32 = .ok (.iaload, 1) := by decide +kernel
theorem dX10_fog_33 : decode cX10_fog 33 = .ok (.iload_n 1, 1) := by decide +kernel
theorem dX10_fog_34 : decode cX10_fog 34 = .ok (.if_icmp .ne 7, 3) := by decide +kernel
theorem dX10_fog_37 : decode cX10_fog 37 = .ok (.iconst 2, 1) := by decide +kernel
theorem dX10_fog_38 : decode cX10_fog 38 = .ok (.goto 4, 3) := by decide +kernel
theorem dX10_fog_41 : decode cX10_fog 41 = .ok (.iconst (-1), 1) := by decide +kernel
theorem dX10_fog_42 : decode cX10_fog 42 = .ok (.invokevirtual 354, 3) := by decide +kernel
theorem dX10_fog_45 : decode cX10_fog 45 = .ok (.ifCond .eq 5, 3) := by decide +kernel
theorem dX10_fog_48 : decode cX10_fog 48 = .ok (.iconst (-1), 1) := by decide +kernel
theorem dX10_fog_49 : decode cX10_fog 49 = .ok (.ireturn, 1) := by decide +kernel
theorem dX10_fog_50 : decode cX10_fog 50 = .ok (.aload_n 0, 1) := by decide +kernel
theorem dX10_fog_51 : decode cX10_fog 51 = .ok (.invokevirtual 357, 3) := by decide +kernel
theorem dX10_fog_54 : decode cX10_fog 54 = .ok (.aload_n 0, 1) := by decide +kernel
theorem dX10_fog_55 : decode cX10_fog 55 = .ok (.getfield 61, 3) := by decide +kernel
theorem dX10_fog_58 : decode cX10_fog 58 = .ok (.bipush 39, 2) := by decide +kernel
theorem dX10_fog_60 : decode cX10_fog 60 = .ok (.iaload, 1) := by decide +kernel
theorem dX10_fog_61 : decode cX10_fog 61 = .ok (.istore_n 2, 1) := by decide +kernel
theorem dX10_fog_62 : decode cX10_fog 62 = .ok (.aload_n 0, 1) := by decide +kernel
theorem dX10_fog_63 : decode cX10_fog 63 = .ok (.getfield 61, 3) := by decide +kernel
theorem dX10_fog_66 : decode cX10_fog 66 = .ok (.bipush 39, 2) := by decide +kernel
theorem dX10_fog_68 : decode cX10_fog 68 = .ok (.iload_n 1, 1) := by decide +kernel
theorem dX10_fog_69 : decode cX10_fog 69 = .ok (.iastore, 1) := by decide +kernel
theorem dX10_fog_70 : decode cX10_fog 70 = .ok (.iload_n 2, 1) := by decide +kernel
theorem dX10_fog_71 : decode cX10_fog 71 = .ok (.ireturn, 1) := by decide +kernel
theorem dX10_oath_0 : decode cX10_oath 0 = .ok (.aload_n 0, 1) := by decide +kernel
theorem dX10_oath_1 : decode cX10_oath 1 = .ok (.aload_n 0, 1) := by decide +kernel
theorem dX10_oath_2 : decode cX10_oath 2 = .ok (.iload_n 1, 1) := by decide +kernel
theorem dX10_oath_3 : decode cX10_oath 3 = .ok (.invokevirtual 340, 3) := by decide +kernel
theorem dX10_oath_6 : decode cX10_oath 6 = .ok (.ifCond .ne 7, 3) := by decide +kernel
theorem dX10_oath_9 : decode cX10_oath 9 = .ok (.iconst 0, 1) := by decide +kernel
theorem dX10_oath_10 : decode cX10_oath 10 = .ok (.goto 4, 3) := by decide +kernel
theorem dX10_oath_13 : decode cX10_oath 13 = .ok (.iconst (-1), 1) := by decide +kernel
theorem dX10_oath_14 : decode cX10_oath 14 = .ok (.invokevirtual 354, 3) := by decide +kernel
theorem dX10_oath_17 : decode cX10_oath 17 = .ok (.ifCond .eq 5, 3) := by decide +kernel
theorem dX10_oath_20 : decode cX10_oath 20 = .ok (.iconst (-1), 1) := by decide +kernel
theorem dX10_oath_21 : decode cX10_oath 21 = .ok (.ireturn, 1) := by decide +kernel
theorem dX10_oath_22 : decode cX10_oath 22 = .ok (.aload_n 0, 1) := by decide +kernel
theorem dX10_oath_23 : decode cX10_oath 23 = .ok (.invokevirtual 357, 3) := by decide +kernel
theorem dX10_oath_26 : decode cX10_oath 26 = .ok (.aload_n 0, 1) := by decide +kernel
theorem dX10_oath_27 : decode cX10_oath 27 = .ok (.getfield 61, 3) := by decide +kernel
theorem dX10_oath_30 : decode cX10_oath 30 = .ok (.bipush 38, 2) := by decide +kernel
theorem dX10_oath_32 : decode cX10_oath 32 = .ok (.dup2, 1) := by decide +kernel
theorem dX10_oath_33 : decode cX10_oath 33 = .ok (.iaload, 1) := by decide +kernel
theorem dX10_oath_34 : decode cX10_oath 34 = .ok (.iconst 1, 1) := by decide +kernel
theorem dX10_oath_35 : decode cX10_oath 35 = .ok (.iload_n 1, 1) := by decide +kernel
theorem dX10_oath_36 : decode cX10_oath 36 = .ok (.ishl, 1) := by decide +kernel
theorem dX10_oath_37 : decode cX10_oath 37 = .ok (.ixor, 1) := by decide +kernel
theorem dX10_oath_38 : decode cX10_oath 38 = .ok (.iastore, 1) := by decide +kernel
theorem dX10_oath_39 : decode cX10_oath 39 = .ok (.aload_n 0, 1) := by decide +kernel
theorem dX10_oath_40 : decode cX10_oath 40 = .ok (.getfield 61, 3) := by decide +kernel
theorem dX10_oath_43 : decode cX10_oath 43 = .ok (.bipush 38, 2) := by decide +kernel
theorem dX10_oath_45 : decode cX10_oath 45 = .ok (.iaload, 1) := by decide +kernel
theorem dX10_oath_46 : decode cX10_oath 46 = .ok (.iload_n 1, 1) := by decide +kernel
theorem dX10_oath_47 : decode cX10_oath 47 = .ok (.ishr, 1) := by decide +kernel
theorem dX10_oath_48 : decode cX10_oath 48 = .ok (.iconst 1, 1) := by decide +kernel
theorem dX10_oath_49 : decode cX10_oath 49 = .ok (.iand, 1) := by decide +kernel
theorem dX10_oath_50 : decode cX10_oath 50 = .ok (.ireturn, 1) := by decide +kernel
theorem dX10_give_0 : decode cX10_give 0 = .ok (.aload_n 0, 1) := by decide +kernel
theorem dX10_give_1 : decode cX10_give 1 = .ok (.aload_n 0, 1) := by decide +kernel
theorem dX10_give_2 : decode cX10_give 2 = .ok (.getfield 264, 3) := by decide +kernel
theorem dX10_give_5 : decode cX10_give 5 = .ok (.ifCond .ne 7, 3) := by decide +kernel
theorem dX10_give_8 : decode cX10_give 8 = .ok (.iconst 0, 1) := by decide +kernel
theorem dX10_give_9 : decode cX10_give 9 = .ok (.goto 33, 3) := by decide +kernel
theorem dX10_give_12 : decode cX10_give 12 = .ok (.iload_n 1, 1) := by decide +kernel
theorem dX10_give_13 : decode cX10_give 13 = .ok (.iconst 1, 1) := by decide +kernel
theorem dX10_give_14 : decode cX10_give 14 = .ok (.bipush 50, 2) := by decide +kernel
theorem dX10_give_16 : decode cX10_give 16 = .ok (.invokestatic 217, 3) := by decide +kernel
theorem dX10_give_19 : decode cX10_give 19 = .ok (.ifCond .eq 18, 3) := by decide +kernel
theorem dX10_give_22 : decode cX10_give 22 = .ok (.aload_n 0, 1) := by decide +kernel
theorem dX10_give_23 : decode cX10_give 23 = .ok (.getfield 61, 3) := by decide +kernel
theorem dX10_give_26 : decode cX10_give 26 = .ok (.bipush 40, 2) := by decide +kernel
theorem dX10_give_28 : decode cX10_give 28 = .ok (.iaload, 1) := by decide +kernel
theorem dX10_give_29 : decode cX10_give 29 = .ok (.iload_n 1, 1) := by decide +kernel
theorem dX10_give_30 : decode cX10_give 30 = .ok (.iadd, 1) := by decide +kernel
theorem dX10_give_31 : decode cX10_give 31 = .ok (.sipush 999, 3) := by decide +kernel
theorem dX10_give_34 : decode cX10_give 34 = .ok (.if_icmp .le 7, 3) := by decide +kernel
theorem dX10_give_37 : decode cX10_give 37 = .ok (.iconst 1, 1) := by decide +kernel
theorem dX10_give_38 : decode cX10_give 38 = .ok (.goto 4, 3) := by decide +kernel
theorem dX10_give_41 : decode cX10_give 41 = .ok (.iconst (-1), 1) := by decide +kernel
theorem dX10_give_42 : decode cX10_give 42 = .ok (.invokevirtual 354, 3) := by decide +kernel
theorem dX10_give_45 : decode cX10_give 45 = .ok (.ifCond .eq 5, 3) := by decide +kernel
theorem dX10_give_48 : decode cX10_give 48 = .ok (.iconst (-1), 1) := by decide +kernel
theorem dX10_give_49 : decode cX10_give 49 = .ok (.ireturn, 1) := by decide +kernel
theorem dX10_give_50 : decode cX10_give 50 = .ok (.aload_n 0, 1) := by decide +kernel
theorem dX10_give_51 : decode cX10_give 51 = .ok (.invokevirtual 357, 3) := by decide +kernel
theorem dX10_give_54 : decode cX10_give 54 = .ok (.aload_n 0, 1) := by decide +kernel
theorem dX10_give_55 : decode cX10_give 55 = .ok (.getfield 61, 3) := by decide +kernel
theorem dX10_give_58 : decode cX10_give 58 = .ok (.bipush 40, 2) := by decide +kernel
theorem dX10_give_60 : decode cX10_give 60 = .ok (.dup2, 1) := by decide +kernel
theorem dX10_give_61 : decode cX10_give 61 = .ok (.iaload, 1) := by decide +kernel
theorem dX10_give_62 : decode cX10_give 62 = .ok (.iload_n 1, 1) := by decide +kernel
theorem dX10_give_63 : decode cX10_give 63 = .ok (.iadd, 1) := by decide +kernel
theorem dX10_give_64 : decode cX10_give 64 = .ok (.iastore, 1) := by decide +kernel
theorem dX10_give_65 : decode cX10_give 65 = .ok (.aload_n 0, 1) := by decide +kernel
theorem dX10_give_66 : decode cX10_give 66 = .ok (.getfield 61, 3) := by decide +kernel
theorem dX10_give_69 : decode cX10_give 69 = .ok (.bipush 40, 2) := by decide +kernel
theorem dX10_give_71 : decode cX10_give 71 = .ok (.iaload, 1) := by decide +kernel
theorem dX10_give_72 : decode cX10_give 72 = .ok (.ireturn, 1) := by decide +kernel
theorem dX10_mist_0 : decode cX10_mist 0 = .ok (.iload_n 1, 1) := by decide +kernel
theorem dX10_mist_1 : decode cX10_mist 1 = .ok (.iconst 0, 1) := by decide +kernel
theorem dX10_mist_2 : decode cX10_mist 2 = .ok (.bipush 9, 2) := by decide +kernel
theorem dX10_mist_4 : decode cX10_mist 4 = .ok (.invokestatic 217, 3) := by decide +kernel
theorem dX10_mist_7 : decode cX10_mist 7 = .ok (.ifCond .eq 11, 3) := by decide +kernel
theorem dX10_mist_10 : decode cX10_mist 10 = .ok (.iload_n 1, 1) := by decide +kernel
theorem dX10_mist_11 : decode cX10_mist 11 = .ok (.aload_n 0, 1) := by decide +kernel
theorem dX10_mist_12 : decode cX10_mist 12 = .ok (.getfield 71, 3) := by decide +kernel
theorem dX10_mist_15 : decode cX10_mist 15 = .ok (.if_icmp .ne 5, 3) := by decide +kernel
theorem dX10_mist_18 : decode cX10_mist 18 = .ok (.iconst 0, 1) := by decide +kernel
theorem dX10_mist_19 : decode cX10_mist 19 = .ok (.ireturn, 1) := by decide +kernel
theorem dX10_mist_20 : decode cX10_mist 20 = .ok (.aload_n 0, 1) := by decide +kernel
theorem dX10_mist_21 : decode cX10_mist 21 = .ok (.iload_n 1, 1) := by decide +kernel
theorem dX10_mist_22 : decode cX10_mist 22 = .ok (.putfield 71, 3) := by decide +kernel
theorem dX10_mist_25 : decode cX10_mist 25 = .ok (.iconst 1, 1) := by decide +kernel
theorem dX10_mist_26 : decode cX10_mist 26 = .ok (.ireturn, 1) := by decide +kernel
theorem dX10_draw_0 : decode cX10_draw 0 = .ok (.aload_n 0, 1) := by decide +kernel
theorem dX10_draw_1 : decode cX10_draw 1 = .ok (.aload_n 0, 1) := by decide +kernel
theorem dX10_draw_2 : decode cX10_draw 2 = .ok (.getfield 366, 3) := by decide +kernel
theorem dX10_draw_5 : decode cX10_draw 5 = .ok (.ldc2_w 370, 3) := by decide +kernel
theorem dX10_draw_8 : decode cX10_draw 8 = .ok (.lmul, 1) := by decide +kernel
theorem dX10_draw_9 : decode cX10_draw 9 = .ok (.ldc2_w 372, 3) := by decide +kernel
theorem dX10_draw_12 : decode cX10_draw 12 = .ok (.ladd, 1) := by decide +kernel
theorem dX10_draw_13 : decode cX10_draw 13 = .ok (.putfield 366, 3) := by decide +kernel
theorem dX10_draw_16 : decode cX10_draw 16 = .ok (.aload_n 0, 1) := by decide +kernel
theorem dX10_draw_17 : decode cX10_draw 17 = .ok (.getfield 366, 3) := by decide +kernel
theorem dX10_draw_20 : decode cX10_draw 20 = .ok (.bipush 33, 2) := by decide +kernel
theorem dX10_draw_22 : decode cX10_draw 22 = .ok (.lushr, 1) := by decide +kernel
theorem dX10_draw_23 : decode cX10_draw 23 = .ok (.iload_n 1, 1) := by decide +kernel
theorem dX10_draw_24 : decode cX10_draw 24 = .ok (.i2l, 1) := by decide +kernel
theorem dX10_draw_25 : decode cX10_draw 25 = .ok (.lrem, 1) := by decide +kernel
theorem dX10_draw_26 : decode cX10_draw 26 = .ok (.l2i, 1) := by decide +kernel
theorem dX10_draw_27 : decode cX10_draw 27 = .ok (.ireturn, 1) := by decide +kernel
theorem dX10_drawHour_0 : decode cX10_drawHour 0 = .ok (.aload_n 0, 1) := by decide +kernel
theorem dX10_drawHour_1 : decode cX10_drawHour 1 = .ok (.aload_n 0, 1) := by decide +kernel
theorem dX10_drawHour_2 : decode cX10_drawHour 2 = .ok (.getfield 264, 3) := by decide +kernel
theorem dX10_drawHour_5 : decode cX10_drawHour 5 = .ok (.invokevirtual 374, 3) := by decide +kernel
theorem dX10_drawHour_8 : decode cX10_drawHour 8 = .ok (.istore_n 1, 1) := by decide +kernel
theorem dX10_drawHour_9 : decode cX10_drawHour 9 = .ok (.aload_n 0, 1) := by decide +kernel
theorem dX10_drawHour_10 : decode cX10_drawHour 10 = .ok (.getfield 61, 3) := by decide +kernel
theorem dX10_drawHour_13 : decode cX10_drawHour 13 = .ok (.iconst 0, 1) := by decide +kernel
theorem dX10_drawHour_14 : decode cX10_drawHour 14 = .ok (.iload_n 1, 1) := by decide +kernel
theorem dX10_drawHour_15 : decode cX10_drawHour 15 = .ok (.iadd, 1) := by decide +kernel
theorem dX10_drawHour_16 : decode cX10_drawHour 16 = .ok (.iconst 0, 1) := by decide +kernel
theorem dX10_drawHour_17 : decode cX10_drawHour 17 = .ok (.bipush 9, 2) := by decide +kernel
theorem dX10_drawHour_19 : decode cX10_drawHour 19 = .ok (.aload_n 0, 1) := by decide +kernel
theorem dX10_drawHour_20 : decode cX10_drawHour 20 = .ok (.getfield 61, 3) := by decide +kernel
theorem dX10_drawHour_23 : decode cX10_drawHour 23 = .ok (.iconst 0, 1) := by decide +kernel
theorem dX10_drawHour_24 : decode cX10_drawHour 24 = .ok (.iload_n 1, 1) := by decide +kernel
theorem dX10_drawHour_25 : decode cX10_drawHour 25 = .ok (.iadd, 1) := by decide +kernel
theorem dX10_drawHour_26 : decode cX10_drawHour 26 = .ok (.iaload, 1) := by decide +kernel
theorem dX10_drawHour_27 : decode cX10_drawHour 27 = .ok (.aload_n 0, 1) := by decide +kernel
theorem dX10_drawHour_28 : decode cX10_drawHour 28 = .ok (.iconst 3, 1) := by decide +kernel
theorem dX10_drawHour_29 : decode cX10_drawHour 29 = .ok (.invokevirtual 374, 3) := by decide +kernel
theorem dX10_drawHour_32 : decode cX10_drawHour 32 = .ok (.iadd, 1) := by decide +kernel
theorem dX10_drawHour_33 : decode cX10_drawHour 33 = .ok (.iconst 1, 1) := by decide +kernel
theorem dX10_drawHour_34 : decode cX10_drawHour 34 = .ok (.isub, 1) := by decide +kernel
theorem dX10_drawHour_35 : decode cX10_drawHour 35 = .ok (.invokestatic 309, 3) := by decide +kernel
theorem dX10_drawHour_38 : decode cX10_drawHour 38 = .ok (.invokestatic 301, 3) := by decide +kernel
theorem dX10_drawHour_41 : decode cX10_drawHour 41 = .ok (.iastore, 1) := by decide +kernel
theorem dX10_drawHour_42 : decode cX10_drawHour 42 = .ok (.aload_n 0, 1) := by decide +kernel
theorem dX10_drawHour_43 : decode cX10_drawHour 43 = .ok (.bipush 10, 2) := by decide +kernel
theorem dX10_drawHour_45 : decode cX10_drawHour 45 = .ok (.invokevirtual 374, 3) := by decide +kernel
theorem dX10_drawHour_48 : decode cX10_drawHour 48 = .ok (.aload_n 0, 1) := by decide +kernel
theorem dX10_drawHour_49 : decode cX10_drawHour 49 = .ok (.getfield 71, 3) := by decide +kernel
theorem dX10_drawHour_52 : decode cX10_drawHour 52 = .ok (.if_icmp .ge 24, 3) := by decide +kernel
theorem dX10_drawHour_55 : decode cX10_drawHour 55 = .ok (.aload_n 0, 1) := by decide +kernel
theorem dX10_drawHour_56 : decode cX10_drawHour 56 = .ok (.getfield 61, 3) := by decide +kernel
theorem dX10_drawHour_59 : decode cX10_drawHour 59 = .ok (.bipush 39, 2) := by decide +kernel
theorem dX10_drawHour_61 : decode cX10_drawHour 61 = .ok (.bipush 9, 2) := by decide +kernel
theorem dX10_drawHour_63 : decode cX10_drawHour 63 = .ok (.aload_n 0, 1) := by decide +kernel
theorem dX10_drawHour_64 : decode cX10_drawHour 64 = .ok (.getfield 61, 3) := by decide +kernel
theorem dX10_drawHour_67 : decode cX10_drawHour 67 = .ok (.bipush 39, 2) := by decide +kernel
theorem dX10_drawHour_69 : decode cX10_drawHour 69 = .ok (.iaload, 1) := by decide +kernel
theorem dX10_drawHour_70 : decode cX10_drawHour 70 = .ok (.iconst 2, 1) := by decide +kernel
theorem dX10_drawHour_71 : decode cX10_drawHour 71 = .ok (.iadd, 1) := by decide +kernel
theorem dX10_drawHour_72 : decode cX10_drawHour 72 = .ok (.invokestatic 309, 3) := by decide +kernel
theorem dX10_drawHour_75 : decode cX10_drawHour 75 = .ok (.iastore, 1) := by decide +kernel
theorem dX10_drawHour_76 : decode cX10_drawHour 76 = .ok (.return_, 1) := by decide +kernel
theorem dX10_years_0 : decode cX10_years 0 = .ok (.aload_n 0, 1) := by decide +kernel
theorem dX10_years_1 : decode cX10_years 1 = .ok (.getfield 264, 3) := by decide +kernel
theorem dX10_years_4 : decode cX10_years 4 = .ok (.ifCond .eq 11, 3) := by decide +kernel
theorem dX10_years_7 : decode cX10_years 7 = .ok (.aload_n 0, 1) := by decide +kernel
theorem dX10_years_8 : decode cX10_years 8 = .ok (.iload_n 1, 1) := by decide +kernel
theorem dX10_years_9 : decode cX10_years 9 = .ok (.invokevirtual 351, 3) := by decide +kernel
theorem dX10_years_12 : decode cX10_years 12 = .ok (.ifCond .ne 5, 3) := by decide +kernel
theorem dX10_years_15 : decode cX10_years 15 = .ok (.iconst (-1), 1) := by decide +kernel
theorem dX10_years_16 : decode cX10_years 16 = .ok (.ireturn, 1) := by decide +kernel
theorem dX10_years_17 : decode cX10_years 17 = .ok (.aload_n 0, 1) := by decide +kernel
theorem dX10_years_18 : decode cX10_years 18 = .ok (.lload_n 2, 1) := by decide +kernel
theorem dX10_years_19 : decode cX10_years 19 = .ok (.putfield 366, 3) := by decide +kernel
theorem dX10_years_22 : decode cX10_years 22 = .ok (.iconst 0, 1) := by decide +kernel
theorem dX10_years_23 : decode cX10_years 23 = .ok (.istore 4, 2) := by decide +kernel
theorem dX10_years_25 : decode cX10_years 25 = .ok (.iload 4, 2) := by decide +kernel
theorem dX10_years_27 : decode cX10_years 27 = .ok (.iload_n 1, 1) := by decide +kernel
theorem dX10_years_28 : decode cX10_years 28 = .ok (.if_icmp .ge 21, 3) := by decide +kernel
theorem dX10_years_31 : decode cX10_years 31 = .ok (.aload_n 0, 1) := by decide +kernel
theorem dX10_years_32 : decode cX10_years 32 = .ok (.invokevirtual 357, 3) := by decide +kernel
theorem dX10_years_35 : decode cX10_years 35 = .ok (.aload_n 0, 1) := by decide +kernel
theorem dX10_years_36 : decode cX10_years 36 = .ok (.invokevirtual 377, 3) := by decide +kernel
theorem dX10_years_39 : decode cX10_years 39 = .ok (.aload_n 0, 1) := by decide +kernel
theorem dX10_years_40 : decode cX10_years 40 = .ok (.invokevirtual 360, 3) := by decide +kernel
theorem dX10_years_43 : decode cX10_years 43 = .ok (.iinc 4 1, 3) := by decide +kernel
theorem dX10_years_46 : decode cX10_years 46 = .ok (.goto (-21), 3) := by decide +kernel
theorem dX10_years_49 : decode cX10_years 49 = .ok (.aload_n 0, 1) := by decide +kernel
theorem dX10_years_50 : decode cX10_years 50 = .ok (.getfield 61, 3) := by decide +kernel
theorem dX10_years_53 : decode cX10_years 53 = .ok (.bipush 41, 2) := by decide +kernel
theorem dX10_years_55 : decode cX10_years 55 = .ok (.iaload, 1) := by decide +kernel
theorem dX10_years_56 : decode cX10_years 56 = .ok (.ireturn, 1) := by decide +kernel
theorem dX10_status_0 : decode cX10_status 0 = .ok (.iload_n 1, 1) := by decide +kernel
theorem dX10_status_1 : decode cX10_status 1 = .ok (.iconst 0, 1) := by decide +kernel
theorem dX10_status_2 : decode cX10_status 2 = .ok (.iconst 4, 1) := by decide +kernel
theorem dX10_status_3 : decode cX10_status 3 = .ok (.invokestatic 217, 3) := by decide +kernel
theorem dX10_status_6 : decode cX10_status 6 = .ok (.ifCond .eq 12, 3) := by decide +kernel
theorem dX10_status_9 : decode cX10_status 9 = .ok (.aload_n 0, 1) := by decide +kernel
theorem dX10_status_10 : decode cX10_status 10 = .ok (.getfield 64, 3) := by decide +kernel
theorem dX10_status_13 : decode cX10_status 13 = .ok (.iload_n 1, 1) := by decide +kernel
theorem dX10_status_14 : decode cX10_status 14 = .ok (.iaload, 1) := by decide +kernel
theorem dX10_status_15 : decode cX10_status 15 = .ok (.goto 4, 3) := by decide +kernel
theorem dX10_status_18 : decode cX10_status 18 = .ok (.iconst (-1), 1) := by decide +kernel
theorem dX10_status_19 : decode cX10_status 19 = .ok (.ireturn, 1) := by decide +kernel
theorem dX10_undo_0 : decode cX10_undo 0 = .ok (.aload_n 0, 1) := by decide +kernel
theorem dX10_undo_1 : decode cX10_undo 1 = .ok (.getfield 276, 3) := by decide +kernel
theorem dX10_undo_4 : decode cX10_undo 4 = .ok (.ifCond .ne 5, 3) := by decide +kernel
theorem dX10_undo_7 : decode cX10_undo 7 = .ok (.iconst (-1), 1) := by decide +kernel
theorem dX10_undo_8 : decode cX10_undo 8 = .ok (.ireturn, 1) := by decide +kernel
theorem dX10_undo_9 : decode cX10_undo 9 = .ok (.aload_n 0, 1) := by decide +kernel
theorem dX10_undo_10 : decode cX10_undo 10 = .ok (.dup, 1) := by decide +kernel
theorem dX10_undo_11 : decode cX10_undo 11 = .ok (.getfield 276, 3) := by decide +kernel
theorem dX10_undo_14 : decode cX10_undo 14 = .ok (.iconst 1, 1) := by decide +kernel
theorem dX10_undo_15 : decode cX10_undo 15 = .ok (.isub, 1) := by decide +kernel
theorem dX10_undo_16 : decode cX10_undo 16 = .ok (.putfield 276, 3) := by decide +kernel
theorem dX10_undo_19 : decode cX10_undo 19 = .ok (.iconst 0, 1) := by decide +kernel
theorem dX10_undo_20 : decode cX10_undo 20 = .ok (.istore_n 1, 1) := by decide +kernel
theorem dX10_undo_21 : decode cX10_undo 21 = .ok (.iload_n 1, 1) := by decide +kernel
theorem dX10_undo_22 : decode cX10_undo 22 = .ok (.sipush 223, 3) := by decide +kernel
theorem dX10_undo_25 : decode cX10_undo 25 = .ok (.if_icmp .ge 30, 3) := by decide +kernel
theorem dX10_undo_28 : decode cX10_undo 28 = .ok (.aload_n 0, 1) := by decide +kernel
theorem dX10_undo_29 : decode cX10_undo 29 = .ok (.getfield 61, 3) := by decide +kernel
theorem dX10_undo_32 : decode cX10_undo 32 = .ok (.iload_n 1, 1) := by decide +kernel
theorem dX10_undo_33 : decode cX10_undo 33 = .ok (.aload_n 0, 1) := by decide +kernel
theorem dX10_undo_34 : decode cX10_undo 34 = .ok (.getfield 74, 3) := by decide +kernel
theorem dX10_undo_37 : decode cX10_undo 37 = .ok (.sipush 223, 3) := by decide +kernel
theorem dX10_undo_40 : decode cX10_undo 40 = .ok (.aload_n 0, 1) := by decide +kernel
theorem dX10_undo_41 : decode cX10_undo 41 = .ok (.getfield 276, 3) := by decide +kernel
theorem dX10_undo_44 : decode cX10_undo 44 = .ok (.imul, 1) := by decide +kernel
theorem dX10_undo_45 : decode cX10_undo 45 = .ok (.iload_n 1, 1) := by decide +kernel
theorem dX10_undo_46 : decode cX10_undo 46 = .ok (.iadd, 1) := by decide +kernel
theorem dX10_undo_47 : decode cX10_undo 47 = .ok (.iaload, 1) := by decide +kernel
theorem dX10_undo_48 : decode cX10_undo 48 = .ok (.iastore, 1) := by decide +kernel
theorem dX10_undo_49 : decode cX10_undo 49 = .ok (.iinc 1 1, 3) := by decide +kernel
theorem dX10_undo_52 : decode cX10_undo 52 = .ok (.goto (-31), 3) := by decide +kernel
theorem dX10_undo_55 : decode cX10_undo 55 = .ok (.aload_n 0, 1) := by decide +kernel
theorem dX10_undo_56 : decode cX10_undo 56 = .ok (.getfield 276, 3) := by decide +kernel
theorem dX10_undo_59 : decode cX10_undo 59 = .ok (.ireturn, 1) := by decide +kernel
theorem dX10_log_0 : decode cX10_log 0 = .ok (.iload_n 1, 1) := by decide +kernel
theorem dX10_log_1 : decode cX10_log 1 = .ok (.iconst 0, 1) := by decide +kernel
theorem dX10_log_2 : decode cX10_log 2 = .ok (.aload_n 0, 1) := by decide +kernel
theorem dX10_log_3 : decode cX10_log 3 = .ok (.getfield 61, 3) := by decide +kernel
theorem dX10_log_6 : decode cX10_log 6 = .ok (.bipush 42, 2) := by decide +kernel
theorem dX10_log_8 : decode cX10_log 8 = .ok (.iaload, 1) := by decide +kernel
theorem dX10_log_9 : decode cX10_log 9 = .ok (.iconst 1, 1) := by decide +kernel
theorem dX10_log_10 : decode cX10_log 10 = .ok (.isub, 1) := by decide +kernel
theorem dX10_log_11 : decode cX10_log 11 = .ok (.invokestatic 217, 3) := by decide +kernel
theorem dX10_log_14 : decode cX10_log 14 = .ok (.ifCond .eq 38, 3) := by decide +kernel
theorem dX10_log_17 : decode cX10_log 17 = .ok (.iload_n 2, 1) := by decide +kernel
theorem dX10_log_18 : decode cX10_log 18 = .ok (.iconst 0, 1) := by decide +kernel
theorem dX10_log_19 : decode cX10_log 19 = .ok (.iconst 2, 1) := by decide +kernel
theorem dX10_log_20 : decode cX10_log 20 = .ok (.invokestatic 217, 3) := by decide +kernel
theorem dX10_log_23 : decode cX10_log 23 = .ok (.ifCond .eq 29, 3) := by decide +kernel
theorem dX10_log_26 : decode cX10_log 26 = .ok (.aload_n 0, 1) := by decide +kernel
theorem dX10_log_27 : decode cX10_log 27 = .ok (.getfield 61, 3) := by decide +kernel
theorem dX10_log_30 : decode cX10_log 30 = .ok (.bipush 43, 2) := by decide +kernel
theorem dX10_log_32 : decode cX10_log 32 = .ok (.iconst 3, 1) := by decide +kernel
theorem dX10_log_33 : decode cX10_log 33 = .ok (.aload_n 0, 1) := by decide +kernel
theorem dX10_log_34 : decode cX10_log 34 = .ok (.getfield 61, 3) := by decide +kernel
theorem dX10_log_37 : decode cX10_log 37 = .ok (.bipush 42, 2) := by decide +kernel
theorem dX10_log_39 : decode cX10_log 39 = .ok (.iaload, 1) := by decide +kernel
theorem dX10_log_40 : decode cX10_log 40 = .ok (.iconst 1, 1) := by decide +kernel
theorem dX10_log_41 : decode cX10_log 41 = .ok (.isub, 1) := by decide +kernel
theorem dX10_log_42 : decode cX10_log 42 = .ok (.iload_n 1, 1) := by decide +kernel
theorem dX10_log_43 : decode cX10_log 43 = .ok (.isub, 1) := by decide +kernel
theorem dX10_log_44 : decode cX10_log 44 = .ok (.imul, 1) := by decide +kernel
theorem dX10_log_45 : decode cX10_log 45 = .ok (.iadd, 1) := by decide +kernel
theorem dX10_log_46 : decode cX10_log 46 = .ok (.iload_n 2, 1) := by decide +kernel
theorem dX10_log_47 : decode cX10_log 47 = .ok (.iadd, 1) := by decide +kernel
theorem dX10_log_48 : decode cX10_log 48 = .ok (.iaload, 1) := by decide +kernel
theorem dX10_log_49 : decode cX10_log 49 = .ok (.goto 4, 3) := by decide +kernel
theorem dX10_log_52 : decode cX10_log 52 = .ok (.iconst (-1), 1) := by decide +kernel
theorem dX10_log_53 : decode cX10_log 53 = .ok (.ireturn, 1) := by decide +kernel
theorem dX10_sees_0 : decode cX10_sees 0 = .ok (.aload_n 0, 1) := by decide +kernel
theorem dX10_sees_1 : decode cX10_sees 1 = .ok (.iload_n 1, 1) := by decide +kernel
theorem dX10_sees_2 : decode cX10_sees 2 = .ok (.invokevirtual 340, 3) := by decide +kernel
theorem dX10_sees_5 : decode cX10_sees 5 = .ok (.ifCond .eq 11, 3) := by decide +kernel
theorem dX10_sees_8 : decode cX10_sees 8 = .ok (.aload_n 0, 1) := by decide +kernel
theorem dX10_sees_9 : decode cX10_sees 9 = .ok (.iload_n 2, 1) := by decide +kernel
theorem dX10_sees_10 : decode cX10_sees 10 = .ok (.invokevirtual 337, 3) := by decide +kernel
theorem dX10_sees_13 : decode cX10_sees 13 = .ok (.ifCond .ne 7, 3) := by decide +kernel
theorem dX10_sees_16 : decode cX10_sees 16 = .ok (.iconst (-1), 1) := by decide +kernel
theorem dX10_sees_17 : decode cX10_sees 17 = .ok (.goto 17, 3) := by decide +kernel
theorem dX10_sees_20 : decode cX10_sees 20 = .ok (.aload_n 0, 1) := by decide +kernel
theorem dX10_sees_21 : decode cX10_sees 21 = .ok (.iload_n 1, 1) := by decide +kernel
theorem dX10_sees_22 : decode cX10_sees 22 = .ok (.iload_n 2, 1) := by decide +kernel
theorem dX10_sees_23 : decode cX10_sees 23 = .ok (.invokevirtual 325, 3) := by decide +kernel
theorem dX10_sees_26 : decode cX10_sees 26 = .ok (.ifCond .eq 7, 3) := by decide +kernel
theorem dX10_sees_29 : decode cX10_sees 29 = .ok (.iconst 1, 1) := by decide +kernel
theorem dX10_sees_30 : decode cX10_sees 30 = .ok (.goto 4, 3) := by decide +kernel
theorem dX10_sees_33 : decode cX10_sees 33 = .ok (.iconst 0, 1) := by decide +kernel
theorem dX10_sees_34 : decode cX10_sees 34 = .ok (.ireturn, 1) := by decide +kernel
theorem dX10_blindOf_0 : decode cX10_blindOf 0 = .ok (.aload_n 0, 1) := by decide +kernel
theorem dX10_blindOf_1 : decode cX10_blindOf 1 = .ok (.invokevirtual 331, 3) := by decide +kernel
theorem dX10_blindOf_4 : decode cX10_blindOf 4 = .ok (.aload_n 0, 1) := by decide +kernel
theorem dX10_blindOf_5 : decode cX10_blindOf 5 = .ok (.iload_n 1, 1) := by decide +kernel
theorem dX10_blindOf_6 : decode cX10_blindOf 6 = .ok (.invokevirtual 328, 3) := by decide +kernel
theorem dX10_blindOf_9 : decode cX10_blindOf 9 = .ok (.iconst (-1), 1) := by decide +kernel
theorem dX10_blindOf_10 : decode cX10_blindOf 10 = .ok (.ixor, 1) := by decide +kernel
theorem dX10_blindOf_11 : decode cX10_blindOf 11 = .ok (.iand, 1) := by decide +kernel
theorem dX10_blindOf_12 : decode cX10_blindOf 12 = .ok (.ireturn, 1) := by decide +kernel
theorem dX10_aloneOf_0 : decode cX10_aloneOf 0 = .ok (.aload_n 0, 1) := by decide +kernel
theorem dX10_aloneOf_1 : decode cX10_aloneOf 1 = .ok (.iload_n 1, 1) := by decide +kernel
theorem dX10_aloneOf_2 : decode cX10_aloneOf 2 = .ok (.invokevirtual 328, 3) := by decide +kernel
theorem dX10_aloneOf_5 : decode cX10_aloneOf 5 = .ok (.istore_n 2, 1) := by decide +kernel
theorem dX10_aloneOf_6 : decode cX10_aloneOf 6 = .ok (.iconst 0, 1) := by decide +kernel
theorem dX10_aloneOf_7 : decode cX10_aloneOf 7 = .ok (.istore_n 3, 1) := by decide +kernel
theorem dX10_aloneOf_8 : decode cX10_aloneOf 8 = .ok (.iload_n 3, 1) := by decide +kernel
theorem dX10_aloneOf_9 : decode cX10_aloneOf 9 = .ok (.aload_n 0, 1) := by decide +kernel
theorem dX10_aloneOf_10 : decode cX10_aloneOf 10 = .ok (.getfield 261, 3) := by decide +kernel
theorem dX10_aloneOf_13 : decode cX10_aloneOf 13 = .ok (.if_icmp .ge 31, 3) := by decide +kernel
theorem dX10_aloneOf_16 : decode cX10_aloneOf 16 = .ok (.iload_n 2, 1) := by decide +kernel
theorem dX10_aloneOf_17 : decode cX10_aloneOf 17 = .ok (.iload_n 3, 1) := by decide +kernel
theorem dX10_aloneOf_18 : decode cX10_aloneOf 18 = .ok (.iload_n 1, 1) := by decide +kernel
theorem dX10_aloneOf_19 : decode cX10_aloneOf 19 = .ok (.if_icmp .ne 10, 3) := by decide +kernel
theorem dX10_aloneOf_22 : decode cX10_aloneOf 22 = .ok (.aload_n 0, 1) := by decide +kernel
theorem dX10_aloneOf_23 : decode cX10_aloneOf 23 = .ok (.invokevirtual 331, 3) := by decide +kernel
theorem dX10_aloneOf_26 : decode cX10_aloneOf 26 = .ok (.goto 10, 3) := by decide +kernel
theorem dX10_aloneOf_29 : decode cX10_aloneOf 29 = .ok (.aload_n 0, 1) := by decide +kernel
theorem dX10_aloneOf_30 : decode cX10_aloneOf 30 = .ok (.iload_n 3, 1) := by decide +kernel
theorem dX10_aloneOf_31 : decode cX10_aloneOf 31 = .ok (.invokevirtual 328, 3) := by decide +kernel
theorem dX10_aloneOf_34 : decode cX10_aloneOf 34 = .ok (.iconst (-1), 1) := by decide +kernel
theorem dX10_aloneOf_35 : decode cX10_aloneOf 35 = .ok (.ixor, 1) := by decide +kernel
theorem dX10_aloneOf_36 : decode cX10_aloneOf 36 = .ok (.iand, 1) := by decide +kernel
theorem dX10_aloneOf_37 : decode cX10_aloneOf 37 = .ok (.istore_n 2, 1) := by decide +kernel
theorem dX10_aloneOf_38 : decode cX10_aloneOf 38 = .ok (.iinc 3 1, 3) := by decide +kernel
theorem dX10_aloneOf_41 : decode cX10_aloneOf 41 = .ok (.goto (-33), 3) := by decide +kernel
theorem dX10_aloneOf_44 : decode cX10_aloneOf 44 = .ok (.iload_n 2, 1) := by decide +kernel
theorem dX10_aloneOf_45 : decode cX10_aloneOf 45 = .ok (.ireturn, 1) := by decide +kernel
theorem dX10_map_0 : decode cX10_map 0 = .ok (.aload_n 0, 1) := by decide +kernel
theorem dX10_map_1 : decode cX10_map 1 = .ok (.iload_n 1, 1) := by decide +kernel
theorem dX10_map_2 : decode cX10_map 2 = .ok (.invokevirtual 340, 3) := by decide +kernel
theorem dX10_map_5 : decode cX10_map 5 = .ok (.ifCond .eq 12, 3) := by decide +kernel
theorem dX10_map_8 : decode cX10_map 8 = .ok (.iload_n 2, 1) := by decide +kernel
theorem dX10_map_9 : decode cX10_map 9 = .ok (.iconst 0, 1) := by decide +kernel
theorem dX10_map_10 : decode cX10_map 10 = .ok (.iconst 2, 1) := by decide +kernel
theorem dX10_map_11 : decode cX10_map 11 = .ok (.invokestatic 217, 3) := by decide +kernel
theorem dX10_map_14 : decode cX10_map 14 = .ok (.ifCond .ne 5, 3) := by decide +kernel
theorem dX10_map_17 : decode cX10_map 17 = .ok (.iconst (-1), 1) := by decide +kernel
theorem dX10_map_18 : decode cX10_map 18 = .ok (.ireturn, 1) := by decide +kernel
theorem dX10_map_19 : decode cX10_map 19 = .ok (.iload_n 2, 1) := by decide +kernel
theorem dX10_map_20 : decode cX10_map 20 = .ok (.lookupswitch 62 #[(0, 28), (1, 34)], 28) := by decide +kernel
theorem dX10_map_48 : decode cX10_map 48 = .ok (.aload_n 0, 1) := by decide +kernel
theorem dX10_map_49 : decode cX10_map 49 = .ok (.iload_n 1, 1) := by decide +kernel
theorem dX10_map_50 : decode cX10_map 50 = .ok (.invokevirtual 380, 3) := by decide +kernel
theorem dX10_map_53 : decode cX10_map 53 = .ok (.ireturn, 1) := by decide +kernel
theorem dX10_map_54 : decode cX10_map 54 = .ok (.aload_n 0, 1) := by decide +kernel
theorem dX10_map_55 : decode cX10_map 55 = .ok (.getfield 61, 3) := by decide +kernel
theorem dX10_map_58 : decode cX10_map 58 = .ok (.bipush 38, 2) := by decide +kernel
theorem dX10_map_60 : decode cX10_map 60 = .ok (.iaload, 1) := by decide +kernel
theorem dX10_map_61 : decode cX10_map 61 = .ok (.iload_n 1, 1) := by decide +kernel
theorem dX10_map_62 : decode cX10_map 62 = .ok (.invokestatic 228, 3) := by decide +kernel
theorem dX10_map_65 : decode cX10_map 65 = .ok (.ifCond .eq 11, 3) := by decide +kernel
theorem dX10_map_68 : decode cX10_map 68 = .ok (.aload_n 0, 1) := by decide +kernel
theorem dX10_map_69 : decode cX10_map 69 = .ok (.iload_n 1, 1) := by decide +kernel
theorem dX10_map_70 : decode cX10_map 70 = .ok (.invokevirtual 328, 3) := by decide +kernel
theorem dX10_map_73 : decode cX10_map 73 = .ok (.goto 8, 3) := by decide +kernel
theorem dX10_map_76 : decode cX10_map 76 = .ok (.aload_n 0, 1) := by decide +kernel
theorem dX10_map_77 : decode cX10_map 77 = .ok (.iload_n 1, 1) := by decide +kernel
theorem dX10_map_78 : decode cX10_map 78 = .ok (.invokevirtual 380, 3) := by decide +kernel
theorem dX10_map_81 : decode cX10_map 81 = .ok (.ireturn, 1) := by decide +kernel
theorem dX10_map_82 : decode cX10_map 82 = .ok (.aload_n 0, 1) := by decide +kernel
theorem dX10_map_83 : decode cX10_map 83 = .ok (.iload_n 1, 1) := by decide +kernel
theorem dX10_map_84 : decode cX10_map 84 = .ok (.invokevirtual 383, 3) := by decide +kernel
theorem dX10_map_87 : decode cX10_map 87 = .ok (.ireturn, 1) := by decide +kernel
theorem dX10_areBeside_0 : decode cX10_areBeside 0 = .ok (.aload_n 0, 1) := by decide +kernel
theorem dX10_areBeside_1 : decode cX10_areBeside 1 = .ok (.iload_n 1, 1) := by decide +kernel
theorem dX10_areBeside_2 : decode cX10_areBeside 2 = .ok (.invokevirtual 292, 3) := by decide +kernel
theorem dX10_areBeside_5 : decode cX10_areBeside 5 = .ok (.aload_n 0, 1) := by decide +kernel
theorem dX10_areBeside_6 : decode cX10_areBeside 6 = .ok (.iload_n 2, 1) := by decide +kernel
theorem dX10_areBeside_7 : decode cX10_areBeside 7 = .ok (.invokevirtual 292, 3) := by decide +kernel
theorem dX10_areBeside_10 : decode cX10_areBeside 10 = .ok (.isub, 1) := by decide +kernel
theorem dX10_areBeside_11 : decode cX10_areBeside 11 = .ok (.invokestatic 298, 3) := by decide +kernel
theorem dX10_areBeside_14 : decode cX10_areBeside 14 = .ok (.aload_n 0, 1) := by decide +kernel
theorem dX10_areBeside_15 : decode cX10_areBeside 15 = .ok (.iload_n 1, 1) := by decide +kernel
theorem dX10_areBeside_16 : decode cX10_areBeside 16 = .ok (.invokevirtual 295, 3) := by decide +kernel
theorem dX10_areBeside_19 : decode cX10_areBeside 19 = .ok (.aload_n 0, 1) := by decide +kernel
theorem dX10_areBeside_20 : decode cX10_areBeside 20 = .ok (.iload_n 2, 1) := by decide +kernel
theorem dX10_areBeside_21 : decode cX10_areBeside 21 = .ok (.invokevirtual 295, 3) := by decide +kernel
theorem dX10_areBeside_24 : decode cX10_areBeside 24 = .ok (.isub, 1) := by decide +kernel
theorem dX10_areBeside_25 : decode cX10_areBeside 25 = .ok (.invokestatic 298, 3) := by decide +kernel
theorem dX10_areBeside_28 : decode cX10_areBeside 28 = .ok (.iadd, 1) := by decide +kernel
theorem dX10_areBeside_29 : decode cX10_areBeside 29 = .ok (.iconst 1, 1) := by decide +kernel
theorem dX10_areBeside_30 : decode cX10_areBeside 30 = .ok (.if_icmp .ne 7, 3) := by decide +kernel
theorem dX10_areBeside_33 : decode cX10_areBeside 33 = .ok (.iconst 1, 1) := by decide +kernel
theorem dX10_areBeside_34 : decode cX10_areBeside 34 = .ok (.goto 4, 3) := by decide +kernel
theorem dX10_areBeside_37 : decode cX10_areBeside 37 = .ok (.iconst 0, 1) := by decide +kernel
theorem dX10_areBeside_38 : decode cX10_areBeside 38 = .ok (.ireturn, 1) := by decide +kernel
theorem dX10_layAway_0 : decode cX10_layAway 0 = .ok (.iconst 0, 1) := by decide +kernel
theorem dX10_layAway_1 : decode cX10_layAway 1 = .ok (.istore_n 2, 1) := by decide +kernel
theorem dX10_layAway_2 : decode cX10_layAway 2 = .ok (.iload_n 2, 1) := by decide +kernel
theorem dX10_layAway_3 : decode cX10_layAway 3 = .ok (.aload_n 0, 1) := by decide +kernel
theorem dX10_layAway_4 : decode cX10_layAway 4 = .ok (.getfield 264, 3) := by decide +kernel
theorem dX10_layAway_7 : decode cX10_layAway 7 = .ok (.if_icmp .ge 32, 3) := by decide +kernel
theorem dX10_layAway_10 : decode cX10_layAway 10 = .ok (.aload_n 0, 1) := by decide +kernel
theorem dX10_layAway_11 : decode cX10_layAway 11 = .ok (.getfield 80, 3) := by decide +kernel
theorem dX10_layAway_14 : decode cX10_layAway 14 = .ok (.iload_n 2, 1) := by decide +kernel
theorem dX10_layAway_15 : decode cX10_layAway 15 = .ok (.iload_n 2, 1) := by decide +kernel
theorem dX10_layAway_16 : decode cX10_layAway 16 = .ok (.iload_n 1, 1) := by decide +kernel
theorem dX10_layAway_17 : decode cX10_layAway 17 = .ok (.if_icmp .ne 12, 3) := by decide +kernel
theorem dX10_layAway_20 : decode cX10_layAway 20 = .ok (.aload_n 0, 1) := by decide +kernel
theorem dX10_layAway_21 : decode cX10_layAway 21 = .ok (.getfield 77, 3) := by decide +kernel
theorem dX10_layAway_24 : decode cX10_layAway 24 = .ok (.iload_n 2, 1) := by decide +kernel
theorem dX10_layAway_25 : decode cX10_layAway 25 = .ok (.iaload, 1) := by decide +kernel
theorem dX10_layAway_26 : decode cX10_layAway 26 = .ok (.goto 6, 3) := by decide +kernel
theorem dX10_layAway_29 : decode cX10_layAway 29 = .ok (.sipush 1000, 3) := by decide +kernel
theorem dX10_layAway_32 : decode cX10_layAway 32 = .ok (.iastore, 1) := by decide +kernel
theorem dX10_layAway_33 : decode cX10_layAway 33 = .ok (.iinc 2 1, 3) := by decide +kernel
theorem dX10_layAway_36 : decode cX10_layAway 36 = .ok (.goto (-34), 3) := by decide +kernel
theorem dX10_layAway_39 : decode cX10_layAway 39 = .ok (.iconst 1, 1) := by decide +kernel
theorem dX10_layAway_40 : decode cX10_layAway 40 = .ok (.istore_n 2, 1) := by decide +kernel
theorem dX10_layAway_41 : decode cX10_layAway 41 = .ok (.iload_n 2, 1) := by decide +kernel
theorem dX10_layAway_42 : decode cX10_layAway 42 = .ok (.ifCond .eq 131, 3) := by decide +kernel
theorem dX10_layAway_45 : decode cX10_layAway 45 = .ok (.iconst 0, 1) := by decide +kernel
theorem dX10_layAway_46 : decode cX10_layAway 46 = .ok (.istore_n 2, 1) := by decide +kernel
theorem dX10_layAway_47 : decode cX10_layAway 47 = .ok (.iconst 0, 1) := by decide +kernel
theorem dX10_layAway_48 : decode cX10_layAway 48 = .ok (.istore_n 3, 1) := by decide +kernel
theorem dX10_layAway_49 : decode cX10_layAway 49 = .ok (.iload_n 3, 1) := by decide +kernel
theorem dX10_layAway_50 : decode cX10_layAway 50 = .ok (.aload_n 0, 1) := by decide +kernel
theorem dX10_layAway_51 : decode cX10_layAway 51 = .ok (.getfield 264, 3) := by decide +kernel
theorem dX10_layAway_54 : decode cX10_layAway 54 = .ok (.aload_n 0, 1) := by decide +kernel
theorem dX10_layAway_55 : decode cX10_layAway 55 = .ok (.getfield 264, 3) := by decide +kernel
theorem dX10_layAway_58 : decode cX10_layAway 58 = .ok (.imul, 1) := by decide +kernel
theorem dX10_layAway_59 : decode cX10_layAway 59 = .ok (.if_icmp .ge 111, 3) := by decide +kernel
theorem dX10_layAway_62 : decode cX10_layAway 62 = .ok (.iload_n 3, 1) := by decide +kernel
theorem dX10_layAway_63 : decode cX10_layAway 63 = .ok (.aload_n 0, 1) := by decide +kernel
theorem dX10_layAway_64 : decode cX10_layAway 64 = .ok (.getfield 264, 3) := by decide +kernel
theorem dX10_layAway_67 : decode cX10_layAway 67 = .ok (.idiv, 1) := by decide +kernel
theorem dX10_layAway_68 : decode cX10_layAway 68 = .ok (.istore 4, 2) := by decide +kernel
theorem dX10_layAway_70 : decode cX10_layAway 70 = .ok (.iload_n 3, 1) := by decide +kernel
theorem dX10_layAway_71 : decode cX10_layAway 71 = .ok (.aload_n 0, 1) := by decide +kernel
theorem dX10_layAway_72 : decode cX10_layAway 72 = .ok (.getfield 264, 3) := by decide +kernel
theorem dX10_layAway_75 : decode cX10_layAway 75 = .ok (.irem, 1) := by decide +kernel
theorem dX10_layAway_76 : decode cX10_layAway 76 = .ok (.istore 5, 2) := by decide +kernel
theorem dX10_layAway_78 : decode cX10_layAway 78 = .ok (.aload_n 0, 1) := by decide +kernel
theorem dX10_layAway_79 : decode cX10_layAway 79 = .ok (.iload 4, 2) := by decide +kernel
theorem dX10_layAway_81 : decode cX10_layAway 81 = .ok (.iload 5, 2) := by decide +kernel
theorem dX10_layAway_83 : decode cX10_layAway 83 = .ok (.invokevirtual 386, 3) := by decide +kernel
theorem dX10_layAway_86 : decode cX10_layAway 86 = .ok (.ifCond .eq 78, 3) := by decide +kernel
theorem dX10_layAway_89 : decode cX10_layAway 89 = .ok (.aload_n 0, 1) := by decide +kernel
theorem dX10_layAway_90 : decode cX10_layAway 90 = .ok (.getfield 80, 3) := by decide +kernel
theorem dX10_layAway_93 : decode cX10_layAway 93 = .ok (.iload 4, 2) := by decide +kernel
theorem dX10_layAway_95 : decode cX10_layAway 95 = .ok (.iaload, 1) := by decide +kernel
theorem dX10_layAway_96 : decode cX10_layAway 96 = .ok (.sipush 1000, 3) := by decide +kernel
theorem dX10_layAway_99 : decode cX10_layAway 99 = .ok (.if_icmp .ge 65, 3) := by decide +kernel
theorem dX10_layAway_102 : decode cX10_layAway 102 = .ok (.aload_n 0, 1) := by decide +kernel
theorem dX10_layAway_103 : decode cX10_layAway 103 = .ok (.getfield 77, 3) := by decide +kernel
theorem dX10_layAway_106 : decode cX10_layAway 106 = .ok (.iload 5, 2) := by decide +kernel
theorem dX10_layAway_108 : decode cX10_layAway 108 = .ok (.iaload, 1) := by decide +kernel
theorem dX10_layAway_109 : decode cX10_layAway 109 = .ok (.sipush 1000, 3) := by decide +kernel
theorem dX10_layAway_112 : decode cX10_layAway 112 = .ok (.if_icmp .ge 52, 3) := by decide +kernel
theorem dX10_layAway_115 : decode cX10_layAway 115 = .ok (.aload_n 0, 1) := by decide +kernel
theorem dX10_layAway_116 : decode cX10_layAway 116 = .ok (.getfield 80, 3) := by decide +kernel
theorem dX10_layAway_119 : decode cX10_layAway 119 = .ok (.iload 4, 2) := by decide +kernel
theorem dX10_layAway_121 : decode cX10_layAway 121 = .ok (.iaload, 1) := by decide +kernel
theorem dX10_layAway_122 : decode cX10_layAway 122 = .ok (.aload_n 0, 1) := by decide +kernel
theorem dX10_layAway_123 : decode cX10_layAway 123 = .ok (.getfield 77, 3) := by decide +kernel
theorem dX10_layAway_126 : decode cX10_layAway 126 = .ok (.iload 5, 2) := by decide +kernel
theorem dX10_layAway_128 : decode cX10_layAway 128 = .ok (.iaload, 1) := by decide +kernel
theorem dX10_layAway_129 : decode cX10_layAway 129 = .ok (.iadd, 1) := by decide +kernel
theorem dX10_layAway_130 : decode cX10_layAway 130 = .ok (.aload_n 0, 1) := by decide +kernel
theorem dX10_layAway_131 : decode cX10_layAway 131 = .ok (.getfield 80, 3) := by decide +kernel
theorem dX10_layAway_134 : decode cX10_layAway 134 = .ok (.iload 5, 2) := by decide +kernel
theorem dX10_layAway_136 : decode cX10_layAway 136 = .ok (.iaload, 1) := by decide +kernel
theorem dX10_layAway_137 : decode cX10_layAway 137 = .ok (.if_icmp .ge 27, 3) := by decide +kernel
theorem dX10_layAway_140 : decode cX10_layAway 140 = .ok (.aload_n 0, 1) := by decide +kernel
theorem dX10_layAway_141 : decode cX10_layAway 141 = .ok (.getfield 80, 3) := by decide +kernel
theorem dX10_layAway_144 : decode cX10_layAway 144 = .ok (.iload 5, 2) := by decide +kernel
theorem dX10_layAway_146 : decode cX10_layAway 146 = .ok (.aload_n 0, 1) := by decide +kernel
theorem dX10_layAway_147 : decode cX10_layAway 147 = .ok (.getfield 80, 3) := by decide +kernel
theorem dX10_layAway_150 : decode cX10_layAway 150 = .ok (.iload 4, 2) := by decide +kernel
theorem dX10_layAway_152 : decode cX10_layAway 152 = .ok (.iaload, 1) := by decide +kernel
theorem dX10_layAway_153 : decode cX10_layAway 153 = .ok (.aload_n 0, 1) := by decide +kernel
theorem dX10_layAway_154 : decode cX10_layAway 154 = .ok (.getfield 77, 3) := by decide +kernel
theorem dX10_layAway_157 : decode cX10_layAway 157 = .ok (.iload 5, 2) := by decide +kernel
theorem dX10_layAway_159 : decode cX10_layAway 159 = .ok (.iaload, 1) := by decide +kernel
theorem dX10_layAway_160 : decode cX10_layAway 160 = .ok (.iadd, 1) := by decide +kernel
theorem dX10_layAway_161 : decode cX10_layAway 161 = .ok (.iastore, 1) := by decide +kernel
theorem dX10_layAway_162 : decode cX10_layAway 162 = .ok (.iconst 1, 1) := by decide +kernel
theorem dX10_layAway_163 : decode cX10_layAway 163 = .ok (.istore_n 2, 1) := by decide +kernel
theorem dX10_layAway_164 : decode cX10_layAway 164 = .ok (.iinc 3 1, 3) := by decide +kernel
theorem dX10_layAway_167 : decode cX10_layAway 167 = .ok (.goto (-118), 3) := by decide +kernel
theorem dX10_layAway_170 : decode cX10_layAway 170 = .ok (.goto (-129), 3) := by decide +kernel
theorem dX10_layAway_173 : decode cX10_layAway 173 = .ok (.return_, 1) := by decide +kernel
theorem dX10_way_0 : decode cX10_way 0 = .ok (.aload_n 0, 1) := by decide +kernel
theorem dX10_way_1 : decode cX10_way 1 = .ok (.iload_n 1, 1) := by decide +kernel
theorem dX10_way_2 : decode cX10_way 2 = .ok (.invokevirtual 337, 3) := by decide +kernel
theorem dX10_way_5 : decode cX10_way 5 = .ok (.ifCond .eq 20, 3) := by decide +kernel
theorem dX10_way_8 : decode cX10_way 8 = .ok (.aload_n 0, 1) := by decide +kernel
theorem dX10_way_9 : decode cX10_way 9 = .ok (.iload_n 2, 1) := by decide +kernel
theorem dX10_way_10 : decode cX10_way 10 = .ok (.invokevirtual 337, 3) := by decide +kernel
theorem dX10_way_13 : decode cX10_way 13 = .ok (.ifCond .eq 12, 3) := by decide +kernel
theorem dX10_way_16 : decode cX10_way 16 = .ok (.iload_n 3, 1) := by decide +kernel
theorem dX10_way_17 : decode cX10_way 17 = .ok (.iconst 0, 1) := by decide +kernel
theorem dX10_way_18 : decode cX10_way 18 = .ok (.iconst 1, 1) := by decide +kernel
theorem dX10_way_19 : decode cX10_way 19 = .ok (.invokestatic 217, 3) := by decide +kernel
theorem dX10_way_22 : decode cX10_way 22 = .ok (.ifCond .ne 5, 3) := by decide +kernel
theorem dX10_way_25 : decode cX10_way 25 = .ok (.iconst (-1), 1) := by decide +kernel
theorem dX10_way_26 : decode cX10_way 26 = .ok (.ireturn, 1) := by decide +kernel
theorem dX10_way_27 : decode cX10_way 27 = .ok (.aload_n 0, 1) := by decide +kernel
theorem dX10_way_28 : decode cX10_way 28 = .ok (.invokevirtual 348, 3) := by decide +kernel
theorem dX10_way_31 : decode cX10_way 31 = .ok (.istore 4, 2) := by decide +kernel
theorem dX10_way_33 : decode cX10_way 33 = .ok (.iconst 0, 1) := by decide +kernel
theorem dX10_way_34 : decode cX10_way 34 = .ok (.istore 5, 2) := by decide +kernel
theorem dX10_way_36 : decode cX10_way 36 = .ok (.iload 5, 2) := by decide +kernel
theorem dX10_way_38 : decode cX10_way 38 = .ok (.aload_n 0, 1) := by decide +kernel
theorem dX10_way_39 : decode cX10_way 39 = .ok (.getfield 264, 3) := by decide +kernel
theorem dX10_way_42 : decode cX10_way 42 = .ok (.if_icmp .ge 33, 3) := by decide +kernel
theorem dX10_way_45 : decode cX10_way 45 = .ok (.aload_n 0, 1) := by decide +kernel
theorem dX10_way_46 : decode cX10_way 46 = .ok (.getfield 77, 3) := by decide +kernel
theorem dX10_way_49 : decode cX10_way 49 = .ok (.iload 5, 2) := by decide +kernel
theorem dX10_way_51 : decode cX10_way 51 = .ok (.iload 4, 2) := by decide +kernel
theorem dX10_way_53 : decode cX10_way 53 = .ok (.iload 5, 2) := by decide +kernel
theorem dX10_way_55 : decode cX10_way 55 = .ok (.invokestatic 228, 3) := by decide +kernel
theorem dX10_way_58 : decode cX10_way 58 = .ok (.ifCond .eq 7, 3) := by decide +kernel
theorem dX10_way_61 : decode cX10_way 61 = .ok (.iconst 1, 1) := by decide +kernel
theorem dX10_way_62 : decode cX10_way 62 = .ok (.goto 6, 3) := by decide +kernel
theorem dX10_way_65 : decode cX10_way 65 = .ok (.sipush 1000, 3) := by decide +kernel
theorem dX10_way_68 : decode cX10_way 68 = .ok (.iastore, 1) := by decide +kernel
theorem dX10_way_69 : decode cX10_way 69 = .ok (.iinc 5 1, 3) := by decide +kernel
theorem dX10_way_72 : decode cX10_way 72 = .ok (.goto (-36), 3) := by decide +kernel
theorem dX10_way_75 : decode cX10_way 75 = .ok (.aload_n 0, 1) := by decide +kernel
theorem dX10_way_76 : decode cX10_way 76 = .ok (.iload_n 2, 1) := by decide +kernel
theorem dX10_way_77 : decode cX10_way 77 = .ok (.invokevirtual 389, 3) := by decide +kernel
theorem dX10_way_80 : decode cX10_way 80 = .ok (.iload 4, 2) := by decide +kernel
theorem dX10_way_82 : decode cX10_way 82 = .ok (.iload_n 1, 1) := by decide +kernel
theorem dX10_way_83 : decode cX10_way 83 = .ok (.invokestatic 228, 3) := by decide +kernel
theorem dX10_way_86 : decode cX10_way 86 = .ok (.ifCond .eq 24, 3) := by decide +kernel
theorem dX10_way_89 : decode cX10_way 89 = .ok (.iload 4, 2) := by decide +kernel
theorem dX10_way_91 : decode cX10_way 91 = .ok (.iload_n 2, 1) := by decide +kernel
theorem dX10_way_92 : decode cX10_way 92 = .ok (.invokestatic 228, 3) := by decide +kernel
theorem dX10_way_95 : decode cX10_way 95 = .ok (.ifCond .eq 15, 3) := by decide +kernel
theorem dX10_way_98 : decode cX10_way 98 = .ok (.aload_n 0, 1) := by decide +kernel
theorem dX10_way_99 : decode cX10_way 99 = .ok (.getfield 80, 3) := by decide +kernel
theorem dX10_way_102 : decode cX10_way 102 = .ok (.iload_n 1, 1) := by decide +kernel
theorem dX10_way_103 : decode cX10_way 103 = .ok (.iaload, 1) := by decide +kernel
theorem dX10_way_104 : decode cX10_way 104 = .ok (.sipush 1000, 3) := by decide +kernel
theorem dX10_way_107 : decode cX10_way 107 = .ok (.if_icmp .lt 5, 3) := by decide +kernel
theorem dX10_way_110 : decode cX10_way 110 = .ok (.iconst (-1), 1) := by decide +kernel
theorem dX10_way_111 : decode cX10_way 111 = .ok (.ireturn, 1) := by decide +kernel
theorem dX10_way_112 : decode cX10_way 112 = .ok (.iload_n 3, 1) := by decide +kernel
theorem dX10_way_113 : decode cX10_way 113 = .ok (.ifCond .ne 12, 3) := by decide +kernel
theorem dX10_way_116 : decode cX10_way 116 = .ok (.aload_n 0, 1) := by decide +kernel
theorem dX10_way_117 : decode cX10_way 117 = .ok (.getfield 80, 3) := by decide +kernel
theorem dX10_way_120 : decode cX10_way 120 = .ok (.iload_n 1, 1) := by decide +kernel
theorem dX10_way_121 : decode cX10_way 121 = .ok (.iaload, 1) := by decide +kernel
theorem dX10_way_122 : decode cX10_way 122 = .ok (.iconst 1, 1) := by decide +kernel
theorem dX10_way_123 : decode cX10_way 123 = .ok (.isub, 1) := by decide +kernel
theorem dX10_way_124 : decode cX10_way 124 = .ok (.ireturn, 1) := by decide +kernel
theorem dX10_way_125 : decode cX10_way 125 = .ok (.iconst (-1), 1) := by decide +kernel
theorem dX10_way_126 : decode cX10_way 126 = .ok (.istore 5, 2) := by decide +kernel
theorem dX10_way_128 : decode cX10_way 128 = .ok (.aload_n 0, 1) := by decide +kernel
theorem dX10_way_129 : decode cX10_way 129 = .ok (.getfield 264, 3) := by decide +kernel
theorem dX10_way_132 : decode cX10_way 132 = .ok (.iconst 1, 1) := by decide +kernel
theorem dX10_way_133 : decode cX10_way 133 = .ok (.isub, 1) := by decide +kernel
theorem dX10_way_134 : decode cX10_way 134 = .ok (.istore 6, 2) := by decide +kernel
theorem dX10_way_136 : decode cX10_way 136 = .ok (.iload 6, 2) := by decide +kernel
theorem dX10_way_138 : decode cX10_way 138 = .ok (.ifCond .lt 46, 3) := by decide +kernel
theorem dX10_way_141 : decode cX10_way 141 = .ok (.aload_n 0, 1) := by decide +kernel
theorem dX10_way_142 : decode cX10_way 142 = .ok (.iload_n 1, 1) := by decide +kernel
theorem dX10_way_143 : decode cX10_way 143 = .ok (.iload 6, 2) := by decide +kernel
theorem dX10_way_145 : decode cX10_way 145 = .ok (.invokevirtual 386, 3) := by decide +kernel
theorem dX10_way_148 : decode cX10_way 148 = .ok (.ifCond .eq 26, 3) := by decide +kernel
theorem dX10_way_151 : decode cX10_way 151 = .ok (.aload_n 0, 1) := by decide +kernel
theorem dX10_way_152 : decode cX10_way 152 = .ok (.getfield 80, 3) := by decide +kernel
theorem dX10_way_155 : decode cX10_way 155 = .ok (.iload 6, 2) := by decide +kernel
theorem dX10_way_157 : decode cX10_way 157 = .ok (.iaload, 1) := by decide +kernel
theorem dX10_way_158 : decode cX10_way 158 = .ok (.aload_n 0, 1) := by decide +kernel
theorem dX10_way_159 : decode cX10_way 159 = .ok (.getfield 80, 3) := by decide +kernel
theorem dX10_way_162 : decode cX10_way 162 = .ok (.iload_n 1, 1) := by decide +kernel
theorem dX10_way_163 : decode cX10_way 163 = .ok (.iaload, 1) := by decide +kernel
theorem dX10_way_164 : decode cX10_way 164 = .ok (.iconst 1, 1) := by decide +kernel
theorem dX10_way_165 : decode cX10_way 165 = .ok (.isub, 1) := by decide +kernel
theorem dX10_way_166 : decode cX10_way 166 = .ok (.if_icmp .ne 8, 3) := by decide +kernel
theorem dX10_way_169 : decode cX10_way 169 = .ok (.iload 6, 2) := by decide +kernel
theorem dX10_way_171 : decode cX10_way 171 = .ok (.goto 5, 3) := by decide +kernel
theorem dX10_way_174 : decode cX10_way 174 = .ok (.iload 5, 2) := by decide +kernel
theorem dX10_way_176 : decode cX10_way 176 = .ok (.istore 5, 2) := by decide +kernel
theorem dX10_way_178 : decode cX10_way 178 = .ok (.iinc 6 (-1), 3) := by decide +kernel
theorem dX10_way_181 : decode cX10_way 181 = .ok (.goto (-45), 3) := by decide +kernel
theorem dX10_way_184 : decode cX10_way 184 = .ok (.iload 5, 2) := by decide +kernel
theorem dX10_way_186 : decode cX10_way 186 = .ok (.ireturn, 1) := by decide +kernel
theorem dX10_risk_0 : decode cX10_risk 0 = .ok (.aload_n 0, 1) := by decide +kernel
theorem dX10_risk_1 : decode cX10_risk 1 = .ok (.iload_n 1, 1) := by decide +kernel
theorem dX10_risk_2 : decode cX10_risk 2 = .ok (.invokevirtual 337, 3) := by decide +kernel
theorem dX10_risk_5 : decode cX10_risk 5 = .ok (.ifCond .eq 11, 3) := by decide +kernel
theorem dX10_risk_8 : decode cX10_risk 8 = .ok (.aload_n 0, 1) := by decide +kernel
theorem dX10_risk_9 : decode cX10_risk 9 = .ok (.iload_n 2, 1) := by decide +kernel
theorem dX10_risk_10 : decode cX10_risk 10 = .ok (.invokevirtual 337, 3) := by decide +kernel
theorem dX10_risk_13 : decode cX10_risk 13 = .ok (.ifCond .ne 5, 3) := by decide +kernel
theorem dX10_risk_16 : decode cX10_risk 16 = .ok (.iconst (-1), 1) := by decide +kernel
theorem dX10_risk_17 : decode cX10_risk 17 = .ok (.ireturn, 1) := by decide +kernel
theorem dX10_risk_18 : decode cX10_risk 18 = .ok (.aload_n 0, 1) := by decide +kernel
theorem dX10_risk_19 : decode cX10_risk 19 = .ok (.invokevirtual 348, 3) := by decide +kernel
theorem dX10_risk_22 : decode cX10_risk 22 = .ok (.istore_n 3, 1) := by decide +kernel
theorem dX10_risk_23 : decode cX10_risk 23 = .ok (.iconst 0, 1) := by decide +kernel
theorem dX10_risk_24 : decode cX10_risk 24 = .ok (.istore 4, 2) := by decide +kernel
theorem dX10_risk_26 : decode cX10_risk 26 = .ok (.iload 4, 2) := by decide +kernel
theorem dX10_risk_28 : decode cX10_risk 28 = .ok (.aload_n 0, 1) := by decide +kernel
theorem dX10_risk_29 : decode cX10_risk 29 = .ok (.getfield 264, 3) := by decide +kernel
theorem dX10_risk_32 : decode cX10_risk 32 = .ok (.if_icmp .ge 30, 3) := by decide +kernel
theorem dX10_risk_35 : decode cX10_risk 35 = .ok (.aload_n 0, 1) := by decide +kernel
theorem dX10_risk_36 : decode cX10_risk 36 = .ok (.getfield 77, 3) := by decide +kernel
theorem dX10_risk_39 : decode cX10_risk 39 = .ok (.iload 4, 2) := by decide +kernel
theorem dX10_risk_41 : decode cX10_risk 41 = .ok (.iload_n 3, 1) := by decide +kernel
theorem dX10_risk_42 : decode cX10_risk 42 = .ok (.iload 4, 2) := by decide +kernel
theorem dX10_risk_44 : decode cX10_risk 44 = .ok (.invokestatic 228, 3) := by decide +kernel
theorem dX10_risk_47 : decode cX10_risk 47 = .ok (.ifCond .eq 7, 3) := by decide +kernel
theorem dX10_risk_50 : decode cX10_risk 50 = .ok (.iconst 0, 1) := by decide +kernel
theorem dX10_risk_51 : decode cX10_risk 51 = .ok (.goto 4, 3) := by decide +kernel
theorem dX10_risk_54 : decode cX10_risk 54 = .ok (.iconst 1, 1) := by decide +kernel
theorem dX10_risk_55 : decode cX10_risk 55 = .ok (.iastore, 1) := by decide +kernel
theorem dX10_risk_56 : decode cX10_risk 56 = .ok (.iinc 4 1, 3) := by decide +kernel
theorem dX10_risk_59 : decode cX10_risk 59 = .ok (.goto (-33), 3) := by decide +kernel
theorem dX10_risk_62 : decode cX10_risk 62 = .ok (.aload_n 0, 1) := by decide +kernel
theorem dX10_risk_63 : decode cX10_risk 63 = .ok (.iload_n 1, 1) := by decide +kernel
theorem dX10_risk_64 : decode cX10_risk 64 = .ok (.invokevirtual 389, 3) := by decide +kernel
theorem dX10_risk_67 : decode cX10_risk 67 = .ok (.aload_n 0, 1) := by decide +kernel
theorem dX10_risk_68 : decode cX10_risk 68 = .ok (.getfield 80, 3) := by decide +kernel
theorem dX10_risk_71 : decode cX10_risk 71 = .ok (.iload_n 2, 1) := by decide +kernel
theorem dX10_risk_72 : decode cX10_risk 72 = .ok (.iaload, 1) := by decide +kernel
theorem dX10_risk_73 : decode cX10_risk 73 = .ok (.ireturn, 1) := by decide +kernel
theorem dX10_enough_0 : decode cX10_enough 0 = .ok (.aload_n 0, 1) := by decide +kernel
theorem dX10_enough_1 : decode cX10_enough 1 = .ok (.getfield 264, 3) := by decide +kernel
theorem dX10_enough_4 : decode cX10_enough 4 = .ok (.ifCond .ne 5, 3) := by decide +kernel
theorem dX10_enough_7 : decode cX10_enough 7 = .ok (.iconst (-1), 1) := by decide +kernel
theorem dX10_enough_8 : decode cX10_enough 8 = .ok (.ireturn, 1) := by decide +kernel
theorem dX10_enough_9 : decode cX10_enough 9 = .ok (.aload_n 0, 1) := by decide +kernel
theorem dX10_enough_10 : decode cX10_enough 10 = .ok (.invokevirtual 334, 3) := by decide +kernel
theorem dX10_enough_13 : decode cX10_enough 13 = .ok (.istore_n 1, 1) := by decide +kernel
theorem dX10_enough_14 : decode cX10_enough 14 = .ok (.iconst (-1), 1) := by decide +kernel
theorem dX10_enough_15 : decode cX10_enough 15 = .ok (.istore_n 2, 1) := by decide +kernel
theorem dX10_enough_16 : decode cX10_enough 16 = .ok (.iconst 0, 1) := by decide +kernel
theorem dX10_enough_17 : decode cX10_enough 17 = .ok (.istore_n 3, 1) := by decide +kernel
theorem dX10_enough_18 : decode cX10_enough 18 = .ok (.iload_n 3, 1) := by decide +kernel
theorem dX10_enough_19 : decode cX10_enough 19 = .ok (.iconst 1, 1) := by decide +kernel
theorem dX10_enough_20 : decode cX10_enough 20 = .ok (.aload_n 0, 1) := by decide +kernel
theorem dX10_enough_21 : decode cX10_enough 21 = .ok (.getfield 261, 3) := by decide +kernel
theorem dX10_enough_24 : decode cX10_enough 24 = .ok (.ishl, 1) := by decide +kernel
theorem dX10_enough_25 : decode cX10_enough 25 = .ok (.if_icmp .ge 82, 3) := by decide +kernel
theorem dX10_enough_28 : decode cX10_enough 28 = .ok (.iconst 0, 1) := by decide +kernel
theorem dX10_enough_29 : decode cX10_enough 29 = .ok (.istore 4, 2) := by decide +kernel
theorem dX10_enough_31 : decode cX10_enough 31 = .ok (.iconst 0, 1) := by decide +kernel
theorem dX10_enough_32 : decode cX10_enough 32 = .ok (.istore 5, 2) := by decide +kernel
theorem dX10_enough_34 : decode cX10_enough 34 = .ok (.iload 5, 2) := by decide +kernel
theorem dX10_enough_36 : decode cX10_enough 36 = .ok (.aload_n 0, 1) := by decide +kernel
theorem dX10_enough_37 : decode cX10_enough 37 = .ok (.getfield 261, 3) := by decide +kernel
theorem dX10_enough_40 : decode cX10_enough 40 = .ok (.if_icmp .ge 33, 3) := by decide +kernel
theorem dX10_enough_43 : decode cX10_enough 43 = .ok (.iload 4, 2) := by decide +kernel
theorem dX10_enough_45 : decode cX10_enough 45 = .ok (.iload_n 3, 1) := by decide +kernel
theorem dX10_enough_46 : decode cX10_enough 46 = .ok (.iload 5, 2) := by decide +kernel
theorem dX10_enough_48 : decode cX10_enough 48 = .ok (.invokestatic 228, 3) := by decide +kernel
theorem dX10_enough_51 : decode cX10_enough 51 = .ok (.ifCond .eq 12, 3) := by decide +kernel
theorem dX10_enough_54 : decode cX10_enough 54 = .ok (.aload_n 0, 1) := by decide +kernel
theorem dX10_enough_55 : decode cX10_enough 55 = .ok (.iload 5, 2) := by decide +kernel
theorem dX10_enough_57 : decode cX10_enough 57 = .ok (.invokevirtual 328, 3) := by decide +kernel
theorem dX10_enough_60 : decode cX10_enough 60 = .ok (.goto 4, 3) := by decide +kernel
theorem dX10_enough_63 : decode cX10_enough 63 = .ok (.iconst 0, 1) := by decide +kernel
theorem dX10_enough_64 : decode cX10_enough 64 = .ok (.ior, 1) := by decide +kernel
theorem dX10_enough_65 : decode cX10_enough 65 = .ok (.istore 4, 2) := by decide +kernel
theorem dX10_enough_67 : decode cX10_enough 67 = .ok (.iinc 5 1, 3) := by decide +kernel
theorem dX10_enough_70 : decode cX10_enough 70 = .ok (.goto (-36), 3) := by decide +kernel
theorem dX10_enough_73 : decode cX10_enough 73 = .ok (.iload 4, 2) := by decide +kernel
theorem dX10_enough_75 : decode cX10_enough 75 = .ok (.iload_n 1, 1) := by decide +kernel
theorem dX10_enough_76 : decode cX10_enough 76 = .ok (.if_icmp .ne 23, 3) := by decide +kernel
theorem dX10_enough_79 : decode cX10_enough 79 = .ok (.iload_n 2, 1) := by decide +kernel
theorem dX10_enough_80 : decode cX10_enough 80 = .ok (.iconst (-1), 1) := by decide +kernel
theorem dX10_enough_81 : decode cX10_enough 81 = .ok (.if_icmp .eq 14, 3) := by decide +kernel
theorem dX10_enough_84 : decode cX10_enough 84 = .ok (.iload_n 3, 1) := by decide +kernel
theorem dX10_enough_85 : decode cX10_enough 85 = .ok (.invokestatic 343, 3) := by decide +kernel
theorem dX10_enough_88 : decode cX10_enough 88 = .ok (.iload_n 2, 1) := by decide +kernel
theorem dX10_enough_89 : decode cX10_enough 89 = .ok (.invokestatic 343, 3) := by decide +kernel
theorem dX10_enough_92 : decode cX10_enough 92 = .ok (.if_icmp .ge 7, 3) := by decide +kernel
theorem dX10_enough_95 : decode cX10_enough 95 = .ok (.iload_n 3, 1) := by decide +kernel
theorem dX10_enough_96 : decode cX10_enough 96 = .ok (.goto 4, 3) := by decide +kernel
theorem dX10_enough_99 : decode cX10_enough 99 = .ok (.iload_n 2, 1) := by decide +kernel
theorem dX10_enough_100 : decode cX10_enough 100 = .ok (.istore_n 2, 1) := by decide +kernel
theorem dX10_enough_101 : decode cX10_enough 101 = .ok (.iinc 3 1, 3) := by decide +kernel
theorem dX10_enough_104 : decode cX10_enough 104 = .ok (.goto (-86), 3) := by decide +kernel
theorem dX10_enough_107 : decode cX10_enough 107 = .ok (.iload_n 2, 1) := by decide +kernel
theorem dX10_enough_108 : decode cX10_enough 108 = .ok (.ireturn, 1) := by decide +kernel
theorem dX10_site_0 : decode cX10_site 0 = .ok (.aload_n 0, 1) := by decide +kernel
theorem dX10_site_1 : decode cX10_site 1 = .ok (.getfield 264, 3) := by decide +kernel
theorem dX10_site_4 : decode cX10_site 4 = .ok (.ifCond .eq 32, 3) := by decide +kernel
theorem dX10_site_7 : decode cX10_site 7 = .ok (.iload_n 1, 1) := by decide +kernel
theorem dX10_site_8 : decode cX10_site 8 = .ok (.iconst 0, 1) := by decide +kernel
theorem dX10_site_9 : decode cX10_site 9 = .ok (.bipush 9, 2) := by decide +kernel
theorem dX10_site_11 : decode cX10_site 11 = .ok (.invokestatic 217, 3) := by decide +kernel
theorem dX10_site_14 : decode cX10_site 14 = .ok (.ifCond .eq 22, 3) := by decide +kernel
theorem dX10_site_17 : decode cX10_site 17 = .ok (.iload_n 2, 1) := by decide +kernel
theorem dX10_site_18 : decode cX10_site 18 = .ok (.iconst 0, 1) := by decide +kernel
theorem dX10_site_19 : decode cX10_site 19 = .ok (.bipush 9, 2) := by decide +kernel
theorem dX10_site_21 : decode cX10_site 21 = .ok (.invokestatic 217, 3) := by decide +kernel
theorem dX10_site_24 : decode cX10_site 24 = .ok (.ifCond .eq 12, 3) := by decide +kernel
theorem dX10_site_27 : decode cX10_site 27 = .ok (.iload_n 3, 1) := by decide +kernel
theorem dX10_site_28 : decode cX10_site 28 = .ok (.iconst 0, 1) := by decide +kernel
theorem dX10_site_29 : decode cX10_site 29 = .ok (.iconst 1, 1) := by decide +kernel
theorem dX10_site_30 : decode cX10_site 30 = .ok (.invokestatic 217, 3) := by decide +kernel
theorem dX10_site_33 : decode cX10_site 33 = .ok (.ifCond .ne 5, 3) := by decide +kernel
theorem dX10_site_36 : decode cX10_site 36 = .ok (.iconst (-1), 1) := by decide +kernel
theorem dX10_site_37 : decode cX10_site 37 = .ok (.ireturn, 1) := by decide +kernel
theorem dX10_site_38 : decode cX10_site 38 = .ok (.aload_n 0, 1) := by decide +kernel
theorem dX10_site_39 : decode cX10_site 39 = .ok (.invokevirtual 348, 3) := by decide +kernel
theorem dX10_site_42 : decode cX10_site 42 = .ok (.istore 4, 2) := by decide +kernel
theorem dX10_site_44 : decode cX10_site 44 = .ok (.iconst (-1), 1) := by decide +kernel
theorem dX10_site_45 : decode cX10_site 45 = .ok (.istore 5, 2) := by decide +kernel
theorem dX10_site_47 : decode cX10_site 47 = .ok (.iconst 0, 1) := by decide +kernel
theorem dX10_site_48 : decode cX10_site 48 = .ok (.istore 6, 2) := by decide +kernel
theorem dX10_site_50 : decode cX10_site 50 = .ok (.iconst 0, 1) := by decide +kernel
theorem dX10_site_51 : decode cX10_site 51 = .ok (.istore 7, 2) := by decide +kernel
theorem dX10_site_53 : decode cX10_site 53 = .ok (.iload 7, 2) := by decide +kernel
theorem dX10_site_55 : decode cX10_site 55 = .ok (.aload_n 0, 1) := by decide +kernel
theorem dX10_site_56 : decode cX10_site 56 = .ok (.getfield 264, 3) := by decide +kernel
theorem dX10_site_59 : decode cX10_site 59 = .ok (.if_icmp .ge 105, 3) := by decide +kernel
theorem dX10_site_62 : decode cX10_site 62 = .ok (.iconst 0, 1) := by decide +kernel
theorem dX10_site_63 : decode cX10_site 63 = .ok (.istore 8, 2) := by decide +kernel
theorem dX10_site_65 : decode cX10_site 65 = .ok (.iconst 0, 1) := by decide +kernel
theorem dX10_site_66 : decode cX10_site 66 = .ok (.istore 9, 2) := by decide +kernel
theorem dX10_site_68 : decode cX10_site 68 = .ok (.iload 9, 2) := by decide +kernel
theorem dX10_site_70 : decode cX10_site 70 = .ok (.aload_n 0, 1) := by decide +kernel
theorem dX10_site_71 : decode cX10_site 71 = .ok (.getfield 264, 3) := by decide +kernel
theorem dX10_site_74 : decode cX10_site 74 = .ok (.if_icmp .ge 63, 3) := by decide +kernel
theorem dX10_site_77 : decode cX10_site 77 = .ok (.iload 8, 2) := by decide +kernel
theorem dX10_site_79 : decode cX10_site 79 = .ok (.iload 4, 2) := by decide +kernel
theorem dX10_site_81 : decode cX10_site 81 = .ok (.iload 9, 2) := by decide +kernel
theorem dX10_site_83 : decode cX10_site 83 = .ok (.invokestatic 228, 3) := by decide +kernel
theorem dX10_site_86 : decode cX10_site 86 = .ok (.ifCond .eq 41, 3) := by decide +kernel
theorem dX10_site_89 : decode cX10_site 89 = .ok (.aload_n 0, 1) := by decide +kernel
theorem dX10_site_90 : decode cX10_site 90 = .ok (.aload_n 0, 1) := by decide +kernel
theorem dX10_site_91 : decode cX10_site 91 = .ok (.getfield 61, 3) := by decide +kernel
theorem dX10_site_94 : decode cX10_site 94 = .ok (.iload 7, 2) := by decide +kernel
theorem dX10_site_96 : decode cX10_site 96 = .ok (.aload_n 0, 1) := by decide +kernel
theorem dX10_site_97 : decode cX10_site 97 = .ok (.getfield 61, 3) := by decide +kernel
theorem dX10_site_100 : decode cX10_site 100 = .ok (.iconst 0, 1) := by decide +kernel
theorem dX10_site_101 : decode cX10_site 101 = .ok (.iload 7, 2) := by decide +kernel
theorem dX10_site_103 : decode cX10_site 103 = .ok (.iadd, 1) := by decide +kernel
theorem dX10_site_104 : decode cX10_site 104 = .ok (.iaload, 1) := by decide +kernel
theorem dX10_site_105 : decode cX10_site 105 = .ok (.iload_n 1, 1) := by decide +kernel
theorem dX10_site_106 : decode cX10_site 106 = .ok (.iadd, 1) := by decide +kernel
theorem dX10_site_107 : decode cX10_site 107 = .ok (.iload_n 2, 1) := by decide +kernel
theorem dX10_site_108 : decode cX10_site 108 = .ok (.aload_n 0, 1) := by decide +kernel
theorem dX10_site_109 : decode cX10_site 109 = .ok (.getfield 61, 3) := by decide +kernel
theorem dX10_site_112 : decode cX10_site 112 = .ok (.bipush 39, 2) := by decide +kernel
theorem dX10_site_114 : decode cX10_site 114 = .ok (.iaload, 1) := by decide +kernel
theorem dX10_site_115 : decode cX10_site 115 = .ok (.iload 9, 2) := by decide +kernel
theorem dX10_site_117 : decode cX10_site 117 = .ok (.invokevirtual 321, 3) := by decide +kernel
theorem dX10_site_120 : decode cX10_site 120 = .ok (.ifCond .ne 7, 3) := by decide +kernel
theorem dX10_site_123 : decode cX10_site 123 = .ok (.iconst 1, 1) := by decide +kernel
theorem dX10_site_124 : decode cX10_site 124 = .ok (.goto 4, 3) := by decide +kernel
theorem dX10_site_127 : decode cX10_site 127 = .ok (.iconst 0, 1) := by decide +kernel
theorem dX10_site_128 : decode cX10_site 128 = .ok (.iadd, 1) := by decide +kernel
theorem dX10_site_129 : decode cX10_site 129 = .ok (.istore 8, 2) := by decide +kernel
theorem dX10_site_131 : decode cX10_site 131 = .ok (.iinc 9 1, 3) := by decide +kernel
theorem dX10_site_134 : decode cX10_site 134 = .ok (.goto (-66), 3) := by decide +kernel
theorem dX10_site_137 : decode cX10_site 137 = .ok (.iload 5, 2) := by decide +kernel
theorem dX10_site_139 : decode cX10_site 139 = .ok (.iconst (-1), 1) := by decide +kernel
theorem dX10_site_140 : decode cX10_site 140 = .ok (.if_icmp .eq 10, 3) := by decide +kernel
theorem dX10_site_143 : decode cX10_site 143 = .ok (.iload 8, 2) := by decide +kernel
theorem dX10_site_145 : decode cX10_site 145 = .ok (.iload 6, 2) := by decide +kernel
theorem dX10_site_147 : decode cX10_site 147 = .ok (.if_icmp .ge 11, 3) := by decide +kernel
theorem dX10_site_150 : decode cX10_site 150 = .ok (.iload 7, 2) := by decide +kernel
theorem dX10_site_152 : decode cX10_site 152 = .ok (.istore 5, 2) := by decide +kernel
theorem dX10_site_154 : decode cX10_site 154 = .ok (.iload 8, 2) := by decide +kernel
theorem dX10_site_156 : decode cX10_site 156 = .ok (.istore 6, 2) := by decide +kernel
theorem dX10_site_158 : decode cX10_site 158 = .ok (.iinc 7 1, 3) := by decide +kernel
theorem dX10_site_161 : decode cX10_site 161 = .ok (.goto (-108), 3) := by decide +kernel
theorem dX10_site_164 : decode cX10_site 164 = .ok (.iload_n 3, 1) := by decide +kernel
theorem dX10_site_165 : decode cX10_site 165 = .ok (.ifCond .ne 8, 3) := by decide +kernel
theorem dX10_site_168 : decode cX10_site 168 = .ok (.iload 5, 2) := by decide +kernel
theorem dX10_site_170 : decode cX10_site 170 = .ok (.goto 5, 3) := by decide +kernel
theorem dX10_site_173 : decode cX10_site 173 = .ok (.iload 6, 2) := by decide +kernel
theorem dX10_site_175 : decode cX10_site 175 = .ok (.ireturn, 1) := by decide +kernel
theorem dX10_watched_0 : decode cX10_watched 0 = .ok (.aload_n 0, 1) := by decide +kernel
theorem dX10_watched_1 : decode cX10_watched 1 = .ok (.getfield 264, 3) := by decide +kernel
theorem dX10_watched_4 : decode cX10_watched 4 = .ok (.ifCond .eq 12, 3) := by decide +kernel
theorem dX10_watched_7 : decode cX10_watched 7 = .ok (.iload_n 1, 1) := by decide +kernel
theorem dX10_watched_8 : decode cX10_watched 8 = .ok (.iconst 1, 1) := by decide +kernel
theorem dX10_watched_9 : decode cX10_watched 9 = .ok (.iconst 4, 1) := by decide +kernel
theorem dX10_watched_10 : decode cX10_watched 10 = .ok (.invokestatic 217, 3) := by decide +kernel
theorem dX10_watched_13 : decode cX10_watched 13 = .ok (.ifCond .ne 5, 3) := by decide +kernel
theorem dX10_watched_16 : decode cX10_watched 16 = .ok (.iconst (-1), 1) := by decide +kernel
theorem dX10_watched_17 : decode cX10_watched 17 = .ok (.ireturn, 1) := by decide +kernel
theorem dX10_watched_18 : decode cX10_watched 18 = .ok (.iconst 0, 1) := by decide +kernel
theorem dX10_watched_19 : decode cX10_watched 19 = .ok (.istore_n 2, 1) := by decide +kernel
theorem dX10_watched_20 : decode cX10_watched 20 = .ok (.iconst 0, 1) := by decide +kernel
theorem dX10_watched_21 : decode cX10_watched 21 = .ok (.istore_n 3, 1) := by decide +kernel
theorem dX10_watched_22 : decode cX10_watched 22 = .ok (.iload_n 3, 1) := by decide +kernel
theorem dX10_watched_23 : decode cX10_watched 23 = .ok (.aload_n 0, 1) := by decide +kernel
theorem dX10_watched_24 : decode cX10_watched 24 = .ok (.getfield 264, 3) := by decide +kernel
theorem dX10_watched_27 : decode cX10_watched 27 = .ok (.if_icmp .ge 66, 3) := by decide +kernel
theorem dX10_watched_30 : decode cX10_watched 30 = .ok (.iconst 0, 1) := by decide +kernel
theorem dX10_watched_31 : decode cX10_watched 31 = .ok (.istore 4, 2) := by decide +kernel
theorem dX10_watched_33 : decode cX10_watched 33 = .ok (.iconst 0, 1) := by decide +kernel
theorem dX10_watched_34 : decode cX10_watched 34 = .ok (.istore 5, 2) := by decide +kernel
theorem dX10_watched_36 : decode cX10_watched 36 = .ok (.iload 5, 2) := by decide +kernel
theorem dX10_watched_38 : decode cX10_watched 38 = .ok (.aload_n 0, 1) := by decide +kernel
theorem dX10_watched_39 : decode cX10_watched 39 = .ok (.getfield 261, 3) := by decide +kernel
theorem dX10_watched_42 : decode cX10_watched 42 = .ok (.if_icmp .ge 29, 3) := by decide +kernel
theorem dX10_watched_45 : decode cX10_watched 45 = .ok (.iload 4, 2) := by decide +kernel
theorem dX10_watched_47 : decode cX10_watched 47 = .ok (.aload_n 0, 1) := by decide +kernel
theorem dX10_watched_48 : decode cX10_watched 48 = .ok (.iload 5, 2) := by decide +kernel
theorem dX10_watched_50 : decode cX10_watched 50 = .ok (.iload_n 3, 1) := by decide +kernel
theorem dX10_watched_51 : decode cX10_watched 51 = .ok (.invokevirtual 325, 3) := by decide +kernel
theorem dX10_watched_54 : decode cX10_watched 54 = .ok (.ifCond .eq 7, 3) := by decide +kernel
theorem dX10_watched_57 : decode cX10_watched 57 = .ok (.iconst 1, 1) := by decide +kernel
theorem dX10_watched_58 : decode cX10_watched 58 = .ok (.goto 4, 3) := by decide +kernel
theorem dX10_watched_61 : decode cX10_watched 61 = .ok (.iconst 0, 1) := by decide +kernel
theorem dX10_watched_62 : decode cX10_watched 62 = .ok (.iadd, 1) := by decide +kernel
theorem dX10_watched_63 : decode cX10_watched 63 = .ok (.istore 4, 2) := by decide +kernel
theorem dX10_watched_65 : decode cX10_watched 65 = .ok (.iinc 5 1, 3) := by decide +kernel
theorem dX10_watched_68 : decode cX10_watched 68 = .ok (.goto (-32), 3) := by decide +kernel
theorem dX10_watched_71 : decode cX10_watched 71 = .ok (.iload_n 2, 1) := by decide +kernel
theorem dX10_watched_72 : decode cX10_watched 72 = .ok (.iload 4, 2) := by decide +kernel
theorem dX10_watched_74 : decode cX10_watched 74 = .ok (.iload_n 1, 1) := by decide +kernel
theorem dX10_watched_75 : decode cX10_watched 75 = .ok (.if_icmp .lt 9, 3) := by decide +kernel
theorem dX10_watched_78 : decode cX10_watched 78 = .ok (.iconst 1, 1) := by decide +kernel
theorem dX10_watched_79 : decode cX10_watched 79 = .ok (.iload_n 3, 1) := by decide +kernel
theorem dX10_watched_80 : decode cX10_watched 80 = .ok (.ishl, 1) := by decide +kernel
theorem dX10_watched_81 : decode cX10_watched 81 = .ok (.goto 4, 3) := by decide +kernel
theorem dX10_watched_84 : decode cX10_watched 84 = .ok (.iconst 0, 1) := by decide +kernel
theorem dX10_watched_85 : decode cX10_watched 85 = .ok (.ior, 1) := by decide +kernel
theorem dX10_watched_86 : decode cX10_watched 86 = .ok (.istore_n 2, 1) := by decide +kernel
theorem dX10_watched_87 : decode cX10_watched 87 = .ok (.iinc 3 1, 3) := by decide +kernel
theorem dX10_watched_90 : decode cX10_watched 90 = .ok (.goto (-68), 3) := by decide +kernel
theorem dX10_watched_93 : decode cX10_watched 93 = .ok (.iload_n 2, 1) := by decide +kernel
theorem dX10_watched_94 : decode cX10_watched 94 = .ok (.ireturn, 1) := by decide +kernel
theorem dX10_given_0 : decode cX10_given 0 = .ok (.aload_n 0, 1) := by decide +kernel
theorem dX10_given_1 : decode cX10_given 1 = .ok (.iload_n 1, 1) := by decide +kernel
theorem dX10_given_2 : decode cX10_given 2 = .ok (.invokevirtual 340, 3) := by decide +kernel
theorem dX10_given_5 : decode cX10_given 5 = .ok (.ifCond .eq 20, 3) := by decide +kernel
theorem dX10_given_8 : decode cX10_given 8 = .ok (.aload_n 0, 1) := by decide +kernel
theorem dX10_given_9 : decode cX10_given 9 = .ok (.iload_n 2, 1) := by decide +kernel
theorem dX10_given_10 : decode cX10_given 10 = .ok (.invokevirtual 337, 3) := by decide +kernel
theorem dX10_given_13 : decode cX10_given 13 = .ok (.ifCond .eq 12, 3) := by decide +kernel
theorem dX10_given_16 : decode cX10_given 16 = .ok (.aload_n 0, 1) := by decide +kernel
theorem dX10_given_17 : decode cX10_given 17 = .ok (.getfield 270, 3) := by decide +kernel
theorem dX10_given_20 : decode cX10_given 20 = .ok (.bipush 10, 2) := by decide +kernel
theorem dX10_given_22 : decode cX10_given 22 = .ok (.if_icmp .ne 5, 3) := by decide +kernel
theorem dX10_given_25 : decode cX10_given 25 = .ok (.iconst (-1), 1) := by decide +kernel
theorem dX10_given_26 : decode cX10_given 26 = .ok (.ireturn, 1) := by decide +kernel
theorem dX10_given_27 : decode cX10_given 27 = .ok (.aload_n 0, 1) := by decide +kernel
theorem dX10_given_28 : decode cX10_given 28 = .ok (.getfield 83, 3) := by decide +kernel
theorem dX10_given_31 : decode cX10_given 31 = .ok (.aload_n 0, 1) := by decide +kernel
theorem dX10_given_32 : decode cX10_given 32 = .ok (.getfield 270, 3) := by decide +kernel
theorem dX10_given_35 : decode cX10_given 35 = .ok (.iload_n 1, 1) := by decide +kernel
theorem dX10_given_36 : decode cX10_given 36 = .ok (.iastore, 1) := by decide +kernel
theorem dX10_given_37 : decode cX10_given 37 = .ok (.aload_n 0, 1) := by decide +kernel
theorem dX10_given_38 : decode cX10_given 38 = .ok (.getfield 86, 3) := by decide +kernel
theorem dX10_given_41 : decode cX10_given 41 = .ok (.aload_n 0, 1) := by decide +kernel
theorem dX10_given_42 : decode cX10_given 42 = .ok (.getfield 270, 3) := by decide +kernel
theorem dX10_given_45 : decode cX10_given 45 = .ok (.iload_n 2, 1) := by decide +kernel
theorem dX10_given_46 : decode cX10_given 46 = .ok (.iastore, 1) := by decide +kernel
theorem dX10_given_47 : decode cX10_given 47 = .ok (.aload_n 0, 1) := by decide +kernel
theorem dX10_given_48 : decode cX10_given 48 = .ok (.getfield 89, 3) := by decide +kernel
theorem dX10_given_51 : decode cX10_given 51 = .ok (.aload_n 0, 1) := by decide +kernel
theorem dX10_given_52 : decode cX10_given 52 = .ok (.getfield 270, 3) := by decide +kernel
theorem dX10_given_55 : decode cX10_given 55 = .ok (.iload_n 3, 1) := by decide +kernel
theorem dX10_given_56 : decode cX10_given 56 = .ok (.bastore, 1) := by decide +kernel
theorem dX10_given_57 : decode cX10_given 57 = .ok (.aload_n 0, 1) := by decide +kernel
theorem dX10_given_58 : decode cX10_given 58 = .ok (.dup, 1) := by decide +kernel
theorem dX10_given_59 : decode cX10_given 59 = .ok (.getfield 270, 3) := by decide +kernel
theorem dX10_given_62 : decode cX10_given 62 = .ok (.iconst 1, 1) := by decide +kernel
theorem dX10_given_63 : decode cX10_given 63 = .ok (.iadd, 1) := by decide +kernel
theorem dX10_given_64 : decode cX10_given 64 = .ok (.putfield 270, 3) := by decide +kernel
theorem dX10_given_67 : decode cX10_given 67 = .ok (.aload_n 0, 1) := by decide +kernel
theorem dX10_given_68 : decode cX10_given 68 = .ok (.getfield 270, 3) := by decide +kernel
theorem dX10_given_71 : decode cX10_given 71 = .ok (.ireturn, 1) := by decide +kernel
theorem dX10_seesTold_0 : decode cX10_seesTold 0 = .ok (.aload_n 0, 1) := by decide +kernel
theorem dX10_seesTold_1 : decode cX10_seesTold 1 = .ok (.getfield 55, 3) := by decide +kernel
theorem dX10_seesTold_4 : decode cX10_seesTold 4 = .ok (.iload_n 2, 1) := by decide +kernel
theorem dX10_seesTold_5 : decode cX10_seesTold 5 = .ok (.iaload, 1) := by decide +kernel
theorem dX10_seesTold_6 : decode cX10_seesTold 6 = .ok (.istore 4, 2) := by decide +kernel
theorem dX10_seesTold_8 : decode cX10_seesTold 8 = .ok (.aload_n 0, 1) := by decide +kernel
theorem dX10_seesTold_9 : decode cX10_seesTold 9 = .ok (.getfield 55, 3) := by decide +kernel
theorem dX10_seesTold_12 : decode cX10_seesTold 12 = .ok (.iload_n 2, 1) := by decide +kernel
theorem dX10_seesTold_13 : decode cX10_seesTold 13 = .ok (.iload_n 3, 1) := by decide +kernel
theorem dX10_seesTold_14 : decode cX10_seesTold 14 = .ok (.iastore, 1) := by decide +kernel
theorem dX10_seesTold_15 : decode cX10_seesTold 15 = .ok (.aload_n 0, 1) := by decide +kernel
theorem dX10_seesTold_16 : decode cX10_seesTold 16 = .ok (.getfield 55, 3) := by decide +kernel
theorem dX10_seesTold_19 : decode cX10_seesTold 19 = .ok (.aload_n 0, 1) := by decide +kernel
theorem dX10_seesTold_20 : decode cX10_seesTold 20 = .ok (.iload_n 1, 1) := by decide +kernel
theorem dX10_seesTold_21 : decode cX10_seesTold 21 = .ok (.invokevirtual 267, 3) := by decide +kernel
theorem dX10_seesTold_24 : decode cX10_seesTold 24 = .ok (.iaload, 1) := by decide +kernel
theorem dX10_seesTold_25 : decode cX10_seesTold 25 = .ok (.istore 5, 2) := by decide +kernel
theorem dX10_seesTold_27 : decode cX10_seesTold 27 = .ok (.aload_n 0, 1) := by decide +kernel
theorem dX10_seesTold_28 : decode cX10_seesTold 28 = .ok (.getfield 58, 3) := by decide +kernel
theorem dX10_seesTold_31 : decode cX10_seesTold 31 = .ok (.iconst 4, 1) := by decide +kernel
theorem dX10_seesTold_32 : decode cX10_seesTold 32 = .ok (.iload_n 1, 1) := by decide +kernel
theorem dX10_seesTold_33 : decode cX10_seesTold 33 = .ok (.imul, 1) := by decide +kernel
theorem dX10_seesTold_34 : decode cX10_seesTold 34 = .ok (.iconst 2, 1) := by decide +kernel
theorem dX10_seesTold_35 : decode cX10_seesTold 35 = .ok (.iadd, 1) := by decide +kernel
theorem dX10_seesTold_36 : decode cX10_seesTold 36 = .ok (.iaload, 1) := by decide +kernel
theorem dX10_seesTold_37 : decode cX10_seesTold 37 = .ok (.istore 6, 2) := by decide +kernel
theorem dX10_seesTold_39 : decode cX10_seesTold 39 = .ok (.aload_n 0, 1) := by decide +kernel
theorem dX10_seesTold_40 : decode cX10_seesTold 40 = .ok (.aload_n 0, 1) := by decide +kernel
theorem dX10_seesTold_41 : decode cX10_seesTold 41 = .ok (.getfield 55, 3) := by decide +kernel
theorem dX10_seesTold_44 : decode cX10_seesTold 44 = .ok (.aload_n 0, 1) := by decide +kernel
theorem dX10_seesTold_45 : decode cX10_seesTold 45 = .ok (.iload_n 1, 1) := by decide +kernel
theorem dX10_seesTold_46 : decode cX10_seesTold 46 = .ok (.invokevirtual 267, 3) := by decide +kernel
theorem dX10_seesTold_49 : decode cX10_seesTold 49 = .ok (.iload 5, 2) := by decide +kernel
theorem dX10_seesTold_51 : decode cX10_seesTold 51 = .ok (.iload 6, 2) := by decide +kernel
theorem dX10_seesTold_53 : decode cX10_seesTold 53 = .ok (.iadd, 1) := by decide +kernel
theorem dX10_seesTold_54 : decode cX10_seesTold 54 = .ok (.aload_n 0, 1) := by decide +kernel
theorem dX10_seesTold_55 : decode cX10_seesTold 55 = .ok (.iload_n 1, 1) := by decide +kernel
theorem dX10_seesTold_56 : decode cX10_seesTold 56 = .ok (.aload_n 0, 1) := by decide +kernel
theorem dX10_seesTold_57 : decode cX10_seesTold 57 = .ok (.getfield 52, 3) := by decide +kernel
theorem dX10_seesTold_60 : decode cX10_seesTold 60 = .ok (.iconst 3, 1) := by decide +kernel
theorem dX10_seesTold_61 : decode cX10_seesTold 61 = .ok (.iaload, 1) := by decide +kernel
theorem dX10_seesTold_62 : decode cX10_seesTold 62 = .ok (.iconst 0, 1) := by decide +kernel
theorem dX10_seesTold_63 : decode cX10_seesTold 63 = .ok (.iload 5, 2) := by decide +kernel
theorem dX10_seesTold_65 : decode cX10_seesTold 65 = .ok (.iload 6, 2) := by decide +kernel
theorem dX10_seesTold_67 : decode cX10_seesTold 67 = .ok (.invokevirtual 314, 3) := by decide +kernel
theorem dX10_seesTold_70 : decode cX10_seesTold 70 = .ok (.aload_n 0, 1) := by decide +kernel
theorem dX10_seesTold_71 : decode cX10_seesTold 71 = .ok (.getfield 52, 3) := by decide +kernel
theorem dX10_seesTold_74 : decode cX10_seesTold 74 = .ok (.iconst 3, 1) := by decide +kernel
theorem dX10_seesTold_75 : decode cX10_seesTold 75 = .ok (.iaload, 1) := by decide +kernel
theorem dX10_seesTold_76 : decode cX10_seesTold 76 = .ok (.iload_n 2, 1) := by decide +kernel
theorem dX10_seesTold_77 : decode cX10_seesTold 77 = .ok (.invokevirtual 321, 3) := by decide +kernel
theorem dX10_seesTold_80 : decode cX10_seesTold 80 = .ok (.istore 7, 2) := by decide +kernel
theorem dX10_seesTold_82 : decode cX10_seesTold 82 = .ok (.aload_n 0, 1) := by decide +kernel
theorem dX10_seesTold_83 : decode cX10_seesTold 83 = .ok (.getfield 55, 3) := by decide +kernel
theorem dX10_seesTold_86 : decode cX10_seesTold 86 = .ok (.iload_n 2, 1) := by decide +kernel
theorem dX10_seesTold_87 : decode cX10_seesTold 87 = .ok (.iload 4, 2) := by decide +kernel
theorem dX10_seesTold_89 : decode cX10_seesTold 89 = .ok (.iastore, 1) := by decide +kernel
theorem dX10_seesTold_90 : decode cX10_seesTold 90 = .ok (.iload 7, 2) := by decide +kernel
theorem dX10_seesTold_92 : decode cX10_seesTold 92 = .ok (.ireturn, 1) := by decide +kernel
theorem dX10_isHigh_0 : decode cX10_isHigh 0 = .ok (.iconst 0, 1) := by decide +kernel
theorem dX10_isHigh_1 : decode cX10_isHigh 1 = .ok (.istore_n 3, 1) := by decide +kernel
theorem dX10_isHigh_2 : decode cX10_isHigh 2 = .ok (.iload_n 3, 1) := by decide +kernel
theorem dX10_isHigh_3 : decode cX10_isHigh 3 = .ok (.aload_n 0, 1) := by decide +kernel
theorem dX10_isHigh_4 : decode cX10_isHigh 4 = .ok (.getfield 270, 3) := by decide +kernel
theorem dX10_isHigh_7 : decode cX10_isHigh 7 = .ok (.if_icmp .ge 42, 3) := by decide +kernel
theorem dX10_isHigh_10 : decode cX10_isHigh 10 = .ok (.aload_n 0, 1) := by decide +kernel
theorem dX10_isHigh_11 : decode cX10_isHigh 11 = .ok (.getfield 86, 3) := by decide +kernel
theorem dX10_isHigh_14 : decode cX10_isHigh 14 = .ok (.iload_n 3, 1) := by decide +kernel
theorem dX10_isHigh_15 : decode cX10_isHigh 15 = .ok (.iaload, 1) := by decide +kernel
theorem dX10_isHigh_16 : decode cX10_isHigh 16 = .ok (.iload_n 1, 1) := by decide +kernel
theorem dX10_isHigh_17 : decode cX10_isHigh 17 = .ok (.if_icmp .ne 26, 3) := by decide +kernel
theorem dX10_isHigh_20 : decode cX10_isHigh 20 = .ok (.aload_n 0, 1) := by decide +kernel
theorem dX10_isHigh_21 : decode cX10_isHigh 21 = .ok (.aload_n 0, 1) := by decide +kernel
theorem dX10_isHigh_22 : decode cX10_isHigh 22 = .ok (.getfield 83, 3) := by decide +kernel
theorem dX10_isHigh_25 : decode cX10_isHigh 25 = .ok (.iload_n 3, 1) := by decide +kernel
theorem dX10_isHigh_26 : decode cX10_isHigh 26 = .ok (.iaload, 1) := by decide +kernel
theorem dX10_isHigh_27 : decode cX10_isHigh 27 = .ok (.iload_n 1, 1) := by decide +kernel
theorem dX10_isHigh_28 : decode cX10_isHigh 28 = .ok (.iload_n 2, 1) := by decide +kernel
theorem dX10_isHigh_29 : decode cX10_isHigh 29 = .ok (.invokevirtual 392, 3) := by decide +kernel
theorem dX10_isHigh_32 : decode cX10_isHigh 32 = .ok (.aload_n 0, 1) := by decide +kernel
theorem dX10_isHigh_33 : decode cX10_isHigh 33 = .ok (.getfield 89, 3) := by decide +kernel
theorem dX10_isHigh_36 : decode cX10_isHigh 36 = .ok (.iload_n 3, 1) := by decide +kernel
theorem dX10_isHigh_37 : decode cX10_isHigh 37 = .ok (.baload, 1) := by decide +kernel
theorem dX10_isHigh_38 : decode cX10_isHigh 38 = .ok (.if_icmp .eq 5, 3) := by decide +kernel
theorem dX10_isHigh_41 : decode cX10_isHigh 41 = .ok (.iconst 0, 1) := by decide +kernel
theorem dX10_isHigh_42 : decode cX10_isHigh 42 = .ok (.ireturn, 1) := by decide +kernel
theorem dX10_isHigh_43 : decode cX10_isHigh 43 = .ok (.iinc 3 1, 3) := by decide +kernel
theorem dX10_isHigh_46 : decode cX10_isHigh 46 = .ok (.goto (-44), 3) := by decide +kernel
theorem dX10_isHigh_49 : decode cX10_isHigh 49 = .ok (.iconst 1, 1) := by decide +kernel
theorem dX10_isHigh_50 : decode cX10_isHigh 50 = .ok (.ireturn, 1) := by decide +kernel
theorem dX10_heights_0 : decode cX10_heights 0 = .ok (.aload_n 0, 1) := by decide +kernel
theorem dX10_heights_1 : decode cX10_heights 1 = .ok (.iload_n 1, 1) := by decide +kernel
theorem dX10_heights_2 : decode cX10_heights 2 = .ok (.invokevirtual 337, 3) := by decide +kernel
theorem dX10_heights_5 : decode cX10_heights 5 = .ok (.ifCond .eq 8, 3) := by decide +kernel
theorem dX10_heights_8 : decode cX10_heights 8 = .ok (.iload_n 2, 1) := by decide +kernel
theorem dX10_heights_9 : decode cX10_heights 9 = .ok (.iconst (-1), 1) := by decide +kernel
theorem dX10_heights_10 : decode cX10_heights 10 = .ok (.if_icmp .ge 5, 3) := by decide +kernel
theorem dX10_heights_13 : decode cX10_heights 13 = .ok (.iconst (-1), 1) := by decide +kernel
theorem dX10_heights_14 : decode cX10_heights 14 = .ok (.ireturn, 1) := by decide +kernel
theorem dX10_heights_15 : decode cX10_heights 15 = .ok (.iconst 0, 1) := by decide +kernel
theorem dX10_heights_16 : decode cX10_heights 16 = .ok (.istore_n 3, 1) := by decide +kernel
theorem dX10_heights_17 : decode cX10_heights 17 = .ok (.iconst 0, 1) := by decide +kernel
theorem dX10_heights_18 : decode cX10_heights 18 = .ok (.istore 4, 2) := by decide +kernel
theorem dX10_heights_20 : decode cX10_heights 20 = .ok (.iload 4, 2) := by decide +kernel
theorem dX10_heights_22 : decode cX10_heights 22 = .ok (.bipush 9, 2) := by decide +kernel
theorem dX10_heights_24 : decode cX10_heights 24 = .ok (.if_icmp .gt 30, 3) := by decide +kernel
theorem dX10_heights_27 : decode cX10_heights 27 = .ok (.aload_n 0, 1) := by decide +kernel
theorem dX10_heights_28 : decode cX10_heights 28 = .ok (.iload_n 1, 1) := by decide +kernel
theorem dX10_heights_29 : decode cX10_heights 29 = .ok (.iload 4, 2) := by decide +kernel
theorem dX10_heights_31 : decode cX10_heights 31 = .ok (.invokevirtual 395, 3) := by decide +kernel
theorem dX10_heights_34 : decode cX10_heights 34 = .ok (.ifCond .eq 14, 3) := by decide +kernel
theorem dX10_heights_37 : decode cX10_heights 37 = .ok (.iload_n 3, 1) := by decide +kernel
theorem dX10_heights_38 : decode cX10_heights 38 = .ok (.iload_n 2, 1) := by decide +kernel
theorem dX10_heights_39 : decode cX10_heights 39 = .ok (.if_icmp .ne 6, 3) := by decide +kernel
theorem dX10_heights_42 : decode cX10_heights 42 = .ok (.iload 4, 2) := by decide +kernel
theorem dX10_heights_44 : decode cX10_heights 44 = .ok (.ireturn, 1) := by decide +kernel
theorem dX10_heights_45 : decode cX10_heights 45 = .ok (.iinc 3 1, 3) := by decide +kernel
theorem dX10_heights_48 : decode cX10_heights 48 = .ok (.iinc 4 1, 3) := by decide +kernel
theorem dX10_heights_51 : decode cX10_heights 51 = .ok (.goto (-31), 3) := by decide +kernel
theorem dX10_heights_54 : decode cX10_heights 54 = .ok (.iload_n 2, 1) := by decide +kernel
theorem dX10_heights_55 : decode cX10_heights 55 = .ok (.iconst (-1), 1) := by decide +kernel
theorem dX10_heights_56 : decode cX10_heights 56 = .ok (.if_icmp .ne 7, 3) := by decide +kernel
theorem dX10_heights_59 : decode cX10_heights 59 = .ok (.iload_n 3, 1) := by decide +kernel
theorem dX10_heights_60 : decode cX10_heights 60 = .ok (.goto 4, 3) := by decide +kernel
theorem dX10_heights_63 : decode cX10_heights 63 = .ok (.iconst (-1), 1) := by decide +kernel
theorem dX10_heights_64 : decode cX10_heights 64 = .ok (.ireturn, 1) := by decide +kernel
theorem dX10_ask_0 : decode cX10_ask 0 = .ok (.aload_n 0, 1) := by decide +kernel
theorem dX10_ask_1 : decode cX10_ask 1 = .ok (.iload_n 1, 1) := by decide +kernel
theorem dX10_ask_2 : decode cX10_ask 2 = .ok (.invokevirtual 337, 3) := by decide +kernel
theorem dX10_ask_5 : decode cX10_ask 5 = .ok (.ifCond .eq 13, 3) := by decide +kernel
theorem dX10_ask_8 : decode cX10_ask 8 = .ok (.aload_n 0, 1) := by decide +kernel
theorem dX10_ask_9 : decode cX10_ask 9 = .ok (.iload_n 1, 1) := by decide +kernel
theorem dX10_ask_10 : decode cX10_ask 10 = .ok (.iconst 0, 1) := by decide +kernel
theorem dX10_ask_11 : decode cX10_ask 11 = .ok (.invokevirtual 398, 3) := by decide +kernel
theorem dX10_ask_14 : decode cX10_ask 14 = .ok (.iconst (-1), 1) := by decide +kernel
theorem dX10_ask_15 : decode cX10_ask 15 = .ok (.if_icmp .ne 5, 3) := by decide +kernel
theorem dX10_ask_18 : decode cX10_ask 18 = .ok (.iconst (-1), 1) := by decide +kernel
theorem dX10_ask_19 : decode cX10_ask 19 = .ok (.ireturn, 1) := by decide +kernel
theorem dX10_ask_20 : decode cX10_ask 20 = .ok (.iconst (-1), 1) := by decide +kernel
theorem dX10_ask_21 : decode cX10_ask 21 = .ok (.istore_n 2, 1) := by decide +kernel
theorem dX10_ask_22 : decode cX10_ask 22 = .ok (.iconst 0, 1) := by decide +kernel
theorem dX10_ask_23 : decode cX10_ask 23 = .ok (.istore_n 3, 1) := by decide +kernel
theorem dX10_ask_24 : decode cX10_ask 24 = .ok (.iconst 0, 1) := by decide +kernel
theorem dX10_ask_25 : decode cX10_ask 25 = .ok (.istore 4, 2) := by decide +kernel
theorem dX10_ask_27 : decode cX10_ask 27 = .ok (.iload 4, 2) := by decide +kernel
theorem dX10_ask_29 : decode cX10_ask 29 = .ok (.aload_n 0, 1) := by decide +kernel
theorem dX10_ask_30 : decode cX10_ask 30 = .ok (.getfield 261, 3) := by decide +kernel
theorem dX10_ask_33 : decode cX10_ask 33 = .ok (.if_icmp .ge 87, 3) := by decide +kernel
theorem dX10_ask_36 : decode cX10_ask 36 = .ok (.iconst 0, 1) := by decide +kernel
theorem dX10_ask_37 : decode cX10_ask 37 = .ok (.istore 5, 2) := by decide +kernel
theorem dX10_ask_39 : decode cX10_ask 39 = .ok (.iconst 0, 1) := by decide +kernel
theorem dX10_ask_40 : decode cX10_ask 40 = .ok (.istore 6, 2) := by decide +kernel
theorem dX10_ask_42 : decode cX10_ask 42 = .ok (.iload 6, 2) := by decide +kernel
theorem dX10_ask_44 : decode cX10_ask 44 = .ok (.bipush 9, 2) := by decide +kernel
theorem dX10_ask_46 : decode cX10_ask 46 = .ok (.if_icmp .gt 45, 3) := by decide +kernel
theorem dX10_ask_49 : decode cX10_ask 49 = .ok (.iload 5, 2) := by decide +kernel
theorem dX10_ask_51 : decode cX10_ask 51 = .ok (.aload_n 0, 1) := by decide +kernel
theorem dX10_ask_52 : decode cX10_ask 52 = .ok (.iload_n 1, 1) := by decide +kernel
theorem dX10_ask_53 : decode cX10_ask 53 = .ok (.iload 6, 2) := by decide +kernel
theorem dX10_ask_55 : decode cX10_ask 55 = .ok (.invokevirtual 395, 3) := by decide +kernel
theorem dX10_ask_58 : decode cX10_ask 58 = .ok (.ifCond .ne 7, 3) := by decide +kernel
theorem dX10_ask_61 : decode cX10_ask 61 = .ok (.iconst 0, 1) := by decide +kernel
theorem dX10_ask_62 : decode cX10_ask 62 = .ok (.goto 20, 3) := by decide +kernel
theorem dX10_ask_65 : decode cX10_ask 65 = .ok (.aload_n 0, 1) := by decide +kernel
theorem dX10_ask_66 : decode cX10_ask 66 = .ok (.iload 4, 2) := by decide +kernel
theorem dX10_ask_68 : decode cX10_ask 68 = .ok (.iload_n 1, 1) := by decide +kernel
theorem dX10_ask_69 : decode cX10_ask 69 = .ok (.iload 6, 2) := by decide +kernel
theorem dX10_ask_71 : decode cX10_ask 71 = .ok (.invokevirtual 392, 3) := by decide +kernel
theorem dX10_ask_74 : decode cX10_ask 74 = .ok (.ifCond .eq 7, 3) := by decide +kernel
theorem dX10_ask_77 : decode cX10_ask 77 = .ok (.iconst 1, 1) := by decide +kernel
theorem dX10_ask_78 : decode cX10_ask 78 = .ok (.goto 4, 3) := by decide +kernel
theorem dX10_ask_81 : decode cX10_ask 81 = .ok (.iconst (-1), 1) := by decide +kernel
theorem dX10_ask_82 : decode cX10_ask 82 = .ok (.iadd, 1) := by decide +kernel
theorem dX10_ask_83 : decode cX10_ask 83 = .ok (.istore 5, 2) := by decide +kernel
theorem dX10_ask_85 : decode cX10_ask 85 = .ok (.iinc 6 1, 3) := by decide +kernel
theorem dX10_ask_88 : decode cX10_ask 88 = .ok (.goto (-46), 3) := by decide +kernel
theorem dX10_ask_91 : decode cX10_ask 91 = .ok (.iload_n 2, 1) := by decide +kernel
theorem dX10_ask_92 : decode cX10_ask 92 = .ok (.iconst (-1), 1) := by decide +kernel
theorem dX10_ask_93 : decode cX10_ask 93 = .ok (.if_icmp .eq 12, 3) := by decide +kernel
theorem dX10_ask_96 : decode cX10_ask 96 = .ok (.iload 5, 2) := by decide +kernel
theorem dX10_ask_98 : decode cX10_ask 98 = .ok (.invokestatic 298, 3) := by decide +kernel
theorem dX10_ask_101 : decode cX10_ask 101 = .ok (.iload_n 3, 1) := by decide +kernel
theorem dX10_ask_102 : decode cX10_ask 102 = .ok (.if_icmp .ge 12, 3) := by decide +kernel
theorem dX10_ask_105 : decode cX10_ask 105 = .ok (.iload 4, 2) := by decide +kernel
theorem dX10_ask_107 : decode cX10_ask 107 = .ok (.istore_n 2, 1) := by decide +kernel
theorem dX10_ask_108 : decode cX10_ask 108 = .ok (.iload 5, 2) := by decide +kernel
theorem dX10_ask_110 : decode cX10_ask 110 = .ok (.invokestatic 298, 3) := by decide +kernel
theorem dX10_ask_113 : decode cX10_ask 113 = .ok (.istore_n 3, 1) := by decide +kernel
theorem dX10_ask_114 : decode cX10_ask 114 = .ok (.iinc 4 1, 3) := by decide +kernel
theorem dX10_ask_117 : decode cX10_ask 117 = .ok (.goto (-90), 3) := by decide +kernel
theorem dX10_ask_120 : decode cX10_ask 120 = .ok (.iload_n 2, 1) := by decide +kernel
theorem dX10_ask_121 : decode cX10_ask 121 = .ok (.ireturn, 1) := by decide +kernel
theorem dX10_heard_0 : decode cX10_heard 0 = .ok (.aload_n 0, 1) := by decide +kernel
theorem dX10_heard_1 : decode cX10_heard 1 = .ok (.iload_n 1, 1) := by decide +kernel
theorem dX10_heard_2 : decode cX10_heard 2 = .ok (.invokevirtual 340, 3) := by decide +kernel
theorem dX10_heard_5 : decode cX10_heard 5 = .ok (.ifCond .eq 24, 3) := by decide +kernel
theorem dX10_heard_8 : decode cX10_heard 8 = .ok (.iload_n 2, 1) := by decide +kernel
theorem dX10_heard_9 : decode cX10_heard 9 = .ok (.iconst 0, 1) := by decide +kernel
theorem dX10_heard_10 : decode cX10_heard 10 = .ok (.aload_n 0, 1) := by decide +kernel
theorem dX10_heard_11 : decode cX10_heard 11 = .ok (.invokevirtual 331, 3) := by decide +kernel
theorem dX10_heard_14 : decode cX10_heard 14 = .ok (.invokestatic 217, 3) := by decide +kernel
theorem dX10_heard_17 : decode cX10_heard 17 = .ok (.ifCond .eq 12, 3) := by decide +kernel
theorem dX10_heard_20 : decode cX10_heard 20 = .ok (.aload_n 0, 1) := by decide +kernel
theorem dX10_heard_21 : decode cX10_heard 21 = .ok (.getfield 273, 3) := by decide +kernel
theorem dX10_heard_24 : decode cX10_heard 24 = .ok (.bipush 10, 2) := by decide +kernel
theorem dX10_heard_26 : decode cX10_heard 26 = .ok (.if_icmp .ne 5, 3) := by decide +kernel
theorem dX10_heard_29 : decode cX10_heard 29 = .ok (.iconst (-1), 1) := by decide +kernel
theorem dX10_heard_30 : decode cX10_heard 30 = .ok (.ireturn, 1) := by decide +kernel
theorem dX10_heard_31 : decode cX10_heard 31 = .ok (.aload_n 0, 1) := by decide +kernel
theorem dX10_heard_32 : decode cX10_heard 32 = .ok (.getfield 93, 3) := by decide +kernel
theorem dX10_heard_35 : decode cX10_heard 35 = .ok (.aload_n 0, 1) := by decide +kernel
theorem dX10_heard_36 : decode cX10_heard 36 = .ok (.getfield 273, 3) := by decide +kernel
theorem dX10_heard_39 : decode cX10_heard 39 = .ok (.iload_n 1, 1) := by decide +kernel
theorem dX10_heard_40 : decode cX10_heard 40 = .ok (.iastore, 1) := by decide +kernel
theorem dX10_heard_41 : decode cX10_heard 41 = .ok (.aload_n 0, 1) := by decide +kernel
theorem dX10_heard_42 : decode cX10_heard 42 = .ok (.getfield 96, 3) := by decide +kernel
theorem dX10_heard_45 : decode cX10_heard 45 = .ok (.aload_n 0, 1) := by decide +kernel
theorem dX10_heard_46 : decode cX10_heard 46 = .ok (.getfield 273, 3) := by decide +kernel
theorem dX10_heard_49 : decode cX10_heard 49 = .ok (.iload_n 2, 1) := by decide +kernel
theorem dX10_heard_50 : decode cX10_heard 50 = .ok (.iastore, 1) := by decide +kernel
theorem dX10_heard_51 : decode cX10_heard 51 = .ok (.aload_n 0, 1) := by decide +kernel
theorem dX10_heard_52 : decode cX10_heard 52 = .ok (.dup, 1) := by decide +kernel
theorem dX10_heard_53 : decode cX10_heard 53 = .ok (.getfield 273, 3) := by decide +kernel
theorem dX10_heard_56 : decode cX10_heard 56 = .ok (.iconst 1, 1) := by decide +kernel
theorem dX10_heard_57 : decode cX10_heard 57 = .ok (.iadd, 1) := by decide +kernel
theorem dX10_heard_58 : decode cX10_heard 58 = .ok (.putfield 273, 3) := by decide +kernel
theorem dX10_heard_61 : decode cX10_heard 61 = .ok (.aload_n 0, 1) := by decide +kernel
theorem dX10_heard_62 : decode cX10_heard 62 = .ok (.getfield 273, 3) := by decide +kernel
theorem dX10_heard_65 : decode cX10_heard 65 = .ok (.ireturn, 1) := by decide +kernel
theorem dX10_falseOnes_0 : decode cX10_falseOnes 0 = .ok (.iconst 0, 1) := by decide +kernel
theorem dX10_falseOnes_1 : decode cX10_falseOnes 1 = .ok (.istore_n 1, 1) := by decide +kernel
theorem dX10_falseOnes_2 : decode cX10_falseOnes 2 = .ok (.iconst 0, 1) := by decide +kernel
theorem dX10_falseOnes_3 : decode cX10_falseOnes 3 = .ok (.istore_n 2, 1) := by decide +kernel
theorem dX10_falseOnes_4 : decode cX10_falseOnes 4 = .ok (.iload_n 2, 1) := by decide +kernel
theorem dX10_falseOnes_5 : decode cX10_falseOnes 5 = .ok (.aload_n 0, 1) := by decide +kernel
theorem dX10_falseOnes_6 : decode cX10_falseOnes 6 = .ok (.getfield 273, 3) := by decide +kernel
