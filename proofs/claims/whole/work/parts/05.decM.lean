theorem dX11_init_0 : decode cX11_init 0 = .ok (.aload_n 0, 1) := by decide +kernel
theorem dX11_init_1 : decode cX11_init 1 = .ok (.invokespecial 1, 3) := by decide +kernel
theorem dX11_init_4 : decode cX11_init 4 = .ok (.aload_n 0, 1) := by decide +kernel
theorem dX11_init_5 : decode cX11_init 5 = .ok (.sipush 200, 3) := by decide +kernel
theorem dX11_init_8 : decode cX11_init 8 = .ok (.newarray .int, 2) := by decide +kernel
theorem dX11_init_10 : decode cX11_init 10 = .ok (.putfield 7, 3) := by decide +kernel
theorem dX11_init_13 : decode cX11_init 13 = .ok (.aload_n 0, 1) := by decide +kernel
theorem dX11_init_14 : decode cX11_init 14 = .ok (.bipush 40, 2) := by decide +kernel
theorem dX11_init_16 : decode cX11_init 16 = .ok (.newarray .int, 2) := by decide +kernel
theorem dX11_init_18 : decode cX11_init 18 = .ok (.putfield 13, 3) := by decide +kernel
theorem dX11_init_21 : decode cX11_init 21 = .ok (.aload_n 0, 1) := by decide +kernel
theorem dX11_init_22 : decode cX11_init 22 = .ok (.bipush 12, 2) := by decide +kernel
theorem dX11_init_24 : decode cX11_init 24 = .ok (.newarray .int, 2) := by decide +kernel
theorem dX11_init_26 : decode cX11_init 26 = .ok (.putfield 16, 3) := by decide +kernel
theorem dX11_init_29 : decode cX11_init 29 = .ok (.aload_n 0, 1) := by decide +kernel
theorem dX11_init_30 : decode cX11_init 30 = .ok (.iconst 2, 1) := by decide +kernel
theorem dX11_init_31 : decode cX11_init 31 = .ok (.newarray .int, 2) := by decide +kernel
theorem dX11_init_33 : decode cX11_init 33 = .ok (.putfield 19, 3) := by decide +kernel
theorem dX11_init_36 : decode cX11_init 36 = .ok (.aload_n 0, 1) := by decide +kernel
theorem dX11_init_37 : decode cX11_init 37 = .ok (.iconst 2, 1) := by decide +kernel
theorem dX11_init_38 : decode cX11_init 38 = .ok (.newarray .int, 2) := by decide +kernel
theorem dX11_init_40 : decode cX11_init 40 = .ok (.putfield 22, 3) := by decide +kernel
theorem dX11_init_43 : decode cX11_init 43 = .ok (.aload_n 0, 1) := by decide +kernel
theorem dX11_init_44 : decode cX11_init 44 = .ok (.iconst 2, 1) := by decide +kernel
theorem dX11_init_45 : decode cX11_init 45 = .ok (.newarray .int, 2) := by decide +kernel
theorem dX11_init_47 : decode cX11_init 47 = .ok (.putfield 25, 3) := by decide +kernel
theorem dX11_init_50 : decode cX11_init 50 = .ok (.aload_n 0, 1) := by decide +kernel
theorem dX11_init_51 : decode cX11_init 51 = .ok (.bipush 40, 2) := by decide +kernel
theorem dX11_init_53 : decode cX11_init 53 = .ok (.newarray .int, 2) := by decide +kernel
theorem dX11_init_55 : decode cX11_init 55 = .ok (.putfield 28, 3) := by decide +kernel
theorem dX11_init_58 : decode cX11_init 58 = .ok (.aload_n 0, 1) := by decide +kernel
theorem dX11_init_59 : decode cX11_init 59 = .ok (.iconst 2, 1) := by decide +kernel
theorem dX11_init_60 : decode cX11_init 60 = .ok (.newarray .int, 2) := by decide +kernel
theorem dX11_init_62 : decode cX11_init 62 = .ok (.putfield 31, 3) := by decide +kernel
theorem dX11_init_65 : decode cX11_init 65 = .ok (.aload_n 0, 1) := by decide +kernel
theorem dX11_init_66 : decode cX11_init 66 = .ok (.bipush 20, 2) := by decide +kernel
theorem dX11_init_68 : decode cX11_init 68 = .ok (.newarray .int, 2) := by decide +kernel
theorem dX11_init_70 : decode cX11_init 70 = .ok (.putfield 34, 3) := by decide +kernel
theorem dX11_init_73 : decode cX11_init 73 = .ok (.aload_n 0, 1) := by decide +kernel
theorem dX11_init_74 : decode cX11_init 74 = .ok (.sipush 160, 3) := by decide +kernel
theorem dX11_init_77 : decode cX11_init 77 = .ok (.newarray .int, 2) := by decide +kernel
theorem dX11_init_79 : decode cX11_init 79 = .ok (.putfield 37, 3) := by decide +kernel
theorem dX11_init_82 : decode cX11_init 82 = .ok (.aload_n 0, 1) := by decide +kernel
theorem dX11_init_83 : decode cX11_init 83 = .ok (.bipush 40, 2) := by decide +kernel
theorem dX11_init_85 : decode cX11_init 85 = .ok (.newarray .int, 2) := by decide +kernel
theorem dX11_init_87 : decode cX11_init 87 = .ok (.putfield 40, 3) := by decide +kernel
theorem dX11_init_90 : decode cX11_init 90 = .ok (.aload_n 0, 1) := by decide +kernel
theorem dX11_init_91 : decode cX11_init 91 = .ok (.bipush 8, 2) := by decide +kernel
theorem dX11_init_93 : decode cX11_init 93 = .ok (.newarray .int, 2) := by decide +kernel
theorem dX11_init_95 : decode cX11_init 95 = .ok (.putfield 43, 3) := by decide +kernel
theorem dX11_init_98 : decode cX11_init 98 = .ok (.aload_n 0, 1) := by decide +kernel
theorem dX11_init_99 : decode cX11_init 99 = .ok (.bipush 8, 2) := by decide +kernel
theorem dX11_init_101 : decode cX11_init 101 = .ok (.newarray .int, 2) := by decide +kernel
theorem dX11_init_103 : decode cX11_init 103 = .ok (.putfield 46, 3) := by decide +kernel
theorem dX11_init_106 : decode cX11_init 106 = .ok (.aload_n 0, 1) := by decide +kernel
theorem dX11_init_107 : decode cX11_init 107 = .ok (.iconst 2, 1) := by decide +kernel
theorem dX11_init_108 : decode cX11_init 108 = .ok (.newarray .int, 2) := by decide +kernel
theorem dX11_init_110 : decode cX11_init 110 = .ok (.putfield 49, 3) := by decide +kernel
theorem dX11_init_113 : decode cX11_init 113 = .ok (.aload_n 0, 1) := by decide +kernel
theorem dX11_init_114 : decode cX11_init 114 = .ok (.sipush 201, 3) := by decide +kernel
theorem dX11_init_117 : decode cX11_init 117 = .ok (.newarray .int, 2) := by decide +kernel
theorem dX11_init_119 : decode cX11_init 119 = .ok (.putfield 52, 3) := by decide +kernel
theorem dX11_init_122 : decode cX11_init 122 = .ok (.aload_n 0, 1) := by decide +kernel
theorem dX11_init_123 : decode cX11_init 123 = .ok (.sipush 201, 3) := by decide +kernel
theorem dX11_init_126 : decode cX11_init 126 = .ok (.newarray .int, 2) := by decide +kernel
theorem dX11_init_128 : decode cX11_init 128 = .ok (.putfield 55, 3) := by decide +kernel
theorem dX11_init_131 : decode cX11_init 131 = .ok (.aload_n 0, 1) := by decide +kernel
theorem dX11_init_132 : decode cX11_init 132 = .ok (.bipush 10, 2) := by decide +kernel
theorem dX11_init_134 : decode cX11_init 134 = .ok (.newarray .int, 2) := by decide +kernel
theorem dX11_init_136 : decode cX11_init 136 = .ok (.putfield 58, 3) := by decide +kernel
theorem dX11_init_139 : decode cX11_init 139 = .ok (.aload_n 0, 1) := by decide +kernel
theorem dX11_init_140 : decode cX11_init 140 = .ok (.iconst 0, 1) := by decide +kernel
theorem dX11_init_141 : decode cX11_init 141 = .ok (.invokevirtual 61, 3) := by decide +kernel
theorem dX11_init_144 : decode cX11_init 144 = .ok (.aload_n 0, 1) := by decide +kernel
theorem dX11_init_145 : decode cX11_init 145 = .ok (.getfield 13, 3) := by decide +kernel
theorem dX11_init_148 : decode cX11_init 148 = .ok (.bipush 7, 2) := by decide +kernel
theorem dX11_init_150 : decode cX11_init 150 = .ok (.iconst 1, 1) := by decide +kernel
theorem dX11_init_151 : decode cX11_init 151 = .ok (.iastore, 1) := by decide +kernel
theorem dX11_init_152 : decode cX11_init 152 = .ok (.aload_n 0, 1) := by decide +kernel
theorem dX11_init_153 : decode cX11_init 153 = .ok (.getfield 13, 3) := by decide +kernel
theorem dX11_init_156 : decode cX11_init 156 = .ok (.bipush 17, 2) := by decide +kernel
theorem dX11_init_158 : decode cX11_init 158 = .ok (.bipush 6, 2) := by decide +kernel
theorem dX11_init_160 : decode cX11_init 160 = .ok (.iastore, 1) := by decide +kernel
theorem dX11_init_161 : decode cX11_init 161 = .ok (.aload_n 0, 1) := by decide +kernel
theorem dX11_init_162 : decode cX11_init 162 = .ok (.getfield 16, 3) := by decide +kernel
theorem dX11_init_165 : decode cX11_init 165 = .ok (.iconst 0, 1) := by decide +kernel
theorem dX11_init_166 : decode cX11_init 166 = .ok (.iconst 5, 1) := by decide +kernel
theorem dX11_init_167 : decode cX11_init 167 = .ok (.iastore, 1) := by decide +kernel
theorem dX11_init_168 : decode cX11_init 168 = .ok (.aload_n 0, 1) := by decide +kernel
theorem dX11_init_169 : decode cX11_init 169 = .ok (.getfield 16, 3) := by decide +kernel
theorem dX11_init_172 : decode cX11_init 172 = .ok (.iconst 1, 1) := by decide +kernel
theorem dX11_init_173 : decode cX11_init 173 = .ok (.bipush 10, 2) := by decide +kernel
theorem dX11_init_175 : decode cX11_init 175 = .ok (.iastore, 1) := by decide +kernel
theorem dX11_init_176 : decode cX11_init 176 = .ok (.aload_n 0, 1) := by decide +kernel
theorem dX11_init_177 : decode cX11_init 177 = .ok (.getfield 16, 3) := by decide +kernel
theorem dX11_init_180 : decode cX11_init 180 = .ok (.iconst 2, 1) := by decide +kernel
theorem dX11_init_181 : decode cX11_init 181 = .ok (.bipush 27, 2) := by decide +kernel
theorem dX11_init_183 : decode cX11_init 183 = .ok (.iastore, 1) := by decide +kernel
theorem dX11_init_184 : decode cX11_init 184 = .ok (.aload_n 0, 1) := by decide +kernel
theorem dX11_init_185 : decode cX11_init 185 = .ok (.getfield 16, 3) := by decide +kernel
theorem dX11_init_188 : decode cX11_init 188 = .ok (.iconst 3, 1) := by decide +kernel
theorem dX11_init_189 : decode cX11_init 189 = .ok (.bipush 50, 2) := by decide +kernel
theorem dX11_init_191 : decode cX11_init 191 = .ok (.iastore, 1) := by decide +kernel
theorem dX11_init_192 : decode cX11_init 192 = .ok (.aload_n 0, 1) := by decide +kernel
theorem dX11_init_193 : decode cX11_init 193 = .ok (.getfield 19, 3) := by decide +kernel
theorem dX11_init_196 : decode cX11_init 196 = .ok (.iconst 0, 1) := by decide +kernel
theorem dX11_init_197 : decode cX11_init 197 = .ok (.iconst 4, 1) := by decide +kernel
theorem dX11_init_198 : decode cX11_init 198 = .ok (.iastore, 1) := by decide +kernel
theorem dX11_init_199 : decode cX11_init 199 = .ok (.aload_n 0, 1) := by decide +kernel
theorem dX11_init_200 : decode cX11_init 200 = .ok (.getfield 28, 3) := by decide +kernel
theorem dX11_init_203 : decode cX11_init 203 = .ok (.iconst 0, 1) := by decide +kernel
theorem dX11_init_204 : decode cX11_init 204 = .ok (.bipush 53, 2) := by decide +kernel
theorem dX11_init_206 : decode cX11_init 206 = .ok (.iastore, 1) := by decide +kernel
theorem dX11_init_207 : decode cX11_init 207 = .ok (.aload_n 0, 1) := by decide +kernel
theorem dX11_init_208 : decode cX11_init 208 = .ok (.getfield 28, 3) := by decide +kernel
theorem dX11_init_211 : decode cX11_init 211 = .ok (.iconst 1, 1) := by decide +kernel
theorem dX11_init_212 : decode cX11_init 212 = .ok (.bipush 54, 2) := by decide +kernel
theorem dX11_init_214 : decode cX11_init 214 = .ok (.iastore, 1) := by decide +kernel
theorem dX11_init_215 : decode cX11_init 215 = .ok (.aload_n 0, 1) := by decide +kernel
theorem dX11_init_216 : decode cX11_init 216 = .ok (.getfield 28, 3) := by decide +kernel
theorem dX11_init_219 : decode cX11_init 219 = .ok (.iconst 2, 1) := by decide +kernel
theorem dX11_init_220 : decode cX11_init 220 = .ok (.bipush 43, 2) := by decide +kernel
theorem dX11_init_222 : decode cX11_init 222 = .ok (.iastore, 1) := by decide +kernel
theorem dX11_init_223 : decode cX11_init 223 = .ok (.aload_n 0, 1) := by decide +kernel
theorem dX11_init_224 : decode cX11_init 224 = .ok (.getfield 28, 3) := by decide +kernel
theorem dX11_init_227 : decode cX11_init 227 = .ok (.iconst 3, 1) := by decide +kernel
theorem dX11_init_228 : decode cX11_init 228 = .ok (.bipush 55, 2) := by decide +kernel
theorem dX11_init_230 : decode cX11_init 230 = .ok (.iastore, 1) := by decide +kernel
theorem dX11_init_231 : decode cX11_init 231 = .ok (.aload_n 0, 1) := by decide +kernel
theorem dX11_init_232 : decode cX11_init 232 = .ok (.getfield 28, 3) := by decide +kernel
theorem dX11_init_235 : decode cX11_init 235 = .ok (.iconst 4, 1) := by decide +kernel
theorem dX11_init_236 : decode cX11_init 236 = .ok (.bipush 42, 2) := by decide +kernel
theorem dX11_init_238 : decode cX11_init 238 = .ok (.iastore, 1) := by decide +kernel
theorem dX11_init_239 : decode cX11_init 239 = .ok (.aload_n 0, 1) := by decide +kernel
theorem dX11_init_240 : decode cX11_init 240 = .ok (.getfield 28, 3) := by decide +kernel
theorem dX11_init_243 : decode cX11_init 243 = .ok (.iconst 5, 1) := by decide +kernel
theorem dX11_init_244 : decode cX11_init 244 = .ok (.bipush 56, 2) := by decide +kernel
theorem dX11_init_246 : decode cX11_init 246 = .ok (.iastore, 1) := by decide +kernel
theorem dX11_init_247 : decode cX11_init 247 = .ok (.aload_n 0, 1) := by decide +kernel
theorem dX11_init_248 : decode cX11_init 248 = .ok (.getfield 28, 3) := by decide +kernel
theorem dX11_init_251 : decode cX11_init 251 = .ok (.bipush 6, 2) := by decide +kernel
theorem dX11_init_253 : decode cX11_init 253 = .ok (.bipush 45, 2) := by decide +kernel
theorem dX11_init_255 : decode cX11_init 255 = .ok (.iastore, 1) := by decide +kernel
theorem dX11_init_256 : decode cX11_init 256 = .ok (.aload_n 0, 1) := by decide +kernel
theorem dX11_init_257 : decode cX11_init 257 = .ok (.getfield 28, 3) := by decide +kernel
theorem dX11_init_260 : decode cX11_init 260 = .ok (.bipush 7, 2) := by decide +kernel
theorem dX11_init_262 : decode cX11_init 262 = .ok (.bipush 49, 2) := by decide +kernel
theorem dX11_init_264 : decode cX11_init 264 = .ok (.iastore, 1) := by decide +kernel
theorem dX11_init_265 : decode cX11_init 265 = .ok (.aload_n 0, 1) := by decide +kernel
theorem dX11_init_266 : decode cX11_init 266 = .ok (.getfield 28, 3) := by decide +kernel
theorem dX11_init_269 : decode cX11_init 269 = .ok (.bipush 8, 2) := by decide +kernel
theorem dX11_init_271 : decode cX11_init 271 = .ok (.bipush 55, 2) := by decide +kernel
theorem dX11_init_273 : decode cX11_init 273 = .ok (.iastore, 1) := by decide +kernel
theorem dX11_init_274 : decode cX11_init 274 = .ok (.aload_n 0, 1) := by decide +kernel
theorem dX11_init_275 : decode cX11_init 275 = .ok (.getfield 31, 3) := by decide +kernel
theorem dX11_init_278 : decode cX11_init 278 = .ok (.iconst 0, 1) := by decide +kernel
theorem dX11_init_279 : decode cX11_init 279 = .ok (.bipush 9, 2) := by decide +kernel
theorem dX11_init_281 : decode cX11_init 281 = .ok (.iastore, 1) := by decide +kernel
theorem dX11_init_282 : decode cX11_init 282 = .ok (.aload_n 0, 1) := by decide +kernel
theorem dX11_init_283 : decode cX11_init 283 = .ok (.invokevirtual 65, 3) := by decide +kernel
theorem dX11_init_286 : decode cX11_init 286 = .ok (.return_, 1) := by decide +kernel
theorem dX11_in_0 : decode cX11_in 0 = .ok (.lload_n 0, 1) := by decide +kernel
theorem dX11_in_1 : decode cX11_in 1 = .ok (.lload_n 2, 1) := by decide +kernel
theorem dX11_in_2 : decode cX11_in 2 = .ok (.lcmp, 1) := by decide +kernel
theorem dX11_in_3 : decode cX11_in 3 = .ok (.ifCond .lt 14, 3) := by decide +kernel
theorem dX11_in_6 : decode cX11_in 6 = .ok (.lload_n 0, 1) := by decide +kernel
theorem dX11_in_7 : decode cX11_in 7 = .ok (.lload 4, 2) := by decide +kernel
theorem dX11_in_9 : decode cX11_in 9 = .ok (.lcmp, 1) := by decide +kernel
theorem dX11_in_10 : decode cX11_in 10 = .ok (.ifCond .gt 7, 3) := by decide +kernel
theorem dX11_in_13 : decode cX11_in 13 = .ok (.iconst 1, 1) := by decide +kernel
theorem dX11_in_14 : decode cX11_in 14 = .ok (.goto 4, 3) := by decide +kernel
theorem dX11_in_17 : decode cX11_in 17 = .ok (.iconst 0, 1) := by decide +kernel
theorem dX11_in_18 : decode cX11_in 18 = .ok (.ireturn, 1) := by decide +kernel
theorem dX11_nothing_0 : decode cX11_nothing 0 = .ok (.iconst 0, 1) := by decide +kernel
theorem dX11_nothing_1 : decode cX11_nothing 1 = .ok (.istore_n 2, 1) := by decide +kernel
theorem dX11_nothing_2 : decode cX11_nothing 2 = .ok (.iload_n 2, 1) := by decide +kernel
theorem dX11_nothing_3 : decode cX11_nothing 3 = .ok (.bipush 10, 2) := by decide +kernel
theorem dX11_nothing_5 : decode cX11_nothing 5 = .ok (.if_icmp .ge 36, 3) := by decide +kernel
theorem dX11_nothing_8 : decode cX11_nothing 8 = .ok (.aload_n 0, 1) := by decide +kernel
theorem dX11_nothing_9 : decode cX11_nothing 9 = .ok (.getfield 13, 3) := by decide +kernel
theorem dX11_nothing_12 : decode cX11_nothing 12 = .ok (.bipush 20, 2) := by decide +kernel
theorem dX11_nothing_14 : decode cX11_nothing 14 = .ok (.iload_n 1, 1) := by decide +kernel
theorem dX11_nothing_15 : decode cX11_nothing 15 = .ok (.imul, 1) := by decide +kernel
theorem dX11_nothing_16 : decode cX11_nothing 16 = .ok (.iload_n 2, 1) := by decide +kernel
theorem dX11_nothing_17 : decode cX11_nothing 17 = .ok (.iadd, 1) := by decide +kernel
theorem dX11_nothing_18 : decode cX11_nothing 18 = .ok (.iconst 0, 1) := by decide +kernel
theorem dX11_nothing_19 : decode cX11_nothing 19 = .ok (.iastore, 1) := by decide +kernel
theorem dX11_nothing_20 : decode cX11_nothing 20 = .ok (.aload_n 0, 1) := by decide +kernel
theorem dX11_nothing_21 : decode cX11_nothing 21 = .ok (.getfield 13, 3) := by decide +kernel
theorem dX11_nothing_24 : decode cX11_nothing 24 = .ok (.bipush 20, 2) := by decide +kernel
theorem dX11_nothing_26 : decode cX11_nothing 26 = .ok (.iload_n 1, 1) := by decide +kernel
theorem dX11_nothing_27 : decode cX11_nothing 27 = .ok (.imul, 1) := by decide +kernel
theorem dX11_nothing_28 : decode cX11_nothing 28 = .ok (.bipush 10, 2) := by decide +kernel
theorem dX11_nothing_30 : decode cX11_nothing 30 = .ok (.iadd, 1) := by decide +kernel
theorem dX11_nothing_31 : decode cX11_nothing 31 = .ok (.iload_n 2, 1) := by decide +kernel
theorem dX11_nothing_32 : decode cX11_nothing 32 = .ok (.iadd, 1) := by decide +kernel
theorem dX11_nothing_33 : decode cX11_nothing 33 = .ok (.iload_n 2, 1) := by decide +kernel
theorem dX11_nothing_34 : decode cX11_nothing 34 = .ok (.iastore, 1) := by decide +kernel
theorem dX11_nothing_35 : decode cX11_nothing 35 = .ok (.iinc 2 1, 3) := by decide +kernel
theorem dX11_nothing_38 : decode cX11_nothing 38 = .ok (.goto (-36), 3) := by decide +kernel
theorem dX11_nothing_41 : decode cX11_nothing 41 = .ok (.aload_n 0, 1) := by decide +kernel
theorem dX11_nothing_42 : decode cX11_nothing 42 = .ok (.getfield 19, 3) := by decide +kernel
theorem dX11_nothing_45 : decode cX11_nothing 45 = .ok (.iload_n 1, 1) := by decide +kernel
theorem dX11_nothing_46 : decode cX11_nothing 46 = .ok (.iconst 0, 1) := by decide +kernel
theorem dX11_nothing_47 : decode cX11_nothing 47 = .ok (.iastore, 1) := by decide +kernel
theorem dX11_nothing_48 : decode cX11_nothing 48 = .ok (.aload_n 0, 1) := by decide +kernel
theorem dX11_nothing_49 : decode cX11_nothing 49 = .ok (.getfield 22, 3) := by decide +kernel
theorem dX11_nothing_52 : decode cX11_nothing 52 = .ok (.iload_n 1, 1) := by decide +kernel
theorem dX11_nothing_53 : decode cX11_nothing 53 = .ok (.bipush 6, 2) := by decide +kernel
theorem dX11_nothing_55 : decode cX11_nothing 55 = .ok (.iastore, 1) := by decide +kernel
theorem dX11_nothing_56 : decode cX11_nothing 56 = .ok (.aload_n 0, 1) := by decide +kernel
theorem dX11_nothing_57 : decode cX11_nothing 57 = .ok (.getfield 25, 3) := by decide +kernel
theorem dX11_nothing_60 : decode cX11_nothing 60 = .ok (.iload_n 1, 1) := by decide +kernel
theorem dX11_nothing_61 : decode cX11_nothing 61 = .ok (.bipush 7, 2) := by decide +kernel
theorem dX11_nothing_63 : decode cX11_nothing 63 = .ok (.iastore, 1) := by decide +kernel
theorem dX11_nothing_64 : decode cX11_nothing 64 = .ok (.aload_n 0, 1) := by decide +kernel
theorem dX11_nothing_65 : decode cX11_nothing 65 = .ok (.getfield 31, 3) := by decide +kernel
theorem dX11_nothing_68 : decode cX11_nothing 68 = .ok (.iload_n 1, 1) := by decide +kernel
theorem dX11_nothing_69 : decode cX11_nothing 69 = .ok (.iconst 0, 1) := by decide +kernel
theorem dX11_nothing_70 : decode cX11_nothing 70 = .ok (.iastore, 1) := by decide +kernel
theorem dX11_nothing_71 : decode cX11_nothing 71 = .ok (.return_, 1) := by decide +kernel
theorem dX11_write_0 : decode cX11_write 0 = .ok (.iload_n 1, 1) := by decide +kernel
theorem dX11_write_1 : decode cX11_write 1 = .ok (.i2l, 1) := by decide +kernel
theorem dX11_write_2 : decode cX11_write 2 = .ok (.ldc2_w 68, 3) := by decide +kernel
theorem dX11_write_5 : decode cX11_write 5 = .ok (.ldc2_w 70, 3) := by decide +kernel
theorem dX11_write_8 : decode cX11_write 8 = .ok (.invokestatic 72, 3) := by decide +kernel
theorem dX11_write_11 : decode cX11_write 11 = .ok (.ifCond .ne 5, 3) := by decide +kernel
theorem dX11_write_14 : decode cX11_write 14 = .ok (.iconst (-1), 1) := by decide +kernel
theorem dX11_write_15 : decode cX11_write 15 = .ok (.ireturn, 1) := by decide +kernel
theorem dX11_write_16 : decode cX11_write 16 = .ok (.aload_n 0, 1) := by decide +kernel
theorem dX11_write_17 : decode cX11_write 17 = .ok (.getfield 76, 3) := by decide +kernel
theorem dX11_write_20 : decode cX11_write 20 = .ok (.sipush 200, 3) := by decide +kernel
theorem dX11_write_23 : decode cX11_write 23 = .ok (.if_icmp .ne 6, 3) := by decide +kernel
theorem dX11_write_26 : decode cX11_write 26 = .ok (.bipush (-3), 2) := by decide +kernel
theorem dX11_write_28 : decode cX11_write 28 = .ok (.ireturn, 1) := by decide +kernel
theorem dX11_write_29 : decode cX11_write 29 = .ok (.aload_n 0, 1) := by decide +kernel
theorem dX11_write_30 : decode cX11_write 30 = .ok (.getfield 7, 3) := by decide +kernel
theorem dX11_write_33 : decode cX11_write 33 = .ok (.aload_n 0, 1) := by decide +kernel
theorem dX11_write_34 : decode cX11_write 34 = .ok (.getfield 76, 3) := by decide +kernel
theorem dX11_write_37 : decode cX11_write 37 = .ok (.iload_n 1, 1) := by decide +kernel
theorem dX11_write_38 : decode cX11_write 38 = .ok (.iastore, 1) := by decide +kernel
theorem dX11_write_39 : decode cX11_write 39 = .ok (.aload_n 0, 1) := by decide +kernel
theorem dX11_write_40 : decode cX11_write 40 = .ok (.dup, 1) := by decide +kernel
theorem dX11_write_41 : decode cX11_write 41 = .ok (.getfield 76, 3) := by decide +kernel
theorem dX11_write_44 : decode cX11_write 44 = .ok (.iconst 1, 1) := by decide +kernel
theorem dX11_write_45 : decode cX11_write 45 = .ok (.iadd, 1) := by decide +kernel
theorem dX11_write_46 : decode cX11_write 46 = .ok (.putfield 76, 3) := by decide +kernel
theorem dX11_write_49 : decode cX11_write 49 = .ok (.aload_n 0, 1) := by decide +kernel
theorem dX11_write_50 : decode cX11_write 50 = .ok (.getfield 76, 3) := by decide +kernel
theorem dX11_write_53 : decode cX11_write 53 = .ok (.ireturn, 1) := by decide +kernel
theorem dX11_wipe_0 : decode cX11_wipe 0 = .ok (.aload_n 0, 1) := by decide +kernel
theorem dX11_wipe_1 : decode cX11_wipe 1 = .ok (.getfield 76, 3) := by decide +kernel
theorem dX11_wipe_4 : decode cX11_wipe 4 = .ok (.istore_n 1, 1) := by decide +kernel
theorem dX11_wipe_5 : decode cX11_wipe 5 = .ok (.aload_n 0, 1) := by decide +kernel
theorem dX11_wipe_6 : decode cX11_wipe 6 = .ok (.iconst 0, 1) := by decide +kernel
theorem dX11_wipe_7 : decode cX11_wipe 7 = .ok (.putfield 76, 3) := by decide +kernel
theorem dX11_wipe_10 : decode cX11_wipe 10 = .ok (.iload_n 1, 1) := by decide +kernel
theorem dX11_wipe_11 : decode cX11_wipe 11 = .ok (.ireturn, 1) := by decide +kernel
theorem dX11_letterAt_0 : decode cX11_letterAt 0 = .ok (.iload_n 1, 1) := by decide +kernel
theorem dX11_letterAt_1 : decode cX11_letterAt 1 = .ok (.aload_n 0, 1) := by decide +kernel
theorem dX11_letterAt_2 : decode cX11_letterAt 2 = .ok (.getfield 76, 3) := by decide +kernel
theorem dX11_letterAt_5 : decode cX11_letterAt 5 = .ok (.if_icmp .ge 12, 3) := by decide +kernel
theorem dX11_letterAt_8 : decode cX11_letterAt 8 = .ok (.aload_n 0, 1) := by decide +kernel
theorem dX11_letterAt_9 : decode cX11_letterAt 9 = .ok (.getfield 7, 3) := by decide +kernel
theorem dX11_letterAt_12 : decode cX11_letterAt 12 = .ok (.iload_n 1, 1) := by decide +kernel
theorem dX11_letterAt_13 : decode cX11_letterAt 13 = .ok (.iaload, 1) := by decide +kernel
theorem dX11_letterAt_14 : decode cX11_letterAt 14 = .ok (.goto 4, 3) := by decide +kernel
theorem dX11_letterAt_17 : decode cX11_letterAt 17 = .ok (.iconst 0, 1) := by decide +kernel
theorem dX11_letterAt_18 : decode cX11_letterAt 18 = .ok (.ireturn, 1) := by decide +kernel
theorem dX11_figures_0 : decode cX11_figures 0 = .ok (.iconst 0, 1) := by decide +kernel
theorem dX11_figures_1 : decode cX11_figures 1 = .ok (.istore_n 2, 1) := by decide +kernel
theorem dX11_figures_2 : decode cX11_figures 2 = .ok (.iload_n 2, 1) := by decide +kernel
theorem dX11_figures_3 : decode cX11_figures 3 = .ok (.iload_n 1, 1) := by decide +kernel
theorem dX11_figures_4 : decode cX11_figures 4 = .ok (.if_icmp .ge 132, 3) := by decide +kernel
theorem dX11_figures_7 : decode cX11_figures 7 = .ok (.iconst 0, 1) := by decide +kernel
theorem dX11_figures_8 : decode cX11_figures 8 = .ok (.istore_n 3, 1) := by decide +kernel
theorem dX11_figures_9 : decode cX11_figures 9 = .ok (.iconst 0, 1) := by decide +kernel
theorem dX11_figures_10 : decode cX11_figures 10 = .ok (.istore 4, 2) := by decide +kernel
theorem dX11_figures_12 : decode cX11_figures 12 = .ok (.aload_n 0, 1) := by decide +kernel
theorem dX11_figures_13 : decode cX11_figures 13 = .ok (.aload_n 0, 1) := by decide +kernel
theorem dX11_figures_14 : decode cX11_figures 14 = .ok (.getfield 80, 3) := by decide +kernel
theorem dX11_figures_17 : decode cX11_figures 17 = .ok (.invokevirtual 83, 3) := by decide +kernel
theorem dX11_figures_20 : decode cX11_figures 20 = .ok (.i2l, 1) := by decide +kernel
theorem dX11_figures_21 : decode cX11_figures 21 = .ok (.ldc2_w 87, 3) := by decide +kernel
theorem dX11_figures_24 : decode cX11_figures 24 = .ok (.ldc2_w 89, 3) := by decide +kernel
theorem dX11_figures_27 : decode cX11_figures 27 = .ok (.invokestatic 72, 3) := by decide +kernel
theorem dX11_figures_30 : decode cX11_figures 30 = .ok (.ifCond .eq 43, 3) := by decide +kernel
theorem dX11_figures_33 : decode cX11_figures 33 = .ok (.iload_n 3, 1) := by decide +kernel
theorem dX11_figures_34 : decode cX11_figures 34 = .ok (.iconst 3, 1) := by decide +kernel
theorem dX11_figures_35 : decode cX11_figures 35 = .ok (.if_icmp .ge 38, 3) := by decide +kernel
theorem dX11_figures_38 : decode cX11_figures 38 = .ok (.bipush 10, 2) := by decide +kernel
theorem dX11_figures_40 : decode cX11_figures 40 = .ok (.iload 4, 2) := by decide +kernel
theorem dX11_figures_42 : decode cX11_figures 42 = .ok (.imul, 1) := by decide +kernel
theorem dX11_figures_43 : decode cX11_figures 43 = .ok (.aload_n 0, 1) := by decide +kernel
theorem dX11_figures_44 : decode cX11_figures 44 = .ok (.aload_n 0, 1) := by decide +kernel
theorem dX11_figures_45 : decode cX11_figures 45 = .ok (.getfield 80, 3) := by decide +kernel
theorem dX11_figures_48 : decode cX11_figures 48 = .ok (.invokevirtual 83, 3) := by decide +kernel
theorem dX11_figures_51 : decode cX11_figures 51 = .ok (.iadd, 1) := by decide +kernel
theorem dX11_figures_52 : decode cX11_figures 52 = .ok (.bipush 48, 2) := by decide +kernel
theorem dX11_figures_54 : decode cX11_figures 54 = .ok (.isub, 1) := by decide +kernel
theorem dX11_figures_55 : decode cX11_figures 55 = .ok (.istore 4, 2) := by decide +kernel
theorem dX11_figures_57 : decode cX11_figures 57 = .ok (.iinc 3 1, 3) := by decide +kernel
theorem dX11_figures_60 : decode cX11_figures 60 = .ok (.aload_n 0, 1) := by decide +kernel
theorem dX11_figures_61 : decode cX11_figures 61 = .ok (.dup, 1) := by decide +kernel
theorem dX11_figures_62 : decode cX11_figures 62 = .ok (.getfield 80, 3) := by decide +kernel
theorem dX11_figures_65 : decode cX11_figures 65 = .ok (.iconst 1, 1) := by decide +kernel
theorem dX11_figures_66 : decode cX11_figures 66 = .ok (.iadd, 1) := by decide +kernel
theorem dX11_figures_67 : decode cX11_figures 67 = .ok (.putfield 80, 3) := by decide +kernel
theorem dX11_figures_70 : decode cX11_figures 70 = .ok (.goto (-58), 3) := by decide +kernel
theorem dX11_figures_73 : decode cX11_figures 73 = .ok (.iload_n 3, 1) := by decide +kernel
theorem dX11_figures_74 : decode cX11_figures 74 = .ok (.i2l, 1) := by decide +kernel
theorem dX11_figures_75 : decode cX11_figures 75 = .ok (.lconst 1, 1) := by decide +kernel
theorem dX11_figures_76 : decode cX11_figures 76 = .ok (.ldc2_w 91, 3) := by decide +kernel
theorem dX11_figures_79 : decode cX11_figures 79 = .ok (.invokestatic 72, 3) := by decide +kernel
theorem dX11_figures_82 : decode cX11_figures 82 = .ok (.ifCond .eq 28, 3) := by decide +kernel
theorem dX11_figures_85 : decode cX11_figures 85 = .ok (.aload_n 0, 1) := by decide +kernel
theorem dX11_figures_86 : decode cX11_figures 86 = .ok (.aload_n 0, 1) := by decide +kernel
theorem dX11_figures_87 : decode cX11_figures 87 = .ok (.getfield 80, 3) := by decide +kernel
theorem dX11_figures_90 : decode cX11_figures 90 = .ok (.invokevirtual 83, 3) := by decide +kernel
theorem dX11_figures_93 : decode cX11_figures 93 = .ok (.iload_n 2, 1) := by decide +kernel
theorem dX11_figures_94 : decode cX11_figures 94 = .ok (.iload_n 1, 1) := by decide +kernel
theorem dX11_figures_95 : decode cX11_figures 95 = .ok (.iconst 1, 1) := by decide +kernel
theorem dX11_figures_96 : decode cX11_figures 96 = .ok (.isub, 1) := by decide +kernel
theorem dX11_figures_97 : decode cX11_figures 97 = .ok (.if_icmp .ge 8, 3) := by decide +kernel
theorem dX11_figures_100 : decode cX11_figures 100 = .ok (.bipush 44, 2) := by decide +kernel
theorem dX11_figures_102 : decode cX11_figures 102 = .ok (.goto 5, 3) := by decide +kernel
theorem dX11_figures_105 : decode cX11_figures 105 = .ok (.bipush 59, 2) := by decide +kernel
theorem dX11_figures_107 : decode cX11_figures 107 = .ok (.if_icmp .eq 5, 3) := by decide +kernel
theorem dX11_figures_110 : decode cX11_figures 110 = .ok (.iconst 0, 1) := by decide +kernel
theorem dX11_figures_111 : decode cX11_figures 111 = .ok (.ireturn, 1) := by decide +kernel
theorem dX11_figures_112 : decode cX11_figures 112 = .ok (.aload_n 0, 1) := by decide +kernel
theorem dX11_figures_113 : decode cX11_figures 113 = .ok (.getfield 49, 3) := by decide +kernel
theorem dX11_figures_116 : decode cX11_figures 116 = .ok (.iload_n 2, 1) := by decide +kernel
theorem dX11_figures_117 : decode cX11_figures 117 = .ok (.iload 4, 2) := by decide +kernel
theorem dX11_figures_119 : decode cX11_figures 119 = .ok (.iastore, 1) := by decide +kernel
theorem dX11_figures_120 : decode cX11_figures 120 = .ok (.aload_n 0, 1) := by decide +kernel
theorem dX11_figures_121 : decode cX11_figures 121 = .ok (.dup, 1) := by decide +kernel
theorem dX11_figures_122 : decode cX11_figures 122 = .ok (.getfield 80, 3) := by decide +kernel
theorem dX11_figures_125 : decode cX11_figures 125 = .ok (.iconst 1, 1) := by decide +kernel
theorem dX11_figures_126 : decode cX11_figures 126 = .ok (.iadd, 1) := by decide +kernel
theorem dX11_figures_127 : decode cX11_figures 127 = .ok (.putfield 80, 3) := by decide +kernel
theorem dX11_figures_130 : decode cX11_figures 130 = .ok (.iinc 2 1, 3) := by decide +kernel
theorem dX11_figures_133 : decode cX11_figures 133 = .ok (.goto (-131), 3) := by decide +kernel
theorem dX11_figures_136 : decode cX11_figures 136 = .ok (.iconst 1, 1) := by decide +kernel
theorem dX11_figures_137 : decode cX11_figures 137 = .ok (.ireturn, 1) := by decide +kernel
theorem dX11_coinItem_0 : decode cX11_coinItem 0 = .ok (.aload_n 0, 1) := by decide +kernel
theorem dX11_coinItem_1 : decode cX11_coinItem 1 = .ok (.iconst 1, 1) := by decide +kernel
theorem dX11_coinItem_2 : decode cX11_coinItem 2 = .ok (.invokevirtual 93, 3) := by decide +kernel
theorem dX11_coinItem_5 : decode cX11_coinItem 5 = .ok (.ifCond .eq 27, 3) := by decide +kernel
theorem dX11_coinItem_8 : decode cX11_coinItem 8 = .ok (.aload_n 0, 1) := by decide +kernel
theorem dX11_coinItem_9 : decode cX11_coinItem 9 = .ok (.getfield 49, 3) := by decide +kernel
theorem dX11_coinItem_12 : decode cX11_coinItem 12 = .ok (.iconst 0, 1) := by decide +kernel
theorem dX11_coinItem_13 : decode cX11_coinItem 13 = .ok (.iaload, 1) := by decide +kernel
theorem dX11_coinItem_14 : decode cX11_coinItem 14 = .ok (.ifCond .le 18, 3) := by decide +kernel
theorem dX11_coinItem_17 : decode cX11_coinItem 17 = .ok (.aload_n 0, 1) := by decide +kernel
theorem dX11_coinItem_18 : decode cX11_coinItem 18 = .ok (.getfield 19, 3) := by decide +kernel
theorem dX11_coinItem_21 : decode cX11_coinItem 21 = .ok (.iconst 1, 1) := by decide +kernel
theorem dX11_coinItem_22 : decode cX11_coinItem 22 = .ok (.iaload, 1) := by decide +kernel
theorem dX11_coinItem_23 : decode cX11_coinItem 23 = .ok (.bipush 6, 2) := by decide +kernel
theorem dX11_coinItem_25 : decode cX11_coinItem 25 = .ok (.if_icmp .ge 7, 3) := by decide +kernel
theorem dX11_coinItem_28 : decode cX11_coinItem 28 = .ok (.iconst 1, 1) := by decide +kernel
theorem dX11_coinItem_29 : decode cX11_coinItem 29 = .ok (.goto 4, 3) := by decide +kernel
theorem dX11_coinItem_32 : decode cX11_coinItem 32 = .ok (.iconst 0, 1) := by decide +kernel
theorem dX11_coinItem_33 : decode cX11_coinItem 33 = .ok (.istore_n 1, 1) := by decide +kernel
theorem dX11_coinItem_34 : decode cX11_coinItem 34 = .ok (.iconst 0, 1) := by decide +kernel
theorem dX11_coinItem_35 : decode cX11_coinItem 35 = .ok (.istore_n 2, 1) := by decide +kernel
theorem dX11_coinItem_36 : decode cX11_coinItem 36 = .ok (.iload_n 2, 1) := by decide +kernel
theorem dX11_coinItem_37 : decode cX11_coinItem 37 = .ok (.aload_n 0, 1) := by decide +kernel
theorem dX11_coinItem_38 : decode cX11_coinItem 38 = .ok (.getfield 19, 3) := by decide +kernel
theorem dX11_coinItem_41 : decode cX11_coinItem 41 = .ok (.iconst 1, 1) := by decide +kernel
theorem dX11_coinItem_42 : decode cX11_coinItem 42 = .ok (.iaload, 1) := by decide +kernel
theorem dX11_coinItem_43 : decode cX11_coinItem 43 = .ok (.if_icmp .ge 37, 3) := by decide +kernel
theorem dX11_coinItem_46 : decode cX11_coinItem 46 = .ok (.iload_n 1, 1) := by decide +kernel
theorem dX11_coinItem_47 : decode cX11_coinItem 47 = .ok (.ifCond .eq 33, 3) := by decide +kernel
theorem dX11_coinItem_50 : decode cX11_coinItem 50 = .ok (.aload_n 0, 1) := by decide +kernel
theorem dX11_coinItem_51 : decode cX11_coinItem 51 = .ok (.getfield 16, 3) := by decide +kernel
theorem dX11_coinItem_54 : decode cX11_coinItem 54 = .ok (.bipush 6, 2) := by decide +kernel
theorem dX11_coinItem_56 : decode cX11_coinItem 56 = .ok (.iload_n 2, 1) := by decide +kernel
theorem dX11_coinItem_57 : decode cX11_coinItem 57 = .ok (.iadd, 1) := by decide +kernel
theorem dX11_coinItem_58 : decode cX11_coinItem 58 = .ok (.iaload, 1) := by decide +kernel
theorem dX11_coinItem_59 : decode cX11_coinItem 59 = .ok (.aload_n 0, 1) := by decide +kernel
theorem dX11_coinItem_60 : decode cX11_coinItem 60 = .ok (.getfield 49, 3) := by decide +kernel
theorem dX11_coinItem_63 : decode cX11_coinItem 63 = .ok (.iconst 0, 1) := by decide +kernel
theorem dX11_coinItem_64 : decode cX11_coinItem 64 = .ok (.iaload, 1) := by decide +kernel
theorem dX11_coinItem_65 : decode cX11_coinItem 65 = .ok (.if_icmp .eq 7, 3) := by decide +kernel
theorem dX11_coinItem_68 : decode cX11_coinItem 68 = .ok (.iconst 1, 1) := by decide +kernel
theorem dX11_coinItem_69 : decode cX11_coinItem 69 = .ok (.goto 4, 3) := by decide +kernel
theorem dX11_coinItem_72 : decode cX11_coinItem 72 = .ok (.iconst 0, 1) := by decide +kernel
theorem dX11_coinItem_73 : decode cX11_coinItem 73 = .ok (.istore_n 1, 1) := by decide +kernel
theorem dX11_coinItem_74 : decode cX11_coinItem 74 = .ok (.iinc 2 1, 3) := by decide +kernel
theorem dX11_coinItem_77 : decode cX11_coinItem 77 = .ok (.goto (-41), 3) := by decide +kernel
theorem dX11_coinItem_80 : decode cX11_coinItem 80 = .ok (.iload_n 1, 1) := by decide +kernel
theorem dX11_coinItem_81 : decode cX11_coinItem 81 = .ok (.ifCond .eq 33, 3) := by decide +kernel
theorem dX11_coinItem_84 : decode cX11_coinItem 84 = .ok (.aload_n 0, 1) := by decide +kernel
theorem dX11_coinItem_85 : decode cX11_coinItem 85 = .ok (.getfield 16, 3) := by decide +kernel
theorem dX11_coinItem_88 : decode cX11_coinItem 88 = .ok (.bipush 6, 2) := by decide +kernel
theorem dX11_coinItem_90 : decode cX11_coinItem 90 = .ok (.aload_n 0, 1) := by decide +kernel
theorem dX11_coinItem_91 : decode cX11_coinItem 91 = .ok (.getfield 19, 3) := by decide +kernel
theorem dX11_coinItem_94 : decode cX11_coinItem 94 = .ok (.iconst 1, 1) := by decide +kernel
theorem dX11_coinItem_95 : decode cX11_coinItem 95 = .ok (.iaload, 1) := by decide +kernel
theorem dX11_coinItem_96 : decode cX11_coinItem 96 = .ok (.iadd, 1) := by decide +kernel
theorem dX11_coinItem_97 : decode cX11_coinItem 97 = .ok (.aload_n 0, 1) := by decide +kernel
theorem dX11_coinItem_98 : decode cX11_coinItem 98 = .ok (.getfield 49, 3) := by decide +kernel
theorem dX11_coinItem_101 : decode cX11_coinItem 101 = .ok (.iconst 0, 1) := by decide +kernel
theorem dX11_coinItem_102 : decode cX11_coinItem 102 = .ok (.iaload, 1) := by decide +kernel
theorem dX11_coinItem_103 : decode cX11_coinItem 103 = .ok (.iastore, 1) := by decide +kernel
theorem dX11_coinItem_104 : decode cX11_coinItem 104 = .ok (.aload_n 0, 1) := by decide +kernel
theorem dX11_coinItem_105 : decode cX11_coinItem 105 = .ok (.getfield 19, 3) := by decide +kernel
theorem dX11_coinItem_108 : decode cX11_coinItem 108 = .ok (.iconst 1, 1) := by decide +kernel
theorem dX11_coinItem_109 : decode cX11_coinItem 109 = .ok (.dup2, 1) := by decide +kernel
theorem dX11_coinItem_110 : decode cX11_coinItem 110 = .ok (.iaload, 1) := by decide +kernel
theorem dX11_coinItem_111 : decode cX11_coinItem 111 = .ok (.iconst 1, 1) := by decide +kernel
theorem dX11_coinItem_112 : decode cX11_coinItem 112 = .ok (.iadd, 1) := by decide +kernel
theorem dX11_coinItem_113 : decode cX11_coinItem 113 = .ok (.iastore, 1) := by decide +kernel
theorem dX11_coinItem_114 : decode cX11_coinItem 114 = .ok (.iload_n 1, 1) := by decide +kernel
theorem dX11_coinItem_115 : decode cX11_coinItem 115 = .ok (.ireturn, 1) := by decide +kernel
theorem dX11_isSign_0 : decode cX11_isSign 0 = .ok (.iload_n 0, 1) := by decide +kernel
theorem dX11_isSign_1 : decode cX11_isSign 1 = .ok (.bipush 43, 2) := by decide +kernel
theorem dX11_isSign_3 : decode cX11_isSign 3 = .ok (.if_icmp .eq 15, 3) := by decide +kernel
theorem dX11_isSign_6 : decode cX11_isSign 6 = .ok (.iload_n 0, 1) := by decide +kernel
theorem dX11_isSign_7 : decode cX11_isSign 7 = .ok (.bipush 45, 2) := by decide +kernel
theorem dX11_isSign_9 : decode cX11_isSign 9 = .ok (.if_icmp .eq 9, 3) := by decide +kernel
theorem dX11_isSign_12 : decode cX11_isSign 12 = .ok (.iload_n 0, 1) := by decide +kernel
theorem dX11_isSign_13 : decode cX11_isSign 13 = .ok (.bipush 42, 2) := by decide +kernel
theorem dX11_isSign_15 : decode cX11_isSign 15 = .ok (.if_icmp .ne 7, 3) := by decide +kernel
theorem dX11_isSign_18 : decode cX11_isSign 18 = .ok (.iconst 1, 1) := by decide +kernel
theorem dX11_isSign_19 : decode cX11_isSign 19 = .ok (.goto 4, 3) := by decide +kernel
theorem dX11_isSign_22 : decode cX11_isSign 22 = .ok (.iconst 0, 1) := by decide +kernel
theorem dX11_isSign_23 : decode cX11_isSign 23 = .ok (.ireturn, 1) := by decide +kernel
theorem dX11_sumItem_0 : decode cX11_sumItem 0 = .ok (.iconst 0, 1) := by decide +kernel
theorem dX11_sumItem_1 : decode cX11_sumItem 1 = .ok (.istore_n 1, 1) := by decide +kernel
theorem dX11_sumItem_2 : decode cX11_sumItem 2 = .ok (.iconst 0, 1) := by decide +kernel
theorem dX11_sumItem_3 : decode cX11_sumItem 3 = .ok (.istore_n 2, 1) := by decide +kernel
theorem dX11_sumItem_4 : decode cX11_sumItem 4 = .ok (.iconst 1, 1) := by decide +kernel
theorem dX11_sumItem_5 : decode cX11_sumItem 5 = .ok (.istore_n 3, 1) := by decide +kernel
theorem dX11_sumItem_6 : decode cX11_sumItem 6 = .ok (.iload_n 3, 1) := by decide +kernel
theorem dX11_sumItem_7 : decode cX11_sumItem 7 = .ok (.ifCond .eq 133, 3) := by decide +kernel
theorem dX11_sumItem_10 : decode cX11_sumItem 10 = .ok (.aload_n 0, 1) := by decide +kernel
theorem dX11_sumItem_11 : decode cX11_sumItem 11 = .ok (.aload_n 0, 1) := by decide +kernel
theorem dX11_sumItem_12 : decode cX11_sumItem 12 = .ok (.getfield 80, 3) := by decide +kernel
theorem dX11_sumItem_15 : decode cX11_sumItem 15 = .ok (.invokevirtual 83, 3) := by decide +kernel
theorem dX11_sumItem_18 : decode cX11_sumItem 18 = .ok (.bipush 59, 2) := by decide +kernel
theorem dX11_sumItem_20 : decode cX11_sumItem 20 = .ok (.if_icmp .eq 120, 3) := by decide +kernel
theorem dX11_sumItem_23 : decode cX11_sumItem 23 = .ok (.aload_n 0, 1) := by decide +kernel
theorem dX11_sumItem_24 : decode cX11_sumItem 24 = .ok (.aload_n 0, 1) := by decide +kernel
theorem dX11_sumItem_25 : decode cX11_sumItem 25 = .ok (.getfield 80, 3) := by decide +kernel
theorem dX11_sumItem_28 : decode cX11_sumItem 28 = .ok (.invokevirtual 83, 3) := by decide +kernel
theorem dX11_sumItem_31 : decode cX11_sumItem 31 = .ok (.istore 4, 2) := by decide +kernel
theorem dX11_sumItem_33 : decode cX11_sumItem 33 = .ok (.iload 4, 2) := by decide +kernel
theorem dX11_sumItem_35 : decode cX11_sumItem 35 = .ok (.i2l, 1) := by decide +kernel
theorem dX11_sumItem_36 : decode cX11_sumItem 36 = .ok (.ldc2_w 87, 3) := by decide +kernel
theorem dX11_sumItem_39 : decode cX11_sumItem 39 = .ok (.ldc2_w 89, 3) := by decide +kernel
theorem dX11_sumItem_42 : decode cX11_sumItem 42 = .ok (.invokestatic 72, 3) := by decide +kernel
theorem dX11_sumItem_45 : decode cX11_sumItem 45 = .ok (.istore 5, 2) := by decide +kernel
theorem dX11_sumItem_47 : decode cX11_sumItem 47 = .ok (.iload 5, 2) := by decide +kernel
theorem dX11_sumItem_49 : decode cX11_sumItem 49 = .ok (.ifCond .eq 9, 3) := by decide +kernel
theorem dX11_sumItem_52 : decode cX11_sumItem 52 = .ok (.iload_n 2, 1) := by decide +kernel
theorem dX11_sumItem_53 : decode cX11_sumItem 53 = .ok (.iconst 1, 1) := by decide +kernel
theorem dX11_sumItem_54 : decode cX11_sumItem 54 = .ok (.iadd, 1) := by decide +kernel
theorem dX11_sumItem_55 : decode cX11_sumItem 55 = .ok (.goto 4, 3) := by decide +kernel
theorem dX11_sumItem_58 : decode cX11_sumItem 58 = .ok (.iconst 0, 1) := by decide +kernel
theorem dX11_sumItem_59 : decode cX11_sumItem 59 = .ok (.istore_n 2, 1) := by decide +kernel
theorem dX11_sumItem_60 : decode cX11_sumItem 60 = .ok (.iload_n 1, 1) := by decide +kernel
theorem dX11_sumItem_61 : decode cX11_sumItem 61 = .ok (.bipush 20, 2) := by decide +kernel
theorem dX11_sumItem_63 : decode cX11_sumItem 63 = .ok (.if_icmp .ge 44, 3) := by decide +kernel
theorem dX11_sumItem_66 : decode cX11_sumItem 66 = .ok (.iload_n 2, 1) := by decide +kernel
theorem dX11_sumItem_67 : decode cX11_sumItem 67 = .ok (.iconst 4, 1) := by decide +kernel
theorem dX11_sumItem_68 : decode cX11_sumItem 68 = .ok (.if_icmp .gt 39, 3) := by decide +kernel
theorem dX11_sumItem_71 : decode cX11_sumItem 71 = .ok (.iload 5, 2) := by decide +kernel
theorem dX11_sumItem_73 : decode cX11_sumItem 73 = .ok (.ifCond .ne 30, 3) := by decide +kernel
theorem dX11_sumItem_76 : decode cX11_sumItem 76 = .ok (.iload 4, 2) := by decide +kernel
theorem dX11_sumItem_78 : decode cX11_sumItem 78 = .ok (.invokestatic 97, 3) := by decide +kernel
theorem dX11_sumItem_81 : decode cX11_sumItem 81 = .ok (.ifCond .eq 26, 3) := by decide +kernel
theorem dX11_sumItem_84 : decode cX11_sumItem 84 = .ok (.iload_n 1, 1) := by decide +kernel
theorem dX11_sumItem_85 : decode cX11_sumItem 85 = .ok (.ifCond .le 22, 3) := by decide +kernel
theorem dX11_sumItem_88 : decode cX11_sumItem 88 = .ok (.aload_n 0, 1) := by decide +kernel
theorem dX11_sumItem_89 : decode cX11_sumItem 89 = .ok (.getfield 28, 3) := by decide +kernel
theorem dX11_sumItem_92 : decode cX11_sumItem 92 = .ok (.bipush 19, 2) := by decide +kernel
theorem dX11_sumItem_94 : decode cX11_sumItem 94 = .ok (.iload_n 1, 1) := by decide +kernel
theorem dX11_sumItem_95 : decode cX11_sumItem 95 = .ok (.iadd, 1) := by decide +kernel
theorem dX11_sumItem_96 : decode cX11_sumItem 96 = .ok (.iaload, 1) := by decide +kernel
theorem dX11_sumItem_97 : decode cX11_sumItem 97 = .ok (.invokestatic 97, 3) := by decide +kernel
theorem dX11_sumItem_100 : decode cX11_sumItem 100 = .ok (.ifCond .ne 7, 3) := by decide +kernel
theorem dX11_sumItem_103 : decode cX11_sumItem 103 = .ok (.iconst 1, 1) := by decide +kernel
theorem dX11_sumItem_104 : decode cX11_sumItem 104 = .ok (.goto 4, 3) := by decide +kernel
theorem dX11_sumItem_107 : decode cX11_sumItem 107 = .ok (.iconst 0, 1) := by decide +kernel
theorem dX11_sumItem_108 : decode cX11_sumItem 108 = .ok (.istore_n 3, 1) := by decide +kernel
theorem dX11_sumItem_109 : decode cX11_sumItem 109 = .ok (.iload_n 3, 1) := by decide +kernel
theorem dX11_sumItem_110 : decode cX11_sumItem 110 = .ok (.ifCond .eq 27, 3) := by decide +kernel
theorem dX11_sumItem_113 : decode cX11_sumItem 113 = .ok (.aload_n 0, 1) := by decide +kernel
theorem dX11_sumItem_114 : decode cX11_sumItem 114 = .ok (.getfield 28, 3) := by decide +kernel
theorem dX11_sumItem_117 : decode cX11_sumItem 117 = .ok (.bipush 20, 2) := by decide +kernel
theorem dX11_sumItem_119 : decode cX11_sumItem 119 = .ok (.iload_n 1, 1) := by decide +kernel
theorem dX11_sumItem_120 : decode cX11_sumItem 120 = .ok (.iadd, 1) := by decide +kernel
theorem dX11_sumItem_121 : decode cX11_sumItem 121 = .ok (.iload 4, 2) := by decide +kernel
theorem dX11_sumItem_123 : decode cX11_sumItem 123 = .ok (.iastore, 1) := by decide +kernel
theorem dX11_sumItem_124 : decode cX11_sumItem 124 = .ok (.iinc 1 1, 3) := by decide +kernel
theorem dX11_sumItem_127 : decode cX11_sumItem 127 = .ok (.aload_n 0, 1) := by decide +kernel
theorem dX11_sumItem_128 : decode cX11_sumItem 128 = .ok (.dup, 1) := by decide +kernel
theorem dX11_sumItem_129 : decode cX11_sumItem 129 = .ok (.getfield 80, 3) := by decide +kernel
theorem dX11_sumItem_132 : decode cX11_sumItem 132 = .ok (.iconst 1, 1) := by decide +kernel
theorem dX11_sumItem_133 : decode cX11_sumItem 133 = .ok (.iadd, 1) := by decide +kernel
theorem dX11_sumItem_134 : decode cX11_sumItem 134 = .ok (.putfield 80, 3) := by decide +kernel
theorem dX11_sumItem_137 : decode cX11_sumItem 137 = .ok (.goto (-131), 3) := by decide +kernel
theorem dX11_sumItem_140 : decode cX11_sumItem 140 = .ok (.aload_n 0, 1) := by decide +kernel
theorem dX11_sumItem_141 : decode cX11_sumItem 141 = .ok (.dup, 1) := by decide +kernel
theorem dX11_sumItem_142 : decode cX11_sumItem 142 = .ok (.getfield 80, 3) := by decide +kernel
theorem dX11_sumItem_145 : decode cX11_sumItem 145 = .ok (.iconst 1, 1) := by decide +kernel
theorem dX11_sumItem_146 : decode cX11_sumItem 146 = .ok (.iadd, 1) := by decide +kernel
theorem dX11_sumItem_147 : decode cX11_sumItem 147 = .ok (.putfield 80, 3) := by decide +kernel
theorem dX11_sumItem_150 : decode cX11_sumItem 150 = .ok (.aload_n 0, 1) := by decide +kernel
theorem dX11_sumItem_151 : decode cX11_sumItem 151 = .ok (.getfield 31, 3) := by decide +kernel
theorem dX11_sumItem_154 : decode cX11_sumItem 154 = .ok (.iconst 1, 1) := by decide +kernel
theorem dX11_sumItem_155 : decode cX11_sumItem 155 = .ok (.iload_n 1, 1) := by decide +kernel
theorem dX11_sumItem_156 : decode cX11_sumItem 156 = .ok (.iastore, 1) := by decide +kernel
theorem dX11_sumItem_157 : decode cX11_sumItem 157 = .ok (.iload_n 3, 1) := by decide +kernel
theorem dX11_sumItem_158 : decode cX11_sumItem 158 = .ok (.ifCond .eq 15, 3) := by decide +kernel
theorem dX11_sumItem_161 : decode cX11_sumItem 161 = .ok (.iload_n 1, 1) := by decide +kernel
theorem dX11_sumItem_162 : decode cX11_sumItem 162 = .ok (.ifCond .le 11, 3) := by decide +kernel
theorem dX11_sumItem_165 : decode cX11_sumItem 165 = .ok (.iload_n 2, 1) := by decide +kernel
theorem dX11_sumItem_166 : decode cX11_sumItem 166 = .ok (.ifCond .le 7, 3) := by decide +kernel
theorem dX11_sumItem_169 : decode cX11_sumItem 169 = .ok (.iconst 1, 1) := by decide +kernel
theorem dX11_sumItem_170 : decode cX11_sumItem 170 = .ok (.goto 4, 3) := by decide +kernel
theorem dX11_sumItem_173 : decode cX11_sumItem 173 = .ok (.iconst 0, 1) := by decide +kernel
theorem dX11_sumItem_174 : decode cX11_sumItem 174 = .ok (.ireturn, 1) := by decide +kernel
theorem dX11_item_0 : decode cX11_item 0 = .ok (.aload_n 0, 1) := by decide +kernel
theorem dX11_item_1 : decode cX11_item 1 = .ok (.aload_n 0, 1) := by decide +kernel
theorem dX11_item_2 : decode cX11_item 2 = .ok (.getfield 80, 3) := by decide +kernel
theorem dX11_item_5 : decode cX11_item 5 = .ok (.invokevirtual 83, 3) := by decide +kernel
theorem dX11_item_8 : decode cX11_item 8 = .ok (.istore_n 1, 1) := by decide +kernel
theorem dX11_item_9 : decode cX11_item 9 = .ok (.aload_n 0, 1) := by decide +kernel
theorem dX11_item_10 : decode cX11_item 10 = .ok (.dup, 1) := by decide +kernel
theorem dX11_item_11 : decode cX11_item 11 = .ok (.getfield 80, 3) := by decide +kernel
theorem dX11_item_14 : decode cX11_item 14 = .ok (.iconst 1, 1) := by decide +kernel
theorem dX11_item_15 : decode cX11_item 15 = .ok (.iadd, 1) := by decide +kernel
theorem dX11_item_16 : decode cX11_item 16 = .ok (.putfield 80, 3) := by decide +kernel
theorem dX11_item_19 : decode cX11_item 19 = .ok (.iload_n 1, 1) := by decide +kernel
theorem dX11_item_20 : decode cX11_item 20 = .ok (.lookupswitch 246 #[(99, 152), (100, 157), (101, 241), (102, 98), (119, 200), (120, 60)], 60) := by decide +kernel
theorem dX11_item_80 : decode cX11_item 80 = .ok (.aload_n 0, 1) := by decide +kernel
theorem dX11_item_81 : decode cX11_item 81 = .ok (.iconst 1, 1) := by decide +kernel
theorem dX11_item_82 : decode cX11_item 82 = .ok (.invokevirtual 93, 3) := by decide +kernel
theorem dX11_item_85 : decode cX11_item 85 = .ok (.ifCond .eq 14, 3) := by decide +kernel
theorem dX11_item_88 : decode cX11_item 88 = .ok (.aload_n 0, 1) := by decide +kernel
theorem dX11_item_89 : decode cX11_item 89 = .ok (.getfield 49, 3) := by decide +kernel
theorem dX11_item_92 : decode cX11_item 92 = .ok (.iconst 0, 1) := by decide +kernel
theorem dX11_item_93 : decode cX11_item 93 = .ok (.iaload, 1) := by decide +kernel
theorem dX11_item_94 : decode cX11_item 94 = .ok (.bipush 9, 2) := by decide +kernel
theorem dX11_item_96 : decode cX11_item 96 = .ok (.if_icmp .le 5, 3) := by decide +kernel
theorem dX11_item_99 : decode cX11_item 99 = .ok (.iconst 0, 1) := by decide +kernel
theorem dX11_item_100 : decode cX11_item 100 = .ok (.ireturn, 1) := by decide +kernel
theorem dX11_item_101 : decode cX11_item 101 = .ok (.aload_n 0, 1) := by decide +kernel
theorem dX11_item_102 : decode cX11_item 102 = .ok (.getfield 13, 3) := by decide +kernel
theorem dX11_item_105 : decode cX11_item 105 = .ok (.bipush 20, 2) := by decide +kernel
theorem dX11_item_107 : decode cX11_item 107 = .ok (.aload_n 0, 1) := by decide +kernel
theorem dX11_item_108 : decode cX11_item 108 = .ok (.getfield 49, 3) := by decide +kernel
theorem dX11_item_111 : decode cX11_item 111 = .ok (.iconst 0, 1) := by decide +kernel
theorem dX11_item_112 : decode cX11_item 112 = .ok (.iaload, 1) := by decide +kernel
theorem dX11_item_113 : decode cX11_item 113 = .ok (.iadd, 1) := by decide +kernel
theorem dX11_item_114 : decode cX11_item 114 = .ok (.iconst 1, 1) := by decide +kernel
theorem dX11_item_115 : decode cX11_item 115 = .ok (.iastore, 1) := by decide +kernel
theorem dX11_item_116 : decode cX11_item 116 = .ok (.iconst 1, 1) := by decide +kernel
theorem dX11_item_117 : decode cX11_item 117 = .ok (.ireturn, 1) := by decide +kernel
theorem dX11_item_118 : decode cX11_item 118 = .ok (.aload_n 0, 1) := by decide +kernel
theorem dX11_item_119 : decode cX11_item 119 = .ok (.iconst 2, 1) := by decide +kernel
theorem dX11_item_120 : decode cX11_item 120 = .ok (.invokevirtual 93, 3) := by decide +kernel
theorem dX11_item_123 : decode cX11_item 123 = .ok (.ifCond .eq 25, 3) := by decide +kernel
theorem dX11_item_126 : decode cX11_item 126 = .ok (.aload_n 0, 1) := by decide +kernel
theorem dX11_item_127 : decode cX11_item 127 = .ok (.getfield 49, 3) := by decide +kernel
theorem dX11_item_130 : decode cX11_item 130 = .ok (.iconst 0, 1) := by decide +kernel
theorem dX11_item_131 : decode cX11_item 131 = .ok (.iaload, 1) := by decide +kernel
theorem dX11_item_132 : decode cX11_item 132 = .ok (.bipush 9, 2) := by decide +kernel
theorem dX11_item_134 : decode cX11_item 134 = .ok (.if_icmp .gt 14, 3) := by decide +kernel
theorem dX11_item_137 : decode cX11_item 137 = .ok (.aload_n 0, 1) := by decide +kernel
theorem dX11_item_138 : decode cX11_item 138 = .ok (.getfield 49, 3) := by decide +kernel
theorem dX11_item_141 : decode cX11_item 141 = .ok (.iconst 1, 1) := by decide +kernel
theorem dX11_item_142 : decode cX11_item 142 = .ok (.iaload, 1) := by decide +kernel
theorem dX11_item_143 : decode cX11_item 143 = .ok (.bipush 9, 2) := by decide +kernel
theorem dX11_item_145 : decode cX11_item 145 = .ok (.if_icmp .le 5, 3) := by decide +kernel
theorem dX11_item_148 : decode cX11_item 148 = .ok (.iconst 0, 1) := by decide +kernel
theorem dX11_item_149 : decode cX11_item 149 = .ok (.ireturn, 1) := by decide +kernel
theorem dX11_item_150 : decode cX11_item 150 = .ok (.aload_n 0, 1) := by decide +kernel
theorem dX11_item_151 : decode cX11_item 151 = .ok (.getfield 13, 3) := by decide +kernel
theorem dX11_item_154 : decode cX11_item 154 = .ok (.bipush 30, 2) := by decide +kernel
theorem dX11_item_156 : decode cX11_item 156 = .ok (.aload_n 0, 1) := by decide +kernel
theorem dX11_item_157 : decode cX11_item 157 = .ok (.getfield 49, 3) := by decide +kernel
theorem dX11_item_160 : decode cX11_item 160 = .ok (.iconst 0, 1) := by decide +kernel
theorem dX11_item_161 : decode cX11_item 161 = .ok (.iaload, 1) := by decide +kernel
theorem dX11_item_162 : decode cX11_item 162 = .ok (.iadd, 1) := by decide +kernel
theorem dX11_item_163 : decode cX11_item 163 = .ok (.aload_n 0, 1) := by decide +kernel
theorem dX11_item_164 : decode cX11_item 164 = .ok (.getfield 49, 3) := by decide +kernel
theorem dX11_item_167 : decode cX11_item 167 = .ok (.iconst 1, 1) := by decide +kernel
theorem dX11_item_168 : decode cX11_item 168 = .ok (.iaload, 1) := by decide +kernel
theorem dX11_item_169 : decode cX11_item 169 = .ok (.iastore, 1) := by decide +kernel
theorem dX11_item_170 : decode cX11_item 170 = .ok (.iconst 1, 1) := by decide +kernel
theorem dX11_item_171 : decode cX11_item 171 = .ok (.ireturn, 1) := by decide +kernel
theorem dX11_item_172 : decode cX11_item 172 = .ok (.aload_n 0, 1) := by decide +kernel
theorem dX11_item_173 : decode cX11_item 173 = .ok (.invokevirtual 100, 3) := by decide +kernel
theorem dX11_item_176 : decode cX11_item 176 = .ok (.ireturn, 1) := by decide +kernel
theorem dX11_item_177 : decode cX11_item 177 = .ok (.aload_n 0, 1) := by decide +kernel
theorem dX11_item_178 : decode cX11_item 178 = .ok (.iconst 1, 1) := by decide +kernel
theorem dX11_item_179 : decode cX11_item 179 = .ok (.invokevirtual 93, 3) := by decide +kernel
theorem dX11_item_182 : decode cX11_item 182 = .ok (.ifCond .eq 22, 3) := by decide +kernel
theorem dX11_item_185 : decode cX11_item 185 = .ok (.aload_n 0, 1) := by decide +kernel
theorem dX11_item_186 : decode cX11_item 186 = .ok (.getfield 49, 3) := by decide +kernel
theorem dX11_item_189 : decode cX11_item 189 = .ok (.iconst 0, 1) := by decide +kernel
theorem dX11_item_190 : decode cX11_item 190 = .ok (.iaload, 1) := by decide +kernel
theorem dX11_item_191 : decode cX11_item 191 = .ok (.i2l, 1) := by decide +kernel
theorem dX11_item_192 : decode cX11_item 192 = .ok (.ldc2_w 91, 3) := by decide +kernel
theorem dX11_item_195 : decode cX11_item 195 = .ok (.ldc2_w 104, 3) := by decide +kernel
theorem dX11_item_198 : decode cX11_item 198 = .ok (.invokestatic 72, 3) := by decide +kernel
theorem dX11_item_201 : decode cX11_item 201 = .ok (.ifCond .ne 5, 3) := by decide +kernel
theorem dX11_item_204 : decode cX11_item 204 = .ok (.iconst 0, 1) := by decide +kernel
theorem dX11_item_205 : decode cX11_item 205 = .ok (.ireturn, 1) := by decide +kernel
theorem dX11_item_206 : decode cX11_item 206 = .ok (.aload_n 0, 1) := by decide +kernel
theorem dX11_item_207 : decode cX11_item 207 = .ok (.getfield 22, 3) := by decide +kernel
theorem dX11_item_210 : decode cX11_item 210 = .ok (.iconst 1, 1) := by decide +kernel
theorem dX11_item_211 : decode cX11_item 211 = .ok (.aload_n 0, 1) := by decide +kernel
theorem dX11_item_212 : decode cX11_item 212 = .ok (.getfield 49, 3) := by decide +kernel
theorem dX11_item_215 : decode cX11_item 215 = .ok (.iconst 0, 1) := by decide +kernel
theorem dX11_item_216 : decode cX11_item 216 = .ok (.iaload, 1) := by decide +kernel
theorem dX11_item_217 : decode cX11_item 217 = .ok (.iastore, 1) := by decide +kernel
theorem dX11_item_218 : decode cX11_item 218 = .ok (.iconst 1, 1) := by decide +kernel
theorem dX11_item_219 : decode cX11_item 219 = .ok (.ireturn, 1) := by decide +kernel
theorem dX11_item_220 : decode cX11_item 220 = .ok (.aload_n 0, 1) := by decide +kernel
theorem dX11_item_221 : decode cX11_item 221 = .ok (.iconst 1, 1) := by decide +kernel
theorem dX11_item_222 : decode cX11_item 222 = .ok (.invokevirtual 93, 3) := by decide +kernel
theorem dX11_item_225 : decode cX11_item 225 = .ok (.ifCond .eq 20, 3) := by decide +kernel
theorem dX11_item_228 : decode cX11_item 228 = .ok (.aload_n 0, 1) := by decide +kernel
theorem dX11_item_229 : decode cX11_item 229 = .ok (.getfield 49, 3) := by decide +kernel
theorem dX11_item_232 : decode cX11_item 232 = .ok (.iconst 0, 1) := by decide +kernel
theorem dX11_item_233 : decode cX11_item 233 = .ok (.iaload, 1) := by decide +kernel
theorem dX11_item_234 : decode cX11_item 234 = .ok (.i2l, 1) := by decide +kernel
theorem dX11_item_235 : decode cX11_item 235 = .ok (.lconst 1, 1) := by decide +kernel
theorem dX11_item_236 : decode cX11_item 236 = .ok (.ldc2_w 104, 3) := by decide +kernel
theorem dX11_item_239 : decode cX11_item 239 = .ok (.invokestatic 72, 3) := by decide +kernel
theorem dX11_item_242 : decode cX11_item 242 = .ok (.ifCond .ne 5, 3) := by decide +kernel
theorem dX11_item_245 : decode cX11_item 245 = .ok (.iconst 0, 1) := by decide +kernel
theorem dX11_item_246 : decode cX11_item 246 = .ok (.ireturn, 1) := by decide +kernel
theorem dX11_item_247 : decode cX11_item 247 = .ok (.aload_n 0, 1) := by decide +kernel
theorem dX11_item_248 : decode cX11_item 248 = .ok (.getfield 25, 3) := by decide +kernel
theorem dX11_item_251 : decode cX11_item 251 = .ok (.iconst 1, 1) := by decide +kernel
theorem dX11_item_252 : decode cX11_item 252 = .ok (.aload_n 0, 1) := by decide +kernel
theorem dX11_item_253 : decode cX11_item 253 = .ok (.getfield 49, 3) := by decide +kernel
theorem dX11_item_256 : decode cX11_item 256 = .ok (.iconst 0, 1) := by decide +kernel
theorem dX11_item_257 : decode cX11_item 257 = .ok (.iaload, 1) := by decide +kernel
theorem dX11_item_258 : decode cX11_item 258 = .ok (.iastore, 1) := by decide +kernel
theorem dX11_item_259 : decode cX11_item 259 = .ok (.iconst 1, 1) := by decide +kernel
theorem dX11_item_260 : decode cX11_item 260 = .ok (.ireturn, 1) := by decide +kernel
theorem dX11_item_261 : decode cX11_item 261 = .ok (.aload_n 0, 1) := by decide +kernel
theorem dX11_item_262 : decode cX11_item 262 = .ok (.invokevirtual 106, 3) := by decide +kernel
theorem dX11_item_265 : decode cX11_item 265 = .ok (.ireturn, 1) := by decide +kernel
theorem dX11_item_266 : decode cX11_item 266 = .ok (.iconst 0, 1) := by decide +kernel
theorem dX11_item_267 : decode cX11_item 267 = .ok (.ireturn, 1) := by decide +kernel
theorem dX11_readAll_0 : decode cX11_readAll 0 = .ok (.aload_n 0, 1) := by decide +kernel
theorem dX11_readAll_1 : decode cX11_readAll 1 = .ok (.iconst 1, 1) := by decide +kernel
theorem dX11_readAll_2 : decode cX11_readAll 2 = .ok (.invokevirtual 61, 3) := by decide +kernel
theorem dX11_readAll_5 : decode cX11_readAll 5 = .ok (.aload_n 0, 1) := by decide +kernel
theorem dX11_readAll_6 : decode cX11_readAll 6 = .ok (.iconst 0, 1) := by decide +kernel
theorem dX11_readAll_7 : decode cX11_readAll 7 = .ok (.putfield 80, 3) := by decide +kernel
theorem dX11_readAll_10 : decode cX11_readAll 10 = .ok (.aload_n 0, 1) := by decide +kernel
theorem dX11_readAll_11 : decode cX11_readAll 11 = .ok (.getfield 80, 3) := by decide +kernel
theorem dX11_readAll_14 : decode cX11_readAll 14 = .ok (.aload_n 0, 1) := by decide +kernel
theorem dX11_readAll_15 : decode cX11_readAll 15 = .ok (.getfield 76, 3) := by decide +kernel
theorem dX11_readAll_18 : decode cX11_readAll 18 = .ok (.if_icmp .ge 20, 3) := by decide +kernel
theorem dX11_readAll_21 : decode cX11_readAll 21 = .ok (.aload_n 0, 1) := by decide +kernel
theorem dX11_readAll_22 : decode cX11_readAll 22 = .ok (.getfield 80, 3) := by decide +kernel
theorem dX11_readAll_25 : decode cX11_readAll 25 = .ok (.istore_n 1, 1) := by decide +kernel
theorem dX11_readAll_26 : decode cX11_readAll 26 = .ok (.aload_n 0, 1) := by decide +kernel
theorem dX11_readAll_27 : decode cX11_readAll 27 = .ok (.invokevirtual 109, 3) := by decide +kernel
theorem dX11_readAll_30 : decode cX11_readAll 30 = .ok (.ifCond .ne 5, 3) := by decide +kernel
theorem dX11_readAll_33 : decode cX11_readAll 33 = .ok (.iload_n 1, 1) := by decide +kernel
theorem dX11_readAll_34 : decode cX11_readAll 34 = .ok (.ireturn, 1) := by decide +kernel
theorem dX11_readAll_35 : decode cX11_readAll 35 = .ok (.goto (-25), 3) := by decide +kernel
theorem dX11_readAll_38 : decode cX11_readAll 38 = .ok (.bipush (-4), 2) := by decide +kernel
theorem dX11_readAll_40 : decode cX11_readAll 40 = .ok (.ireturn, 1) := by decide +kernel
theorem dX11_fault_0 : decode cX11_fault 0 = .ok (.aload_n 0, 1) := by decide +kernel
theorem dX11_fault_1 : decode cX11_fault 1 = .ok (.invokevirtual 112, 3) := by decide +kernel
theorem dX11_fault_4 : decode cX11_fault 4 = .ok (.ireturn, 1) := by decide +kernel
theorem dX11_lay_0 : decode cX11_lay 0 = .ok (.aload_n 0, 1) := by decide +kernel
theorem dX11_lay_1 : decode cX11_lay 1 = .ok (.invokevirtual 112, 3) := by decide +kernel
theorem dX11_lay_4 : decode cX11_lay 4 = .ok (.bipush (-4), 2) := by decide +kernel
theorem dX11_lay_6 : decode cX11_lay 6 = .ok (.if_icmp .eq 6, 3) := by decide +kernel
theorem dX11_lay_9 : decode cX11_lay 9 = .ok (.bipush (-2), 2) := by decide +kernel
theorem dX11_lay_11 : decode cX11_lay 11 = .ok (.ireturn, 1) := by decide +kernel
theorem dX11_lay_12 : decode cX11_lay 12 = .ok (.iconst 0, 1) := by decide +kernel
theorem dX11_lay_13 : decode cX11_lay 13 = .ok (.istore_n 1, 1) := by decide +kernel
theorem dX11_lay_14 : decode cX11_lay 14 = .ok (.iload_n 1, 1) := by decide +kernel
theorem dX11_lay_15 : decode cX11_lay 15 = .ok (.bipush 20, 2) := by decide +kernel
theorem dX11_lay_17 : decode cX11_lay 17 = .ok (.if_icmp .ge 39, 3) := by decide +kernel
theorem dX11_lay_20 : decode cX11_lay 20 = .ok (.aload_n 0, 1) := by decide +kernel
theorem dX11_lay_21 : decode cX11_lay 21 = .ok (.getfield 13, 3) := by decide +kernel
theorem dX11_lay_24 : decode cX11_lay 24 = .ok (.iload_n 1, 1) := by decide +kernel
theorem dX11_lay_25 : decode cX11_lay 25 = .ok (.aload_n 0, 1) := by decide +kernel
theorem dX11_lay_26 : decode cX11_lay 26 = .ok (.getfield 13, 3) := by decide +kernel
theorem dX11_lay_29 : decode cX11_lay 29 = .ok (.bipush 20, 2) := by decide +kernel
theorem dX11_lay_31 : decode cX11_lay 31 = .ok (.iload_n 1, 1) := by decide +kernel
theorem dX11_lay_32 : decode cX11_lay 32 = .ok (.iadd, 1) := by decide +kernel
theorem dX11_lay_33 : decode cX11_lay 33 = .ok (.iaload, 1) := by decide +kernel
theorem dX11_lay_34 : decode cX11_lay 34 = .ok (.iastore, 1) := by decide +kernel
theorem dX11_lay_35 : decode cX11_lay 35 = .ok (.aload_n 0, 1) := by decide +kernel
theorem dX11_lay_36 : decode cX11_lay 36 = .ok (.getfield 28, 3) := by decide +kernel
theorem dX11_lay_39 : decode cX11_lay 39 = .ok (.iload_n 1, 1) := by decide +kernel
theorem dX11_lay_40 : decode cX11_lay 40 = .ok (.aload_n 0, 1) := by decide +kernel
theorem dX11_lay_41 : decode cX11_lay 41 = .ok (.getfield 28, 3) := by decide +kernel
theorem dX11_lay_44 : decode cX11_lay 44 = .ok (.bipush 20, 2) := by decide +kernel
theorem dX11_lay_46 : decode cX11_lay 46 = .ok (.iload_n 1, 1) := by decide +kernel
theorem dX11_lay_47 : decode cX11_lay 47 = .ok (.iadd, 1) := by decide +kernel
theorem dX11_lay_48 : decode cX11_lay 48 = .ok (.iaload, 1) := by decide +kernel
theorem dX11_lay_49 : decode cX11_lay 49 = .ok (.iastore, 1) := by decide +kernel
theorem dX11_lay_50 : decode cX11_lay 50 = .ok (.iinc 1 1, 3) := by decide +kernel
theorem dX11_lay_53 : decode cX11_lay 53 = .ok (.goto (-39), 3) := by decide +kernel
theorem dX11_lay_56 : decode cX11_lay 56 = .ok (.iconst 0, 1) := by decide +kernel
theorem dX11_lay_57 : decode cX11_lay 57 = .ok (.istore_n 1, 1) := by decide +kernel
theorem dX11_lay_58 : decode cX11_lay 58 = .ok (.iload_n 1, 1) := by decide +kernel
theorem dX11_lay_59 : decode cX11_lay 59 = .ok (.bipush 6, 2) := by decide +kernel
theorem dX11_lay_61 : decode cX11_lay 61 = .ok (.if_icmp .ge 24, 3) := by decide +kernel
theorem dX11_lay_64 : decode cX11_lay 64 = .ok (.aload_n 0, 1) := by decide +kernel
theorem dX11_lay_65 : decode cX11_lay 65 = .ok (.getfield 16, 3) := by decide +kernel
theorem dX11_lay_68 : decode cX11_lay 68 = .ok (.iload_n 1, 1) := by decide +kernel
theorem dX11_lay_69 : decode cX11_lay 69 = .ok (.aload_n 0, 1) := by decide +kernel
theorem dX11_lay_70 : decode cX11_lay 70 = .ok (.getfield 16, 3) := by decide +kernel
theorem dX11_lay_73 : decode cX11_lay 73 = .ok (.bipush 6, 2) := by decide +kernel
theorem dX11_lay_75 : decode cX11_lay 75 = .ok (.iload_n 1, 1) := by decide +kernel
theorem dX11_lay_76 : decode cX11_lay 76 = .ok (.iadd, 1) := by decide +kernel
theorem dX11_lay_77 : decode cX11_lay 77 = .ok (.iaload, 1) := by decide +kernel
theorem dX11_lay_78 : decode cX11_lay 78 = .ok (.iastore, 1) := by decide +kernel
theorem dX11_lay_79 : decode cX11_lay 79 = .ok (.iinc 1 1, 3) := by decide +kernel
theorem dX11_lay_82 : decode cX11_lay 82 = .ok (.goto (-24), 3) := by decide +kernel
theorem dX11_lay_85 : decode cX11_lay 85 = .ok (.aload_n 0, 1) := by decide +kernel
theorem dX11_lay_86 : decode cX11_lay 86 = .ok (.getfield 19, 3) := by decide +kernel
theorem dX11_lay_89 : decode cX11_lay 89 = .ok (.iconst 0, 1) := by decide +kernel
theorem dX11_lay_90 : decode cX11_lay 90 = .ok (.aload_n 0, 1) := by decide +kernel
theorem dX11_lay_91 : decode cX11_lay 91 = .ok (.getfield 19, 3) := by decide +kernel
theorem dX11_lay_94 : decode cX11_lay 94 = .ok (.iconst 1, 1) := by decide +kernel
theorem dX11_lay_95 : decode cX11_lay 95 = .ok (.iaload, 1) := by decide +kernel
theorem dX11_lay_96 : decode cX11_lay 96 = .ok (.iastore, 1) := by decide +kernel
theorem dX11_lay_97 : decode cX11_lay 97 = .ok (.aload_n 0, 1) := by decide +kernel
theorem dX11_lay_98 : decode cX11_lay 98 = .ok (.getfield 22, 3) := by decide +kernel
theorem dX11_lay_101 : decode cX11_lay 101 = .ok (.iconst 0, 1) := by decide +kernel
theorem dX11_lay_102 : decode cX11_lay 102 = .ok (.aload_n 0, 1) := by decide +kernel
theorem dX11_lay_103 : decode cX11_lay 103 = .ok (.getfield 22, 3) := by decide +kernel
theorem dX11_lay_106 : decode cX11_lay 106 = .ok (.iconst 1, 1) := by decide +kernel
theorem dX11_lay_107 : decode cX11_lay 107 = .ok (.iaload, 1) := by decide +kernel
theorem dX11_lay_108 : decode cX11_lay 108 = .ok (.iastore, 1) := by decide +kernel
theorem dX11_lay_109 : decode cX11_lay 109 = .ok (.aload_n 0, 1) := by decide +kernel
theorem dX11_lay_110 : decode cX11_lay 110 = .ok (.getfield 25, 3) := by decide +kernel
theorem dX11_lay_113 : decode cX11_lay 113 = .ok (.iconst 0, 1) := by decide +kernel
theorem dX11_lay_114 : decode cX11_lay 114 = .ok (.aload_n 0, 1) := by decide +kernel
theorem dX11_lay_115 : decode cX11_lay 115 = .ok (.getfield 25, 3) := by decide +kernel
theorem dX11_lay_118 : decode cX11_lay 118 = .ok (.iconst 1, 1) := by decide +kernel
theorem dX11_lay_119 : decode cX11_lay 119 = .ok (.iaload, 1) := by decide +kernel
theorem dX11_lay_120 : decode cX11_lay 120 = .ok (.iastore, 1) := by decide +kernel
theorem dX11_lay_121 : decode cX11_lay 121 = .ok (.aload_n 0, 1) := by decide +kernel
theorem dX11_lay_122 : decode cX11_lay 122 = .ok (.getfield 31, 3) := by decide +kernel
theorem dX11_lay_125 : decode cX11_lay 125 = .ok (.iconst 0, 1) := by decide +kernel
theorem dX11_lay_126 : decode cX11_lay 126 = .ok (.aload_n 0, 1) := by decide +kernel
theorem dX11_lay_127 : decode cX11_lay 127 = .ok (.getfield 31, 3) := by decide +kernel
theorem dX11_lay_130 : decode cX11_lay 130 = .ok (.iconst 1, 1) := by decide +kernel
theorem dX11_lay_131 : decode cX11_lay 131 = .ok (.iaload, 1) := by decide +kernel
theorem dX11_lay_132 : decode cX11_lay 132 = .ok (.iastore, 1) := by decide +kernel
theorem dX11_lay_133 : decode cX11_lay 133 = .ok (.aload_n 0, 1) := by decide +kernel
theorem dX11_lay_134 : decode cX11_lay 134 = .ok (.invokevirtual 65, 3) := by decide +kernel
theorem dX11_lay_137 : decode cX11_lay 137 = .ok (.aload_n 0, 1) := by decide +kernel
theorem dX11_lay_138 : decode cX11_lay 138 = .ok (.invokevirtual 116, 3) := by decide +kernel
theorem dX11_lay_141 : decode cX11_lay 141 = .ok (.ireturn, 1) := by decide +kernel
theorem dX11_begin_0 : decode cX11_begin 0 = .ok (.iconst 0, 1) := by decide +kernel
theorem dX11_begin_1 : decode cX11_begin 1 = .ok (.istore_n 1, 1) := by decide +kernel
theorem dX11_begin_2 : decode cX11_begin 2 = .ok (.iload_n 1, 1) := by decide +kernel
theorem dX11_begin_3 : decode cX11_begin 3 = .ok (.bipush 20, 2) := by decide +kernel
theorem dX11_begin_5 : decode cX11_begin 5 = .ok (.if_icmp .ge 21, 3) := by decide +kernel
theorem dX11_begin_8 : decode cX11_begin 8 = .ok (.aload_n 0, 1) := by decide +kernel
theorem dX11_begin_9 : decode cX11_begin 9 = .ok (.getfield 34, 3) := by decide +kernel
theorem dX11_begin_12 : decode cX11_begin 12 = .ok (.iload_n 1, 1) := by decide +kernel
theorem dX11_begin_13 : decode cX11_begin 13 = .ok (.aload_n 0, 1) := by decide +kernel
theorem dX11_begin_14 : decode cX11_begin 14 = .ok (.getfield 13, 3) := by decide +kernel
theorem dX11_begin_17 : decode cX11_begin 17 = .ok (.iload_n 1, 1) := by decide +kernel
theorem dX11_begin_18 : decode cX11_begin 18 = .ok (.iaload, 1) := by decide +kernel
theorem dX11_begin_19 : decode cX11_begin 19 = .ok (.iastore, 1) := by decide +kernel
theorem dX11_begin_20 : decode cX11_begin 20 = .ok (.iinc 1 1, 3) := by decide +kernel
theorem dX11_begin_23 : decode cX11_begin 23 = .ok (.goto (-21), 3) := by decide +kernel
theorem dX11_begin_26 : decode cX11_begin 26 = .ok (.aload_n 0, 1) := by decide +kernel
theorem dX11_begin_27 : decode cX11_begin 27 = .ok (.iconst 0, 1) := by decide +kernel
theorem dX11_begin_28 : decode cX11_begin 28 = .ok (.putfield 119, 3) := by decide +kernel
theorem dX11_begin_31 : decode cX11_begin 31 = .ok (.aload_n 0, 1) := by decide +kernel
theorem dX11_begin_32 : decode cX11_begin 32 = .ok (.iconst 0, 1) := by decide +kernel
theorem dX11_begin_33 : decode cX11_begin 33 = .ok (.putfield 122, 3) := by decide +kernel
theorem dX11_begin_36 : decode cX11_begin 36 = .ok (.aload_n 0, 1) := by decide +kernel
theorem dX11_begin_37 : decode cX11_begin 37 = .ok (.iconst 0, 1) := by decide +kernel
theorem dX11_begin_38 : decode cX11_begin 38 = .ok (.putfield 125, 3) := by decide +kernel
theorem dX11_begin_41 : decode cX11_begin 41 = .ok (.return_, 1) := by decide +kernel
theorem dX11_isFigure_0 : decode cX11_isFigure 0 = .ok (.iload_n 0, 1) := by decide +kernel
theorem dX11_isFigure_1 : decode cX11_isFigure 1 = .ok (.i2l, 1) := by decide +kernel
theorem dX11_isFigure_2 : decode cX11_isFigure 2 = .ok (.lconst 0, 1) := by decide +kernel
theorem dX11_isFigure_3 : decode cX11_isFigure 3 = .ok (.ldc2_w 104, 3) := by decide +kernel
theorem dX11_isFigure_6 : decode cX11_isFigure 6 = .ok (.invokestatic 72, 3) := by decide +kernel
theorem dX11_isFigure_9 : decode cX11_isFigure 9 = .ok (.ireturn, 1) := by decide +kernel
theorem dX11_strikers_0 : decode cX11_strikers 0 = .ok (.iconst 0, 1) := by decide +kernel
theorem dX11_strikers_1 : decode cX11_strikers 1 = .ok (.istore_n 1, 1) := by decide +kernel
theorem dX11_strikers_2 : decode cX11_strikers 2 = .ok (.iconst 0, 1) := by decide +kernel
theorem dX11_strikers_3 : decode cX11_strikers 3 = .ok (.istore_n 2, 1) := by decide +kernel
theorem dX11_strikers_4 : decode cX11_strikers 4 = .ok (.iload_n 2, 1) := by decide +kernel
theorem dX11_strikers_5 : decode cX11_strikers 5 = .ok (.bipush 10, 2) := by decide +kernel
theorem dX11_strikers_7 : decode cX11_strikers 7 = .ok (.if_icmp .ge 18, 3) := by decide +kernel
theorem dX11_strikers_10 : decode cX11_strikers 10 = .ok (.iload_n 1, 1) := by decide +kernel
theorem dX11_strikers_11 : decode cX11_strikers 11 = .ok (.aload_n 0, 1) := by decide +kernel
theorem dX11_strikers_12 : decode cX11_strikers 12 = .ok (.getfield 34, 3) := by decide +kernel
theorem dX11_strikers_15 : decode cX11_strikers 15 = .ok (.iload_n 2, 1) := by decide +kernel
theorem dX11_strikers_16 : decode cX11_strikers 16 = .ok (.iaload, 1) := by decide +kernel
theorem dX11_strikers_17 : decode cX11_strikers 17 = .ok (.iadd, 1) := by decide +kernel
theorem dX11_strikers_18 : decode cX11_strikers 18 = .ok (.istore_n 1, 1) := by decide +kernel
theorem dX11_strikers_19 : decode cX11_strikers 19 = .ok (.iinc 2 1, 3) := by decide +kernel
theorem dX11_strikers_22 : decode cX11_strikers 22 = .ok (.goto (-18), 3) := by decide +kernel
theorem dX11_strikers_25 : decode cX11_strikers 25 = .ok (.iload_n 1, 1) := by decide +kernel
theorem dX11_strikers_26 : decode cX11_strikers 26 = .ok (.ireturn, 1) := by decide +kernel
theorem dX11_figure_0 : decode cX11_figure 0 = .ok (.iload_n 1, 1) := by decide +kernel
theorem dX11_figure_1 : decode cX11_figure 1 = .ok (.invokestatic 128, 3) := by decide +kernel
theorem dX11_figure_4 : decode cX11_figure 4 = .ok (.ifCond .eq 13, 3) := by decide +kernel
theorem dX11_figure_7 : decode cX11_figure 7 = .ok (.iload_n 2, 1) := by decide +kernel
theorem dX11_figure_8 : decode cX11_figure 8 = .ok (.i2l, 1) := by decide +kernel
theorem dX11_figure_9 : decode cX11_figure 9 = .ok (.lconst 0, 1) := by decide +kernel
theorem dX11_figure_10 : decode cX11_figure 10 = .ok (.lconst 1, 1) := by decide +kernel
theorem dX11_figure_11 : decode cX11_figure 11 = .ok (.invokestatic 72, 3) := by decide +kernel
theorem dX11_figure_14 : decode cX11_figure 14 = .ok (.ifCond .ne 7, 3) := by decide +kernel
theorem dX11_figure_17 : decode cX11_figure 17 = .ok (.iconst (-1), 1) := by decide +kernel
theorem dX11_figure_18 : decode cX11_figure 18 = .ok (.goto 14, 3) := by decide +kernel
theorem dX11_figure_21 : decode cX11_figure 21 = .ok (.aload_n 0, 1) := by decide +kernel
theorem dX11_figure_22 : decode cX11_figure 22 = .ok (.getfield 34, 3) := by decide +kernel
theorem dX11_figure_25 : decode cX11_figure 25 = .ok (.bipush 10, 2) := by decide +kernel
theorem dX11_figure_27 : decode cX11_figure 27 = .ok (.iload_n 2, 1) := by decide +kernel
theorem dX11_figure_28 : decode cX11_figure 28 = .ok (.imul, 1) := by decide +kernel
theorem dX11_figure_29 : decode cX11_figure 29 = .ok (.iload_n 1, 1) := by decide +kernel
theorem dX11_figure_30 : decode cX11_figure 30 = .ok (.iadd, 1) := by decide +kernel
theorem dX11_figure_31 : decode cX11_figure 31 = .ok (.iaload, 1) := by decide +kernel
theorem dX11_figure_32 : decode cX11_figure 32 = .ok (.ireturn, 1) := by decide +kernel
theorem dX11_coin_0 : decode cX11_coin 0 = .ok (.iload_n 1, 1) := by decide +kernel
theorem dX11_coin_1 : decode cX11_coin 1 = .ok (.i2l, 1) := by decide +kernel
theorem dX11_coin_2 : decode cX11_coin 2 = .ok (.lconst 0, 1) := by decide +kernel
theorem dX11_coin_3 : decode cX11_coin 3 = .ok (.aload_n 0, 1) := by decide +kernel
theorem dX11_coin_4 : decode cX11_coin 4 = .ok (.getfield 19, 3) := by decide +kernel
theorem dX11_coin_7 : decode cX11_coin 7 = .ok (.iconst 0, 1) := by decide +kernel
theorem dX11_coin_8 : decode cX11_coin 8 = .ok (.iaload, 1) := by decide +kernel
theorem dX11_coin_9 : decode cX11_coin 9 = .ok (.iconst 1, 1) := by decide +kernel
theorem dX11_coin_10 : decode cX11_coin 10 = .ok (.isub, 1) := by decide +kernel
theorem dX11_coin_11 : decode cX11_coin 11 = .ok (.i2l, 1) := by decide +kernel
theorem dX11_coin_12 : decode cX11_coin 12 = .ok (.invokestatic 72, 3) := by decide +kernel
theorem dX11_coin_15 : decode cX11_coin 15 = .ok (.ifCond .eq 12, 3) := by decide +kernel
theorem dX11_coin_18 : decode cX11_coin 18 = .ok (.aload_n 0, 1) := by decide +kernel
theorem dX11_coin_19 : decode cX11_coin 19 = .ok (.getfield 16, 3) := by decide +kernel
theorem dX11_coin_22 : decode cX11_coin 22 = .ok (.iload_n 1, 1) := by decide +kernel
theorem dX11_coin_23 : decode cX11_coin 23 = .ok (.iaload, 1) := by decide +kernel
theorem dX11_coin_24 : decode cX11_coin 24 = .ok (.goto 4, 3) := by decide +kernel
theorem dX11_coin_27 : decode cX11_coin 27 = .ok (.iconst (-1), 1) := by decide +kernel
theorem dX11_coin_28 : decode cX11_coin 28 = .ok (.ireturn, 1) := by decide +kernel
theorem dX11_note_0 : decode cX11_note 0 = .ok (.aload_n 0, 1) := by decide +kernel
theorem dX11_note_1 : decode cX11_note 1 = .ok (.getfield 119, 3) := by decide +kernel
theorem dX11_note_4 : decode cX11_note 4 = .ok (.bipush 8, 2) := by decide +kernel
theorem dX11_note_6 : decode cX11_note 6 = .ok (.if_icmp .ne 43, 3) := by decide +kernel
theorem dX11_note_9 : decode cX11_note 9 = .ok (.iconst 0, 1) := by decide +kernel
theorem dX11_note_10 : decode cX11_note 10 = .ok (.istore_n 1, 1) := by decide +kernel
theorem dX11_note_11 : decode cX11_note 11 = .ok (.iload_n 1, 1) := by decide +kernel
theorem dX11_note_12 : decode cX11_note 12 = .ok (.sipush 140, 3) := by decide +kernel
theorem dX11_note_15 : decode cX11_note 15 = .ok (.if_icmp .ge 24, 3) := by decide +kernel
theorem dX11_note_18 : decode cX11_note 18 = .ok (.aload_n 0, 1) := by decide +kernel
theorem dX11_note_19 : decode cX11_note 19 = .ok (.getfield 37, 3) := by decide +kernel
theorem dX11_note_22 : decode cX11_note 22 = .ok (.iload_n 1, 1) := by decide +kernel
theorem dX11_note_23 : decode cX11_note 23 = .ok (.aload_n 0, 1) := by decide +kernel
theorem dX11_note_24 : decode cX11_note 24 = .ok (.getfield 37, 3) := by decide +kernel
theorem dX11_note_27 : decode cX11_note 27 = .ok (.bipush 20, 2) := by decide +kernel
theorem dX11_note_29 : decode cX11_note 29 = .ok (.iload_n 1, 1) := by decide +kernel
theorem dX11_note_30 : decode cX11_note 30 = .ok (.iadd, 1) := by decide +kernel
theorem dX11_note_31 : decode cX11_note 31 = .ok (.iaload, 1) := by decide +kernel
theorem dX11_note_32 : decode cX11_note 32 = .ok (.iastore, 1) := by decide +kernel
theorem dX11_note_33 : decode cX11_note 33 = .ok (.iinc 1 1, 3) := by decide +kernel
theorem dX11_note_36 : decode cX11_note 36 = .ok (.goto (-25), 3) := by decide +kernel
theorem dX11_note_39 : decode cX11_note 39 = .ok (.aload_n 0, 1) := by decide +kernel
theorem dX11_note_40 : decode cX11_note 40 = .ok (.dup, 1) := by decide +kernel
theorem dX11_note_41 : decode cX11_note 41 = .ok (.getfield 119, 3) := by decide +kernel
theorem dX11_note_44 : decode cX11_note 44 = .ok (.iconst 1, 1) := by decide +kernel
theorem dX11_note_45 : decode cX11_note 45 = .ok (.isub, 1) := by decide +kernel
theorem dX11_note_46 : decode cX11_note 46 = .ok (.putfield 119, 3) := by decide +kernel
theorem dX11_note_49 : decode cX11_note 49 = .ok (.iconst 0, 1) := by decide +kernel
theorem dX11_note_50 : decode cX11_note 50 = .ok (.istore_n 1, 1) := by decide +kernel
theorem dX11_note_51 : decode cX11_note 51 = .ok (.iload_n 1, 1) := by decide +kernel
theorem dX11_note_52 : decode cX11_note 52 = .ok (.bipush 20, 2) := by decide +kernel
theorem dX11_note_54 : decode cX11_note 54 = .ok (.if_icmp .ge 29, 3) := by decide +kernel
theorem dX11_note_57 : decode cX11_note 57 = .ok (.aload_n 0, 1) := by decide +kernel
theorem dX11_note_58 : decode cX11_note 58 = .ok (.getfield 37, 3) := by decide +kernel
theorem dX11_note_61 : decode cX11_note 61 = .ok (.bipush 20, 2) := by decide +kernel
theorem dX11_note_63 : decode cX11_note 63 = .ok (.aload_n 0, 1) := by decide +kernel
theorem dX11_note_64 : decode cX11_note 64 = .ok (.getfield 119, 3) := by decide +kernel
theorem dX11_note_67 : decode cX11_note 67 = .ok (.imul, 1) := by decide +kernel
theorem dX11_note_68 : decode cX11_note 68 = .ok (.iload_n 1, 1) := by decide +kernel
theorem dX11_note_69 : decode cX11_note 69 = .ok (.iadd, 1) := by decide +kernel
theorem dX11_note_70 : decode cX11_note 70 = .ok (.aload_n 0, 1) := by decide +kernel
theorem dX11_note_71 : decode cX11_note 71 = .ok (.getfield 34, 3) := by decide +kernel
theorem dX11_note_74 : decode cX11_note 74 = .ok (.iload_n 1, 1) := by decide +kernel
theorem dX11_note_75 : decode cX11_note 75 = .ok (.iaload, 1) := by decide +kernel
theorem dX11_note_76 : decode cX11_note 76 = .ok (.iastore, 1) := by decide +kernel
theorem dX11_note_77 : decode cX11_note 77 = .ok (.iinc 1 1, 3) := by decide +kernel
theorem dX11_note_80 : decode cX11_note 80 = .ok (.goto (-29), 3) := by decide +kernel
theorem dX11_note_83 : decode cX11_note 83 = .ok (.aload_n 0, 1) := by decide +kernel
theorem dX11_note_84 : decode cX11_note 84 = .ok (.dup, 1) := by decide +kernel
theorem dX11_note_85 : decode cX11_note 85 = .ok (.getfield 119, 3) := by decide +kernel
theorem dX11_note_88 : decode cX11_note 88 = .ok (.iconst 1, 1) := by decide +kernel
theorem dX11_note_89 : decode cX11_note 89 = .ok (.iadd, 1) := by decide +kernel
theorem dX11_note_90 : decode cX11_note 90 = .ok (.putfield 119, 3) := by decide +kernel
theorem dX11_note_93 : decode cX11_note 93 = .ok (.return_, 1) := by decide +kernel
theorem dX11_strike_0 : decode cX11_strike 0 = .ok (.iload_n 1, 1) := by decide +kernel
theorem dX11_strike_1 : decode cX11_strike 1 = .ok (.invokestatic 128, 3) := by decide +kernel
theorem dX11_strike_4 : decode cX11_strike 4 = .ok (.ifCond .eq 13, 3) := by decide +kernel
theorem dX11_strike_7 : decode cX11_strike 7 = .ok (.iload_n 2, 1) := by decide +kernel
theorem dX11_strike_8 : decode cX11_strike 8 = .ok (.i2l, 1) := by decide +kernel
theorem dX11_strike_9 : decode cX11_strike 9 = .ok (.lconst 0, 1) := by decide +kernel
theorem dX11_strike_10 : decode cX11_strike 10 = .ok (.lconst 1, 1) := by decide +kernel
theorem dX11_strike_11 : decode cX11_strike 11 = .ok (.invokestatic 72, 3) := by decide +kernel
theorem dX11_strike_14 : decode cX11_strike 14 = .ok (.ifCond .ne 5, 3) := by decide +kernel
theorem dX11_strike_17 : decode cX11_strike 17 = .ok (.iconst (-1), 1) := by decide +kernel
theorem dX11_strike_18 : decode cX11_strike 18 = .ok (.ireturn, 1) := by decide +kernel
theorem dX11_strike_19 : decode cX11_strike 19 = .ok (.aload_n 0, 1) := by decide +kernel
theorem dX11_strike_20 : decode cX11_strike 20 = .ok (.getfield 34, 3) := by decide +kernel
theorem dX11_strike_23 : decode cX11_strike 23 = .ok (.iload_n 1, 1) := by decide +kernel
theorem dX11_strike_24 : decode cX11_strike 24 = .ok (.iaload, 1) := by decide +kernel
theorem dX11_strike_25 : decode cX11_strike 25 = .ok (.iload_n 2, 1) := by decide +kernel
theorem dX11_strike_26 : decode cX11_strike 26 = .ok (.if_icmp .ne 6, 3) := by decide +kernel
theorem dX11_strike_29 : decode cX11_strike 29 = .ok (.bipush (-2), 2) := by decide +kernel
theorem dX11_strike_31 : decode cX11_strike 31 = .ok (.ireturn, 1) := by decide +kernel
theorem dX11_strike_32 : decode cX11_strike 32 = .ok (.aload_n 0, 1) := by decide +kernel
theorem dX11_strike_33 : decode cX11_strike 33 = .ok (.invokevirtual 131, 3) := by decide +kernel
theorem dX11_strike_36 : decode cX11_strike 36 = .ok (.aload_n 0, 1) := by decide +kernel
theorem dX11_strike_37 : decode cX11_strike 37 = .ok (.getfield 34, 3) := by decide +kernel
theorem dX11_strike_40 : decode cX11_strike 40 = .ok (.iload_n 1, 1) := by decide +kernel
theorem dX11_strike_41 : decode cX11_strike 41 = .ok (.iload_n 2, 1) := by decide +kernel
theorem dX11_strike_42 : decode cX11_strike 42 = .ok (.iastore, 1) := by decide +kernel
theorem dX11_strike_43 : decode cX11_strike 43 = .ok (.aload_n 0, 1) := by decide +kernel
theorem dX11_strike_44 : decode cX11_strike 44 = .ok (.invokevirtual 116, 3) := by decide +kernel
theorem dX11_strike_47 : decode cX11_strike 47 = .ok (.ireturn, 1) := by decide +kernel
theorem dX11_standIn_0 : decode cX11_standIn 0 = .ok (.iload_n 1, 1) := by decide +kernel
theorem dX11_standIn_1 : decode cX11_standIn 1 = .ok (.invokestatic 128, 3) := by decide +kernel
theorem dX11_standIn_4 : decode cX11_standIn 4 = .ok (.ifCond .eq 10, 3) := by decide +kernel
theorem dX11_standIn_7 : decode cX11_standIn 7 = .ok (.iload_n 2, 1) := by decide +kernel
theorem dX11_standIn_8 : decode cX11_standIn 8 = .ok (.invokestatic 128, 3) := by decide +kernel
theorem dX11_standIn_11 : decode cX11_standIn 11 = .ok (.ifCond .ne 5, 3) := by decide +kernel
theorem dX11_standIn_14 : decode cX11_standIn 14 = .ok (.iconst (-1), 1) := by decide +kernel
theorem dX11_standIn_15 : decode cX11_standIn 15 = .ok (.ireturn, 1) := by decide +kernel
theorem dX11_standIn_16 : decode cX11_standIn 16 = .ok (.aload_n 0, 1) := by decide +kernel
theorem dX11_standIn_17 : decode cX11_standIn 17 = .ok (.invokevirtual 131, 3) := by decide +kernel
theorem dX11_standIn_20 : decode cX11_standIn 20 = .ok (.aload_n 0, 1) := by decide +kernel
theorem dX11_standIn_21 : decode cX11_standIn 21 = .ok (.getfield 34, 3) := by decide +kernel
theorem dX11_standIn_24 : decode cX11_standIn 24 = .ok (.bipush 10, 2) := by decide +kernel
theorem dX11_standIn_26 : decode cX11_standIn 26 = .ok (.iload_n 1, 1) := by decide +kernel
theorem dX11_standIn_27 : decode cX11_standIn 27 = .ok (.iadd, 1) := by decide +kernel
theorem dX11_standIn_28 : decode cX11_standIn 28 = .ok (.iaload, 1) := by decide +kernel
theorem dX11_standIn_29 : decode cX11_standIn 29 = .ok (.istore_n 3, 1) := by decide +kernel
theorem dX11_standIn_30 : decode cX11_standIn 30 = .ok (.aload_n 0, 1) := by decide +kernel
theorem dX11_standIn_31 : decode cX11_standIn 31 = .ok (.getfield 34, 3) := by decide +kernel
theorem dX11_standIn_34 : decode cX11_standIn 34 = .ok (.bipush 10, 2) := by decide +kernel
theorem dX11_standIn_36 : decode cX11_standIn 36 = .ok (.iload_n 1, 1) := by decide +kernel
theorem dX11_standIn_37 : decode cX11_standIn 37 = .ok (.iadd, 1) := by decide +kernel
theorem dX11_standIn_38 : decode cX11_standIn 38 = .ok (.iload_n 2, 1) := by decide +kernel
theorem dX11_standIn_39 : decode cX11_standIn 39 = .ok (.iastore, 1) := by decide +kernel
theorem dX11_standIn_40 : decode cX11_standIn 40 = .ok (.iload_n 3, 1) := by decide +kernel
theorem dX11_standIn_41 : decode cX11_standIn 41 = .ok (.ireturn, 1) := by decide +kernel
theorem dX11_undo_0 : decode cX11_undo 0 = .ok (.aload_n 0, 1) := by decide +kernel
theorem dX11_undo_1 : decode cX11_undo 1 = .ok (.getfield 119, 3) := by decide +kernel
theorem dX11_undo_4 : decode cX11_undo 4 = .ok (.ifCond .ne 6, 3) := by decide +kernel
theorem dX11_undo_7 : decode cX11_undo 7 = .ok (.bipush (-2), 2) := by decide +kernel
theorem dX11_undo_9 : decode cX11_undo 9 = .ok (.ireturn, 1) := by decide +kernel
theorem dX11_undo_10 : decode cX11_undo 10 = .ok (.aload_n 0, 1) := by decide +kernel
theorem dX11_undo_11 : decode cX11_undo 11 = .ok (.dup, 1) := by decide +kernel
theorem dX11_undo_12 : decode cX11_undo 12 = .ok (.getfield 119, 3) := by decide +kernel
theorem dX11_undo_15 : decode cX11_undo 15 = .ok (.iconst 1, 1) := by decide +kernel
theorem dX11_undo_16 : decode cX11_undo 16 = .ok (.isub, 1) := by decide +kernel
theorem dX11_undo_17 : decode cX11_undo 17 = .ok (.putfield 119, 3) := by decide +kernel
theorem dX11_undo_20 : decode cX11_undo 20 = .ok (.iconst 0, 1) := by decide +kernel
theorem dX11_undo_21 : decode cX11_undo 21 = .ok (.istore_n 1, 1) := by decide +kernel
theorem dX11_undo_22 : decode cX11_undo 22 = .ok (.iload_n 1, 1) := by decide +kernel
theorem dX11_undo_23 : decode cX11_undo 23 = .ok (.bipush 20, 2) := by decide +kernel
theorem dX11_undo_25 : decode cX11_undo 25 = .ok (.if_icmp .ge 29, 3) := by decide +kernel
theorem dX11_undo_28 : decode cX11_undo 28 = .ok (.aload_n 0, 1) := by decide +kernel
theorem dX11_undo_29 : decode cX11_undo 29 = .ok (.getfield 34, 3) := by decide +kernel
theorem dX11_undo_32 : decode cX11_undo 32 = .ok (.iload_n 1, 1) := by decide +kernel
theorem dX11_undo_33 : decode cX11_undo 33 = .ok (.aload_n 0, 1) := by decide +kernel
theorem dX11_undo_34 : decode cX11_undo 34 = .ok (.getfield 37, 3) := by decide +kernel
theorem dX11_undo_37 : decode cX11_undo 37 = .ok (.bipush 20, 2) := by decide +kernel
theorem dX11_undo_39 : decode cX11_undo 39 = .ok (.aload_n 0, 1) := by decide +kernel
theorem dX11_undo_40 : decode cX11_undo 40 = .ok (.getfield 119, 3) := by decide +kernel
theorem dX11_undo_43 : decode cX11_undo 43 = .ok (.imul, 1) := by decide +kernel
theorem dX11_undo_44 : decode cX11_undo 44 = .ok (.iload_n 1, 1) := by decide +kernel
theorem dX11_undo_45 : decode cX11_undo 45 = .ok (.iadd, 1) := by decide +kernel
theorem dX11_undo_46 : decode cX11_undo 46 = .ok (.iaload, 1) := by decide +kernel
theorem dX11_undo_47 : decode cX11_undo 47 = .ok (.iastore, 1) := by decide +kernel
theorem dX11_undo_48 : decode cX11_undo 48 = .ok (.iinc 1 1, 3) := by decide +kernel
theorem dX11_undo_51 : decode cX11_undo 51 = .ok (.goto (-29), 3) := by decide +kernel
theorem dX11_undo_54 : decode cX11_undo 54 = .ok (.aload_n 0, 1) := by decide +kernel
theorem dX11_undo_55 : decode cX11_undo 55 = .ok (.getfield 119, 3) := by decide +kernel
theorem dX11_undo_58 : decode cX11_undo 58 = .ok (.ireturn, 1) := by decide +kernel
theorem dX11_canSay_0 : decode cX11_canSay 0 = .ok (.iload_n 1, 1) := by decide +kernel
theorem dX11_canSay_1 : decode cX11_canSay 1 = .ok (.bipush 10, 2) := by decide +kernel
theorem dX11_canSay_3 : decode cX11_canSay 3 = .ok (.idiv, 1) := by decide +kernel
theorem dX11_canSay_4 : decode cX11_canSay 4 = .ok (.istore_n 2, 1) := by decide +kernel
theorem dX11_canSay_5 : decode cX11_canSay 5 = .ok (.aload_n 0, 1) := by decide +kernel
theorem dX11_canSay_6 : decode cX11_canSay 6 = .ok (.getfield 34, 3) := by decide +kernel
theorem dX11_canSay_9 : decode cX11_canSay 9 = .ok (.iload_n 1, 1) := by decide +kernel
theorem dX11_canSay_10 : decode cX11_canSay 10 = .ok (.bipush 10, 2) := by decide +kernel
theorem dX11_canSay_12 : decode cX11_canSay 12 = .ok (.irem, 1) := by decide +kernel
theorem dX11_canSay_13 : decode cX11_canSay 13 = .ok (.iaload, 1) := by decide +kernel
theorem dX11_canSay_14 : decode cX11_canSay 14 = .ok (.ifCond .ne 7, 3) := by decide +kernel
theorem dX11_canSay_17 : decode cX11_canSay 17 = .ok (.iconst 1, 1) := by decide +kernel
theorem dX11_canSay_18 : decode cX11_canSay 18 = .ok (.goto 4, 3) := by decide +kernel
theorem dX11_canSay_21 : decode cX11_canSay 21 = .ok (.iconst 0, 1) := by decide +kernel
theorem dX11_canSay_22 : decode cX11_canSay 22 = .ok (.istore_n 3, 1) := by decide +kernel
theorem dX11_canSay_23 : decode cX11_canSay 23 = .ok (.iload_n 2, 1) := by decide +kernel
theorem dX11_canSay_24 : decode cX11_canSay 24 = .ok (.ifCond .le 33, 3) := by decide +kernel
theorem dX11_canSay_27 : decode cX11_canSay 27 = .ok (.iload_n 3, 1) := by decide +kernel
theorem dX11_canSay_28 : decode cX11_canSay 28 = .ok (.ifCond .eq 29, 3) := by decide +kernel
theorem dX11_canSay_31 : decode cX11_canSay 31 = .ok (.aload_n 0, 1) := by decide +kernel
theorem dX11_canSay_32 : decode cX11_canSay 32 = .ok (.getfield 34, 3) := by decide +kernel
theorem dX11_canSay_35 : decode cX11_canSay 35 = .ok (.iload_n 2, 1) := by decide +kernel
theorem dX11_canSay_36 : decode cX11_canSay 36 = .ok (.bipush 10, 2) := by decide +kernel
theorem dX11_canSay_38 : decode cX11_canSay 38 = .ok (.irem, 1) := by decide +kernel
theorem dX11_canSay_39 : decode cX11_canSay 39 = .ok (.iaload, 1) := by decide +kernel
theorem dX11_canSay_40 : decode cX11_canSay 40 = .ok (.ifCond .ne 7, 3) := by decide +kernel
theorem dX11_canSay_43 : decode cX11_canSay 43 = .ok (.iconst 1, 1) := by decide +kernel
theorem dX11_canSay_44 : decode cX11_canSay 44 = .ok (.goto 4, 3) := by decide +kernel
theorem dX11_canSay_47 : decode cX11_canSay 47 = .ok (.iconst 0, 1) := by decide +kernel
theorem dX11_canSay_48 : decode cX11_canSay 48 = .ok (.istore_n 3, 1) := by decide +kernel
theorem dX11_canSay_49 : decode cX11_canSay 49 = .ok (.iload_n 2, 1) := by decide +kernel
theorem dX11_canSay_50 : decode cX11_canSay 50 = .ok (.bipush 10, 2) := by decide +kernel
theorem dX11_canSay_52 : decode cX11_canSay 52 = .ok (.idiv, 1) := by decide +kernel
theorem dX11_canSay_53 : decode cX11_canSay 53 = .ok (.istore_n 2, 1) := by decide +kernel
theorem dX11_canSay_54 : decode cX11_canSay 54 = .ok (.goto (-31), 3) := by decide +kernel
theorem dX11_canSay_57 : decode cX11_canSay 57 = .ok (.iload_n 3, 1) := by decide +kernel
theorem dX11_canSay_58 : decode cX11_canSay 58 = .ok (.ireturn, 1) := by decide +kernel
theorem dX11_sayable_0 : decode cX11_sayable 0 = .ok (.iconst 0, 1) := by decide +kernel
theorem dX11_sayable_1 : decode cX11_sayable 1 = .ok (.istore_n 2, 1) := by decide +kernel
theorem dX11_sayable_2 : decode cX11_sayable 2 = .ok (.iconst 0, 1) := by decide +kernel
theorem dX11_sayable_3 : decode cX11_sayable 3 = .ok (.istore_n 3, 1) := by decide +kernel
theorem dX11_sayable_4 : decode cX11_sayable 4 = .ok (.iload_n 3, 1) := by decide +kernel
theorem dX11_sayable_5 : decode cX11_sayable 5 = .ok (.iload_n 1, 1) := by decide +kernel
theorem dX11_sayable_6 : decode cX11_sayable 6 = .ok (.if_icmp .gt 25, 3) := by decide +kernel
theorem dX11_sayable_9 : decode cX11_sayable 9 = .ok (.iload_n 2, 1) := by decide +kernel
theorem dX11_sayable_10 : decode cX11_sayable 10 = .ok (.aload_n 0, 1) := by decide +kernel
theorem dX11_sayable_11 : decode cX11_sayable 11 = .ok (.iload_n 3, 1) := by decide +kernel
theorem dX11_sayable_12 : decode cX11_sayable 12 = .ok (.invokevirtual 134, 3) := by decide +kernel
theorem dX11_sayable_15 : decode cX11_sayable 15 = .ok (.ifCond .eq 7, 3) := by decide +kernel
theorem dX11_sayable_18 : decode cX11_sayable 18 = .ok (.iconst 1, 1) := by decide +kernel
theorem dX11_sayable_19 : decode cX11_sayable 19 = .ok (.goto 4, 3) := by decide +kernel
theorem dX11_sayable_22 : decode cX11_sayable 22 = .ok (.iconst 0, 1) := by decide +kernel
theorem dX11_sayable_23 : decode cX11_sayable 23 = .ok (.iadd, 1) := by decide +kernel
theorem dX11_sayable_24 : decode cX11_sayable 24 = .ok (.istore_n 2, 1) := by decide +kernel
theorem dX11_sayable_25 : decode cX11_sayable 25 = .ok (.iinc 3 1, 3) := by decide +kernel
theorem dX11_sayable_28 : decode cX11_sayable 28 = .ok (.goto (-24), 3) := by decide +kernel
theorem dX11_sayable_31 : decode cX11_sayable 31 = .ok (.iload_n 2, 1) := by decide +kernel
theorem dX11_sayable_32 : decode cX11_sayable 32 = .ok (.ireturn, 1) := by decide +kernel
theorem dX11_said_0 : decode cX11_said 0 = .ok (.iload_n 1, 1) := by decide +kernel
theorem dX11_said_1 : decode cX11_said 1 = .ok (.i2l, 1) := by decide +kernel
theorem dX11_said_2 : decode cX11_said 2 = .ok (.lconst 0, 1) := by decide +kernel
theorem dX11_said_3 : decode cX11_said 3 = .ok (.ldc2_w 137, 3) := by decide +kernel
theorem dX11_said_6 : decode cX11_said 6 = .ok (.invokestatic 72, 3) := by decide +kernel
theorem dX11_said_9 : decode cX11_said 9 = .ok (.ifCond .ne 7, 3) := by decide +kernel
theorem dX11_said_12 : decode cX11_said 12 = .ok (.iconst (-1), 1) := by decide +kernel
theorem dX11_said_13 : decode cX11_said 13 = .ok (.goto 16, 3) := by decide +kernel
theorem dX11_said_16 : decode cX11_said 16 = .ok (.aload_n 0, 1) := by decide +kernel
theorem dX11_said_17 : decode cX11_said 17 = .ok (.iload_n 1, 1) := by decide +kernel
theorem dX11_said_18 : decode cX11_said 18 = .ok (.invokevirtual 134, 3) := by decide +kernel
theorem dX11_said_21 : decode cX11_said 21 = .ok (.ifCond .eq 7, 3) := by decide +kernel
theorem dX11_said_24 : decode cX11_said 24 = .ok (.iconst 1, 1) := by decide +kernel
theorem dX11_said_25 : decode cX11_said 25 = .ok (.goto 4, 3) := by decide +kernel
theorem dX11_said_28 : decode cX11_said 28 = .ok (.iconst 0, 1) := by decide +kernel
theorem dX11_said_29 : decode cX11_said 29 = .ok (.ireturn, 1) := by decide +kernel
theorem dX11_next_0 : decode cX11_next 0 = .ok (.iload_n 1, 1) := by decide +kernel
theorem dX11_next_1 : decode cX11_next 1 = .ok (.i2l, 1) := by decide +kernel
theorem dX11_next_2 : decode cX11_next 2 = .ok (.lconst 0, 1) := by decide +kernel
theorem dX11_next_3 : decode cX11_next 3 = .ok (.ldc2_w 137, 3) := by decide +kernel
theorem dX11_next_6 : decode cX11_next 6 = .ok (.invokestatic 72, 3) := by decide +kernel
theorem dX11_next_9 : decode cX11_next 9 = .ok (.ifCond .ne 5, 3) := by decide +kernel
theorem dX11_next_12 : decode cX11_next 12 = .ok (.iconst (-1), 1) := by decide +kernel
theorem dX11_next_13 : decode cX11_next 13 = .ok (.ireturn, 1) := by decide +kernel
theorem dX11_next_14 : decode cX11_next 14 = .ok (.iload_n 1, 1) := by decide +kernel
theorem dX11_next_15 : decode cX11_next 15 = .ok (.iconst 1, 1) := by decide +kernel
theorem dX11_next_16 : decode cX11_next 16 = .ok (.iadd, 1) := by decide +kernel
theorem dX11_next_17 : decode cX11_next 17 = .ok (.istore_n 2, 1) := by decide +kernel
theorem dX11_next_18 : decode cX11_next 18 = .ok (.iload_n 2, 1) := by decide +kernel
theorem dX11_next_19 : decode cX11_next 19 = .ok (.ldc 139, 2) := by decide +kernel
theorem dX11_next_21 : decode cX11_next 21 = .ok (.if_icmp .gt 17, 3) := by decide +kernel
theorem dX11_next_24 : decode cX11_next 24 = .ok (.aload_n 0, 1) := by decide +kernel
theorem dX11_next_25 : decode cX11_next 25 = .ok (.iload_n 2, 1) := by decide +kernel
theorem dX11_next_26 : decode cX11_next 26 = .ok (.invokevirtual 134, 3) := by decide +kernel
theorem dX11_next_29 : decode cX11_next 29 = .ok (.ifCond .ne 9, 3) := by decide +kernel
theorem dX11_next_32 : decode cX11_next 32 = .ok (.iinc 2 1, 3) := by decide +kernel
theorem dX11_next_35 : decode cX11_next 35 = .ok (.goto (-17), 3) := by decide +kernel
theorem dX11_next_38 : decode cX11_next 38 = .ok (.iload_n 2, 1) := by decide +kernel
theorem dX11_next_39 : decode cX11_next 39 = .ok (.ldc 139, 2) := by decide +kernel
theorem dX11_next_41 : decode cX11_next 41 = .ok (.if_icmp .gt 7, 3) := by decide +kernel
theorem dX11_next_44 : decode cX11_next 44 = .ok (.iload_n 2, 1) := by decide +kernel
theorem dX11_next_45 : decode cX11_next 45 = .ok (.goto 5, 3) := by decide +kernel
theorem dX11_next_48 : decode cX11_next 48 = .ok (.bipush (-4), 2) := by decide +kernel
theorem dX11_next_50 : decode cX11_next 50 = .ok (.ireturn, 1) := by decide +kernel
theorem dX11_rank_0 : decode cX11_rank 0 = .ok (.iload_n 1, 1) := by decide +kernel
theorem dX11_rank_1 : decode cX11_rank 1 = .ok (.i2l, 1) := by decide +kernel
theorem dX11_rank_2 : decode cX11_rank 2 = .ok (.lconst 0, 1) := by decide +kernel
theorem dX11_rank_3 : decode cX11_rank 3 = .ok (.ldc2_w 137, 3) := by decide +kernel
theorem dX11_rank_6 : decode cX11_rank 6 = .ok (.invokestatic 72, 3) := by decide +kernel
theorem dX11_rank_9 : decode cX11_rank 9 = .ok (.ifCond .eq 11, 3) := by decide +kernel
theorem dX11_rank_12 : decode cX11_rank 12 = .ok (.aload_n 0, 1) := by decide +kernel
theorem dX11_rank_13 : decode cX11_rank 13 = .ok (.iload_n 1, 1) := by decide +kernel
theorem dX11_rank_14 : decode cX11_rank 14 = .ok (.invokevirtual 140, 3) := by decide +kernel
theorem dX11_rank_17 : decode cX11_rank 17 = .ok (.goto 4, 3) := by decide +kernel
theorem dX11_rank_20 : decode cX11_rank 20 = .ok (.iconst (-1), 1) := by decide +kernel
theorem dX11_rank_21 : decode cX11_rank 21 = .ok (.ireturn, 1) := by decide +kernel
theorem dX11_kth_0 : decode cX11_kth 0 = .ok (.iload_n 1, 1) := by decide +kernel
theorem dX11_kth_1 : decode cX11_kth 1 = .ok (.i2l, 1) := by decide +kernel
theorem dX11_kth_2 : decode cX11_kth 2 = .ok (.lconst 0, 1) := by decide +kernel
theorem dX11_kth_3 : decode cX11_kth 3 = .ok (.ldc2_w 137, 3) := by decide +kernel
theorem dX11_kth_6 : decode cX11_kth 6 = .ok (.invokestatic 72, 3) := by decide +kernel
theorem dX11_kth_9 : decode cX11_kth 9 = .ok (.ifCond .ne 5, 3) := by decide +kernel
theorem dX11_kth_12 : decode cX11_kth 12 = .ok (.iconst (-1), 1) := by decide +kernel
theorem dX11_kth_13 : decode cX11_kth 13 = .ok (.ireturn, 1) := by decide +kernel
theorem dX11_kth_14 : decode cX11_kth 14 = .ok (.iconst 0, 1) := by decide +kernel
theorem dX11_kth_15 : decode cX11_kth 15 = .ok (.istore_n 2, 1) := by decide +kernel
theorem dX11_kth_16 : decode cX11_kth 16 = .ok (.iconst 0, 1) := by decide +kernel
theorem dX11_kth_17 : decode cX11_kth 17 = .ok (.istore_n 3, 1) := by decide +kernel
theorem dX11_kth_18 : decode cX11_kth 18 = .ok (.iload_n 3, 1) := by decide +kernel
theorem dX11_kth_19 : decode cX11_kth 19 = .ok (.ldc 139, 2) := by decide +kernel
theorem dX11_kth_21 : decode cX11_kth 21 = .ok (.if_icmp .gt 27, 3) := by decide +kernel
theorem dX11_kth_24 : decode cX11_kth 24 = .ok (.aload_n 0, 1) := by decide +kernel
theorem dX11_kth_25 : decode cX11_kth 25 = .ok (.iload_n 3, 1) := by decide +kernel
theorem dX11_kth_26 : decode cX11_kth 26 = .ok (.invokevirtual 134, 3) := by decide +kernel
theorem dX11_kth_29 : decode cX11_kth 29 = .ok (.ifCond .eq 13, 3) := by decide +kernel
theorem dX11_kth_32 : decode cX11_kth 32 = .ok (.iload_n 2, 1) := by decide +kernel
theorem dX11_kth_33 : decode cX11_kth 33 = .ok (.iload_n 1, 1) := by decide +kernel
theorem dX11_kth_34 : decode cX11_kth 34 = .ok (.if_icmp .ne 5, 3) := by decide +kernel
theorem dX11_kth_37 : decode cX11_kth 37 = .ok (.iload_n 3, 1) := by decide +kernel
theorem dX11_kth_38 : decode cX11_kth 38 = .ok (.ireturn, 1) := by decide +kernel
theorem dX11_kth_39 : decode cX11_kth 39 = .ok (.iinc 2 1, 3) := by decide +kernel
theorem dX11_kth_42 : decode cX11_kth 42 = .ok (.iinc 3 1, 3) := by decide +kernel
theorem dX11_kth_45 : decode cX11_kth 45 = .ok (.goto (-27), 3) := by decide +kernel
theorem dX11_kth_48 : decode cX11_kth 48 = .ok (.bipush (-4), 2) := by decide +kernel
theorem dX11_kth_50 : decode cX11_kth 50 = .ok (.ireturn, 1) := by decide +kernel
theorem dX11_within_0 : decode cX11_within 0 = .ok (.lload_n 0, 1) := by decide +kernel
theorem dX11_within_1 : decode cX11_within 1 = .ok (.ldc2_w 143, 3) := by decide +kernel
theorem dX11_within_4 : decode cX11_within 4 = .ok (.lcmp, 1) := by decide +kernel
theorem dX11_within_5 : decode cX11_within 5 = .ok (.ifCond .le 9, 3) := by decide +kernel
theorem dX11_within_8 : decode cX11_within 8 = .ok (.ldc2_w 143, 3) := by decide +kernel
theorem dX11_within_11 : decode cX11_within 11 = .ok (.goto 18, 3) := by decide +kernel
theorem dX11_within_14 : decode cX11_within 14 = .ok (.lload_n 0, 1) := by decide +kernel
theorem dX11_within_15 : decode cX11_within 15 = .ok (.ldc2_w 145, 3) := by decide +kernel
theorem dX11_within_18 : decode cX11_within 18 = .ok (.lcmp, 1) := by decide +kernel
theorem dX11_within_19 : decode cX11_within 19 = .ok (.ifCond .ge 9, 3) := by decide +kernel
theorem dX11_within_22 : decode cX11_within 22 = .ok (.ldc2_w 145, 3) := by decide +kernel
theorem dX11_within_25 : decode cX11_within 25 = .ok (.goto 4, 3) := by decide +kernel
theorem dX11_within_28 : decode cX11_within 28 = .ok (.lload_n 0, 1) := by decide +kernel
theorem dX11_within_29 : decode cX11_within 29 = .ok (.lreturn, 1) := by decide +kernel
theorem dX11_numberOf_0 : decode cX11_numberOf 0 = .ok (.lconst 0, 1) := by decide +kernel
theorem dX11_numberOf_1 : decode cX11_numberOf 1 = .ok (.lstore_n 2, 1) := by decide +kernel
theorem dX11_numberOf_2 : decode cX11_numberOf 2 = .ok (.aload_n 0, 1) := by decide +kernel
theorem dX11_numberOf_3 : decode cX11_numberOf 3 = .ok (.getfield 147, 3) := by decide +kernel
theorem dX11_numberOf_6 : decode cX11_numberOf 6 = .ok (.aload_n 0, 1) := by decide +kernel
theorem dX11_numberOf_7 : decode cX11_numberOf 7 = .ok (.getfield 31, 3) := by decide +kernel
theorem dX11_numberOf_10 : decode cX11_numberOf 10 = .ok (.iconst 0, 1) := by decide +kernel
theorem dX11_numberOf_11 : decode cX11_numberOf 11 = .ok (.iaload, 1) := by decide +kernel
theorem dX11_numberOf_12 : decode cX11_numberOf 12 = .ok (.if_icmp .ge 83, 3) := by decide +kernel
theorem dX11_numberOf_15 : decode cX11_numberOf 15 = .ok (.aload_n 0, 1) := by decide +kernel
theorem dX11_numberOf_16 : decode cX11_numberOf 16 = .ok (.getfield 28, 3) := by decide +kernel
theorem dX11_numberOf_19 : decode cX11_numberOf 19 = .ok (.aload_n 0, 1) := by decide +kernel
theorem dX11_numberOf_20 : decode cX11_numberOf 20 = .ok (.getfield 147, 3) := by decide +kernel
theorem dX11_numberOf_23 : decode cX11_numberOf 23 = .ok (.iaload, 1) := by decide +kernel
theorem dX11_numberOf_24 : decode cX11_numberOf 24 = .ok (.invokestatic 97, 3) := by decide +kernel
theorem dX11_numberOf_27 : decode cX11_numberOf 27 = .ok (.ifCond .ne 68, 3) := by decide +kernel
theorem dX11_numberOf_30 : decode cX11_numberOf 30 = .ok (.aload_n 0, 1) := by decide +kernel
theorem dX11_numberOf_31 : decode cX11_numberOf 31 = .ok (.getfield 28, 3) := by decide +kernel
theorem dX11_numberOf_34 : decode cX11_numberOf 34 = .ok (.aload_n 0, 1) := by decide +kernel
theorem dX11_numberOf_35 : decode cX11_numberOf 35 = .ok (.getfield 147, 3) := by decide +kernel
theorem dX11_numberOf_38 : decode cX11_numberOf 38 = .ok (.iaload, 1) := by decide +kernel
theorem dX11_numberOf_39 : decode cX11_numberOf 39 = .ok (.bipush 48, 2) := by decide +kernel
theorem dX11_numberOf_41 : decode cX11_numberOf 41 = .ok (.isub, 1) := by decide +kernel
theorem dX11_numberOf_42 : decode cX11_numberOf 42 = .ok (.istore 4, 2) := by decide +kernel
theorem dX11_numberOf_44 : decode cX11_numberOf 44 = .ok (.ldc2_w 150, 3) := by decide +kernel
theorem dX11_numberOf_47 : decode cX11_numberOf 47 = .ok (.lload_n 2, 1) := by decide +kernel
theorem dX11_numberOf_48 : decode cX11_numberOf 48 = .ok (.lmul, 1) := by decide +kernel
theorem dX11_numberOf_49 : decode cX11_numberOf 49 = .ok (.iload_n 1, 1) := by decide +kernel
theorem dX11_numberOf_50 : decode cX11_numberOf 50 = .ok (.ifCond .eq 27, 3) := by decide +kernel
theorem dX11_numberOf_53 : decode cX11_numberOf 53 = .ok (.aload_n 0, 1) := by decide +kernel
theorem dX11_numberOf_54 : decode cX11_numberOf 54 = .ok (.getfield 34, 3) := by decide +kernel
theorem dX11_numberOf_57 : decode cX11_numberOf 57 = .ok (.iload 4, 2) := by decide +kernel
theorem dX11_numberOf_59 : decode cX11_numberOf 59 = .ok (.iaload, 1) := by decide +kernel
theorem dX11_numberOf_60 : decode cX11_numberOf 60 = .ok (.iconst 1, 1) := by decide +kernel
theorem dX11_numberOf_61 : decode cX11_numberOf 61 = .ok (.if_icmp .ne 16, 3) := by decide +kernel
theorem dX11_numberOf_64 : decode cX11_numberOf 64 = .ok (.aload_n 0, 1) := by decide +kernel
theorem dX11_numberOf_65 : decode cX11_numberOf 65 = .ok (.getfield 34, 3) := by decide +kernel
theorem dX11_numberOf_68 : decode cX11_numberOf 68 = .ok (.bipush 10, 2) := by decide +kernel
theorem dX11_numberOf_70 : decode cX11_numberOf 70 = .ok (.iload 4, 2) := by decide +kernel
theorem dX11_numberOf_72 : decode cX11_numberOf 72 = .ok (.iadd, 1) := by decide +kernel
theorem dX11_numberOf_73 : decode cX11_numberOf 73 = .ok (.iaload, 1) := by decide +kernel
theorem dX11_numberOf_74 : decode cX11_numberOf 74 = .ok (.goto 5, 3) := by decide +kernel
theorem dX11_numberOf_77 : decode cX11_numberOf 77 = .ok (.iload 4, 2) := by decide +kernel
theorem dX11_numberOf_79 : decode cX11_numberOf 79 = .ok (.i2l, 1) := by decide +kernel
theorem dX11_numberOf_80 : decode cX11_numberOf 80 = .ok (.ladd, 1) := by decide +kernel
theorem dX11_numberOf_81 : decode cX11_numberOf 81 = .ok (.lstore_n 2, 1) := by decide +kernel
theorem dX11_numberOf_82 : decode cX11_numberOf 82 = .ok (.aload_n 0, 1) := by decide +kernel
theorem dX11_numberOf_83 : decode cX11_numberOf 83 = .ok (.dup, 1) := by decide +kernel
theorem dX11_numberOf_84 : decode cX11_numberOf 84 = .ok (.getfield 147, 3) := by decide +kernel
theorem dX11_numberOf_87 : decode cX11_numberOf 87 = .ok (.iconst 1, 1) := by decide +kernel
theorem dX11_numberOf_88 : decode cX11_numberOf 88 = .ok (.iadd, 1) := by decide +kernel
theorem dX11_numberOf_89 : decode cX11_numberOf 89 = .ok (.putfield 147, 3) := by decide +kernel
theorem dX11_numberOf_92 : decode cX11_numberOf 92 = .ok (.goto (-90), 3) := by decide +kernel
theorem dX11_numberOf_95 : decode cX11_numberOf 95 = .ok (.lload_n 2, 1) := by decide +kernel
theorem dX11_numberOf_96 : decode cX11_numberOf 96 = .ok (.lreturn, 1) := by decide +kernel
theorem dX11_productOf_0 : decode cX11_productOf 0 = .ok (.aload_n 0, 1) := by decide +kernel
theorem dX11_productOf_1 : decode cX11_productOf 1 = .ok (.iload_n 1, 1) := by decide +kernel
theorem dX11_productOf_2 : decode cX11_productOf 2 = .ok (.invokevirtual 152, 3) := by decide +kernel
theorem dX11_productOf_5 : decode cX11_productOf 5 = .ok (.lstore_n 2, 1) := by decide +kernel
theorem dX11_productOf_6 : decode cX11_productOf 6 = .ok (.aload_n 0, 1) := by decide +kernel
theorem dX11_productOf_7 : decode cX11_productOf 7 = .ok (.getfield 147, 3) := by decide +kernel
theorem dX11_productOf_10 : decode cX11_productOf 10 = .ok (.aload_n 0, 1) := by decide +kernel
theorem dX11_productOf_11 : decode cX11_productOf 11 = .ok (.getfield 31, 3) := by decide +kernel
theorem dX11_productOf_14 : decode cX11_productOf 14 = .ok (.iconst 0, 1) := by decide +kernel
theorem dX11_productOf_15 : decode cX11_productOf 15 = .ok (.iaload, 1) := by decide +kernel
theorem dX11_productOf_16 : decode cX11_productOf 16 = .ok (.if_icmp .ge 41, 3) := by decide +kernel
theorem dX11_productOf_19 : decode cX11_productOf 19 = .ok (.aload_n 0, 1) := by decide +kernel
theorem dX11_productOf_20 : decode cX11_productOf 20 = .ok (.getfield 28, 3) := by decide +kernel
theorem dX11_productOf_23 : decode cX11_productOf 23 = .ok (.aload_n 0, 1) := by decide +kernel
theorem dX11_productOf_24 : decode cX11_productOf 24 = .ok (.getfield 147, 3) := by decide +kernel
theorem dX11_productOf_27 : decode cX11_productOf 27 = .ok (.iaload, 1) := by decide +kernel
theorem dX11_productOf_28 : decode cX11_productOf 28 = .ok (.bipush 42, 2) := by decide +kernel
theorem dX11_productOf_30 : decode cX11_productOf 30 = .ok (.if_icmp .ne 27, 3) := by decide +kernel
theorem dX11_productOf_33 : decode cX11_productOf 33 = .ok (.aload_n 0, 1) := by decide +kernel
theorem dX11_productOf_34 : decode cX11_productOf 34 = .ok (.dup, 1) := by decide +kernel
theorem dX11_productOf_35 : decode cX11_productOf 35 = .ok (.getfield 147, 3) := by decide +kernel
theorem dX11_productOf_38 : decode cX11_productOf 38 = .ok (.iconst 1, 1) := by decide +kernel
theorem dX11_productOf_39 : decode cX11_productOf 39 = .ok (.iadd, 1) := by decide +kernel
theorem dX11_productOf_40 : decode cX11_productOf 40 = .ok (.putfield 147, 3) := by decide +kernel
theorem dX11_productOf_43 : decode cX11_productOf 43 = .ok (.lload_n 2, 1) := by decide +kernel
theorem dX11_productOf_44 : decode cX11_productOf 44 = .ok (.aload_n 0, 1) := by decide +kernel
theorem dX11_productOf_45 : decode cX11_productOf 45 = .ok (.iload_n 1, 1) := by decide +kernel
theorem dX11_productOf_46 : decode cX11_productOf 46 = .ok (.invokevirtual 152, 3) := by decide +kernel
theorem dX11_productOf_49 : decode cX11_productOf 49 = .ok (.lmul, 1) := by decide +kernel
theorem dX11_productOf_50 : decode cX11_productOf 50 = .ok (.invokestatic 156, 3) := by decide +kernel
theorem dX11_productOf_53 : decode cX11_productOf 53 = .ok (.lstore_n 2, 1) := by decide +kernel
theorem dX11_productOf_54 : decode cX11_productOf 54 = .ok (.goto (-48), 3) := by decide +kernel
theorem dX11_productOf_57 : decode cX11_productOf 57 = .ok (.lload_n 2, 1) := by decide +kernel
theorem dX11_productOf_58 : decode cX11_productOf 58 = .ok (.lreturn, 1) := by decide +kernel
theorem dX11_worth_0 : decode cX11_worth 0 = .ok (.aload_n 0, 1) := by decide +kernel
theorem dX11_worth_1 : decode cX11_worth 1 = .ok (.iconst 0, 1) := by decide +kernel
theorem dX11_worth_2 : decode cX11_worth 2 = .ok (.putfield 147, 3) := by decide +kernel
theorem dX11_worth_5 : decode cX11_worth 5 = .ok (.aload_n 0, 1) := by decide +kernel
theorem dX11_worth_6 : decode cX11_worth 6 = .ok (.iload_n 1, 1) := by decide +kernel
theorem dX11_worth_7 : decode cX11_worth 7 = .ok (.invokevirtual 160, 3) := by decide +kernel
theorem dX11_worth_10 : decode cX11_worth 10 = .ok (.lstore_n 2, 1) := by decide +kernel
theorem dX11_worth_11 : decode cX11_worth 11 = .ok (.aload_n 0, 1) := by decide +kernel
theorem dX11_worth_12 : decode cX11_worth 12 = .ok (.getfield 147, 3) := by decide +kernel
theorem dX11_worth_15 : decode cX11_worth 15 = .ok (.aload_n 0, 1) := by decide +kernel
theorem dX11_worth_16 : decode cX11_worth 16 = .ok (.getfield 31, 3) := by decide +kernel
theorem dX11_worth_19 : decode cX11_worth 19 = .ok (.iconst 0, 1) := by decide +kernel
theorem dX11_worth_20 : decode cX11_worth 20 = .ok (.iaload, 1) := by decide +kernel
theorem dX11_worth_21 : decode cX11_worth 21 = .ok (.if_icmp .ge 56, 3) := by decide +kernel
theorem dX11_worth_24 : decode cX11_worth 24 = .ok (.aload_n 0, 1) := by decide +kernel
theorem dX11_worth_25 : decode cX11_worth 25 = .ok (.getfield 28, 3) := by decide +kernel
theorem dX11_worth_28 : decode cX11_worth 28 = .ok (.aload_n 0, 1) := by decide +kernel
theorem dX11_worth_29 : decode cX11_worth 29 = .ok (.getfield 147, 3) := by decide +kernel
theorem dX11_worth_32 : decode cX11_worth 32 = .ok (.iaload, 1) := by decide +kernel
theorem dX11_worth_33 : decode cX11_worth 33 = .ok (.istore 4, 2) := by decide +kernel
theorem dX11_worth_35 : decode cX11_worth 35 = .ok (.aload_n 0, 1) := by decide +kernel
theorem dX11_worth_36 : decode cX11_worth 36 = .ok (.dup, 1) := by decide +kernel
theorem dX11_worth_37 : decode cX11_worth 37 = .ok (.getfield 147, 3) := by decide +kernel
theorem dX11_worth_40 : decode cX11_worth 40 = .ok (.iconst 1, 1) := by decide +kernel
theorem dX11_worth_41 : decode cX11_worth 41 = .ok (.iadd, 1) := by decide +kernel
theorem dX11_worth_42 : decode cX11_worth 42 = .ok (.putfield 147, 3) := by decide +kernel
theorem dX11_worth_45 : decode cX11_worth 45 = .ok (.aload_n 0, 1) := by decide +kernel
theorem dX11_worth_46 : decode cX11_worth 46 = .ok (.iload_n 1, 1) := by decide +kernel
theorem dX11_worth_47 : decode cX11_worth 47 = .ok (.invokevirtual 160, 3) := by decide +kernel
theorem dX11_worth_50 : decode cX11_worth 50 = .ok (.lstore 5, 2) := by decide +kernel
theorem dX11_worth_52 : decode cX11_worth 52 = .ok (.iload 4, 2) := by decide +kernel
theorem dX11_worth_54 : decode cX11_worth 54 = .ok (.bipush 43, 2) := by decide +kernel
theorem dX11_worth_56 : decode cX11_worth 56 = .ok (.if_icmp .ne 10, 3) := by decide +kernel
theorem dX11_worth_59 : decode cX11_worth 59 = .ok (.lload_n 2, 1) := by decide +kernel
theorem dX11_worth_60 : decode cX11_worth 60 = .ok (.lload 5, 2) := by decide +kernel
theorem dX11_worth_62 : decode cX11_worth 62 = .ok (.ladd, 1) := by decide +kernel
theorem dX11_worth_63 : decode cX11_worth 63 = .ok (.goto 7, 3) := by decide +kernel
theorem dX11_worth_66 : decode cX11_worth 66 = .ok (.lload_n 2, 1) := by decide +kernel
theorem dX11_worth_67 : decode cX11_worth 67 = .ok (.lload 5, 2) := by decide +kernel
theorem dX11_worth_69 : decode cX11_worth 69 = .ok (.lsub, 1) := by decide +kernel
theorem dX11_worth_70 : decode cX11_worth 70 = .ok (.invokestatic 156, 3) := by decide +kernel
theorem dX11_worth_73 : decode cX11_worth 73 = .ok (.lstore_n 2, 1) := by decide +kernel
theorem dX11_worth_74 : decode cX11_worth 74 = .ok (.goto (-63), 3) := by decide +kernel
theorem dX11_worth_77 : decode cX11_worth 77 = .ok (.lload_n 2, 1) := by decide +kernel
theorem dX11_worth_78 : decode cX11_worth 78 = .ok (.l2i, 1) := by decide +kernel
theorem dX11_worth_79 : decode cX11_worth 79 = .ok (.ireturn, 1) := by decide +kernel
theorem dX11_sum_0 : decode cX11_sum 0 = .ok (.iload_n 1, 1) := by decide +kernel
theorem dX11_sum_1 : decode cX11_sum 1 = .ok (.i2l, 1) := by decide +kernel
theorem dX11_sum_2 : decode cX11_sum 2 = .ok (.lconst 0, 1) := by decide +kernel
theorem dX11_sum_3 : decode cX11_sum 3 = .ok (.ldc2_w 91, 3) := by decide +kernel
theorem dX11_sum_6 : decode cX11_sum 6 = .ok (.invokestatic 72, 3) := by decide +kernel
theorem dX11_sum_9 : decode cX11_sum 9 = .ok (.ifCond .ne 5, 3) := by decide +kernel
theorem dX11_sum_12 : decode cX11_sum 12 = .ok (.iconst (-1), 1) := by decide +kernel
theorem dX11_sum_13 : decode cX11_sum 13 = .ok (.ireturn, 1) := by decide +kernel
theorem dX11_sum_14 : decode cX11_sum 14 = .ok (.aload_n 0, 1) := by decide +kernel
theorem dX11_sum_15 : decode cX11_sum 15 = .ok (.getfield 31, 3) := by decide +kernel
theorem dX11_sum_18 : decode cX11_sum 18 = .ok (.iconst 0, 1) := by decide +kernel
theorem dX11_sum_19 : decode cX11_sum 19 = .ok (.iaload, 1) := by decide +kernel
theorem dX11_sum_20 : decode cX11_sum 20 = .ok (.ifCond .le 7, 3) := by decide +kernel
theorem dX11_sum_23 : decode cX11_sum 23 = .ok (.iconst 1, 1) := by decide +kernel
theorem dX11_sum_24 : decode cX11_sum 24 = .ok (.goto 4, 3) := by decide +kernel
theorem dX11_sum_27 : decode cX11_sum 27 = .ok (.iconst 0, 1) := by decide +kernel
theorem dX11_sum_28 : decode cX11_sum 28 = .ok (.istore_n 2, 1) := by decide +kernel
theorem dX11_sum_29 : decode cX11_sum 29 = .ok (.iconst 0, 1) := by decide +kernel
theorem dX11_sum_30 : decode cX11_sum 30 = .ok (.istore_n 3, 1) := by decide +kernel
theorem dX11_sum_31 : decode cX11_sum 31 = .ok (.iload_n 3, 1) := by decide +kernel
theorem dX11_sum_32 : decode cX11_sum 32 = .ok (.aload_n 0, 1) := by decide +kernel
theorem dX11_sum_33 : decode cX11_sum 33 = .ok (.getfield 31, 3) := by decide +kernel
theorem dX11_sum_36 : decode cX11_sum 36 = .ok (.iconst 0, 1) := by decide +kernel
theorem dX11_sum_37 : decode cX11_sum 37 = .ok (.iaload, 1) := by decide +kernel
theorem dX11_sum_38 : decode cX11_sum 38 = .ok (.if_icmp .ge 29, 3) := by decide +kernel
theorem dX11_sum_41 : decode cX11_sum 41 = .ok (.iload_n 2, 1) := by decide +kernel
theorem dX11_sum_42 : decode cX11_sum 42 = .ok (.aload_n 0, 1) := by decide +kernel
theorem dX11_sum_43 : decode cX11_sum 43 = .ok (.getfield 28, 3) := by decide +kernel
theorem dX11_sum_46 : decode cX11_sum 46 = .ok (.iload_n 3, 1) := by decide +kernel
theorem dX11_sum_47 : decode cX11_sum 47 = .ok (.iaload, 1) := by decide +kernel
theorem dX11_sum_48 : decode cX11_sum 48 = .ok (.invokestatic 97, 3) := by decide +kernel
theorem dX11_sum_51 : decode cX11_sum 51 = .ok (.ifCond .eq 7, 3) := by decide +kernel
theorem dX11_sum_54 : decode cX11_sum 54 = .ok (.iconst 1, 1) := by decide +kernel
theorem dX11_sum_55 : decode cX11_sum 55 = .ok (.goto 4, 3) := by decide +kernel
theorem dX11_sum_58 : decode cX11_sum 58 = .ok (.iconst 0, 1) := by decide +kernel
theorem dX11_sum_59 : decode cX11_sum 59 = .ok (.iadd, 1) := by decide +kernel
theorem dX11_sum_60 : decode cX11_sum 60 = .ok (.istore_n 2, 1) := by decide +kernel
theorem dX11_sum_61 : decode cX11_sum 61 = .ok (.iinc 3 1, 3) := by decide +kernel
theorem dX11_sum_64 : decode cX11_sum 64 = .ok (.goto (-33), 3) := by decide +kernel
theorem dX11_sum_67 : decode cX11_sum 67 = .ok (.iload_n 1, 1) := by decide +kernel
theorem dX11_sum_68 : decode cX11_sum 68 = .ok (.iconst 2, 1) := by decide +kernel
theorem dX11_sum_69 : decode cX11_sum 69 = .ok (.if_icmp .ne 7, 3) := by decide +kernel
theorem dX11_sum_72 : decode cX11_sum 72 = .ok (.iload_n 2, 1) := by decide +kernel
theorem dX11_sum_73 : decode cX11_sum 73 = .ok (.goto 17, 3) := by decide +kernel
theorem dX11_sum_76 : decode cX11_sum 76 = .ok (.aload_n 0, 1) := by decide +kernel
theorem dX11_sum_77 : decode cX11_sum 77 = .ok (.iload_n 1, 1) := by decide +kernel
theorem dX11_sum_78 : decode cX11_sum 78 = .ok (.iconst 1, 1) := by decide +kernel
theorem dX11_sum_79 : decode cX11_sum 79 = .ok (.if_icmp .ne 7, 3) := by decide +kernel
theorem dX11_sum_82 : decode cX11_sum 82 = .ok (.iconst 1, 1) := by decide +kernel
theorem dX11_sum_83 : decode cX11_sum 83 = .ok (.goto 4, 3) := by decide +kernel
theorem dX11_sum_86 : decode cX11_sum 86 = .ok (.iconst 0, 1) := by decide +kernel
theorem dX11_sum_87 : decode cX11_sum 87 = .ok (.invokevirtual 163, 3) := by decide +kernel
theorem dX11_sum_90 : decode cX11_sum 90 = .ok (.ireturn, 1) := by decide +kernel
theorem dX11_lettersOf_0 : decode cX11_lettersOf 0 = .ok (.iconst 1, 1) := by decide +kernel
theorem dX11_lettersOf_1 : decode cX11_lettersOf 1 = .ok (.istore_n 1, 1) := by decide +kernel
theorem dX11_lettersOf_2 : decode cX11_lettersOf 2 = .ok (.iload_n 0, 1) := by decide +kernel
theorem dX11_lettersOf_3 : decode cX11_lettersOf 3 = .ok (.bipush 10, 2) := by decide +kernel
theorem dX11_lettersOf_5 : decode cX11_lettersOf 5 = .ok (.idiv, 1) := by decide +kernel
theorem dX11_lettersOf_6 : decode cX11_lettersOf 6 = .ok (.istore_n 2, 1) := by decide +kernel
theorem dX11_lettersOf_7 : decode cX11_lettersOf 7 = .ok (.iload_n 2, 1) := by decide +kernel
theorem dX11_lettersOf_8 : decode cX11_lettersOf 8 = .ok (.ifCond .le 14, 3) := by decide +kernel
theorem dX11_lettersOf_11 : decode cX11_lettersOf 11 = .ok (.iinc 1 1, 3) := by decide +kernel
theorem dX11_lettersOf_14 : decode cX11_lettersOf 14 = .ok (.iload_n 2, 1) := by decide +kernel
theorem dX11_lettersOf_15 : decode cX11_lettersOf 15 = .ok (.bipush 10, 2) := by decide +kernel
theorem dX11_lettersOf_17 : decode cX11_lettersOf 17 = .ok (.idiv, 1) := by decide +kernel
theorem dX11_lettersOf_18 : decode cX11_lettersOf 18 = .ok (.istore_n 2, 1) := by decide +kernel
theorem dX11_lettersOf_19 : decode cX11_lettersOf 19 = .ok (.goto (-12), 3) := by decide +kernel
theorem dX11_lettersOf_22 : decode cX11_lettersOf 22 = .ok (.iload_n 1, 1) := by decide +kernel
theorem dX11_lettersOf_23 : decode cX11_lettersOf 23 = .ok (.ireturn, 1) := by decide +kernel
theorem dX11_noteWay_0 : decode cX11_noteWay 0 = .ok (.aload_n 0, 1) := by decide +kernel
theorem dX11_noteWay_1 : decode cX11_noteWay 1 = .ok (.iload_n 3, 1) := by decide +kernel
theorem dX11_noteWay_2 : decode cX11_noteWay 2 = .ok (.invokevirtual 134, 3) := by decide +kernel
theorem dX11_noteWay_5 : decode cX11_noteWay 5 = .ok (.ifCond .eq 16, 3) := by decide +kernel
theorem dX11_noteWay_8 : decode cX11_noteWay 8 = .ok (.iload_n 2, 1) := by decide +kernel
theorem dX11_noteWay_9 : decode cX11_noteWay 9 = .ok (.ifCond .le 13, 3) := by decide +kernel
theorem dX11_noteWay_12 : decode cX11_noteWay 12 = .ok (.aload_n 0, 1) := by decide +kernel
theorem dX11_noteWay_13 : decode cX11_noteWay 13 = .ok (.iload 4, 2) := by decide +kernel
theorem dX11_noteWay_15 : decode cX11_noteWay 15 = .ok (.invokevirtual 134, 3) := by decide +kernel
theorem dX11_noteWay_18 : decode cX11_noteWay 18 = .ok (.ifCond .ne 4, 3) := by decide +kernel
theorem dX11_noteWay_21 : decode cX11_noteWay 21 = .ok (.return_, 1) := by decide +kernel
theorem dX11_noteWay_22 : decode cX11_noteWay 22 = .ok (.iload_n 2, 1) := by decide +kernel
theorem dX11_noteWay_23 : decode cX11_noteWay 23 = .ok (.ifCond .ne 10, 3) := by decide +kernel
theorem dX11_noteWay_26 : decode cX11_noteWay 26 = .ok (.iload_n 1, 1) := by decide +kernel
theorem dX11_noteWay_27 : decode cX11_noteWay 27 = .ok (.invokestatic 167, 3) := by decide +kernel
theorem dX11_noteWay_30 : decode cX11_noteWay 30 = .ok (.goto 15, 3) := by decide +kernel
theorem dX11_noteWay_33 : decode cX11_noteWay 33 = .ok (.iload_n 3, 1) := by decide +kernel
theorem dX11_noteWay_34 : decode cX11_noteWay 34 = .ok (.invokestatic 167, 3) := by decide +kernel
theorem dX11_noteWay_37 : decode cX11_noteWay 37 = .ok (.iconst 1, 1) := by decide +kernel
theorem dX11_noteWay_38 : decode cX11_noteWay 38 = .ok (.iadd, 1) := by decide +kernel
theorem dX11_noteWay_39 : decode cX11_noteWay 39 = .ok (.iload 4, 2) := by decide +kernel
theorem dX11_noteWay_41 : decode cX11_noteWay 41 = .ok (.invokestatic 167, 3) := by decide +kernel
theorem dX11_noteWay_44 : decode cX11_noteWay 44 = .ok (.iadd, 1) := by decide +kernel
theorem dX11_noteWay_45 : decode cX11_noteWay 45 = .ok (.istore 5, 2) := by decide +kernel
theorem dX11_noteWay_47 : decode cX11_noteWay 47 = .ok (.aload_n 0, 1) := by decide +kernel
theorem dX11_noteWay_48 : decode cX11_noteWay 48 = .ok (.getfield 170, 3) := by decide +kernel
theorem dX11_noteWay_51 : decode cX11_noteWay 51 = .ok (.ifCond .eq 12, 3) := by decide +kernel
theorem dX11_noteWay_54 : decode cX11_noteWay 54 = .ok (.iload 5, 2) := by decide +kernel
theorem dX11_noteWay_56 : decode cX11_noteWay 56 = .ok (.aload_n 0, 1) := by decide +kernel
theorem dX11_noteWay_57 : decode cX11_noteWay 57 = .ok (.getfield 173, 3) := by decide +kernel
theorem dX11_noteWay_60 : decode cX11_noteWay 60 = .ok (.if_icmp .ge 25, 3) := by decide +kernel
theorem dX11_noteWay_63 : decode cX11_noteWay 63 = .ok (.aload_n 0, 1) := by decide +kernel
theorem dX11_noteWay_64 : decode cX11_noteWay 64 = .ok (.iload 5, 2) := by decide +kernel
theorem dX11_noteWay_66 : decode cX11_noteWay 66 = .ok (.putfield 173, 3) := by decide +kernel
theorem dX11_noteWay_69 : decode cX11_noteWay 69 = .ok (.aload_n 0, 1) := by decide +kernel
theorem dX11_noteWay_70 : decode cX11_noteWay 70 = .ok (.iload_n 2, 1) := by decide +kernel
theorem dX11_noteWay_71 : decode cX11_noteWay 71 = .ok (.putfield 176, 3) := by decide +kernel
theorem dX11_noteWay_74 : decode cX11_noteWay 74 = .ok (.aload_n 0, 1) := by decide +kernel
theorem dX11_noteWay_75 : decode cX11_noteWay 75 = .ok (.iload_n 3, 1) := by decide +kernel
theorem dX11_noteWay_76 : decode cX11_noteWay 76 = .ok (.putfield 179, 3) := by decide +kernel
theorem dX11_noteWay_79 : decode cX11_noteWay 79 = .ok (.aload_n 0, 1) := by decide +kernel
theorem dX11_noteWay_80 : decode cX11_noteWay 80 = .ok (.iload 4, 2) := by decide +kernel
theorem dX11_noteWay_82 : decode cX11_noteWay 82 = .ok (.putfield 182, 3) := by decide +kernel
theorem dX11_noteWay_85 : decode cX11_noteWay 85 = .ok (.aload_n 0, 1) := by decide +kernel
theorem dX11_noteWay_86 : decode cX11_noteWay 86 = .ok (.dup, 1) := by decide +kernel
theorem dX11_noteWay_87 : decode cX11_noteWay 87 = .ok (.getfield 170, 3) := by decide +kernel
theorem dX11_noteWay_90 : decode cX11_noteWay 90 = .ok (.iconst 1, 1) := by decide +kernel
theorem dX11_noteWay_91 : decode cX11_noteWay 91 = .ok (.iadd, 1) := by decide +kernel
theorem dX11_noteWay_92 : decode cX11_noteWay 92 = .ok (.putfield 170, 3) := by decide +kernel
theorem dX11_noteWay_95 : decode cX11_noteWay 95 = .ok (.return_, 1) := by decide +kernel
theorem dX11_goWays_0 : decode cX11_goWays 0 = .ok (.aload_n 0, 1) := by decide +kernel
theorem dX11_goWays_1 : decode cX11_goWays 1 = .ok (.iconst 0, 1) := by decide +kernel
theorem dX11_goWays_2 : decode cX11_goWays 2 = .ok (.putfield 170, 3) := by decide +kernel
theorem dX11_goWays_5 : decode cX11_goWays 5 = .ok (.aload_n 0, 1) := by decide +kernel
theorem dX11_goWays_6 : decode cX11_goWays 6 = .ok (.iload_n 1, 1) := by decide +kernel
theorem dX11_goWays_7 : decode cX11_goWays 7 = .ok (.iconst 0, 1) := by decide +kernel
theorem dX11_goWays_8 : decode cX11_goWays 8 = .ok (.iload_n 1, 1) := by decide +kernel
theorem dX11_goWays_9 : decode cX11_goWays 9 = .ok (.iconst 0, 1) := by decide +kernel
theorem dX11_goWays_10 : decode cX11_goWays 10 = .ok (.invokevirtual 185, 3) := by decide +kernel
theorem dX11_goWays_13 : decode cX11_goWays 13 = .ok (.iconst 0, 1) := by decide +kernel
theorem dX11_goWays_14 : decode cX11_goWays 14 = .ok (.istore_n 2, 1) := by decide +kernel
theorem dX11_goWays_15 : decode cX11_goWays 15 = .ok (.iconst 2, 1) := by decide +kernel
theorem dX11_goWays_16 : decode cX11_goWays 16 = .ok (.iload_n 2, 1) := by decide +kernel
theorem dX11_goWays_17 : decode cX11_goWays 17 = .ok (.imul, 1) := by decide +kernel
theorem dX11_goWays_18 : decode cX11_goWays 18 = .ok (.iload_n 1, 1) := by decide +kernel
theorem dX11_goWays_19 : decode cX11_goWays 19 = .ok (.if_icmp .gt 19, 3) := by decide +kernel
theorem dX11_goWays_22 : decode cX11_goWays 22 = .ok (.aload_n 0, 1) := by decide +kernel
theorem dX11_goWays_23 : decode cX11_goWays 23 = .ok (.iload_n 1, 1) := by decide +kernel
theorem dX11_goWays_24 : decode cX11_goWays 24 = .ok (.iconst 1, 1) := by decide +kernel
theorem dX11_goWays_25 : decode cX11_goWays 25 = .ok (.iload_n 2, 1) := by decide +kernel
theorem dX11_goWays_26 : decode cX11_goWays 26 = .ok (.iload_n 1, 1) := by decide +kernel
theorem dX11_goWays_27 : decode cX11_goWays 27 = .ok (.iload_n 2, 1) := by decide +kernel
theorem dX11_goWays_28 : decode cX11_goWays 28 = .ok (.isub, 1) := by decide +kernel
theorem dX11_goWays_29 : decode cX11_goWays 29 = .ok (.invokevirtual 185, 3) := by decide +kernel
theorem dX11_goWays_32 : decode cX11_goWays 32 = .ok (.iinc 2 1, 3) := by decide +kernel
theorem dX11_goWays_35 : decode cX11_goWays 35 = .ok (.goto (-20), 3) := by decide +kernel
theorem dX11_goWays_38 : decode cX11_goWays 38 = .ok (.iload_n 1, 1) := by decide +kernel
theorem dX11_goWays_39 : decode cX11_goWays 39 = .ok (.iconst 1, 1) := by decide +kernel
theorem dX11_goWays_40 : decode cX11_goWays 40 = .ok (.iadd, 1) := by decide +kernel
theorem dX11_goWays_41 : decode cX11_goWays 41 = .ok (.istore_n 2, 1) := by decide +kernel
theorem dX11_goWays_42 : decode cX11_goWays 42 = .ok (.iload_n 2, 1) := by decide +kernel
theorem dX11_goWays_43 : decode cX11_goWays 43 = .ok (.sipush 999, 3) := by decide +kernel
theorem dX11_goWays_46 : decode cX11_goWays 46 = .ok (.if_icmp .gt 19, 3) := by decide +kernel
theorem dX11_goWays_49 : decode cX11_goWays 49 = .ok (.aload_n 0, 1) := by decide +kernel
theorem dX11_goWays_50 : decode cX11_goWays 50 = .ok (.iload_n 1, 1) := by decide +kernel
theorem dX11_goWays_51 : decode cX11_goWays 51 = .ok (.iconst 2, 1) := by decide +kernel
theorem dX11_goWays_52 : decode cX11_goWays 52 = .ok (.iload_n 2, 1) := by decide +kernel
theorem dX11_goWays_53 : decode cX11_goWays 53 = .ok (.iload_n 2, 1) := by decide +kernel
theorem dX11_goWays_54 : decode cX11_goWays 54 = .ok (.iload_n 1, 1) := by decide +kernel
theorem dX11_goWays_55 : decode cX11_goWays 55 = .ok (.isub, 1) := by decide +kernel
theorem dX11_goWays_56 : decode cX11_goWays 56 = .ok (.invokevirtual 185, 3) := by decide +kernel
theorem dX11_goWays_59 : decode cX11_goWays 59 = .ok (.iinc 2 1, 3) := by decide +kernel
theorem dX11_goWays_62 : decode cX11_goWays 62 = .ok (.goto (-20), 3) := by decide +kernel
theorem dX11_goWays_65 : decode cX11_goWays 65 = .ok (.iconst 0, 1) := by decide +kernel
theorem dX11_goWays_66 : decode cX11_goWays 66 = .ok (.istore_n 2, 1) := by decide +kernel
theorem dX11_goWays_67 : decode cX11_goWays 67 = .ok (.iload_n 2, 1) := by decide +kernel
theorem dX11_goWays_68 : decode cX11_goWays 68 = .ok (.iload_n 2, 1) := by decide +kernel
theorem dX11_goWays_69 : decode cX11_goWays 69 = .ok (.imul, 1) := by decide +kernel
theorem dX11_goWays_70 : decode cX11_goWays 70 = .ok (.iload_n 1, 1) := by decide +kernel
theorem dX11_goWays_71 : decode cX11_goWays 71 = .ok (.if_icmp .gt 46, 3) := by decide +kernel
theorem dX11_goWays_74 : decode cX11_goWays 74 = .ok (.iload_n 2, 1) := by decide +kernel
theorem dX11_goWays_75 : decode cX11_goWays 75 = .ok (.istore_n 3, 1) := by decide +kernel
theorem dX11_goWays_76 : decode cX11_goWays 76 = .ok (.iload_n 3, 1) := by decide +kernel
theorem dX11_goWays_77 : decode cX11_goWays 77 = .ok (.sipush 999, 3) := by decide +kernel
theorem dX11_goWays_80 : decode cX11_goWays 80 = .ok (.if_icmp .gt 31, 3) := by decide +kernel
theorem dX11_goWays_83 : decode cX11_goWays 83 = .ok (.iload_n 2, 1) := by decide +kernel
theorem dX11_goWays_84 : decode cX11_goWays 84 = .ok (.iload_n 3, 1) := by decide +kernel
theorem dX11_goWays_85 : decode cX11_goWays 85 = .ok (.imul, 1) := by decide +kernel
theorem dX11_goWays_86 : decode cX11_goWays 86 = .ok (.iload_n 1, 1) := by decide +kernel
theorem dX11_goWays_87 : decode cX11_goWays 87 = .ok (.if_icmp .gt 24, 3) := by decide +kernel
theorem dX11_goWays_90 : decode cX11_goWays 90 = .ok (.iload_n 2, 1) := by decide +kernel
theorem dX11_goWays_91 : decode cX11_goWays 91 = .ok (.iload_n 3, 1) := by decide +kernel
theorem dX11_goWays_92 : decode cX11_goWays 92 = .ok (.imul, 1) := by decide +kernel
theorem dX11_goWays_93 : decode cX11_goWays 93 = .ok (.iload_n 1, 1) := by decide +kernel
theorem dX11_goWays_94 : decode cX11_goWays 94 = .ok (.if_icmp .ne 11, 3) := by decide +kernel
theorem dX11_goWays_97 : decode cX11_goWays 97 = .ok (.aload_n 0, 1) := by decide +kernel
theorem dX11_goWays_98 : decode cX11_goWays 98 = .ok (.iload_n 1, 1) := by decide +kernel
theorem dX11_goWays_99 : decode cX11_goWays 99 = .ok (.iconst 3, 1) := by decide +kernel
theorem dX11_goWays_100 : decode cX11_goWays 100 = .ok (.iload_n 2, 1) := by decide +kernel
theorem dX11_goWays_101 : decode cX11_goWays 101 = .ok (.iload_n 3, 1) := by decide +kernel
theorem dX11_goWays_102 : decode cX11_goWays 102 = .ok (.invokevirtual 185, 3) := by decide +kernel
theorem dX11_goWays_105 : decode cX11_goWays 105 = .ok (.iinc 3 1, 3) := by decide +kernel
theorem dX11_goWays_108 : decode cX11_goWays 108 = .ok (.goto (-32), 3) := by decide +kernel
theorem dX11_goWays_111 : decode cX11_goWays 111 = .ok (.iinc 2 1, 3) := by decide +kernel
theorem dX11_goWays_114 : decode cX11_goWays 114 = .ok (.goto (-47), 3) := by decide +kernel
theorem dX11_goWays_117 : decode cX11_goWays 117 = .ok (.return_, 1) := by decide +kernel
theorem dX11_ways_0 : decode cX11_ways 0 = .ok (.iload_n 1, 1) := by decide +kernel
theorem dX11_ways_1 : decode cX11_ways 1 = .ok (.i2l, 1) := by decide +kernel
theorem dX11_ways_2 : decode cX11_ways 2 = .ok (.lconst 0, 1) := by decide +kernel
theorem dX11_ways_3 : decode cX11_ways 3 = .ok (.ldc2_w 189, 3) := by decide +kernel
theorem dX11_ways_6 : decode cX11_ways 6 = .ok (.invokestatic 72, 3) := by decide +kernel
theorem dX11_ways_9 : decode cX11_ways 9 = .ok (.ifCond .ne 5, 3) := by decide +kernel
theorem dX11_ways_12 : decode cX11_ways 12 = .ok (.iconst (-1), 1) := by decide +kernel
theorem dX11_ways_13 : decode cX11_ways 13 = .ok (.ireturn, 1) := by decide +kernel
theorem dX11_ways_14 : decode cX11_ways 14 = .ok (.aload_n 0, 1) := by decide +kernel
theorem dX11_ways_15 : decode cX11_ways 15 = .ok (.iload_n 1, 1) := by decide +kernel
theorem dX11_ways_16 : decode cX11_ways 16 = .ok (.invokevirtual 191, 3) := by decide +kernel
theorem dX11_ways_19 : decode cX11_ways 19 = .ok (.aload_n 0, 1) := by decide +kernel
theorem dX11_ways_20 : decode cX11_ways 20 = .ok (.getfield 170, 3) := by decide +kernel
theorem dX11_ways_23 : decode cX11_ways 23 = .ok (.ireturn, 1) := by decide +kernel
theorem dX11_shortest_0 : decode cX11_shortest 0 = .ok (.iload_n 1, 1) := by decide +kernel
theorem dX11_shortest_1 : decode cX11_shortest 1 = .ok (.i2l, 1) := by decide +kernel
theorem dX11_shortest_2 : decode cX11_shortest 2 = .ok (.lconst 0, 1) := by decide +kernel
theorem dX11_shortest_3 : decode cX11_shortest 3 = .ok (.ldc2_w 189, 3) := by decide +kernel
theorem dX11_shortest_6 : decode cX11_shortest 6 = .ok (.invokestatic 72, 3) := by decide +kernel
theorem dX11_shortest_9 : decode cX11_shortest 9 = .ok (.ifCond .eq 15, 3) := by decide +kernel
theorem dX11_shortest_12 : decode cX11_shortest 12 = .ok (.iload_n 2, 1) := by decide +kernel
theorem dX11_shortest_13 : decode cX11_shortest 13 = .ok (.i2l, 1) := by decide +kernel
theorem dX11_shortest_14 : decode cX11_shortest 14 = .ok (.lconst 0, 1) := by decide +kernel
theorem dX11_shortest_15 : decode cX11_shortest 15 = .ok (.ldc2_w 194, 3) := by decide +kernel
theorem dX11_shortest_18 : decode cX11_shortest 18 = .ok (.invokestatic 72, 3) := by decide +kernel
theorem dX11_shortest_21 : decode cX11_shortest 21 = .ok (.ifCond .ne 5, 3) := by decide +kernel
theorem dX11_shortest_24 : decode cX11_shortest 24 = .ok (.iconst (-1), 1) := by decide +kernel
theorem dX11_shortest_25 : decode cX11_shortest 25 = .ok (.ireturn, 1) := by decide +kernel
theorem dX11_shortest_26 : decode cX11_shortest 26 = .ok (.aload_n 0, 1) := by decide +kernel
theorem dX11_shortest_27 : decode cX11_shortest 27 = .ok (.iload_n 1, 1) := by decide +kernel
theorem dX11_shortest_28 : decode cX11_shortest 28 = .ok (.invokevirtual 191, 3) := by decide +kernel
theorem dX11_shortest_31 : decode cX11_shortest 31 = .ok (.aload_n 0, 1) := by decide +kernel
theorem dX11_shortest_32 : decode cX11_shortest 32 = .ok (.getfield 170, 3) := by decide +kernel
theorem dX11_shortest_35 : decode cX11_shortest 35 = .ok (.ifCond .ne 6, 3) := by decide +kernel
theorem dX11_shortest_38 : decode cX11_shortest 38 = .ok (.bipush (-4), 2) := by decide +kernel
theorem dX11_shortest_40 : decode cX11_shortest 40 = .ok (.ireturn, 1) := by decide +kernel
theorem dX11_shortest_41 : decode cX11_shortest 41 = .ok (.iload_n 2, 1) := by decide +kernel
theorem dX11_shortest_42 : decode cX11_shortest 42 = .ok (.ifCond .ne 10, 3) := by decide +kernel
theorem dX11_shortest_45 : decode cX11_shortest 45 = .ok (.aload_n 0, 1) := by decide +kernel
theorem dX11_shortest_46 : decode cX11_shortest 46 = .ok (.getfield 173, 3) := by decide +kernel
theorem dX11_shortest_49 : decode cX11_shortest 49 = .ok (.goto 31, 3) := by decide +kernel
theorem dX11_shortest_52 : decode cX11_shortest 52 = .ok (.iload_n 2, 1) := by decide +kernel
theorem dX11_shortest_53 : decode cX11_shortest 53 = .ok (.iconst 1, 1) := by decide +kernel
theorem dX11_shortest_54 : decode cX11_shortest 54 = .ok (.if_icmp .ne 10, 3) := by decide +kernel
theorem dX11_shortest_57 : decode cX11_shortest 57 = .ok (.aload_n 0, 1) := by decide +kernel
theorem dX11_shortest_58 : decode cX11_shortest 58 = .ok (.getfield 176, 3) := by decide +kernel
theorem dX11_shortest_61 : decode cX11_shortest 61 = .ok (.goto 19, 3) := by decide +kernel
theorem dX11_shortest_64 : decode cX11_shortest 64 = .ok (.iload_n 2, 1) := by decide +kernel
theorem dX11_shortest_65 : decode cX11_shortest 65 = .ok (.iconst 2, 1) := by decide +kernel
theorem dX11_shortest_66 : decode cX11_shortest 66 = .ok (.if_icmp .ne 10, 3) := by decide +kernel
theorem dX11_shortest_69 : decode cX11_shortest 69 = .ok (.aload_n 0, 1) := by decide +kernel
theorem dX11_shortest_70 : decode cX11_shortest 70 = .ok (.getfield 179, 3) := by decide +kernel
theorem dX11_shortest_73 : decode cX11_shortest 73 = .ok (.goto 7, 3) := by decide +kernel
theorem dX11_shortest_76 : decode cX11_shortest 76 = .ok (.aload_n 0, 1) := by decide +kernel
theorem dX11_shortest_77 : decode cX11_shortest 77 = .ok (.getfield 182, 3) := by decide +kernel
theorem dX11_shortest_80 : decode cX11_shortest 80 = .ok (.ireturn, 1) := by decide +kernel
theorem dX11_goCoins_0 : decode cX11_goCoins 0 = .ok (.iconst 0, 1) := by decide +kernel
theorem dX11_goCoins_1 : decode cX11_goCoins 1 = .ok (.istore_n 1, 1) := by decide +kernel
theorem dX11_goCoins_2 : decode cX11_goCoins 2 = .ok (.iload_n 1, 1) := by decide +kernel
theorem dX11_goCoins_3 : decode cX11_goCoins 3 = .ok (.sipush 200, 3) := by decide +kernel
theorem dX11_goCoins_6 : decode cX11_goCoins 6 = .ok (.if_icmp .gt 40, 3) := by decide +kernel
theorem dX11_goCoins_9 : decode cX11_goCoins 9 = .ok (.aload_n 0, 1) := by decide +kernel
theorem dX11_goCoins_10 : decode cX11_goCoins 10 = .ok (.getfield 52, 3) := by decide +kernel
theorem dX11_goCoins_13 : decode cX11_goCoins 13 = .ok (.iload_n 1, 1) := by decide +kernel
theorem dX11_goCoins_14 : decode cX11_goCoins 14 = .ok (.iload_n 1, 1) := by decide +kernel
theorem dX11_goCoins_15 : decode cX11_goCoins 15 = .ok (.ifCond .ne 7, 3) := by decide +kernel
theorem dX11_goCoins_18 : decode cX11_goCoins 18 = .ok (.iconst 0, 1) := by decide +kernel
theorem dX11_goCoins_19 : decode cX11_goCoins 19 = .ok (.goto 5, 3) := by decide +kernel
theorem dX11_goCoins_22 : decode cX11_goCoins 22 = .ok (.ldc 196, 2) := by decide +kernel
theorem dX11_goCoins_24 : decode cX11_goCoins 24 = .ok (.iastore, 1) := by decide +kernel
theorem dX11_goCoins_25 : decode cX11_goCoins 25 = .ok (.aload_n 0, 1) := by decide +kernel
theorem dX11_goCoins_26 : decode cX11_goCoins 26 = .ok (.getfield 55, 3) := by decide +kernel
theorem dX11_goCoins_29 : decode cX11_goCoins 29 = .ok (.iload_n 1, 1) := by decide +kernel
theorem dX11_goCoins_30 : decode cX11_goCoins 30 = .ok (.iload_n 1, 1) := by decide +kernel
theorem dX11_goCoins_31 : decode cX11_goCoins 31 = .ok (.ifCond .ne 7, 3) := by decide +kernel
theorem dX11_goCoins_34 : decode cX11_goCoins 34 = .ok (.iconst 1, 1) := by decide +kernel
theorem dX11_goCoins_35 : decode cX11_goCoins 35 = .ok (.goto 4, 3) := by decide +kernel
theorem dX11_goCoins_38 : decode cX11_goCoins 38 = .ok (.iconst 0, 1) := by decide +kernel
theorem dX11_goCoins_39 : decode cX11_goCoins 39 = .ok (.iastore, 1) := by decide +kernel
theorem dX11_goCoins_40 : decode cX11_goCoins 40 = .ok (.iinc 1 1, 3) := by decide +kernel
theorem dX11_goCoins_43 : decode cX11_goCoins 43 = .ok (.goto (-41), 3) := by decide +kernel
theorem dX11_goCoins_46 : decode cX11_goCoins 46 = .ok (.iconst 0, 1) := by decide +kernel
theorem dX11_goCoins_47 : decode cX11_goCoins 47 = .ok (.istore_n 1, 1) := by decide +kernel
theorem dX11_goCoins_48 : decode cX11_goCoins 48 = .ok (.iload_n 1, 1) := by decide +kernel
theorem dX11_goCoins_49 : decode cX11_goCoins 49 = .ok (.aload_n 0, 1) := by decide +kernel
theorem dX11_goCoins_50 : decode cX11_goCoins 50 = .ok (.getfield 19, 3) := by decide +kernel
theorem dX11_goCoins_53 : decode cX11_goCoins 53 = .ok (.iconst 0, 1) := by decide +kernel
theorem dX11_goCoins_54 : decode cX11_goCoins 54 = .ok (.iaload, 1) := by decide +kernel
theorem dX11_goCoins_55 : decode cX11_goCoins 55 = .ok (.if_icmp .ge 100, 3) := by decide +kernel
theorem dX11_goCoins_58 : decode cX11_goCoins 58 = .ok (.aload_n 0, 1) := by decide +kernel
theorem dX11_goCoins_59 : decode cX11_goCoins 59 = .ok (.getfield 16, 3) := by decide +kernel
theorem dX11_goCoins_62 : decode cX11_goCoins 62 = .ok (.iload_n 1, 1) := by decide +kernel
theorem dX11_goCoins_63 : decode cX11_goCoins 63 = .ok (.iaload, 1) := by decide +kernel
theorem dX11_goCoins_64 : decode cX11_goCoins 64 = .ok (.istore_n 2, 1) := by decide +kernel
theorem dX11_goCoins_65 : decode cX11_goCoins 65 = .ok (.iload_n 2, 1) := by decide +kernel
theorem dX11_goCoins_66 : decode cX11_goCoins 66 = .ok (.istore_n 3, 1) := by decide +kernel
theorem dX11_goCoins_67 : decode cX11_goCoins 67 = .ok (.iload_n 3, 1) := by decide +kernel
theorem dX11_goCoins_68 : decode cX11_goCoins 68 = .ok (.sipush 200, 3) := by decide +kernel
theorem dX11_goCoins_71 : decode cX11_goCoins 71 = .ok (.if_icmp .gt 78, 3) := by decide +kernel
theorem dX11_goCoins_74 : decode cX11_goCoins 74 = .ok (.aload_n 0, 1) := by decide +kernel
theorem dX11_goCoins_75 : decode cX11_goCoins 75 = .ok (.iload_n 2, 1) := by decide +kernel
theorem dX11_goCoins_76 : decode cX11_goCoins 76 = .ok (.invokevirtual 134, 3) := by decide +kernel
theorem dX11_goCoins_79 : decode cX11_goCoins 79 = .ok (.ifCond .eq 70, 3) := by decide +kernel
theorem dX11_goCoins_82 : decode cX11_goCoins 82 = .ok (.aload_n 0, 1) := by decide +kernel
theorem dX11_goCoins_83 : decode cX11_goCoins 83 = .ok (.getfield 52, 3) := by decide +kernel
theorem dX11_goCoins_86 : decode cX11_goCoins 86 = .ok (.iload_n 3, 1) := by decide +kernel
theorem dX11_goCoins_87 : decode cX11_goCoins 87 = .ok (.aload_n 0, 1) := by decide +kernel
theorem dX11_goCoins_88 : decode cX11_goCoins 88 = .ok (.getfield 52, 3) := by decide +kernel
theorem dX11_goCoins_91 : decode cX11_goCoins 91 = .ok (.iload_n 3, 1) := by decide +kernel
theorem dX11_goCoins_92 : decode cX11_goCoins 92 = .ok (.iload_n 2, 1) := by decide +kernel
theorem dX11_goCoins_93 : decode cX11_goCoins 93 = .ok (.isub, 1) := by decide +kernel
theorem dX11_goCoins_94 : decode cX11_goCoins 94 = .ok (.iaload, 1) := by decide +kernel
theorem dX11_goCoins_95 : decode cX11_goCoins 95 = .ok (.iconst 1, 1) := by decide +kernel
theorem dX11_goCoins_96 : decode cX11_goCoins 96 = .ok (.iadd, 1) := by decide +kernel
theorem dX11_goCoins_97 : decode cX11_goCoins 97 = .ok (.aload_n 0, 1) := by decide +kernel
theorem dX11_goCoins_98 : decode cX11_goCoins 98 = .ok (.getfield 52, 3) := by decide +kernel
theorem dX11_goCoins_101 : decode cX11_goCoins 101 = .ok (.iload_n 3, 1) := by decide +kernel
theorem dX11_goCoins_102 : decode cX11_goCoins 102 = .ok (.iaload, 1) := by decide +kernel
theorem dX11_goCoins_103 : decode cX11_goCoins 103 = .ok (.if_icmp .ge 16, 3) := by decide +kernel
theorem dX11_goCoins_106 : decode cX11_goCoins 106 = .ok (.aload_n 0, 1) := by decide +kernel
theorem dX11_goCoins_107 : decode cX11_goCoins 107 = .ok (.getfield 52, 3) := by decide +kernel
theorem dX11_goCoins_110 : decode cX11_goCoins 110 = .ok (.iload_n 3, 1) := by decide +kernel
theorem dX11_goCoins_111 : decode cX11_goCoins 111 = .ok (.iload_n 2, 1) := by decide +kernel
theorem dX11_goCoins_112 : decode cX11_goCoins 112 = .ok (.isub, 1) := by decide +kernel
theorem dX11_goCoins_113 : decode cX11_goCoins 113 = .ok (.iaload, 1) := by decide +kernel
theorem dX11_goCoins_114 : decode cX11_goCoins 114 = .ok (.iconst 1, 1) := by decide +kernel
theorem dX11_goCoins_115 : decode cX11_goCoins 115 = .ok (.iadd, 1) := by decide +kernel
theorem dX11_goCoins_116 : decode cX11_goCoins 116 = .ok (.goto 9, 3) := by decide +kernel
theorem dX11_goCoins_119 : decode cX11_goCoins 119 = .ok (.aload_n 0, 1) := by decide +kernel
theorem dX11_goCoins_120 : decode cX11_goCoins 120 = .ok (.getfield 52, 3) := by decide +kernel
theorem dX11_goCoins_123 : decode cX11_goCoins 123 = .ok (.iload_n 3, 1) := by decide +kernel
theorem dX11_goCoins_124 : decode cX11_goCoins 124 = .ok (.iaload, 1) := by decide +kernel
theorem dX11_goCoins_125 : decode cX11_goCoins 125 = .ok (.iastore, 1) := by decide +kernel
theorem dX11_goCoins_126 : decode cX11_goCoins 126 = .ok (.aload_n 0, 1) := by decide +kernel
theorem dX11_goCoins_127 : decode cX11_goCoins 127 = .ok (.getfield 55, 3) := by decide +kernel
theorem dX11_goCoins_130 : decode cX11_goCoins 130 = .ok (.iload_n 3, 1) := by decide +kernel
theorem dX11_goCoins_131 : decode cX11_goCoins 131 = .ok (.dup2, 1) := by decide +kernel
theorem dX11_goCoins_132 : decode cX11_goCoins 132 = .ok (.iaload, 1) := by decide +kernel
theorem dX11_goCoins_133 : decode cX11_goCoins 133 = .ok (.aload_n 0, 1) := by decide +kernel
theorem dX11_goCoins_134 : decode cX11_goCoins 134 = .ok (.getfield 55, 3) := by decide +kernel
theorem dX11_goCoins_137 : decode cX11_goCoins 137 = .ok (.iload_n 3, 1) := by decide +kernel
theorem dX11_goCoins_138 : decode cX11_goCoins 138 = .ok (.iload_n 2, 1) := by decide +kernel
theorem dX11_goCoins_139 : decode cX11_goCoins 139 = .ok (.isub, 1) := by decide +kernel
theorem dX11_goCoins_140 : decode cX11_goCoins 140 = .ok (.iaload, 1) := by decide +kernel
theorem dX11_goCoins_141 : decode cX11_goCoins 141 = .ok (.iadd, 1) := by decide +kernel
theorem dX11_goCoins_142 : decode cX11_goCoins 142 = .ok (.iastore, 1) := by decide +kernel
theorem dX11_goCoins_143 : decode cX11_goCoins 143 = .ok (.iinc 3 1, 3) := by decide +kernel
theorem dX11_goCoins_146 : decode cX11_goCoins 146 = .ok (.goto (-79), 3) := by decide +kernel
theorem dX11_goCoins_149 : decode cX11_goCoins 149 = .ok (.iinc 1 1, 3) := by decide +kernel
theorem dX11_goCoins_152 : decode cX11_goCoins 152 = .ok (.goto (-104), 3) := by decide +kernel
theorem dX11_goCoins_155 : decode cX11_goCoins 155 = .ok (.return_, 1) := by decide +kernel
theorem dX11_change_0 : decode cX11_change 0 = .ok (.iload_n 1, 1) := by decide +kernel
theorem dX11_change_1 : decode cX11_change 1 = .ok (.i2l, 1) := by decide +kernel
theorem dX11_change_2 : decode cX11_change 2 = .ok (.lconst 0, 1) := by decide +kernel
theorem dX11_change_3 : decode cX11_change 3 = .ok (.ldc2_w 197, 3) := by decide +kernel
theorem dX11_change_6 : decode cX11_change 6 = .ok (.invokestatic 72, 3) := by decide +kernel
theorem dX11_change_9 : decode cX11_change 9 = .ok (.ifCond .ne 5, 3) := by decide +kernel
theorem dX11_change_12 : decode cX11_change 12 = .ok (.iconst (-1), 1) := by decide +kernel
theorem dX11_change_13 : decode cX11_change 13 = .ok (.ireturn, 1) := by decide +kernel
theorem dX11_change_14 : decode cX11_change 14 = .ok (.aload_n 0, 1) := by decide +kernel
theorem dX11_change_15 : decode cX11_change 15 = .ok (.invokevirtual 199, 3) := by decide +kernel
theorem dX11_change_18 : decode cX11_change 18 = .ok (.aload_n 0, 1) := by decide +kernel
theorem dX11_change_19 : decode cX11_change 19 = .ok (.getfield 52, 3) := by decide +kernel
theorem dX11_change_22 : decode cX11_change 22 = .ok (.iload_n 1, 1) := by decide +kernel
theorem dX11_change_23 : decode cX11_change 23 = .ok (.iaload, 1) := by decide +kernel
theorem dX11_change_24 : decode cX11_change 24 = .ok (.ldc 196, 2) := by decide +kernel
theorem dX11_change_26 : decode cX11_change 26 = .ok (.if_icmp .ge 12, 3) := by decide +kernel
theorem dX11_change_29 : decode cX11_change 29 = .ok (.aload_n 0, 1) := by decide +kernel
theorem dX11_change_30 : decode cX11_change 30 = .ok (.getfield 52, 3) := by decide +kernel
theorem dX11_change_33 : decode cX11_change 33 = .ok (.iload_n 1, 1) := by decide +kernel
theorem dX11_change_34 : decode cX11_change 34 = .ok (.iaload, 1) := by decide +kernel
theorem dX11_change_35 : decode cX11_change 35 = .ok (.goto 5, 3) := by decide +kernel
theorem dX11_change_38 : decode cX11_change 38 = .ok (.bipush (-4), 2) := by decide +kernel
theorem dX11_change_40 : decode cX11_change 40 = .ok (.ireturn, 1) := by decide +kernel
theorem dX11_never_0 : decode cX11_never 0 = .ok (.aload_n 0, 1) := by decide +kernel
theorem dX11_never_1 : decode cX11_never 1 = .ok (.invokevirtual 199, 3) := by decide +kernel
theorem dX11_never_4 : decode cX11_never 4 = .ok (.bipush (-4), 2) := by decide +kernel
theorem dX11_never_6 : decode cX11_never 6 = .ok (.istore_n 1, 1) := by decide +kernel
theorem dX11_never_7 : decode cX11_never 7 = .ok (.iconst 1, 1) := by decide +kernel
theorem dX11_never_8 : decode cX11_never 8 = .ok (.istore_n 2, 1) := by decide +kernel
theorem dX11_never_9 : decode cX11_never 9 = .ok (.iload_n 2, 1) := by decide +kernel
theorem dX11_never_10 : decode cX11_never 10 = .ok (.sipush 200, 3) := by decide +kernel
theorem dX11_never_13 : decode cX11_never 13 = .ok (.if_icmp .gt 24, 3) := by decide +kernel
theorem dX11_never_16 : decode cX11_never 16 = .ok (.aload_n 0, 1) := by decide +kernel
theorem dX11_never_17 : decode cX11_never 17 = .ok (.getfield 55, 3) := by decide +kernel
theorem dX11_never_20 : decode cX11_never 20 = .ok (.iload_n 2, 1) := by decide +kernel
theorem dX11_never_21 : decode cX11_never 21 = .ok (.iaload, 1) := by decide +kernel
theorem dX11_never_22 : decode cX11_never 22 = .ok (.ifCond .ne 7, 3) := by decide +kernel
theorem dX11_never_25 : decode cX11_never 25 = .ok (.iload_n 2, 1) := by decide +kernel
theorem dX11_never_26 : decode cX11_never 26 = .ok (.goto 4, 3) := by decide +kernel
theorem dX11_never_29 : decode cX11_never 29 = .ok (.iload_n 1, 1) := by decide +kernel
theorem dX11_never_30 : decode cX11_never 30 = .ok (.istore_n 1, 1) := by decide +kernel
theorem dX11_never_31 : decode cX11_never 31 = .ok (.iinc 2 1, 3) := by decide +kernel
theorem dX11_never_34 : decode cX11_never 34 = .ok (.goto (-25), 3) := by decide +kernel
theorem dX11_never_37 : decode cX11_never 37 = .ok (.iload_n 1, 1) := by decide +kernel
theorem dX11_never_38 : decode cX11_never 38 = .ok (.ireturn, 1) := by decide +kernel
theorem dX11_pays_0 : decode cX11_pays 0 = .ok (.iload_n 1, 1) := by decide +kernel
theorem dX11_pays_1 : decode cX11_pays 1 = .ok (.i2l, 1) := by decide +kernel
theorem dX11_pays_2 : decode cX11_pays 2 = .ok (.lconst 0, 1) := by decide +kernel
theorem dX11_pays_3 : decode cX11_pays 3 = .ok (.ldc2_w 197, 3) := by decide +kernel
theorem dX11_pays_6 : decode cX11_pays 6 = .ok (.invokestatic 72, 3) := by decide +kernel
theorem dX11_pays_9 : decode cX11_pays 9 = .ok (.ifCond .ne 5, 3) := by decide +kernel
theorem dX11_pays_12 : decode cX11_pays 12 = .ok (.iconst (-1), 1) := by decide +kernel
theorem dX11_pays_13 : decode cX11_pays 13 = .ok (.ireturn, 1) := by decide +kernel
theorem dX11_pays_14 : decode cX11_pays 14 = .ok (.aload_n 0, 1) := by decide +kernel
theorem dX11_pays_15 : decode cX11_pays 15 = .ok (.invokevirtual 199, 3) := by decide +kernel
theorem dX11_pays_18 : decode cX11_pays 18 = .ok (.aload_n 0, 1) := by decide +kernel
theorem dX11_pays_19 : decode cX11_pays 19 = .ok (.getfield 55, 3) := by decide +kernel
theorem dX11_pays_22 : decode cX11_pays 22 = .ok (.iload_n 1, 1) := by decide +kernel
theorem dX11_pays_23 : decode cX11_pays 23 = .ok (.iaload, 1) := by decide +kernel
theorem dX11_pays_24 : decode cX11_pays 24 = .ok (.ireturn, 1) := by decide +kernel
theorem dX11_daysLeft_0 : decode cX11_daysLeft 0 = .ok (.iconst 0, 1) := by decide +kernel
theorem dX11_daysLeft_1 : decode cX11_daysLeft 1 = .ok (.istore_n 1, 1) := by decide +kernel
theorem dX11_daysLeft_2 : decode cX11_daysLeft 2 = .ok (.iconst 1, 1) := by decide +kernel
theorem dX11_daysLeft_3 : decode cX11_daysLeft 3 = .ok (.istore_n 2, 1) := by decide +kernel
theorem dX11_daysLeft_4 : decode cX11_daysLeft 4 = .ok (.iload_n 2, 1) := by decide +kernel
theorem dX11_daysLeft_5 : decode cX11_daysLeft 5 = .ok (.aload_n 0, 1) := by decide +kernel
theorem dX11_daysLeft_6 : decode cX11_daysLeft 6 = .ok (.getfield 25, 3) := by decide +kernel
theorem dX11_daysLeft_9 : decode cX11_daysLeft 9 = .ok (.iconst 0, 1) := by decide +kernel
theorem dX11_daysLeft_10 : decode cX11_daysLeft 10 = .ok (.iaload, 1) := by decide +kernel
theorem dX11_daysLeft_11 : decode cX11_daysLeft 11 = .ok (.if_icmp .gt 20, 3) := by decide +kernel
theorem dX11_daysLeft_14 : decode cX11_daysLeft 14 = .ok (.iload_n 1, 1) := by decide +kernel
theorem dX11_daysLeft_15 : decode cX11_daysLeft 15 = .ok (.iconst 1, 1) := by decide +kernel
theorem dX11_daysLeft_16 : decode cX11_daysLeft 16 = .ok (.aload_n 0, 1) := by decide +kernel
theorem dX11_daysLeft_17 : decode cX11_daysLeft 17 = .ok (.getfield 34, 3) := by decide +kernel
theorem dX11_daysLeft_20 : decode cX11_daysLeft 20 = .ok (.iload_n 2, 1) := by decide +kernel
theorem dX11_daysLeft_21 : decode cX11_daysLeft 21 = .ok (.iaload, 1) := by decide +kernel
theorem dX11_daysLeft_22 : decode cX11_daysLeft 22 = .ok (.isub, 1) := by decide +kernel
theorem dX11_daysLeft_23 : decode cX11_daysLeft 23 = .ok (.iadd, 1) := by decide +kernel
theorem dX11_daysLeft_24 : decode cX11_daysLeft 24 = .ok (.istore_n 1, 1) := by decide +kernel
theorem dX11_daysLeft_25 : decode cX11_daysLeft 25 = .ok (.iinc 2 1, 3) := by decide +kernel
theorem dX11_daysLeft_28 : decode cX11_daysLeft 28 = .ok (.goto (-24), 3) := by decide +kernel
theorem dX11_daysLeft_31 : decode cX11_daysLeft 31 = .ok (.iload_n 1, 1) := by decide +kernel
theorem dX11_daysLeft_32 : decode cX11_daysLeft 32 = .ok (.ireturn, 1) := by decide +kernel
theorem dX11_day_0 : decode cX11_day 0 = .ok (.iload_n 1, 1) := by decide +kernel
theorem dX11_day_1 : decode cX11_day 1 = .ok (.i2l, 1) := by decide +kernel
theorem dX11_day_2 : decode cX11_day 2 = .ok (.lconst 0, 1) := by decide +kernel
theorem dX11_day_3 : decode cX11_day 3 = .ok (.ldc2_w 202, 3) := by decide +kernel
theorem dX11_day_6 : decode cX11_day 6 = .ok (.invokestatic 72, 3) := by decide +kernel
theorem dX11_day_9 : decode cX11_day 9 = .ok (.ifCond .ne 5, 3) := by decide +kernel
theorem dX11_day_12 : decode cX11_day 12 = .ok (.iconst (-1), 1) := by decide +kernel
theorem dX11_day_13 : decode cX11_day 13 = .ok (.ireturn, 1) := by decide +kernel
theorem dX11_day_14 : decode cX11_day 14 = .ok (.aload_n 0, 1) := by decide +kernel
theorem dX11_day_15 : decode cX11_day 15 = .ok (.invokevirtual 204, 3) := by decide +kernel
theorem dX11_day_18 : decode cX11_day 18 = .ok (.istore_n 2, 1) := by decide +kernel
theorem dX11_day_19 : decode cX11_day 19 = .ok (.iload_n 2, 1) := by decide +kernel
theorem dX11_day_20 : decode cX11_day 20 = .ok (.ifCond .ne 6, 3) := by decide +kernel
theorem dX11_day_23 : decode cX11_day 23 = .ok (.bipush (-4), 2) := by decide +kernel
theorem dX11_day_25 : decode cX11_day 25 = .ok (.ireturn, 1) := by decide +kernel
theorem dX11_day_26 : decode cX11_day 26 = .ok (.iload_n 1, 1) := by decide +kernel
theorem dX11_day_27 : decode cX11_day 27 = .ok (.iload_n 2, 1) := by decide +kernel
theorem dX11_day_28 : decode cX11_day 28 = .ok (.irem, 1) := by decide +kernel
theorem dX11_day_29 : decode cX11_day 29 = .ok (.istore_n 3, 1) := by decide +kernel
theorem dX11_day_30 : decode cX11_day 30 = .ok (.iconst 1, 1) := by decide +kernel
theorem dX11_day_31 : decode cX11_day 31 = .ok (.istore 4, 2) := by decide +kernel
theorem dX11_day_33 : decode cX11_day 33 = .ok (.aload_n 0, 1) := by decide +kernel
theorem dX11_day_34 : decode cX11_day 34 = .ok (.getfield 34, 3) := by decide +kernel
theorem dX11_day_37 : decode cX11_day 37 = .ok (.iload 4, 2) := by decide +kernel
theorem dX11_day_39 : decode cX11_day 39 = .ok (.iaload, 1) := by decide +kernel
theorem dX11_day_40 : decode cX11_day 40 = .ok (.iconst 1, 1) := by decide +kernel
theorem dX11_day_41 : decode cX11_day 41 = .ok (.if_icmp .eq 7, 3) := by decide +kernel
theorem dX11_day_44 : decode cX11_day 44 = .ok (.iload_n 3, 1) := by decide +kernel
theorem dX11_day_45 : decode cX11_day 45 = .ok (.ifCond .le 21, 3) := by decide +kernel
theorem dX11_day_48 : decode cX11_day 48 = .ok (.iload_n 3, 1) := by decide +kernel
theorem dX11_day_49 : decode cX11_day 49 = .ok (.iconst 1, 1) := by decide +kernel
theorem dX11_day_50 : decode cX11_day 50 = .ok (.aload_n 0, 1) := by decide +kernel
theorem dX11_day_51 : decode cX11_day 51 = .ok (.getfield 34, 3) := by decide +kernel
theorem dX11_day_54 : decode cX11_day 54 = .ok (.iload 4, 2) := by decide +kernel
theorem dX11_day_56 : decode cX11_day 56 = .ok (.iaload, 1) := by decide +kernel
theorem dX11_day_57 : decode cX11_day 57 = .ok (.isub, 1) := by decide +kernel
theorem dX11_day_58 : decode cX11_day 58 = .ok (.isub, 1) := by decide +kernel
theorem dX11_day_59 : decode cX11_day 59 = .ok (.istore_n 3, 1) := by decide +kernel
theorem dX11_day_60 : decode cX11_day 60 = .ok (.iinc 4 1, 3) := by decide +kernel
theorem dX11_day_63 : decode cX11_day 63 = .ok (.goto (-30), 3) := by decide +kernel
theorem dX11_day_66 : decode cX11_day 66 = .ok (.iload 4, 2) := by decide +kernel
theorem dX11_day_68 : decode cX11_day 68 = .ok (.ireturn, 1) := by decide +kernel
theorem dX11_common_0 : decode cX11_common 0 = .ok (.iload_n 0, 1) := by decide +kernel
theorem dX11_common_1 : decode cX11_common 1 = .ok (.istore_n 2, 1) := by decide +kernel
theorem dX11_common_2 : decode cX11_common 2 = .ok (.iload_n 1, 1) := by decide +kernel
theorem dX11_common_3 : decode cX11_common 3 = .ok (.istore_n 3, 1) := by decide +kernel
theorem dX11_common_4 : decode cX11_common 4 = .ok (.iload_n 3, 1) := by decide +kernel
theorem dX11_common_5 : decode cX11_common 5 = .ok (.ifCond .eq 16, 3) := by decide +kernel
theorem dX11_common_8 : decode cX11_common 8 = .ok (.iload_n 2, 1) := by decide +kernel
theorem dX11_common_9 : decode cX11_common 9 = .ok (.iload_n 3, 1) := by decide +kernel
theorem dX11_common_10 : decode cX11_common 10 = .ok (.irem, 1) := by decide +kernel
theorem dX11_common_11 : decode cX11_common 11 = .ok (.istore 4, 2) := by decide +kernel
theorem dX11_common_13 : decode cX11_common 13 = .ok (.iload_n 3, 1) := by decide +kernel
theorem dX11_common_14 : decode cX11_common 14 = .ok (.istore_n 2, 1) := by decide +kernel
theorem dX11_common_15 : decode cX11_common 15 = .ok (.iload 4, 2) := by decide +kernel
theorem dX11_common_17 : decode cX11_common 17 = .ok (.istore_n 3, 1) := by decide +kernel
theorem dX11_common_18 : decode cX11_common 18 = .ok (.goto (-14), 3) := by decide +kernel
theorem dX11_common_21 : decode cX11_common 21 = .ok (.iload_n 2, 1) := by decide +kernel
theorem dX11_common_22 : decode cX11_common 22 = .ok (.ireturn, 1) := by decide +kernel
theorem dX11_agree_0 : decode cX11_agree 0 = .ok (.aload_n 0, 1) := by decide +kernel
theorem dX11_agree_1 : decode cX11_agree 1 = .ok (.invokevirtual 204, 3) := by decide +kernel
theorem dX11_agree_4 : decode cX11_agree 4 = .ok (.istore_n 1, 1) := by decide +kernel
theorem dX11_agree_5 : decode cX11_agree 5 = .ok (.iload_n 1, 1) := by decide +kernel
theorem dX11_agree_6 : decode cX11_agree 6 = .ok (.ifCond .ne 8, 3) := by decide +kernel
theorem dX11_agree_9 : decode cX11_agree 9 = .ok (.bipush (-4), 2) := by decide +kernel
theorem dX11_agree_11 : decode cX11_agree 11 = .ok (.goto 22, 3) := by decide +kernel
theorem dX11_agree_14 : decode cX11_agree 14 = .ok (.aload_n 0, 1) := by decide +kernel
theorem dX11_agree_15 : decode cX11_agree 15 = .ok (.getfield 25, 3) := by decide +kernel
theorem dX11_agree_18 : decode cX11_agree 18 = .ok (.iconst 0, 1) := by decide +kernel
theorem dX11_agree_19 : decode cX11_agree 19 = .ok (.iaload, 1) := by decide +kernel
theorem dX11_agree_20 : decode cX11_agree 20 = .ok (.aload_n 0, 1) := by decide +kernel
theorem dX11_agree_21 : decode cX11_agree 21 = .ok (.getfield 25, 3) := by decide +kernel
theorem dX11_agree_24 : decode cX11_agree 24 = .ok (.iconst 0, 1) := by decide +kernel
theorem dX11_agree_25 : decode cX11_agree 25 = .ok (.iaload, 1) := by decide +kernel
theorem dX11_agree_26 : decode cX11_agree 26 = .ok (.iload_n 1, 1) := by decide +kernel
theorem dX11_agree_27 : decode cX11_agree 27 = .ok (.invokestatic 207, 3) := by decide +kernel
theorem dX11_agree_30 : decode cX11_agree 30 = .ok (.idiv, 1) := by decide +kernel
theorem dX11_agree_31 : decode cX11_agree 31 = .ok (.iload_n 1, 1) := by decide +kernel
theorem dX11_agree_32 : decode cX11_agree 32 = .ok (.imul, 1) := by decide +kernel
theorem dX11_agree_33 : decode cX11_agree 33 = .ok (.ireturn, 1) := by decide +kernel
theorem dX11_faceOf_0 : decode cX11_faceOf 0 = .ok (.aload_n 0, 1) := by decide +kernel
theorem dX11_faceOf_1 : decode cX11_faceOf 1 = .ok (.getfield 34, 3) := by decide +kernel
theorem dX11_faceOf_4 : decode cX11_faceOf 4 = .ok (.iload_n 1, 1) := by decide +kernel
theorem dX11_faceOf_5 : decode cX11_faceOf 5 = .ok (.iaload, 1) := by decide +kernel
theorem dX11_faceOf_6 : decode cX11_faceOf 6 = .ok (.iconst 1, 1) := by decide +kernel
theorem dX11_faceOf_7 : decode cX11_faceOf 7 = .ok (.if_icmp .ne 7, 3) := by decide +kernel
theorem dX11_faceOf_10 : decode cX11_faceOf 10 = .ok (.iconst 0, 1) := by decide +kernel
theorem dX11_faceOf_11 : decode cX11_faceOf 11 = .ok (.goto 4, 3) := by decide +kernel
theorem dX11_faceOf_14 : decode cX11_faceOf 14 = .ok (.iload_n 1, 1) := by decide +kernel
theorem dX11_faceOf_15 : decode cX11_faceOf 15 = .ok (.ireturn, 1) := by decide +kernel
theorem dX11_odds_0 : decode cX11_odds 0 = .ok (.iload_n 1, 1) := by decide +kernel
theorem dX11_odds_1 : decode cX11_odds 1 = .ok (.i2l, 1) := by decide +kernel
theorem dX11_odds_2 : decode cX11_odds 2 = .ok (.lconst 0, 1) := by decide +kernel
theorem dX11_odds_3 : decode cX11_odds 3 = .ok (.ldc2_w 211, 3) := by decide +kernel
theorem dX11_odds_6 : decode cX11_odds 6 = .ok (.invokestatic 72, 3) := by decide +kernel
theorem dX11_odds_9 : decode cX11_odds 9 = .ok (.ifCond .eq 13, 3) := by decide +kernel
theorem dX11_odds_12 : decode cX11_odds 12 = .ok (.iload_n 2, 1) := by decide +kernel
theorem dX11_odds_13 : decode cX11_odds 13 = .ok (.i2l, 1) := by decide +kernel
theorem dX11_odds_14 : decode cX11_odds 14 = .ok (.lconst 0, 1) := by decide +kernel
theorem dX11_odds_15 : decode cX11_odds 15 = .ok (.lconst 1, 1) := by decide +kernel
theorem dX11_odds_16 : decode cX11_odds 16 = .ok (.invokestatic 72, 3) := by decide +kernel
theorem dX11_odds_19 : decode cX11_odds 19 = .ok (.ifCond .ne 5, 3) := by decide +kernel
theorem dX11_odds_22 : decode cX11_odds 22 = .ok (.iconst (-1), 1) := by decide +kernel
theorem dX11_odds_23 : decode cX11_odds 23 = .ok (.ireturn, 1) := by decide +kernel
theorem dX11_odds_24 : decode cX11_odds 24 = .ok (.iconst 0, 1) := by decide +kernel
theorem dX11_odds_25 : decode cX11_odds 25 = .ok (.istore_n 3, 1) := by decide +kernel
theorem dX11_odds_26 : decode cX11_odds 26 = .ok (.iconst 1, 1) := by decide +kernel
theorem dX11_odds_27 : decode cX11_odds 27 = .ok (.istore 4, 2) := by decide +kernel
theorem dX11_odds_29 : decode cX11_odds 29 = .ok (.iload 4, 2) := by decide +kernel
theorem dX11_odds_31 : decode cX11_odds 31 = .ok (.aload_n 0, 1) := by decide +kernel
theorem dX11_odds_32 : decode cX11_odds 32 = .ok (.getfield 22, 3) := by decide +kernel
theorem dX11_odds_35 : decode cX11_odds 35 = .ok (.iconst 0, 1) := by decide +kernel
theorem dX11_odds_36 : decode cX11_odds 36 = .ok (.iaload, 1) := by decide +kernel
theorem dX11_odds_37 : decode cX11_odds 37 = .ok (.if_icmp .gt 54, 3) := by decide +kernel
theorem dX11_odds_40 : decode cX11_odds 40 = .ok (.iconst 1, 1) := by decide +kernel
theorem dX11_odds_41 : decode cX11_odds 41 = .ok (.istore 5, 2) := by decide +kernel
theorem dX11_odds_43 : decode cX11_odds 43 = .ok (.iload 5, 2) := by decide +kernel
theorem dX11_odds_45 : decode cX11_odds 45 = .ok (.aload_n 0, 1) := by decide +kernel
theorem dX11_odds_46 : decode cX11_odds 46 = .ok (.getfield 22, 3) := by decide +kernel
theorem dX11_odds_49 : decode cX11_odds 49 = .ok (.iconst 0, 1) := by decide +kernel
theorem dX11_odds_50 : decode cX11_odds 50 = .ok (.iaload, 1) := by decide +kernel
theorem dX11_odds_51 : decode cX11_odds 51 = .ok (.if_icmp .gt 34, 3) := by decide +kernel
theorem dX11_odds_54 : decode cX11_odds 54 = .ok (.iload_n 3, 1) := by decide +kernel
theorem dX11_odds_55 : decode cX11_odds 55 = .ok (.aload_n 0, 1) := by decide +kernel
theorem dX11_odds_56 : decode cX11_odds 56 = .ok (.iload 4, 2) := by decide +kernel
theorem dX11_odds_58 : decode cX11_odds 58 = .ok (.invokevirtual 213, 3) := by decide +kernel
theorem dX11_odds_61 : decode cX11_odds 61 = .ok (.aload_n 0, 1) := by decide +kernel
theorem dX11_odds_62 : decode cX11_odds 62 = .ok (.iload 5, 2) := by decide +kernel
theorem dX11_odds_64 : decode cX11_odds 64 = .ok (.invokevirtual 213, 3) := by decide +kernel
theorem dX11_odds_67 : decode cX11_odds 67 = .ok (.iadd, 1) := by decide +kernel
theorem dX11_odds_68 : decode cX11_odds 68 = .ok (.iload_n 1, 1) := by decide +kernel
theorem dX11_odds_69 : decode cX11_odds 69 = .ok (.if_icmp .ne 7, 3) := by decide +kernel
theorem dX11_odds_72 : decode cX11_odds 72 = .ok (.iconst 1, 1) := by decide +kernel
theorem dX11_odds_73 : decode cX11_odds 73 = .ok (.goto 4, 3) := by decide +kernel
theorem dX11_odds_76 : decode cX11_odds 76 = .ok (.iconst 0, 1) := by decide +kernel
theorem dX11_odds_77 : decode cX11_odds 77 = .ok (.iadd, 1) := by decide +kernel
theorem dX11_odds_78 : decode cX11_odds 78 = .ok (.istore_n 3, 1) := by decide +kernel
theorem dX11_odds_79 : decode cX11_odds 79 = .ok (.iinc 5 1, 3) := by decide +kernel
theorem dX11_odds_82 : decode cX11_odds 82 = .ok (.goto (-39), 3) := by decide +kernel
theorem dX11_odds_85 : decode cX11_odds 85 = .ok (.iinc 4 1, 3) := by decide +kernel
theorem dX11_odds_88 : decode cX11_odds 88 = .ok (.goto (-59), 3) := by decide +kernel
theorem dX11_odds_91 : decode cX11_odds 91 = .ok (.aload_n 0, 1) := by decide +kernel
theorem dX11_odds_92 : decode cX11_odds 92 = .ok (.getfield 22, 3) := by decide +kernel
theorem dX11_odds_95 : decode cX11_odds 95 = .ok (.iconst 0, 1) := by decide +kernel
theorem dX11_odds_96 : decode cX11_odds 96 = .ok (.iaload, 1) := by decide +kernel
theorem dX11_odds_97 : decode cX11_odds 97 = .ok (.aload_n 0, 1) := by decide +kernel
theorem dX11_odds_98 : decode cX11_odds 98 = .ok (.getfield 22, 3) := by decide +kernel
theorem dX11_odds_101 : decode cX11_odds 101 = .ok (.iconst 0, 1) := by decide +kernel
theorem dX11_odds_102 : decode cX11_odds 102 = .ok (.iaload, 1) := by decide +kernel
theorem dX11_odds_103 : decode cX11_odds 103 = .ok (.imul, 1) := by decide +kernel
theorem dX11_odds_104 : decode cX11_odds 104 = .ok (.istore 4, 2) := by decide +kernel
theorem dX11_odds_106 : decode cX11_odds 106 = .ok (.iload_n 3, 1) := by decide +kernel
theorem dX11_odds_107 : decode cX11_odds 107 = .ok (.iload 4, 2) := by decide +kernel
theorem dX11_odds_109 : decode cX11_odds 109 = .ok (.invokestatic 207, 3) := by decide +kernel
theorem dX11_odds_112 : decode cX11_odds 112 = .ok (.istore 5, 2) := by decide +kernel
theorem dX11_odds_114 : decode cX11_odds 114 = .ok (.iload_n 2, 1) := by decide +kernel
theorem dX11_odds_115 : decode cX11_odds 115 = .ok (.ifCond .ne 10, 3) := by decide +kernel
theorem dX11_odds_118 : decode cX11_odds 118 = .ok (.iload_n 3, 1) := by decide +kernel
theorem dX11_odds_119 : decode cX11_odds 119 = .ok (.iload 5, 2) := by decide +kernel
theorem dX11_odds_121 : decode cX11_odds 121 = .ok (.idiv, 1) := by decide +kernel
theorem dX11_odds_122 : decode cX11_odds 122 = .ok (.goto 8, 3) := by decide +kernel
theorem dX11_odds_125 : decode cX11_odds 125 = .ok (.iload 4, 2) := by decide +kernel
theorem dX11_odds_127 : decode cX11_odds 127 = .ok (.iload 5, 2) := by decide +kernel
theorem dX11_odds_129 : decode cX11_odds 129 = .ok (.idiv, 1) := by decide +kernel
theorem dX11_odds_130 : decode cX11_odds 130 = .ok (.ireturn, 1) := by decide +kernel
theorem dX11_mean_0 : decode cX11_mean 0 = .ok (.iload_n 1, 1) := by decide +kernel
theorem dX11_mean_1 : decode cX11_mean 1 = .ok (.i2l, 1) := by decide +kernel
theorem dX11_mean_2 : decode cX11_mean 2 = .ok (.lconst 0, 1) := by decide +kernel
theorem dX11_mean_3 : decode cX11_mean 3 = .ok (.lconst 1, 1) := by decide +kernel
theorem dX11_mean_4 : decode cX11_mean 4 = .ok (.invokestatic 72, 3) := by decide +kernel
theorem dX11_mean_7 : decode cX11_mean 7 = .ok (.ifCond .ne 5, 3) := by decide +kernel
theorem dX11_mean_10 : decode cX11_mean 10 = .ok (.iconst (-1), 1) := by decide +kernel
theorem dX11_mean_11 : decode cX11_mean 11 = .ok (.ireturn, 1) := by decide +kernel
theorem dX11_mean_12 : decode cX11_mean 12 = .ok (.iconst 0, 1) := by decide +kernel
theorem dX11_mean_13 : decode cX11_mean 13 = .ok (.istore_n 2, 1) := by decide +kernel
theorem dX11_mean_14 : decode cX11_mean 14 = .ok (.iconst 1, 1) := by decide +kernel
theorem dX11_mean_15 : decode cX11_mean 15 = .ok (.istore_n 3, 1) := by decide +kernel
theorem dX11_mean_16 : decode cX11_mean 16 = .ok (.iload_n 3, 1) := by decide +kernel
theorem dX11_mean_17 : decode cX11_mean 17 = .ok (.aload_n 0, 1) := by decide +kernel
theorem dX11_mean_18 : decode cX11_mean 18 = .ok (.getfield 22, 3) := by decide +kernel
theorem dX11_mean_21 : decode cX11_mean 21 = .ok (.iconst 0, 1) := by decide +kernel
theorem dX11_mean_22 : decode cX11_mean 22 = .ok (.iaload, 1) := by decide +kernel
theorem dX11_mean_23 : decode cX11_mean 23 = .ok (.if_icmp .gt 17, 3) := by decide +kernel
theorem dX11_mean_26 : decode cX11_mean 26 = .ok (.iload_n 2, 1) := by decide +kernel
theorem dX11_mean_27 : decode cX11_mean 27 = .ok (.aload_n 0, 1) := by decide +kernel
theorem dX11_mean_28 : decode cX11_mean 28 = .ok (.iload_n 3, 1) := by decide +kernel
theorem dX11_mean_29 : decode cX11_mean 29 = .ok (.invokevirtual 213, 3) := by decide +kernel
theorem dX11_mean_32 : decode cX11_mean 32 = .ok (.iadd, 1) := by decide +kernel
theorem dX11_mean_33 : decode cX11_mean 33 = .ok (.istore_n 2, 1) := by decide +kernel
theorem dX11_mean_34 : decode cX11_mean 34 = .ok (.iinc 3 1, 3) := by decide +kernel
theorem dX11_mean_37 : decode cX11_mean 37 = .ok (.goto (-21), 3) := by decide +kernel
theorem dX11_mean_40 : decode cX11_mean 40 = .ok (.iload_n 2, 1) := by decide +kernel
theorem dX11_mean_41 : decode cX11_mean 41 = .ok (.aload_n 0, 1) := by decide +kernel
theorem dX11_mean_42 : decode cX11_mean 42 = .ok (.getfield 22, 3) := by decide +kernel
theorem dX11_mean_45 : decode cX11_mean 45 = .ok (.iconst 0, 1) := by decide +kernel
theorem dX11_mean_46 : decode cX11_mean 46 = .ok (.iaload, 1) := by decide +kernel
theorem dX11_mean_47 : decode cX11_mean 47 = .ok (.invokestatic 207, 3) := by decide +kernel
theorem dX11_mean_50 : decode cX11_mean 50 = .ok (.istore_n 3, 1) := by decide +kernel
theorem dX11_mean_51 : decode cX11_mean 51 = .ok (.iload_n 1, 1) := by decide +kernel
theorem dX11_mean_52 : decode cX11_mean 52 = .ok (.ifCond .ne 9, 3) := by decide +kernel
theorem dX11_mean_55 : decode cX11_mean 55 = .ok (.iload_n 2, 1) := by decide +kernel
theorem dX11_mean_56 : decode cX11_mean 56 = .ok (.iload_n 3, 1) := by decide +kernel
theorem dX11_mean_57 : decode cX11_mean 57 = .ok (.idiv, 1) := by decide +kernel
theorem dX11_mean_58 : decode cX11_mean 58 = .ok (.goto 11, 3) := by decide +kernel
theorem dX11_mean_61 : decode cX11_mean 61 = .ok (.aload_n 0, 1) := by decide +kernel
theorem dX11_mean_62 : decode cX11_mean 62 = .ok (.getfield 22, 3) := by decide +kernel
theorem dX11_mean_65 : decode cX11_mean 65 = .ok (.iconst 0, 1) := by decide +kernel
theorem dX11_mean_66 : decode cX11_mean 66 = .ok (.iaload, 1) := by decide +kernel
theorem dX11_mean_67 : decode cX11_mean 67 = .ok (.iload_n 3, 1) := by decide +kernel
theorem dX11_mean_68 : decode cX11_mean 68 = .ok (.idiv, 1) := by decide +kernel
theorem dX11_mean_69 : decode cX11_mean 69 = .ok (.ireturn, 1) := by decide +kernel
theorem dX11_dark_0 : decode cX11_dark 0 = .ok (.iload_n 1, 1) := by decide +kernel
theorem dX11_dark_1 : decode cX11_dark 1 = .ok (.i2l, 1) := by decide +kernel
theorem dX11_dark_2 : decode cX11_dark 2 = .ok (.lconst 0, 1) := by decide +kernel
theorem dX11_dark_3 : decode cX11_dark 3 = .ok (.ldc2_w 202, 3) := by decide +kernel
theorem dX11_dark_6 : decode cX11_dark 6 = .ok (.invokestatic 72, 3) := by decide +kernel
theorem dX11_dark_9 : decode cX11_dark 9 = .ok (.ifCond .eq 26, 3) := by decide +kernel
theorem dX11_dark_12 : decode cX11_dark 12 = .ok (.iload_n 2, 1) := by decide +kernel
theorem dX11_dark_13 : decode cX11_dark 13 = .ok (.i2l, 1) := by decide +kernel
theorem dX11_dark_14 : decode cX11_dark 14 = .ok (.lconst 0, 1) := by decide +kernel
theorem dX11_dark_15 : decode cX11_dark 15 = .ok (.ldc2_w 202, 3) := by decide +kernel
theorem dX11_dark_18 : decode cX11_dark 18 = .ok (.invokestatic 72, 3) := by decide +kernel
theorem dX11_dark_21 : decode cX11_dark 21 = .ok (.ifCond .eq 14, 3) := by decide +kernel
theorem dX11_dark_24 : decode cX11_dark 24 = .ok (.iload_n 1, 1) := by decide +kernel
theorem dX11_dark_25 : decode cX11_dark 25 = .ok (.invokestatic 167, 3) := by decide +kernel
theorem dX11_dark_28 : decode cX11_dark 28 = .ok (.iload_n 2, 1) := by decide +kernel
theorem dX11_dark_29 : decode cX11_dark 29 = .ok (.invokestatic 167, 3) := by decide +kernel
theorem dX11_dark_32 : decode cX11_dark 32 = .ok (.if_icmp .eq 5, 3) := by decide +kernel
theorem dX11_dark_35 : decode cX11_dark 35 = .ok (.iconst (-1), 1) := by decide +kernel
theorem dX11_dark_36 : decode cX11_dark 36 = .ok (.ireturn, 1) := by decide +kernel
theorem dX11_dark_37 : decode cX11_dark 37 = .ok (.aload_n 0, 1) := by decide +kernel
theorem dX11_dark_38 : decode cX11_dark 38 = .ok (.getfield 125, 3) := by decide +kernel
theorem dX11_dark_41 : decode cX11_dark 41 = .ok (.bipush 8, 2) := by decide +kernel
theorem dX11_dark_43 : decode cX11_dark 43 = .ok (.if_icmp .ne 6, 3) := by decide +kernel
theorem dX11_dark_46 : decode cX11_dark 46 = .ok (.bipush (-3), 2) := by decide +kernel
theorem dX11_dark_48 : decode cX11_dark 48 = .ok (.ireturn, 1) := by decide +kernel
theorem dX11_dark_49 : decode cX11_dark 49 = .ok (.aload_n 0, 1) := by decide +kernel
theorem dX11_dark_50 : decode cX11_dark 50 = .ok (.getfield 43, 3) := by decide +kernel
theorem dX11_dark_53 : decode cX11_dark 53 = .ok (.aload_n 0, 1) := by decide +kernel
theorem dX11_dark_54 : decode cX11_dark 54 = .ok (.getfield 125, 3) := by decide +kernel
theorem dX11_dark_57 : decode cX11_dark 57 = .ok (.iload_n 1, 1) := by decide +kernel
theorem dX11_dark_58 : decode cX11_dark 58 = .ok (.iastore, 1) := by decide +kernel
theorem dX11_dark_59 : decode cX11_dark 59 = .ok (.aload_n 0, 1) := by decide +kernel
theorem dX11_dark_60 : decode cX11_dark 60 = .ok (.getfield 46, 3) := by decide +kernel
theorem dX11_dark_63 : decode cX11_dark 63 = .ok (.aload_n 0, 1) := by decide +kernel
theorem dX11_dark_64 : decode cX11_dark 64 = .ok (.getfield 125, 3) := by decide +kernel
theorem dX11_dark_67 : decode cX11_dark 67 = .ok (.iload_n 2, 1) := by decide +kernel
theorem dX11_dark_68 : decode cX11_dark 68 = .ok (.iastore, 1) := by decide +kernel
theorem dX11_dark_69 : decode cX11_dark 69 = .ok (.aload_n 0, 1) := by decide +kernel
theorem dX11_dark_70 : decode cX11_dark 70 = .ok (.dup, 1) := by decide +kernel
theorem dX11_dark_71 : decode cX11_dark 71 = .ok (.getfield 125, 3) := by decide +kernel
theorem dX11_dark_74 : decode cX11_dark 74 = .ok (.iconst 1, 1) := by decide +kernel
theorem dX11_dark_75 : decode cX11_dark 75 = .ok (.iadd, 1) := by decide +kernel
theorem dX11_dark_76 : decode cX11_dark 76 = .ok (.putfield 125, 3) := by decide +kernel
theorem dX11_dark_79 : decode cX11_dark 79 = .ok (.aload_n 0, 1) := by decide +kernel
theorem dX11_dark_80 : decode cX11_dark 80 = .ok (.getfield 125, 3) := by decide +kernel
theorem dX11_dark_83 : decode cX11_dark 83 = .ok (.ireturn, 1) := by decide +kernel
theorem dX11_forget_0 : decode cX11_forget 0 = .ok (.aload_n 0, 1) := by decide +kernel
theorem dX11_forget_1 : decode cX11_forget 1 = .ok (.getfield 125, 3) := by decide +kernel
theorem dX11_forget_4 : decode cX11_forget 4 = .ok (.istore_n 1, 1) := by decide +kernel
theorem dX11_forget_5 : decode cX11_forget 5 = .ok (.aload_n 0, 1) := by decide +kernel
theorem dX11_forget_6 : decode cX11_forget 6 = .ok (.iconst 0, 1) := by decide +kernel
theorem dX11_forget_7 : decode cX11_forget 7 = .ok (.putfield 125, 3) := by decide +kernel
theorem dX11_forget_10 : decode cX11_forget 10 = .ok (.iload_n 1, 1) := by decide +kernel
theorem dX11_forget_11 : decode cX11_forget 11 = .ok (.ireturn, 1) := by decide +kernel
theorem dX11_isHeard_0 : decode cX11_isHeard 0 = .ok (.iconst 1, 1) := by decide +kernel
theorem dX11_isHeard_1 : decode cX11_isHeard 1 = .ok (.istore_n 1, 1) := by decide +kernel
theorem dX11_isHeard_2 : decode cX11_isHeard 2 = .ok (.iconst 0, 1) := by decide +kernel
theorem dX11_isHeard_3 : decode cX11_isHeard 3 = .ok (.istore_n 2, 1) := by decide +kernel
theorem dX11_isHeard_4 : decode cX11_isHeard 4 = .ok (.iload_n 2, 1) := by decide +kernel
theorem dX11_isHeard_5 : decode cX11_isHeard 5 = .ok (.aload_n 0, 1) := by decide +kernel
theorem dX11_isHeard_6 : decode cX11_isHeard 6 = .ok (.getfield 125, 3) := by decide +kernel
theorem dX11_isHeard_9 : decode cX11_isHeard 9 = .ok (.if_icmp .ge 108, 3) := by decide +kernel
theorem dX11_isHeard_12 : decode cX11_isHeard 12 = .ok (.aload_n 0, 1) := by decide +kernel
theorem dX11_isHeard_13 : decode cX11_isHeard 13 = .ok (.getfield 43, 3) := by decide +kernel
theorem dX11_isHeard_16 : decode cX11_isHeard 16 = .ok (.iload_n 2, 1) := by decide +kernel
theorem dX11_isHeard_17 : decode cX11_isHeard 17 = .ok (.iaload, 1) := by decide +kernel
theorem dX11_isHeard_18 : decode cX11_isHeard 18 = .ok (.istore_n 3, 1) := by decide +kernel
theorem dX11_isHeard_19 : decode cX11_isHeard 19 = .ok (.aload_n 0, 1) := by decide +kernel
theorem dX11_isHeard_20 : decode cX11_isHeard 20 = .ok (.getfield 46, 3) := by decide +kernel
theorem dX11_isHeard_23 : decode cX11_isHeard 23 = .ok (.iload_n 2, 1) := by decide +kernel
theorem dX11_isHeard_24 : decode cX11_isHeard 24 = .ok (.iaload, 1) := by decide +kernel
theorem dX11_isHeard_25 : decode cX11_isHeard 25 = .ok (.istore 4, 2) := by decide +kernel
theorem dX11_isHeard_27 : decode cX11_isHeard 27 = .ok (.iload_n 3, 1) := by decide +kernel
theorem dX11_isHeard_28 : decode cX11_isHeard 28 = .ok (.invokestatic 167, 3) := by decide +kernel
theorem dX11_isHeard_31 : decode cX11_isHeard 31 = .ok (.istore 5, 2) := by decide +kernel
theorem dX11_isHeard_33 : decode cX11_isHeard 33 = .ok (.iconst 0, 1) := by decide +kernel
theorem dX11_isHeard_34 : decode cX11_isHeard 34 = .ok (.istore 6, 2) := by decide +kernel
theorem dX11_isHeard_36 : decode cX11_isHeard 36 = .ok (.iload 6, 2) := by decide +kernel
theorem dX11_isHeard_38 : decode cX11_isHeard 38 = .ok (.iload 5, 2) := by decide +kernel
theorem dX11_isHeard_40 : decode cX11_isHeard 40 = .ok (.if_icmp .ge 71, 3) := by decide +kernel
theorem dX11_isHeard_43 : decode cX11_isHeard 43 = .ok (.iload_n 3, 1) := by decide +kernel
theorem dX11_isHeard_44 : decode cX11_isHeard 44 = .ok (.bipush 10, 2) := by decide +kernel
theorem dX11_isHeard_46 : decode cX11_isHeard 46 = .ok (.irem, 1) := by decide +kernel
theorem dX11_isHeard_47 : decode cX11_isHeard 47 = .ok (.istore 7, 2) := by decide +kernel
theorem dX11_isHeard_49 : decode cX11_isHeard 49 = .ok (.iload_n 1, 1) := by decide +kernel
theorem dX11_isHeard_50 : decode cX11_isHeard 50 = .ok (.ifCond .eq 41, 3) := by decide +kernel
theorem dX11_isHeard_53 : decode cX11_isHeard 53 = .ok (.aload_n 0, 1) := by decide +kernel
theorem dX11_isHeard_54 : decode cX11_isHeard 54 = .ok (.getfield 34, 3) := by decide +kernel
theorem dX11_isHeard_57 : decode cX11_isHeard 57 = .ok (.iload 7, 2) := by decide +kernel
theorem dX11_isHeard_59 : decode cX11_isHeard 59 = .ok (.iaload, 1) := by decide +kernel
theorem dX11_isHeard_60 : decode cX11_isHeard 60 = .ok (.iconst 1, 1) := by decide +kernel
theorem dX11_isHeard_61 : decode cX11_isHeard 61 = .ok (.if_icmp .ne 16, 3) := by decide +kernel
theorem dX11_isHeard_64 : decode cX11_isHeard 64 = .ok (.aload_n 0, 1) := by decide +kernel
theorem dX11_isHeard_65 : decode cX11_isHeard 65 = .ok (.getfield 34, 3) := by decide +kernel
theorem dX11_isHeard_68 : decode cX11_isHeard 68 = .ok (.bipush 10, 2) := by decide +kernel
theorem dX11_isHeard_70 : decode cX11_isHeard 70 = .ok (.iload 7, 2) := by decide +kernel
theorem dX11_isHeard_72 : decode cX11_isHeard 72 = .ok (.iadd, 1) := by decide +kernel
theorem dX11_isHeard_73 : decode cX11_isHeard 73 = .ok (.iaload, 1) := by decide +kernel
theorem dX11_isHeard_74 : decode cX11_isHeard 74 = .ok (.goto 5, 3) := by decide +kernel
theorem dX11_isHeard_77 : decode cX11_isHeard 77 = .ok (.iload 7, 2) := by decide +kernel
theorem dX11_isHeard_79 : decode cX11_isHeard 79 = .ok (.iload 4, 2) := by decide +kernel
theorem dX11_isHeard_81 : decode cX11_isHeard 81 = .ok (.bipush 10, 2) := by decide +kernel
theorem dX11_isHeard_83 : decode cX11_isHeard 83 = .ok (.irem, 1) := by decide +kernel
theorem dX11_isHeard_84 : decode cX11_isHeard 84 = .ok (.if_icmp .ne 7, 3) := by decide +kernel
theorem dX11_isHeard_87 : decode cX11_isHeard 87 = .ok (.iconst 1, 1) := by decide +kernel
theorem dX11_isHeard_88 : decode cX11_isHeard 88 = .ok (.goto 4, 3) := by decide +kernel
theorem dX11_isHeard_91 : decode cX11_isHeard 91 = .ok (.iconst 0, 1) := by decide +kernel
theorem dX11_isHeard_92 : decode cX11_isHeard 92 = .ok (.istore_n 1, 1) := by decide +kernel
theorem dX11_isHeard_93 : decode cX11_isHeard 93 = .ok (.iload_n 3, 1) := by decide +kernel
theorem dX11_isHeard_94 : decode cX11_isHeard 94 = .ok (.bipush 10, 2) := by decide +kernel
theorem dX11_isHeard_96 : decode cX11_isHeard 96 = .ok (.idiv, 1) := by decide +kernel
theorem dX11_isHeard_97 : decode cX11_isHeard 97 = .ok (.istore_n 3, 1) := by decide +kernel
theorem dX11_isHeard_98 : decode cX11_isHeard 98 = .ok (.iload 4, 2) := by decide +kernel
theorem dX11_isHeard_100 : decode cX11_isHeard 100 = .ok (.bipush 10, 2) := by decide +kernel
theorem dX11_isHeard_102 : decode cX11_isHeard 102 = .ok (.idiv, 1) := by decide +kernel
theorem dX11_isHeard_103 : decode cX11_isHeard 103 = .ok (.istore 4, 2) := by decide +kernel
theorem dX11_isHeard_105 : decode cX11_isHeard 105 = .ok (.iinc 6 1, 3) := by decide +kernel
theorem dX11_isHeard_108 : decode cX11_isHeard 108 = .ok (.goto (-72), 3) := by decide +kernel
theorem dX11_isHeard_111 : decode cX11_isHeard 111 = .ok (.iinc 2 1, 3) := by decide +kernel
theorem dX11_isHeard_114 : decode cX11_isHeard 114 = .ok (.goto (-110), 3) := by decide +kernel
theorem dX11_isHeard_117 : decode cX11_isHeard 117 = .ok (.iload_n 1, 1) := by decide +kernel
theorem dX11_isHeard_118 : decode cX11_isHeard 118 = .ok (.ireturn, 1) := by decide +kernel
theorem dX11_works_0 : decode cX11_works 0 = .ok (.aload_n 0, 1) := by decide +kernel
theorem dX11_works_1 : decode cX11_works 1 = .ok (.invokevirtual 216, 3) := by decide +kernel
theorem dX11_works_4 : decode cX11_works 4 = .ok (.ifCond .eq 9, 3) := by decide +kernel
theorem dX11_works_7 : decode cX11_works 7 = .ok (.sipush 1024, 3) := by decide +kernel
theorem dX11_works_10 : decode cX11_works 10 = .ok (.goto 4, 3) := by decide +kernel
theorem dX11_works_13 : decode cX11_works 13 = .ok (.iconst 0, 1) := by decide +kernel
theorem dX11_works_14 : decode cX11_works 14 = .ok (.istore_n 1, 1) := by decide +kernel
theorem dX11_works_15 : decode cX11_works 15 = .ok (.iconst 0, 1) := by decide +kernel
theorem dX11_works_16 : decode cX11_works 16 = .ok (.istore_n 2, 1) := by decide +kernel
theorem dX11_works_17 : decode cX11_works 17 = .ok (.iload_n 2, 1) := by decide +kernel
theorem dX11_works_18 : decode cX11_works 18 = .ok (.bipush 10, 2) := by decide +kernel
theorem dX11_works_20 : decode cX11_works 20 = .ok (.if_icmp .ge 47, 3) := by decide +kernel
theorem dX11_works_23 : decode cX11_works 23 = .ok (.aload_n 0, 1) := by decide +kernel
theorem dX11_works_24 : decode cX11_works 24 = .ok (.getfield 34, 3) := by decide +kernel
theorem dX11_works_27 : decode cX11_works 27 = .ok (.iload_n 2, 1) := by decide +kernel
theorem dX11_works_28 : decode cX11_works 28 = .ok (.iaload, 1) := by decide +kernel
theorem dX11_works_29 : decode cX11_works 29 = .ok (.istore_n 3, 1) := by decide +kernel
theorem dX11_works_30 : decode cX11_works 30 = .ok (.aload_n 0, 1) := by decide +kernel
theorem dX11_works_31 : decode cX11_works 31 = .ok (.getfield 34, 3) := by decide +kernel
theorem dX11_works_34 : decode cX11_works 34 = .ok (.iload_n 2, 1) := by decide +kernel
theorem dX11_works_35 : decode cX11_works 35 = .ok (.iconst 0, 1) := by decide +kernel
theorem dX11_works_36 : decode cX11_works 36 = .ok (.iastore, 1) := by decide +kernel
theorem dX11_works_37 : decode cX11_works 37 = .ok (.iload_n 1, 1) := by decide +kernel
theorem dX11_works_38 : decode cX11_works 38 = .ok (.aload_n 0, 1) := by decide +kernel
theorem dX11_works_39 : decode cX11_works 39 = .ok (.invokevirtual 216, 3) := by decide +kernel
theorem dX11_works_42 : decode cX11_works 42 = .ok (.ifCond .eq 9, 3) := by decide +kernel
theorem dX11_works_45 : decode cX11_works 45 = .ok (.iconst 1, 1) := by decide +kernel
theorem dX11_works_46 : decode cX11_works 46 = .ok (.iload_n 2, 1) := by decide +kernel
theorem dX11_works_47 : decode cX11_works 47 = .ok (.ishl, 1) := by decide +kernel
theorem dX11_works_48 : decode cX11_works 48 = .ok (.goto 4, 3) := by decide +kernel
theorem dX11_works_51 : decode cX11_works 51 = .ok (.iconst 0, 1) := by decide +kernel
theorem dX11_works_52 : decode cX11_works 52 = .ok (.ior, 1) := by decide +kernel
theorem dX11_works_53 : decode cX11_works 53 = .ok (.istore_n 1, 1) := by decide +kernel
theorem dX11_works_54 : decode cX11_works 54 = .ok (.aload_n 0, 1) := by decide +kernel
theorem dX11_works_55 : decode cX11_works 55 = .ok (.getfield 34, 3) := by decide +kernel
theorem dX11_works_58 : decode cX11_works 58 = .ok (.iload_n 2, 1) := by decide +kernel
theorem dX11_works_59 : decode cX11_works 59 = .ok (.iload_n 3, 1) := by decide +kernel
theorem dX11_works_60 : decode cX11_works 60 = .ok (.iastore, 1) := by decide +kernel
theorem dX11_works_61 : decode cX11_works 61 = .ok (.iinc 2 1, 3) := by decide +kernel
theorem dX11_works_64 : decode cX11_works 64 = .ok (.goto (-47), 3) := by decide +kernel
theorem dX11_works_67 : decode cX11_works 67 = .ok (.iload_n 1, 1) := by decide +kernel
theorem dX11_works_68 : decode cX11_works 68 = .ok (.ireturn, 1) := by decide +kernel
theorem dX11_sayableBy_0 : decode cX11_sayableBy 0 = .ok (.aload_n 0, 1) := by decide +kernel
theorem dX11_sayableBy_1 : decode cX11_sayableBy 1 = .ok (.getfield 34, 3) := by decide +kernel
theorem dX11_sayableBy_4 : decode cX11_sayableBy 4 = .ok (.iload_n 1, 1) := by decide +kernel
theorem dX11_sayableBy_5 : decode cX11_sayableBy 5 = .ok (.iaload, 1) := by decide +kernel
theorem dX11_sayableBy_6 : decode cX11_sayableBy 6 = .ok (.istore 4, 2) := by decide +kernel
theorem dX11_sayableBy_8 : decode cX11_sayableBy 8 = .ok (.aload_n 0, 1) := by decide +kernel
theorem dX11_sayableBy_9 : decode cX11_sayableBy 9 = .ok (.getfield 34, 3) := by decide +kernel
theorem dX11_sayableBy_12 : decode cX11_sayableBy 12 = .ok (.iload_n 1, 1) := by decide +kernel
theorem dX11_sayableBy_13 : decode cX11_sayableBy 13 = .ok (.iload_n 2, 1) := by decide +kernel
theorem dX11_sayableBy_14 : decode cX11_sayableBy 14 = .ok (.iastore, 1) := by decide +kernel
theorem dX11_sayableBy_15 : decode cX11_sayableBy 15 = .ok (.aload_n 0, 1) := by decide +kernel
theorem dX11_sayableBy_16 : decode cX11_sayableBy 16 = .ok (.iload_n 3, 1) := by decide +kernel
theorem dX11_sayableBy_17 : decode cX11_sayableBy 17 = .ok (.invokevirtual 140, 3) := by decide +kernel
theorem dX11_sayableBy_20 : decode cX11_sayableBy 20 = .ok (.istore 5, 2) := by decide +kernel
theorem dX11_sayableBy_22 : decode cX11_sayableBy 22 = .ok (.aload_n 0, 1) := by decide +kernel
theorem dX11_sayableBy_23 : decode cX11_sayableBy 23 = .ok (.getfield 34, 3) := by decide +kernel
theorem dX11_sayableBy_26 : decode cX11_sayableBy 26 = .ok (.iload_n 1, 1) := by decide +kernel
theorem dX11_sayableBy_27 : decode cX11_sayableBy 27 = .ok (.iload 4, 2) := by decide +kernel
theorem dX11_sayableBy_29 : decode cX11_sayableBy 29 = .ok (.iastore, 1) := by decide +kernel
theorem dX11_sayableBy_30 : decode cX11_sayableBy 30 = .ok (.iload 5, 2) := by decide +kernel
theorem dX11_sayableBy_32 : decode cX11_sayableBy 32 = .ok (.ireturn, 1) := by decide +kernel
theorem dX11_costs_0 : decode cX11_costs 0 = .ok (.iload_n 1, 1) := by decide +kernel
theorem dX11_costs_1 : decode cX11_costs 1 = .ok (.invokestatic 128, 3) := by decide +kernel
theorem dX11_costs_4 : decode cX11_costs 4 = .ok (.ifCond .eq 31, 3) := by decide +kernel
theorem dX11_costs_7 : decode cX11_costs 7 = .ok (.iload_n 2, 1) := by decide +kernel
theorem dX11_costs_8 : decode cX11_costs 8 = .ok (.i2l, 1) := by decide +kernel
theorem dX11_costs_9 : decode cX11_costs 9 = .ok (.lconst 0, 1) := by decide +kernel
theorem dX11_costs_10 : decode cX11_costs 10 = .ok (.ldc2_w 202, 3) := by decide +kernel
theorem dX11_costs_13 : decode cX11_costs 13 = .ok (.invokestatic 72, 3) := by decide +kernel
theorem dX11_costs_16 : decode cX11_costs 16 = .ok (.ifCond .eq 19, 3) := by decide +kernel
theorem dX11_costs_19 : decode cX11_costs 19 = .ok (.aload_n 0, 1) := by decide +kernel
theorem dX11_costs_20 : decode cX11_costs 20 = .ok (.iload_n 1, 1) := by decide +kernel
theorem dX11_costs_21 : decode cX11_costs 21 = .ok (.iconst 0, 1) := by decide +kernel
theorem dX11_costs_22 : decode cX11_costs 22 = .ok (.iload_n 2, 1) := by decide +kernel
theorem dX11_costs_23 : decode cX11_costs 23 = .ok (.invokevirtual 219, 3) := by decide +kernel
theorem dX11_costs_26 : decode cX11_costs 26 = .ok (.aload_n 0, 1) := by decide +kernel
theorem dX11_costs_27 : decode cX11_costs 27 = .ok (.iload_n 2, 1) := by decide +kernel
theorem dX11_costs_28 : decode cX11_costs 28 = .ok (.invokevirtual 140, 3) := by decide +kernel
theorem dX11_costs_31 : decode cX11_costs 31 = .ok (.isub, 1) := by decide +kernel
theorem dX11_costs_32 : decode cX11_costs 32 = .ok (.goto 4, 3) := by decide +kernel
theorem dX11_costs_35 : decode cX11_costs 35 = .ok (.iconst (-1), 1) := by decide +kernel
theorem dX11_costs_36 : decode cX11_costs 36 = .ok (.ireturn, 1) := by decide +kernel
theorem dX11_dearest_0 : decode cX11_dearest 0 = .ok (.iload_n 1, 1) := by decide +kernel
theorem dX11_dearest_1 : decode cX11_dearest 1 = .ok (.i2l, 1) := by decide +kernel
theorem dX11_dearest_2 : decode cX11_dearest 2 = .ok (.lconst 0, 1) := by decide +kernel
theorem dX11_dearest_3 : decode cX11_dearest 3 = .ok (.ldc2_w 202, 3) := by decide +kernel
theorem dX11_dearest_6 : decode cX11_dearest 6 = .ok (.invokestatic 72, 3) := by decide +kernel
theorem dX11_dearest_9 : decode cX11_dearest 9 = .ok (.ifCond .eq 13, 3) := by decide +kernel
theorem dX11_dearest_12 : decode cX11_dearest 12 = .ok (.iload_n 2, 1) := by decide +kernel
theorem dX11_dearest_13 : decode cX11_dearest 13 = .ok (.i2l, 1) := by decide +kernel
theorem dX11_dearest_14 : decode cX11_dearest 14 = .ok (.lconst 0, 1) := by decide +kernel
theorem dX11_dearest_15 : decode cX11_dearest 15 = .ok (.lconst 1, 1) := by decide +kernel
theorem dX11_dearest_16 : decode cX11_dearest 16 = .ok (.invokestatic 72, 3) := by decide +kernel
theorem dX11_dearest_19 : decode cX11_dearest 19 = .ok (.ifCond .ne 5, 3) := by decide +kernel
theorem dX11_dearest_22 : decode cX11_dearest 22 = .ok (.iconst (-1), 1) := by decide +kernel
theorem dX11_dearest_23 : decode cX11_dearest 23 = .ok (.ireturn, 1) := by decide +kernel
theorem dX11_dearest_24 : decode cX11_dearest 24 = .ok (.iconst 0, 1) := by decide +kernel
theorem dX11_dearest_25 : decode cX11_dearest 25 = .ok (.istore_n 3, 1) := by decide +kernel
theorem dX11_dearest_26 : decode cX11_dearest 26 = .ok (.aload_n 0, 1) := by decide +kernel
theorem dX11_dearest_27 : decode cX11_dearest 27 = .ok (.iconst 0, 1) := by decide +kernel
theorem dX11_dearest_28 : decode cX11_dearest 28 = .ok (.iload_n 1, 1) := by decide +kernel
theorem dX11_dearest_29 : decode cX11_dearest 29 = .ok (.invokevirtual 223, 3) := by decide +kernel
theorem dX11_dearest_32 : decode cX11_dearest 32 = .ok (.istore 4, 2) := by decide +kernel
theorem dX11_dearest_34 : decode cX11_dearest 34 = .ok (.iconst 1, 1) := by decide +kernel
theorem dX11_dearest_35 : decode cX11_dearest 35 = .ok (.istore 5, 2) := by decide +kernel
theorem dX11_dearest_37 : decode cX11_dearest 37 = .ok (.iload 5, 2) := by decide +kernel
theorem dX11_dearest_39 : decode cX11_dearest 39 = .ok (.bipush 10, 2) := by decide +kernel
theorem dX11_dearest_41 : decode cX11_dearest 41 = .ok (.if_icmp .ge 48, 3) := by decide +kernel
theorem dX11_dearest_44 : decode cX11_dearest 44 = .ok (.aload_n 0, 1) := by decide +kernel
theorem dX11_dearest_45 : decode cX11_dearest 45 = .ok (.iload 5, 2) := by decide +kernel
theorem dX11_dearest_47 : decode cX11_dearest 47 = .ok (.iload_n 1, 1) := by decide +kernel
theorem dX11_dearest_48 : decode cX11_dearest 48 = .ok (.invokevirtual 223, 3) := by decide +kernel
theorem dX11_dearest_51 : decode cX11_dearest 51 = .ok (.istore 6, 2) := by decide +kernel
theorem dX11_dearest_53 : decode cX11_dearest 53 = .ok (.iload 6, 2) := by decide +kernel
theorem dX11_dearest_55 : decode cX11_dearest 55 = .ok (.iload 4, 2) := by decide +kernel
theorem dX11_dearest_57 : decode cX11_dearest 57 = .ok (.if_icmp .le 8, 3) := by decide +kernel
theorem dX11_dearest_60 : decode cX11_dearest 60 = .ok (.iload 5, 2) := by decide +kernel
theorem dX11_dearest_62 : decode cX11_dearest 62 = .ok (.goto 4, 3) := by decide +kernel
theorem dX11_dearest_65 : decode cX11_dearest 65 = .ok (.iload_n 3, 1) := by decide +kernel
theorem dX11_dearest_66 : decode cX11_dearest 66 = .ok (.istore_n 3, 1) := by decide +kernel
theorem dX11_dearest_67 : decode cX11_dearest 67 = .ok (.iload 6, 2) := by decide +kernel
theorem dX11_dearest_69 : decode cX11_dearest 69 = .ok (.iload 4, 2) := by decide +kernel
theorem dX11_dearest_71 : decode cX11_dearest 71 = .ok (.if_icmp .le 8, 3) := by decide +kernel
theorem dX11_dearest_74 : decode cX11_dearest 74 = .ok (.iload 6, 2) := by decide +kernel
theorem dX11_dearest_76 : decode cX11_dearest 76 = .ok (.goto 5, 3) := by decide +kernel
theorem dX11_dearest_79 : decode cX11_dearest 79 = .ok (.iload 4, 2) := by decide +kernel
theorem dX11_dearest_81 : decode cX11_dearest 81 = .ok (.istore 4, 2) := by decide +kernel
theorem dX11_dearest_83 : decode cX11_dearest 83 = .ok (.iinc 5 1, 3) := by decide +kernel
theorem dX11_dearest_86 : decode cX11_dearest 86 = .ok (.goto (-49), 3) := by decide +kernel
theorem dX11_dearest_89 : decode cX11_dearest 89 = .ok (.iload_n 2, 1) := by decide +kernel
theorem dX11_dearest_90 : decode cX11_dearest 90 = .ok (.ifCond .ne 7, 3) := by decide +kernel
theorem dX11_dearest_93 : decode cX11_dearest 93 = .ok (.iload_n 3, 1) := by decide +kernel
theorem dX11_dearest_94 : decode cX11_dearest 94 = .ok (.goto 5, 3) := by decide +kernel
theorem dX11_dearest_97 : decode cX11_dearest 97 = .ok (.iload 4, 2) := by decide +kernel
theorem dX11_dearest_99 : decode cX11_dearest 99 = .ok (.ireturn, 1) := by decide +kernel
theorem dX11_sayableIf_0 : decode cX11_sayableIf 0 = .ok (.aload_n 0, 1) := by decide +kernel
theorem dX11_sayableIf_1 : decode cX11_sayableIf 1 = .ok (.getfield 34, 3) := by decide +kernel
theorem dX11_sayableIf_4 : decode cX11_sayableIf 4 = .ok (.iload_n 1, 1) := by decide +kernel
theorem dX11_sayableIf_5 : decode cX11_sayableIf 5 = .ok (.iaload, 1) := by decide +kernel
theorem dX11_sayableIf_6 : decode cX11_sayableIf 6 = .ok (.istore 4, 2) := by decide +kernel
theorem dX11_sayableIf_8 : decode cX11_sayableIf 8 = .ok (.aload_n 0, 1) := by decide +kernel
theorem dX11_sayableIf_9 : decode cX11_sayableIf 9 = .ok (.getfield 34, 3) := by decide +kernel
theorem dX11_sayableIf_12 : decode cX11_sayableIf 12 = .ok (.iload_n 1, 1) := by decide +kernel
theorem dX11_sayableIf_13 : decode cX11_sayableIf 13 = .ok (.iconst 1, 1) := by decide +kernel
theorem dX11_sayableIf_14 : decode cX11_sayableIf 14 = .ok (.iastore, 1) := by decide +kernel
theorem dX11_sayableIf_15 : decode cX11_sayableIf 15 = .ok (.aload_n 0, 1) := by decide +kernel
theorem dX11_sayableIf_16 : decode cX11_sayableIf 16 = .ok (.iload_n 2, 1) := by decide +kernel
theorem dX11_sayableIf_17 : decode cX11_sayableIf 17 = .ok (.iconst 0, 1) := by decide +kernel
theorem dX11_sayableIf_18 : decode cX11_sayableIf 18 = .ok (.iload_n 3, 1) := by decide +kernel
theorem dX11_sayableIf_19 : decode cX11_sayableIf 19 = .ok (.invokevirtual 219, 3) := by decide +kernel
theorem dX11_sayableIf_22 : decode cX11_sayableIf 22 = .ok (.istore 5, 2) := by decide +kernel
theorem dX11_sayableIf_24 : decode cX11_sayableIf 24 = .ok (.aload_n 0, 1) := by decide +kernel
theorem dX11_sayableIf_25 : decode cX11_sayableIf 25 = .ok (.getfield 34, 3) := by decide +kernel
theorem dX11_sayableIf_28 : decode cX11_sayableIf 28 = .ok (.iload_n 1, 1) := by decide +kernel
theorem dX11_sayableIf_29 : decode cX11_sayableIf 29 = .ok (.iload 4, 2) := by decide +kernel
theorem dX11_sayableIf_31 : decode cX11_sayableIf 31 = .ok (.iastore, 1) := by decide +kernel
theorem dX11_sayableIf_32 : decode cX11_sayableIf 32 = .ok (.iload 5, 2) := by decide +kernel
theorem dX11_sayableIf_34 : decode cX11_sayableIf 34 = .ok (.ireturn, 1) := by decide +kernel
theorem dX11_bargain_0 : decode cX11_bargain 0 = .ok (.iload_n 1, 1) := by decide +kernel
theorem dX11_bargain_1 : decode cX11_bargain 1 = .ok (.invokestatic 128, 3) := by decide +kernel
theorem dX11_bargain_4 : decode cX11_bargain 4 = .ok (.ifCond .eq 27, 3) := by decide +kernel
theorem dX11_bargain_7 : decode cX11_bargain 7 = .ok (.iload_n 2, 1) := by decide +kernel
theorem dX11_bargain_8 : decode cX11_bargain 8 = .ok (.invokestatic 128, 3) := by decide +kernel
theorem dX11_bargain_11 : decode cX11_bargain 11 = .ok (.ifCond .eq 20, 3) := by decide +kernel
theorem dX11_bargain_14 : decode cX11_bargain 14 = .ok (.iload_n 1, 1) := by decide +kernel
theorem dX11_bargain_15 : decode cX11_bargain 15 = .ok (.iload_n 2, 1) := by decide +kernel
theorem dX11_bargain_16 : decode cX11_bargain 16 = .ok (.if_icmp .eq 15, 3) := by decide +kernel
theorem dX11_bargain_19 : decode cX11_bargain 19 = .ok (.iload_n 3, 1) := by decide +kernel
theorem dX11_bargain_20 : decode cX11_bargain 20 = .ok (.i2l, 1) := by decide +kernel
theorem dX11_bargain_21 : decode cX11_bargain 21 = .ok (.lconst 0, 1) := by decide +kernel
theorem dX11_bargain_22 : decode cX11_bargain 22 = .ok (.ldc2_w 202, 3) := by decide +kernel
theorem dX11_bargain_25 : decode cX11_bargain 25 = .ok (.invokestatic 72, 3) := by decide +kernel
theorem dX11_bargain_28 : decode cX11_bargain 28 = .ok (.ifCond .ne 5, 3) := by decide +kernel
theorem dX11_bargain_31 : decode cX11_bargain 31 = .ok (.iconst (-1), 1) := by decide +kernel
theorem dX11_bargain_32 : decode cX11_bargain 32 = .ok (.ireturn, 1) := by decide +kernel
theorem dX11_bargain_33 : decode cX11_bargain 33 = .ok (.aload_n 0, 1) := by decide +kernel
theorem dX11_bargain_34 : decode cX11_bargain 34 = .ok (.iload_n 2, 1) := by decide +kernel
theorem dX11_bargain_35 : decode cX11_bargain 35 = .ok (.iload_n 1, 1) := by decide +kernel
theorem dX11_bargain_36 : decode cX11_bargain 36 = .ok (.iload_n 3, 1) := by decide +kernel
theorem dX11_bargain_37 : decode cX11_bargain 37 = .ok (.invokevirtual 226, 3) := by decide +kernel
theorem dX11_bargain_40 : decode cX11_bargain 40 = .ok (.aload_n 0, 1) := by decide +kernel
theorem dX11_bargain_41 : decode cX11_bargain 41 = .ok (.iload_n 1, 1) := by decide +kernel
theorem dX11_bargain_42 : decode cX11_bargain 42 = .ok (.iload_n 2, 1) := by decide +kernel
theorem dX11_bargain_43 : decode cX11_bargain 43 = .ok (.iload_n 3, 1) := by decide +kernel
theorem dX11_bargain_44 : decode cX11_bargain 44 = .ok (.invokevirtual 226, 3) := by decide +kernel
theorem dX11_bargain_47 : decode cX11_bargain 47 = .ok (.isub, 1) := by decide +kernel
theorem dX11_bargain_48 : decode cX11_bargain 48 = .ok (.sipush 10000, 3) := by decide +kernel
theorem dX11_bargain_51 : decode cX11_bargain 51 = .ok (.iadd, 1) := by decide +kernel
theorem dX11_bargain_52 : decode cX11_bargain 52 = .ok (.ireturn, 1) := by decide +kernel
theorem dX11_days_0 : decode cX11_days 0 = .ok (.iload_n 1, 1) := by decide +kernel
theorem dX11_days_1 : decode cX11_days 1 = .ok (.i2l, 1) := by decide +kernel
theorem dX11_days_2 : decode cX11_days 2 = .ok (.lconst 0, 1) := by decide +kernel
theorem dX11_days_3 : decode cX11_days 3 = .ok (.ldc2_w 202, 3) := by decide +kernel
theorem dX11_days_6 : decode cX11_days 6 = .ok (.invokestatic 72, 3) := by decide +kernel
theorem dX11_days_9 : decode cX11_days 9 = .ok (.ifCond .eq 25, 3) := by decide +kernel
theorem dX11_days_12 : decode cX11_days 12 = .ok (.iload_n 2, 1) := by decide +kernel
theorem dX11_days_13 : decode cX11_days 13 = .ok (.i2l, 1) := by decide +kernel
theorem dX11_days_14 : decode cX11_days 14 = .ok (.lconst 1, 1) := by decide +kernel
theorem dX11_days_15 : decode cX11_days 15 = .ok (.ldc2_w 229, 3) := by decide +kernel
theorem dX11_days_18 : decode cX11_days 18 = .ok (.invokestatic 72, 3) := by decide +kernel
theorem dX11_days_21 : decode cX11_days 21 = .ok (.ifCond .eq 13, 3) := by decide +kernel
theorem dX11_days_24 : decode cX11_days 24 = .ok (.iload_n 3, 1) := by decide +kernel
theorem dX11_days_25 : decode cX11_days 25 = .ok (.i2l, 1) := by decide +kernel
theorem dX11_days_26 : decode cX11_days 26 = .ok (.lconst 0, 1) := by decide +kernel
theorem dX11_days_27 : decode cX11_days 27 = .ok (.lconst 1, 1) := by decide +kernel
theorem dX11_days_28 : decode cX11_days 28 = .ok (.invokestatic 72, 3) := by decide +kernel
theorem dX11_days_31 : decode cX11_days 31 = .ok (.ifCond .ne 5, 3) := by decide +kernel
theorem dX11_days_34 : decode cX11_days 34 = .ok (.iconst (-1), 1) := by decide +kernel
theorem dX11_days_35 : decode cX11_days 35 = .ok (.ireturn, 1) := by decide +kernel
theorem dX11_days_36 : decode cX11_days 36 = .ok (.iconst 0, 1) := by decide +kernel
theorem dX11_days_37 : decode cX11_days 37 = .ok (.istore 4, 2) := by decide +kernel
theorem dX11_days_39 : decode cX11_days 39 = .ok (.iload 4, 2) := by decide +kernel
theorem dX11_days_41 : decode cX11_days 41 = .ok (.bipush 10, 2) := by decide +kernel
theorem dX11_days_43 : decode cX11_days 43 = .ok (.if_icmp .ge 23, 3) := by decide +kernel
theorem dX11_days_46 : decode cX11_days 46 = .ok (.aload_n 0, 1) := by decide +kernel
theorem dX11_days_47 : decode cX11_days 47 = .ok (.getfield 58, 3) := by decide +kernel
theorem dX11_days_50 : decode cX11_days 50 = .ok (.iload 4, 2) := by decide +kernel
theorem dX11_days_52 : decode cX11_days 52 = .ok (.aload_n 0, 1) := by decide +kernel
theorem dX11_days_53 : decode cX11_days 53 = .ok (.getfield 34, 3) := by decide +kernel
theorem dX11_days_56 : decode cX11_days 56 = .ok (.iload 4, 2) := by decide +kernel
theorem dX11_days_58 : decode cX11_days 58 = .ok (.iaload, 1) := by decide +kernel
theorem dX11_days_59 : decode cX11_days 59 = .ok (.iastore, 1) := by decide +kernel
theorem dX11_days_60 : decode cX11_days 60 = .ok (.iinc 4 1, 3) := by decide +kernel
theorem dX11_days_63 : decode cX11_days 63 = .ok (.goto (-24), 3) := by decide +kernel
theorem dX11_days_66 : decode cX11_days 66 = .ok (.iconst 0, 1) := by decide +kernel
theorem dX11_days_67 : decode cX11_days 67 = .ok (.istore 4, 2) := by decide +kernel
theorem dX11_days_69 : decode cX11_days 69 = .ok (.iconst 0, 1) := by decide +kernel
theorem dX11_days_70 : decode cX11_days 70 = .ok (.istore 5, 2) := by decide +kernel
theorem dX11_days_72 : decode cX11_days 72 = .ok (.iload 5, 2) := by decide +kernel
theorem dX11_days_74 : decode cX11_days 74 = .ok (.iload_n 2, 1) := by decide +kernel
theorem dX11_days_75 : decode cX11_days 75 = .ok (.if_icmp .ge 75, 3) := by decide +kernel
theorem dX11_days_78 : decode cX11_days 78 = .ok (.ldc2_w 231, 3) := by decide +kernel
theorem dX11_days_81 : decode cX11_days 81 = .ok (.iload_n 1, 1) := by decide +kernel
theorem dX11_days_82 : decode cX11_days 82 = .ok (.i2l, 1) := by decide +kernel
theorem dX11_days_83 : decode cX11_days 83 = .ok (.lmul, 1) := by decide +kernel
theorem dX11_days_84 : decode cX11_days 84 = .ok (.ldc2_w 233, 3) := by decide +kernel
theorem dX11_days_87 : decode cX11_days 87 = .ok (.iload 5, 2) := by decide +kernel
theorem dX11_days_89 : decode cX11_days 89 = .ok (.i2l, 1) := by decide +kernel
theorem dX11_days_90 : decode cX11_days 90 = .ok (.lmul, 1) := by decide +kernel
theorem dX11_days_91 : decode cX11_days 91 = .ok (.ladd, 1) := by decide +kernel
theorem dX11_days_92 : decode cX11_days 92 = .ok (.lconst 1, 1) := by decide +kernel
theorem dX11_days_93 : decode cX11_days 93 = .ok (.ladd, 1) := by decide +kernel
theorem dX11_days_94 : decode cX11_days 94 = .ok (.lstore 6, 2) := by decide +kernel
theorem dX11_days_96 : decode cX11_days 96 = .ok (.lload 6, 2) := by decide +kernel
theorem dX11_days_98 : decode cX11_days 98 = .ok (.lload 6, 2) := by decide +kernel
theorem dX11_days_100 : decode cX11_days 100 = .ok (.lmul, 1) := by decide +kernel
theorem dX11_days_101 : decode cX11_days 101 = .ok (.ldc2_w 235, 3) := by decide +kernel
theorem dX11_days_104 : decode cX11_days 104 = .ok (.lrem, 1) := by decide +kernel
theorem dX11_days_105 : decode cX11_days 105 = .ok (.ldc2_w 237, 3) := by decide +kernel
theorem dX11_days_108 : decode cX11_days 108 = .ok (.ldiv, 1) := by decide +kernel
theorem dX11_days_109 : decode cX11_days 109 = .ok (.ldc2_w 150, 3) := by decide +kernel
theorem dX11_days_112 : decode cX11_days 112 = .ok (.lrem, 1) := by decide +kernel
theorem dX11_days_113 : decode cX11_days 113 = .ok (.l2i, 1) := by decide +kernel
theorem dX11_days_114 : decode cX11_days 114 = .ok (.istore 8, 2) := by decide +kernel
theorem dX11_days_116 : decode cX11_days 116 = .ok (.aload_n 0, 1) := by decide +kernel
theorem dX11_days_117 : decode cX11_days 117 = .ok (.getfield 34, 3) := by decide +kernel
theorem dX11_days_120 : decode cX11_days 120 = .ok (.iload 8, 2) := by decide +kernel
theorem dX11_days_122 : decode cX11_days 122 = .ok (.iconst 1, 1) := by decide +kernel
theorem dX11_days_123 : decode cX11_days 123 = .ok (.aload_n 0, 1) := by decide +kernel
theorem dX11_days_124 : decode cX11_days 124 = .ok (.getfield 34, 3) := by decide +kernel
theorem dX11_days_127 : decode cX11_days 127 = .ok (.iload 8, 2) := by decide +kernel
theorem dX11_days_129 : decode cX11_days 129 = .ok (.iaload, 1) := by decide +kernel
theorem dX11_days_130 : decode cX11_days 130 = .ok (.isub, 1) := by decide +kernel
theorem dX11_days_131 : decode cX11_days 131 = .ok (.iastore, 1) := by decide +kernel
theorem dX11_days_132 : decode cX11_days 132 = .ok (.iload 4, 2) := by decide +kernel
theorem dX11_days_134 : decode cX11_days 134 = .ok (.aload_n 0, 1) := by decide +kernel
theorem dX11_days_135 : decode cX11_days 135 = .ok (.getfield 34, 3) := by decide +kernel
theorem dX11_days_138 : decode cX11_days 138 = .ok (.bipush 7, 2) := by decide +kernel
theorem dX11_days_140 : decode cX11_days 140 = .ok (.iaload, 1) := by decide +kernel
theorem dX11_days_141 : decode cX11_days 141 = .ok (.iadd, 1) := by decide +kernel
theorem dX11_days_142 : decode cX11_days 142 = .ok (.istore 4, 2) := by decide +kernel
theorem dX11_days_144 : decode cX11_days 144 = .ok (.iinc 5 1, 3) := by decide +kernel
theorem dX11_days_147 : decode cX11_days 147 = .ok (.goto (-75), 3) := by decide +kernel
theorem dX11_days_150 : decode cX11_days 150 = .ok (.aload_n 0, 1) := by decide +kernel
theorem dX11_days_151 : decode cX11_days 151 = .ok (.sipush 999, 3) := by decide +kernel
theorem dX11_days_154 : decode cX11_days 154 = .ok (.invokevirtual 140, 3) := by decide +kernel
theorem dX11_days_157 : decode cX11_days 157 = .ok (.istore 5, 2) := by decide +kernel
theorem dX11_days_159 : decode cX11_days 159 = .ok (.iconst 0, 1) := by decide +kernel
theorem dX11_days_160 : decode cX11_days 160 = .ok (.istore 6, 2) := by decide +kernel
theorem dX11_days_162 : decode cX11_days 162 = .ok (.iload 6, 2) := by decide +kernel
theorem dX11_days_164 : decode cX11_days 164 = .ok (.bipush 10, 2) := by decide +kernel
theorem dX11_days_166 : decode cX11_days 166 = .ok (.if_icmp .ge 23, 3) := by decide +kernel
theorem dX11_days_169 : decode cX11_days 169 = .ok (.aload_n 0, 1) := by decide +kernel
theorem dX11_days_170 : decode cX11_days 170 = .ok (.getfield 34, 3) := by decide +kernel
theorem dX11_days_173 : decode cX11_days 173 = .ok (.iload 6, 2) := by decide +kernel
theorem dX11_days_175 : decode cX11_days 175 = .ok (.aload_n 0, 1) := by decide +kernel
theorem dX11_days_176 : decode cX11_days 176 = .ok (.getfield 58, 3) := by decide +kernel
theorem dX11_days_179 : decode cX11_days 179 = .ok (.iload 6, 2) := by decide +kernel
theorem dX11_days_181 : decode cX11_days 181 = .ok (.iaload, 1) := by decide +kernel
theorem dX11_days_182 : decode cX11_days 182 = .ok (.iastore, 1) := by decide +kernel
theorem dX11_days_183 : decode cX11_days 183 = .ok (.iinc 6 1, 3) := by decide +kernel
theorem dX11_days_186 : decode cX11_days 186 = .ok (.goto (-24), 3) := by decide +kernel
theorem dX11_days_189 : decode cX11_days 189 = .ok (.iload_n 3, 1) := by decide +kernel
theorem dX11_days_190 : decode cX11_days 190 = .ok (.ifCond .ne 8, 3) := by decide +kernel
theorem dX11_days_193 : decode cX11_days 193 = .ok (.iload 5, 2) := by decide +kernel
theorem dX11_days_195 : decode cX11_days 195 = .ok (.goto 5, 3) := by decide +kernel
theorem dX11_days_198 : decode cX11_days 198 = .ok (.iload 4, 2) := by decide +kernel
theorem dX11_days_200 : decode cX11_days 200 = .ok (.ireturn, 1) := by decide +kernel
theorem dX11_keep_0 : decode cX11_keep 0 = .ok (.aload_n 0, 1) := by decide +kernel
theorem dX11_keep_1 : decode cX11_keep 1 = .ok (.getfield 122, 3) := by decide +kernel
theorem dX11_keep_4 : decode cX11_keep 4 = .ok (.iconst 2, 1) := by decide +kernel
theorem dX11_keep_5 : decode cX11_keep 5 = .ok (.if_icmp .ne 6, 3) := by decide +kernel
theorem dX11_keep_8 : decode cX11_keep 8 = .ok (.bipush (-3), 2) := by decide +kernel
theorem dX11_keep_10 : decode cX11_keep 10 = .ok (.ireturn, 1) := by decide +kernel
theorem dX11_keep_11 : decode cX11_keep 11 = .ok (.iconst 0, 1) := by decide +kernel
theorem dX11_keep_12 : decode cX11_keep 12 = .ok (.istore_n 1, 1) := by decide +kernel
theorem dX11_keep_13 : decode cX11_keep 13 = .ok (.iload_n 1, 1) := by decide +kernel
theorem dX11_keep_14 : decode cX11_keep 14 = .ok (.bipush 20, 2) := by decide +kernel
theorem dX11_keep_16 : decode cX11_keep 16 = .ok (.if_icmp .ge 29, 3) := by decide +kernel
theorem dX11_keep_19 : decode cX11_keep 19 = .ok (.aload_n 0, 1) := by decide +kernel
theorem dX11_keep_20 : decode cX11_keep 20 = .ok (.getfield 40, 3) := by decide +kernel
theorem dX11_keep_23 : decode cX11_keep 23 = .ok (.bipush 20, 2) := by decide +kernel
theorem dX11_keep_25 : decode cX11_keep 25 = .ok (.aload_n 0, 1) := by decide +kernel
theorem dX11_keep_26 : decode cX11_keep 26 = .ok (.getfield 122, 3) := by decide +kernel
theorem dX11_keep_29 : decode cX11_keep 29 = .ok (.imul, 1) := by decide +kernel
theorem dX11_keep_30 : decode cX11_keep 30 = .ok (.iload_n 1, 1) := by decide +kernel
theorem dX11_keep_31 : decode cX11_keep 31 = .ok (.iadd, 1) := by decide +kernel
theorem dX11_keep_32 : decode cX11_keep 32 = .ok (.aload_n 0, 1) := by decide +kernel
theorem dX11_keep_33 : decode cX11_keep 33 = .ok (.getfield 34, 3) := by decide +kernel
theorem dX11_keep_36 : decode cX11_keep 36 = .ok (.iload_n 1, 1) := by decide +kernel
theorem dX11_keep_37 : decode cX11_keep 37 = .ok (.iaload, 1) := by decide +kernel
theorem dX11_keep_38 : decode cX11_keep 38 = .ok (.iastore, 1) := by decide +kernel
theorem dX11_keep_39 : decode cX11_keep 39 = .ok (.iinc 1 1, 3) := by decide +kernel
theorem dX11_keep_42 : decode cX11_keep 42 = .ok (.goto (-29), 3) := by decide +kernel
theorem dX11_keep_45 : decode cX11_keep 45 = .ok (.aload_n 0, 1) := by decide +kernel
theorem dX11_keep_46 : decode cX11_keep 46 = .ok (.dup, 1) := by decide +kernel
theorem dX11_keep_47 : decode cX11_keep 47 = .ok (.getfield 122, 3) := by decide +kernel
theorem dX11_keep_50 : decode cX11_keep 50 = .ok (.iconst 1, 1) := by decide +kernel
theorem dX11_keep_51 : decode cX11_keep 51 = .ok (.iadd, 1) := by decide +kernel
theorem dX11_keep_52 : decode cX11_keep 52 = .ok (.putfield 122, 3) := by decide +kernel
theorem dX11_keep_55 : decode cX11_keep 55 = .ok (.aload_n 0, 1) := by decide +kernel
theorem dX11_keep_56 : decode cX11_keep 56 = .ok (.getfield 122, 3) := by decide +kernel
theorem dX11_keep_59 : decode cX11_keep 59 = .ok (.ireturn, 1) := by decide +kernel
theorem dX11_back_0 : decode cX11_back 0 = .ok (.aload_n 0, 1) := by decide +kernel
theorem dX11_back_1 : decode cX11_back 1 = .ok (.getfield 122, 3) := by decide +kernel
theorem dX11_back_4 : decode cX11_back 4 = .ok (.ifCond .ne 6, 3) := by decide +kernel
theorem dX11_back_7 : decode cX11_back 7 = .ok (.bipush (-2), 2) := by decide +kernel
theorem dX11_back_9 : decode cX11_back 9 = .ok (.ireturn, 1) := by decide +kernel
theorem dX11_back_10 : decode cX11_back 10 = .ok (.aload_n 0, 1) := by decide +kernel
theorem dX11_back_11 : decode cX11_back 11 = .ok (.dup, 1) := by decide +kernel
theorem dX11_back_12 : decode cX11_back 12 = .ok (.getfield 122, 3) := by decide +kernel
theorem dX11_back_15 : decode cX11_back 15 = .ok (.iconst 1, 1) := by decide +kernel
theorem dX11_back_16 : decode cX11_back 16 = .ok (.isub, 1) := by decide +kernel
theorem dX11_back_17 : decode cX11_back 17 = .ok (.putfield 122, 3) := by decide +kernel
theorem dX11_back_20 : decode cX11_back 20 = .ok (.iconst 0, 1) := by decide +kernel
theorem dX11_back_21 : decode cX11_back 21 = .ok (.istore_n 1, 1) := by decide +kernel
theorem dX11_back_22 : decode cX11_back 22 = .ok (.iload_n 1, 1) := by decide +kernel
theorem dX11_back_23 : decode cX11_back 23 = .ok (.bipush 20, 2) := by decide +kernel
theorem dX11_back_25 : decode cX11_back 25 = .ok (.if_icmp .ge 29, 3) := by decide +kernel
theorem dX11_back_28 : decode cX11_back 28 = .ok (.aload_n 0, 1) := by decide +kernel
theorem dX11_back_29 : decode cX11_back 29 = .ok (.getfield 34, 3) := by decide +kernel
theorem dX11_back_32 : decode cX11_back 32 = .ok (.iload_n 1, 1) := by decide +kernel
theorem dX11_back_33 : decode cX11_back 33 = .ok (.aload_n 0, 1) := by decide +kernel
theorem dX11_back_34 : decode cX11_back 34 = .ok (.getfield 40, 3) := by decide +kernel
theorem dX11_back_37 : decode cX11_back 37 = .ok (.bipush 20, 2) := by decide +kernel
theorem dX11_back_39 : decode cX11_back 39 = .ok (.aload_n 0, 1) := by decide +kernel
theorem dX11_back_40 : decode cX11_back 40 = .ok (.getfield 122, 3) := by decide +kernel
theorem dX11_back_43 : decode cX11_back 43 = .ok (.imul, 1) := by decide +kernel
theorem dX11_back_44 : decode cX11_back 44 = .ok (.iload_n 1, 1) := by decide +kernel
theorem dX11_back_45 : decode cX11_back 45 = .ok (.iadd, 1) := by decide +kernel
theorem dX11_back_46 : decode cX11_back 46 = .ok (.iaload, 1) := by decide +kernel
theorem dX11_back_47 : decode cX11_back 47 = .ok (.iastore, 1) := by decide +kernel
theorem dX11_back_48 : decode cX11_back 48 = .ok (.iinc 1 1, 3) := by decide +kernel
theorem dX11_back_51 : decode cX11_back 51 = .ok (.goto (-29), 3) := by decide +kernel
theorem dX11_back_54 : decode cX11_back 54 = .ok (.aload_n 0, 1) := by decide +kernel
theorem dX11_back_55 : decode cX11_back 55 = .ok (.iconst 0, 1) := by decide +kernel
theorem dX11_back_56 : decode cX11_back 56 = .ok (.putfield 119, 3) := by decide +kernel
theorem dX11_back_59 : decode cX11_back 59 = .ok (.aload_n 0, 1) := by decide +kernel
theorem dX11_back_60 : decode cX11_back 60 = .ok (.getfield 122, 3) := by decide +kernel
theorem dX11_back_63 : decode cX11_back 63 = .ok (.ireturn, 1) := by decide +kernel
theorem dX11_count_0 : decode cX11_count 0 = .ok (.iload_n 1, 1) := by decide +kernel
theorem dX11_count_1 : decode cX11_count 1 = .ok (.tableswitch 93 0 7 #[47, 52, 59, 66, 73, 78, 83, 88], 47) := by decide +kernel
theorem dX11_count_48 : decode cX11_count 48 = .ok (.aload_n 0, 1) := by decide +kernel
theorem dX11_count_49 : decode cX11_count 49 = .ok (.invokevirtual 116, 3) := by decide +kernel
theorem dX11_count_52 : decode cX11_count 52 = .ok (.ireturn, 1) := by decide +kernel
theorem dX11_count_53 : decode cX11_count 53 = .ok (.aload_n 0, 1) := by decide +kernel
theorem dX11_count_54 : decode cX11_count 54 = .ok (.getfield 19, 3) := by decide +kernel
theorem dX11_count_57 : decode cX11_count 57 = .ok (.iconst 0, 1) := by decide +kernel
theorem dX11_count_58 : decode cX11_count 58 = .ok (.iaload, 1) := by decide +kernel
theorem dX11_count_59 : decode cX11_count 59 = .ok (.ireturn, 1) := by decide +kernel
theorem dX11_count_60 : decode cX11_count 60 = .ok (.aload_n 0, 1) := by decide +kernel
theorem dX11_count_61 : decode cX11_count 61 = .ok (.getfield 22, 3) := by decide +kernel
theorem dX11_count_64 : decode cX11_count 64 = .ok (.iconst 0, 1) := by decide +kernel
theorem dX11_count_65 : decode cX11_count 65 = .ok (.iaload, 1) := by decide +kernel
theorem dX11_count_66 : decode cX11_count 66 = .ok (.ireturn, 1) := by decide +kernel
theorem dX11_count_67 : decode cX11_count 67 = .ok (.aload_n 0, 1) := by decide +kernel
theorem dX11_count_68 : decode cX11_count 68 = .ok (.getfield 25, 3) := by decide +kernel
theorem dX11_count_71 : decode cX11_count 71 = .ok (.iconst 0, 1) := by decide +kernel
theorem dX11_count_72 : decode cX11_count 72 = .ok (.iaload, 1) := by decide +kernel
theorem dX11_count_73 : decode cX11_count 73 = .ok (.ireturn, 1) := by decide +kernel
theorem dX11_count_74 : decode cX11_count 74 = .ok (.aload_n 0, 1) := by decide +kernel
theorem dX11_count_75 : decode cX11_count 75 = .ok (.getfield 125, 3) := by decide +kernel
theorem dX11_count_78 : decode cX11_count 78 = .ok (.ireturn, 1) := by decide +kernel
theorem dX11_count_79 : decode cX11_count 79 = .ok (.aload_n 0, 1) := by decide +kernel
theorem dX11_count_80 : decode cX11_count 80 = .ok (.getfield 119, 3) := by decide +kernel
theorem dX11_count_83 : decode cX11_count 83 = .ok (.ireturn, 1) := by decide +kernel
theorem dX11_count_84 : decode cX11_count 84 = .ok (.aload_n 0, 1) := by decide +kernel
theorem dX11_count_85 : decode cX11_count 85 = .ok (.getfield 122, 3) := by decide +kernel
theorem dX11_count_88 : decode cX11_count 88 = .ok (.ireturn, 1) := by decide +kernel
theorem dX11_count_89 : decode cX11_count 89 = .ok (.aload_n 0, 1) := by decide +kernel
theorem dX11_count_90 : decode cX11_count 90 = .ok (.getfield 76, 3) := by decide +kernel
theorem dX11_count_93 : decode cX11_count 93 = .ok (.ireturn, 1) := by decide +kernel
theorem dX11_count_94 : decode cX11_count 94 = .ok (.iconst (-1), 1) := by decide +kernel
theorem dX11_count_95 : decode cX11_count 95 = .ok (.ireturn, 1) := by decide +kernel
