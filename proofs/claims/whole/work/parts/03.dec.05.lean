theorem hx_d_Model_readLetter_9 : decode hx_c_Model_readLetter 9 = .ok (.if_icmp .ne 7, 3) := by decide +kernel
theorem hx_d_Model_readLetter_12 : decode hx_c_Model_readLetter 12 = .ok (.iconst 1, 1) := by decide +kernel
theorem hx_d_Model_readLetter_13 : decode hx_c_Model_readLetter 13 = .ok (.goto 4, 3) := by decide +kernel
theorem hx_d_Model_readLetter_16 : decode hx_c_Model_readLetter 16 = .ok (.iconst 0, 1) := by decide +kernel
theorem hx_d_Model_readLetter_17 : decode hx_c_Model_readLetter 17 = .ok (.iconst 1, 1) := by decide +kernel
theorem hx_d_Model_readLetter_18 : decode hx_c_Model_readLetter 18 = .ok (.invokevirtual 78, 3) := by decide +kernel
theorem hx_d_Model_readLetter_21 : decode hx_c_Model_readLetter 21 = .ok (.ifCond .ne 4, 3) := by decide +kernel
theorem hx_d_Model_readLetter_24 : decode hx_c_Model_readLetter 24 = .ok (.return_, 1) := by decide +kernel
theorem hx_d_Model_readLetter_25 : decode hx_c_Model_readLetter 25 = .ok (.aload_n 0, 1) := by decide +kernel
theorem hx_d_Model_readLetter_26 : decode hx_c_Model_readLetter 26 = .ok (.iload_n 1, 1) := by decide +kernel
theorem hx_d_Model_readLetter_27 : decode hx_c_Model_readLetter 27 = .ok (.iconst 1, 1) := by decide +kernel
theorem hx_d_Model_readLetter_28 : decode hx_c_Model_readLetter 28 = .ok (.iadd, 1) := by decide +kernel
theorem hx_d_Model_readLetter_29 : decode hx_c_Model_readLetter 29 = .ok (.iload_n 2, 1) := by decide +kernel
theorem hx_d_Model_readLetter_30 : decode hx_c_Model_readLetter 30 = .ok (.if_icmp .eq 29, 3) := by decide +kernel
theorem hx_d_Model_readLetter_33 : decode hx_c_Model_readLetter 33 = .ok (.aload_n 0, 1) := by decide +kernel
theorem hx_d_Model_readLetter_34 : decode hx_c_Model_readLetter 34 = .ok (.getfield 17, 3) := by decide +kernel
theorem hx_d_Model_readLetter_37 : decode hx_c_Model_readLetter 37 = .ok (.iload_n 1, 1) := by decide +kernel
theorem hx_d_Model_readLetter_38 : decode hx_c_Model_readLetter 38 = .ok (.iconst 1, 1) := by decide +kernel
theorem hx_d_Model_readLetter_39 : decode hx_c_Model_readLetter 39 = .ok (.iadd, 1) := by decide +kernel
theorem hx_d_Model_readLetter_40 : decode hx_c_Model_readLetter 40 = .ok (.baload, 1) := by decide +kernel
theorem hx_d_Model_readLetter_41 : decode hx_c_Model_readLetter 41 = .ok (.bipush 48, 2) := by decide +kernel
theorem hx_d_Model_readLetter_43 : decode hx_c_Model_readLetter 43 = .ok (.if_icmp .lt 20, 3) := by decide +kernel
theorem hx_d_Model_readLetter_46 : decode hx_c_Model_readLetter 46 = .ok (.aload_n 0, 1) := by decide +kernel
theorem hx_d_Model_readLetter_47 : decode hx_c_Model_readLetter 47 = .ok (.getfield 17, 3) := by decide +kernel
theorem hx_d_Model_readLetter_50 : decode hx_c_Model_readLetter 50 = .ok (.iload_n 1, 1) := by decide +kernel
theorem hx_d_Model_readLetter_51 : decode hx_c_Model_readLetter 51 = .ok (.iconst 1, 1) := by decide +kernel
theorem hx_d_Model_readLetter_52 : decode hx_c_Model_readLetter 52 = .ok (.iadd, 1) := by decide +kernel
theorem hx_d_Model_readLetter_53 : decode hx_c_Model_readLetter 53 = .ok (.baload, 1) := by decide +kernel
theorem hx_d_Model_readLetter_54 : decode hx_c_Model_readLetter 54 = .ok (.bipush 57, 2) := by decide +kernel
theorem hx_d_Model_readLetter_56 : decode hx_c_Model_readLetter 56 = .ok (.if_icmp .gt 7, 3) := by decide +kernel
theorem hx_d_Model_readLetter_59 : decode hx_c_Model_readLetter 59 = .ok (.iconst 1, 1) := by decide +kernel
theorem hx_d_Model_readLetter_60 : decode hx_c_Model_readLetter 60 = .ok (.goto 4, 3) := by decide +kernel
theorem hx_d_Model_readLetter_63 : decode hx_c_Model_readLetter 63 = .ok (.iconst 0, 1) := by decide +kernel
theorem hx_d_Model_readLetter_64 : decode hx_c_Model_readLetter 64 = .ok (.iconst 2, 1) := by decide +kernel
theorem hx_d_Model_readLetter_65 : decode hx_c_Model_readLetter 65 = .ok (.invokevirtual 78, 3) := by decide +kernel
theorem hx_d_Model_readLetter_68 : decode hx_c_Model_readLetter 68 = .ok (.ifCond .eq 23, 3) := by decide +kernel
theorem hx_d_Model_readLetter_71 : decode hx_c_Model_readLetter 71 = .ok (.aload_n 0, 1) := by decide +kernel
theorem hx_d_Model_readLetter_72 : decode hx_c_Model_readLetter 72 = .ok (.iload_n 1, 1) := by decide +kernel
theorem hx_d_Model_readLetter_73 : decode hx_c_Model_readLetter 73 = .ok (.iconst 1, 1) := by decide +kernel
theorem hx_d_Model_readLetter_74 : decode hx_c_Model_readLetter 74 = .ok (.iadd, 1) := by decide +kernel
theorem hx_d_Model_readLetter_75 : decode hx_c_Model_readLetter 75 = .ok (.iload_n 2, 1) := by decide +kernel
theorem hx_d_Model_readLetter_76 : decode hx_c_Model_readLetter 76 = .ok (.if_icmp .ge 7, 3) := by decide +kernel
theorem hx_d_Model_readLetter_79 : decode hx_c_Model_readLetter 79 = .ok (.iconst 1, 1) := by decide +kernel
theorem hx_d_Model_readLetter_80 : decode hx_c_Model_readLetter 80 = .ok (.goto 4, 3) := by decide +kernel
theorem hx_d_Model_readLetter_83 : decode hx_c_Model_readLetter 83 = .ok (.iconst 0, 1) := by decide +kernel
theorem hx_d_Model_readLetter_84 : decode hx_c_Model_readLetter 84 = .ok (.iconst 3, 1) := by decide +kernel
theorem hx_d_Model_readLetter_85 : decode hx_c_Model_readLetter 85 = .ok (.invokevirtual 78, 3) := by decide +kernel
theorem hx_d_Model_readLetter_88 : decode hx_c_Model_readLetter 88 = .ok (.ifCond .ne 4, 3) := by decide +kernel
theorem hx_d_Model_readLetter_91 : decode hx_c_Model_readLetter 91 = .ok (.return_, 1) := by decide +kernel
theorem hx_d_Model_readLetter_92 : decode hx_c_Model_readLetter 92 = .ok (.aload_n 0, 1) := by decide +kernel
theorem hx_d_Model_readLetter_93 : decode hx_c_Model_readLetter 93 = .ok (.getfield 17, 3) := by decide +kernel
theorem hx_d_Model_readLetter_96 : decode hx_c_Model_readLetter 96 = .ok (.iload_n 1, 1) := by decide +kernel
theorem hx_d_Model_readLetter_97 : decode hx_c_Model_readLetter 97 = .ok (.iconst 1, 1) := by decide +kernel
theorem hx_d_Model_readLetter_98 : decode hx_c_Model_readLetter 98 = .ok (.iadd, 1) := by decide +kernel
theorem hx_d_Model_readLetter_99 : decode hx_c_Model_readLetter 99 = .ok (.baload, 1) := by decide +kernel
theorem hx_d_Model_readLetter_100 : decode hx_c_Model_readLetter 100 = .ok (.bipush 48, 2) := by decide +kernel
theorem hx_d_Model_readLetter_102 : decode hx_c_Model_readLetter 102 = .ok (.isub, 1) := by decide +kernel
theorem hx_d_Model_readLetter_103 : decode hx_c_Model_readLetter 103 = .ok (.istore_n 3, 1) := by decide +kernel
theorem hx_d_Model_readLetter_104 : decode hx_c_Model_readLetter 104 = .ok (.aload_n 0, 1) := by decide +kernel
theorem hx_d_Model_readLetter_105 : decode hx_c_Model_readLetter 105 = .ok (.iload_n 1, 1) := by decide +kernel
theorem hx_d_Model_readLetter_106 : decode hx_c_Model_readLetter 106 = .ok (.iconst 2, 1) := by decide +kernel
theorem hx_d_Model_readLetter_107 : decode hx_c_Model_readLetter 107 = .ok (.iadd, 1) := by decide +kernel
theorem hx_d_Model_readLetter_108 : decode hx_c_Model_readLetter 108 = .ok (.iload_n 2, 1) := by decide +kernel
theorem hx_d_Model_readLetter_109 : decode hx_c_Model_readLetter 109 = .ok (.invokevirtual 90, 3) := by decide +kernel
theorem hx_d_Model_readLetter_112 : decode hx_c_Model_readLetter 112 = .ok (.iload_n 2, 1) := by decide +kernel
theorem hx_d_Model_readLetter_113 : decode hx_c_Model_readLetter 113 = .ok (.iload_n 1, 1) := by decide +kernel
theorem hx_d_Model_readLetter_114 : decode hx_c_Model_readLetter 114 = .ok (.isub, 1) := by decide +kernel
theorem hx_d_Model_readLetter_115 : decode hx_c_Model_readLetter 115 = .ok (.iconst 2, 1) := by decide +kernel
theorem hx_d_Model_readLetter_116 : decode hx_c_Model_readLetter 116 = .ok (.isub, 1) := by decide +kernel
theorem hx_d_Model_readLetter_117 : decode hx_c_Model_readLetter 117 = .ok (.istore 4, 2) := by decide +kernel
theorem hx_d_Model_readLetter_119 : decode hx_c_Model_readLetter 119 = .ok (.iload_n 3, 1) := by decide +kernel
theorem hx_d_Model_readLetter_120 : decode hx_c_Model_readLetter 120 = .ok (.invokestatic 127, 3) := by decide +kernel
theorem hx_d_Model_readLetter_123 : decode hx_c_Model_readLetter 123 = .ok (.istore 5, 2) := by decide +kernel
theorem hx_d_Model_readLetter_125 : decode hx_c_Model_readLetter 125 = .ok (.aload_n 0, 1) := by decide +kernel
theorem hx_d_Model_readLetter_126 : decode hx_c_Model_readLetter 126 = .ok (.iload 4, 2) := by decide +kernel
theorem hx_d_Model_readLetter_128 : decode hx_c_Model_readLetter 128 = .ok (.ifCond .le 42, 3) := by decide +kernel
theorem hx_d_Model_readLetter_131 : decode hx_c_Model_readLetter 131 = .ok (.iload 4, 2) := by decide +kernel
theorem hx_d_Model_readLetter_133 : decode hx_c_Model_readLetter 133 = .ok (.iconst 2, 1) := by decide +kernel
theorem hx_d_Model_readLetter_134 : decode hx_c_Model_readLetter 134 = .ok (.irem, 1) := by decide +kernel
theorem hx_d_Model_readLetter_135 : decode hx_c_Model_readLetter 135 = .ok (.ifCond .ne 35, 3) := by decide +kernel
theorem hx_d_Model_readLetter_138 : decode hx_c_Model_readLetter 138 = .ok (.aload_n 0, 1) := by decide +kernel
theorem hx_d_Model_readLetter_139 : decode hx_c_Model_readLetter 139 = .ok (.getfield 71, 3) := by decide +kernel
theorem hx_d_Model_readLetter_142 : decode hx_c_Model_readLetter 142 = .ok (.aload_n 0, 1) := by decide +kernel
theorem hx_d_Model_readLetter_143 : decode hx_c_Model_readLetter 143 = .ok (.getfield 31, 3) := by decide +kernel
theorem hx_d_Model_readLetter_146 : decode hx_c_Model_readLetter 146 = .ok (.iconst 0, 1) := by decide +kernel
theorem hx_d_Model_readLetter_147 : decode hx_c_Model_readLetter 147 = .ok (.iaload, 1) := by decide +kernel
theorem hx_d_Model_readLetter_148 : decode hx_c_Model_readLetter 148 = .ok (.iconst 1, 1) := by decide +kernel
theorem hx_d_Model_readLetter_149 : decode hx_c_Model_readLetter 149 = .ok (.iadd, 1) := by decide +kernel
theorem hx_d_Model_readLetter_150 : decode hx_c_Model_readLetter 150 = .ok (.if_icmp .ne 20, 3) := by decide +kernel
theorem hx_d_Model_readLetter_153 : decode hx_c_Model_readLetter 153 = .ok (.aload_n 0, 1) := by decide +kernel
theorem hx_d_Model_readLetter_154 : decode hx_c_Model_readLetter 154 = .ok (.getfield 31, 3) := by decide +kernel
theorem hx_d_Model_readLetter_157 : decode hx_c_Model_readLetter 157 = .ok (.iconst 0, 1) := by decide +kernel
theorem hx_d_Model_readLetter_158 : decode hx_c_Model_readLetter 158 = .ok (.iaload, 1) := by decide +kernel
theorem hx_d_Model_readLetter_159 : decode hx_c_Model_readLetter 159 = .ok (.iload 5, 2) := by decide +kernel
theorem hx_d_Model_readLetter_161 : decode hx_c_Model_readLetter 161 = .ok (.iconst 1, 1) := by decide +kernel
theorem hx_d_Model_readLetter_162 : decode hx_c_Model_readLetter 162 = .ok (.iadd, 1) := by decide +kernel
theorem hx_d_Model_readLetter_163 : decode hx_c_Model_readLetter 163 = .ok (.if_icmp .lt 7, 3) := by decide +kernel
theorem hx_d_Model_readLetter_166 : decode hx_c_Model_readLetter 166 = .ok (.iconst 1, 1) := by decide +kernel
theorem hx_d_Model_readLetter_167 : decode hx_c_Model_readLetter 167 = .ok (.goto 4, 3) := by decide +kernel
theorem hx_d_Model_readLetter_170 : decode hx_c_Model_readLetter 170 = .ok (.iconst 0, 1) := by decide +kernel
theorem hx_d_Model_readLetter_171 : decode hx_c_Model_readLetter 171 = .ok (.iconst 3, 1) := by decide +kernel
theorem hx_d_Model_readLetter_172 : decode hx_c_Model_readLetter 172 = .ok (.invokevirtual 78, 3) := by decide +kernel
theorem hx_d_Model_readLetter_175 : decode hx_c_Model_readLetter 175 = .ok (.ifCond .ne 4, 3) := by decide +kernel
theorem hx_d_Model_readLetter_178 : decode hx_c_Model_readLetter 178 = .ok (.return_, 1) := by decide +kernel
theorem hx_d_Model_readLetter_179 : decode hx_c_Model_readLetter 179 = .ok (.iload_n 3, 1) := by decide +kernel
theorem hx_d_Model_readLetter_180 : decode hx_c_Model_readLetter 180 = .ok (.iconst 5, 1) := by decide +kernel
theorem hx_d_Model_readLetter_181 : decode hx_c_Model_readLetter 181 = .ok (.if_icmp .eq 21, 3) := by decide +kernel
theorem hx_d_Model_readLetter_184 : decode hx_c_Model_readLetter 184 = .ok (.iload_n 3, 1) := by decide +kernel
theorem hx_d_Model_readLetter_185 : decode hx_c_Model_readLetter 185 = .ok (.bipush 7, 2) := by decide +kernel
theorem hx_d_Model_readLetter_187 : decode hx_c_Model_readLetter 187 = .ok (.if_icmp .eq 15, 3) := by decide +kernel
theorem hx_d_Model_readLetter_190 : decode hx_c_Model_readLetter 190 = .ok (.iload_n 3, 1) := by decide +kernel
theorem hx_d_Model_readLetter_191 : decode hx_c_Model_readLetter 191 = .ok (.bipush 8, 2) := by decide +kernel
theorem hx_d_Model_readLetter_193 : decode hx_c_Model_readLetter 193 = .ok (.if_icmp .eq 9, 3) := by decide +kernel
theorem hx_d_Model_readLetter_196 : decode hx_c_Model_readLetter 196 = .ok (.iload_n 3, 1) := by decide +kernel
theorem hx_d_Model_readLetter_197 : decode hx_c_Model_readLetter 197 = .ok (.bipush 9, 2) := by decide +kernel
theorem hx_d_Model_readLetter_199 : decode hx_c_Model_readLetter 199 = .ok (.if_icmp .ne 7, 3) := by decide +kernel
theorem hx_d_Model_readLetter_202 : decode hx_c_Model_readLetter 202 = .ok (.iconst 1, 1) := by decide +kernel
theorem hx_d_Model_readLetter_203 : decode hx_c_Model_readLetter 203 = .ok (.goto 4, 3) := by decide +kernel
theorem hx_d_Model_readLetter_206 : decode hx_c_Model_readLetter 206 = .ok (.iconst 0, 1) := by decide +kernel
theorem hx_d_Model_readLetter_207 : decode hx_c_Model_readLetter 207 = .ok (.istore 6, 2) := by decide +kernel
theorem hx_d_Model_readLetter_209 : decode hx_c_Model_readLetter 209 = .ok (.aload_n 0, 1) := by decide +kernel
theorem hx_d_Model_readLetter_210 : decode hx_c_Model_readLetter 210 = .ok (.iload_n 3, 1) := by decide +kernel
theorem hx_d_Model_readLetter_211 : decode hx_c_Model_readLetter 211 = .ok (.iconst 4, 1) := by decide +kernel
theorem hx_d_Model_readLetter_212 : decode hx_c_Model_readLetter 212 = .ok (.if_icmp .eq 31, 3) := by decide +kernel
theorem hx_d_Model_readLetter_215 : decode hx_c_Model_readLetter 215 = .ok (.iload_n 3, 1) := by decide +kernel
theorem hx_d_Model_readLetter_216 : decode hx_c_Model_readLetter 216 = .ok (.bipush 6, 2) := by decide +kernel
theorem hx_d_Model_readLetter_218 : decode hx_c_Model_readLetter 218 = .ok (.if_icmp .eq 25, 3) := by decide +kernel
theorem hx_d_Model_readLetter_221 : decode hx_c_Model_readLetter 221 = .ok (.iload 6, 2) := by decide +kernel
theorem hx_d_Model_readLetter_223 : decode hx_c_Model_readLetter 223 = .ok (.ifCond .eq 16, 3) := by decide +kernel
theorem hx_d_Model_readLetter_226 : decode hx_c_Model_readLetter 226 = .ok (.aload_n 0, 1) := by decide +kernel
theorem hx_d_Model_readLetter_227 : decode hx_c_Model_readLetter 227 = .ok (.getfield 31, 3) := by decide +kernel
theorem hx_d_Model_readLetter_230 : decode hx_c_Model_readLetter 230 = .ok (.iconst 0, 1) := by decide +kernel
theorem hx_d_Model_readLetter_231 : decode hx_c_Model_readLetter 231 = .ok (.iaload, 1) := by decide +kernel
theorem hx_d_Model_readLetter_232 : decode hx_c_Model_readLetter 232 = .ok (.iload 5, 2) := by decide +kernel
theorem hx_d_Model_readLetter_234 : decode hx_c_Model_readLetter 234 = .ok (.iconst 1, 1) := by decide +kernel
theorem hx_d_Model_readLetter_235 : decode hx_c_Model_readLetter 235 = .ok (.iadd, 1) := by decide +kernel
theorem hx_d_Model_readLetter_236 : decode hx_c_Model_readLetter 236 = .ok (.if_icmp .ne 7, 3) := by decide +kernel
theorem hx_d_Model_readLetter_239 : decode hx_c_Model_readLetter 239 = .ok (.iconst 1, 1) := by decide +kernel
theorem hx_d_Model_readLetter_240 : decode hx_c_Model_readLetter 240 = .ok (.goto 4, 3) := by decide +kernel
theorem hx_d_Model_readLetter_243 : decode hx_c_Model_readLetter 243 = .ok (.iconst 0, 1) := by decide +kernel
theorem hx_d_Model_readLetter_244 : decode hx_c_Model_readLetter 244 = .ok (.iconst 4, 1) := by decide +kernel
theorem hx_d_Model_readLetter_245 : decode hx_c_Model_readLetter 245 = .ok (.invokevirtual 78, 3) := by decide +kernel
theorem hx_d_Model_readLetter_248 : decode hx_c_Model_readLetter 248 = .ok (.ifCond .eq 47, 3) := by decide +kernel
theorem hx_d_Model_readLetter_251 : decode hx_c_Model_readLetter 251 = .ok (.aload_n 0, 1) := by decide +kernel
theorem hx_d_Model_readLetter_252 : decode hx_c_Model_readLetter 252 = .ok (.aload_n 0, 1) := by decide +kernel
theorem hx_d_Model_readLetter_253 : decode hx_c_Model_readLetter 253 = .ok (.invokevirtual 94, 3) := by decide +kernel
theorem hx_d_Model_readLetter_256 : decode hx_c_Model_readLetter 256 = .ok (.sipush 255, 3) := by decide +kernel
theorem hx_d_Model_readLetter_259 : decode hx_c_Model_readLetter 259 = .ok (.if_icmp .ne 7, 3) := by decide +kernel
theorem hx_d_Model_readLetter_262 : decode hx_c_Model_readLetter 262 = .ok (.iconst 1, 1) := by decide +kernel
theorem hx_d_Model_readLetter_263 : decode hx_c_Model_readLetter 263 = .ok (.goto 4, 3) := by decide +kernel
theorem hx_d_Model_readLetter_266 : decode hx_c_Model_readLetter 266 = .ok (.iconst 0, 1) := by decide +kernel
theorem hx_d_Model_readLetter_267 : decode hx_c_Model_readLetter 267 = .ok (.iconst 5, 1) := by decide +kernel
theorem hx_d_Model_readLetter_268 : decode hx_c_Model_readLetter 268 = .ok (.invokevirtual 78, 3) := by decide +kernel
theorem hx_d_Model_readLetter_271 : decode hx_c_Model_readLetter 271 = .ok (.ifCond .eq 24, 3) := by decide +kernel
theorem hx_d_Model_readLetter_274 : decode hx_c_Model_readLetter 274 = .ok (.aload_n 0, 1) := by decide +kernel
theorem hx_d_Model_readLetter_275 : decode hx_c_Model_readLetter 275 = .ok (.aload_n 0, 1) := by decide +kernel
theorem hx_d_Model_readLetter_276 : decode hx_c_Model_readLetter 276 = .ok (.getfield 98, 3) := by decide +kernel
theorem hx_d_Model_readLetter_279 : decode hx_c_Model_readLetter 279 = .ok (.ifCond .ne 7, 3) := by decide +kernel
theorem hx_d_Model_readLetter_282 : decode hx_c_Model_readLetter 282 = .ok (.iconst 1, 1) := by decide +kernel
theorem hx_d_Model_readLetter_283 : decode hx_c_Model_readLetter 283 = .ok (.goto 4, 3) := by decide +kernel
theorem hx_d_Model_readLetter_286 : decode hx_c_Model_readLetter 286 = .ok (.iconst 0, 1) := by decide +kernel
theorem hx_d_Model_readLetter_287 : decode hx_c_Model_readLetter 287 = .ok (.bipush 6, 2) := by decide +kernel
theorem hx_d_Model_readLetter_289 : decode hx_c_Model_readLetter 289 = .ok (.invokevirtual 78, 3) := by decide +kernel
theorem hx_d_Model_readLetter_292 : decode hx_c_Model_readLetter 292 = .ok (.ifCond .ne 4, 3) := by decide +kernel
theorem hx_d_Model_readLetter_295 : decode hx_c_Model_readLetter 295 = .ok (.return_, 1) := by decide +kernel
theorem hx_d_Model_readLetter_296 : decode hx_c_Model_readLetter 296 = .ok (.aload_n 0, 1) := by decide +kernel
theorem hx_d_Model_readLetter_297 : decode hx_c_Model_readLetter 297 = .ok (.iconst 1, 1) := by decide +kernel
theorem hx_d_Model_readLetter_298 : decode hx_c_Model_readLetter 298 = .ok (.iload 5, 2) := by decide +kernel
theorem hx_d_Model_readLetter_300 : decode hx_c_Model_readLetter 300 = .ok (.invokevirtual 102, 3) := by decide +kernel
theorem hx_d_Model_readLetter_303 : decode hx_c_Model_readLetter 303 = .ok (.lstore 7, 2) := by decide +kernel
theorem hx_d_Model_readLetter_305 : decode hx_c_Model_readLetter 305 = .ok (.iload_n 3, 1) := by decide +kernel
theorem hx_d_Model_readLetter_306 : decode hx_c_Model_readLetter 306 = .ok (.iconst 5, 1) := by decide +kernel
theorem hx_d_Model_readLetter_307 : decode hx_c_Model_readLetter 307 = .ok (.if_icmp .ne 30, 3) := by decide +kernel
theorem hx_d_Model_readLetter_310 : decode hx_c_Model_readLetter 310 = .ok (.aload_n 0, 1) := by decide +kernel
theorem hx_d_Model_readLetter_311 : decode hx_c_Model_readLetter 311 = .ok (.lload 7, 2) := by decide +kernel
theorem hx_d_Model_readLetter_313 : decode hx_c_Model_readLetter 313 = .ok (.aload_n 0, 1) := by decide +kernel
theorem hx_d_Model_readLetter_314 : decode hx_c_Model_readLetter 314 = .ok (.getfield 130, 3) := by decide +kernel
theorem hx_d_Model_readLetter_317 : decode hx_c_Model_readLetter 317 = .ok (.i2l, 1) := by decide +kernel
theorem hx_d_Model_readLetter_318 : decode hx_c_Model_readLetter 318 = .ok (.lcmp, 1) := by decide +kernel
theorem hx_d_Model_readLetter_319 : decode hx_c_Model_readLetter 319 = .ok (.ifCond .ne 7, 3) := by decide +kernel
theorem hx_d_Model_readLetter_322 : decode hx_c_Model_readLetter 322 = .ok (.iconst 1, 1) := by decide +kernel
theorem hx_d_Model_readLetter_323 : decode hx_c_Model_readLetter 323 = .ok (.goto 4, 3) := by decide +kernel
theorem hx_d_Model_readLetter_326 : decode hx_c_Model_readLetter 326 = .ok (.iconst 0, 1) := by decide +kernel
theorem hx_d_Model_readLetter_327 : decode hx_c_Model_readLetter 327 = .ok (.bipush 7, 2) := by decide +kernel
theorem hx_d_Model_readLetter_329 : decode hx_c_Model_readLetter 329 = .ok (.invokevirtual 78, 3) := by decide +kernel
theorem hx_d_Model_readLetter_332 : decode hx_c_Model_readLetter 332 = .ok (.istore 9, 2) := by decide +kernel
theorem hx_d_Model_readLetter_334 : decode hx_c_Model_readLetter 334 = .ok (.goto 127, 3) := by decide +kernel
theorem hx_d_Model_readLetter_337 : decode hx_c_Model_readLetter 337 = .ok (.iload 6, 2) := by decide +kernel
theorem hx_d_Model_readLetter_339 : decode hx_c_Model_readLetter 339 = .ok (.ifCond .eq 22, 3) := by decide +kernel
theorem hx_d_Model_readLetter_342 : decode hx_c_Model_readLetter 342 = .ok (.aload_n 0, 1) := by decide +kernel
theorem hx_d_Model_readLetter_343 : decode hx_c_Model_readLetter 343 = .ok (.iconst 1, 1) := by decide +kernel
theorem hx_d_Model_readLetter_344 : decode hx_c_Model_readLetter 344 = .ok (.putfield 98, 3) := by decide +kernel
theorem hx_d_Model_readLetter_347 : decode hx_c_Model_readLetter 347 = .ok (.aload_n 0, 1) := by decide +kernel
theorem hx_d_Model_readLetter_348 : decode hx_c_Model_readLetter 348 = .ok (.iconst 1, 1) := by decide +kernel
theorem hx_d_Model_readLetter_349 : decode hx_c_Model_readLetter 349 = .ok (.putfield 121, 3) := by decide +kernel
theorem hx_d_Model_readLetter_352 : decode hx_c_Model_readLetter 352 = .ok (.aload_n 0, 1) := by decide +kernel
theorem hx_d_Model_readLetter_353 : decode hx_c_Model_readLetter 353 = .ok (.lload 7, 2) := by decide +kernel
theorem hx_d_Model_readLetter_355 : decode hx_c_Model_readLetter 355 = .ok (.putfield 124, 3) := by decide +kernel
theorem hx_d_Model_readLetter_358 : decode hx_c_Model_readLetter 358 = .ok (.goto 103, 3) := by decide +kernel
theorem hx_d_Model_readLetter_361 : decode hx_c_Model_readLetter 361 = .ok (.iload_n 3, 1) := by decide +kernel
theorem hx_d_Model_readLetter_362 : decode hx_c_Model_readLetter 362 = .ok (.ifCond .le 99, 3) := by decide +kernel
theorem hx_d_Model_readLetter_365 : decode hx_c_Model_readLetter 365 = .ok (.aload_n 0, 1) := by decide +kernel
theorem hx_d_Model_readLetter_366 : decode hx_c_Model_readLetter 366 = .ok (.dup, 1) := by decide +kernel
theorem hx_d_Model_readLetter_367 : decode hx_c_Model_readLetter 367 = .ok (.getfield 130, 3) := by decide +kernel
theorem hx_d_Model_readLetter_370 : decode hx_c_Model_readLetter 370 = .ok (.iconst 1, 1) := by decide +kernel
theorem hx_d_Model_readLetter_371 : decode hx_c_Model_readLetter 371 = .ok (.iadd, 1) := by decide +kernel
theorem hx_d_Model_readLetter_372 : decode hx_c_Model_readLetter 372 = .ok (.putfield 130, 3) := by decide +kernel
theorem hx_d_Model_readLetter_375 : decode hx_c_Model_readLetter 375 = .ok (.aload_n 0, 1) := by decide +kernel
theorem hx_d_Model_readLetter_376 : decode hx_c_Model_readLetter 376 = .ok (.getfield 31, 3) := by decide +kernel
theorem hx_d_Model_readLetter_379 : decode hx_c_Model_readLetter 379 = .ok (.iconst 0, 1) := by decide +kernel
theorem hx_d_Model_readLetter_380 : decode hx_c_Model_readLetter 380 = .ok (.iaload, 1) := by decide +kernel
theorem hx_d_Model_readLetter_381 : decode hx_c_Model_readLetter 381 = .ok (.iload 5, 2) := by decide +kernel
theorem hx_d_Model_readLetter_383 : decode hx_c_Model_readLetter 383 = .ok (.isub, 1) := by decide +kernel
theorem hx_d_Model_readLetter_384 : decode hx_c_Model_readLetter 384 = .ok (.iconst 1, 1) := by decide +kernel
theorem hx_d_Model_readLetter_385 : decode hx_c_Model_readLetter 385 = .ok (.isub, 1) := by decide +kernel
theorem hx_d_Model_readLetter_386 : decode hx_c_Model_readLetter 386 = .ok (.istore 9, 2) := by decide +kernel
theorem hx_d_Model_readLetter_388 : decode hx_c_Model_readLetter 388 = .ok (.iconst 0, 1) := by decide +kernel
theorem hx_d_Model_readLetter_389 : decode hx_c_Model_readLetter 389 = .ok (.istore 10, 2) := by decide +kernel
theorem hx_d_Model_readLetter_391 : decode hx_c_Model_readLetter 391 = .ok (.iload 10, 2) := by decide +kernel
theorem hx_d_Model_readLetter_393 : decode hx_c_Model_readLetter 393 = .ok (.iload 9, 2) := by decide +kernel
theorem hx_d_Model_readLetter_395 : decode hx_c_Model_readLetter 395 = .ok (.if_icmp .ge 38, 3) := by decide +kernel
theorem hx_d_Model_readLetter_398 : decode hx_c_Model_readLetter 398 = .ok (.aload_n 0, 1) := by decide +kernel
theorem hx_d_Model_readLetter_399 : decode hx_c_Model_readLetter 399 = .ok (.getfield 68, 3) := by decide +kernel
theorem hx_d_Model_readLetter_402 : decode hx_c_Model_readLetter 402 = .ok (.ifCond .ne 31, 3) := by decide +kernel
theorem hx_d_Model_readLetter_405 : decode hx_c_Model_readLetter 405 = .ok (.aload_n 0, 1) := by decide +kernel
theorem hx_d_Model_readLetter_406 : decode hx_c_Model_readLetter 406 = .ok (.lload 7, 2) := by decide +kernel
theorem hx_d_Model_readLetter_408 : decode hx_c_Model_readLetter 408 = .ok (.iload 10, 2) := by decide +kernel
theorem hx_d_Model_readLetter_410 : decode hx_c_Model_readLetter 410 = .ok (.i2l, 1) := by decide +kernel
theorem hx_d_Model_readLetter_411 : decode hx_c_Model_readLetter 411 = .ok (.ladd, 1) := by decide +kernel
theorem hx_d_Model_readLetter_412 : decode hx_c_Model_readLetter 412 = .ok (.aload_n 0, 1) := by decide +kernel
theorem hx_d_Model_readLetter_413 : decode hx_c_Model_readLetter 413 = .ok (.getfield 31, 3) := by decide +kernel
theorem hx_d_Model_readLetter_416 : decode hx_c_Model_readLetter 416 = .ok (.iload 5, 2) := by decide +kernel
theorem hx_d_Model_readLetter_418 : decode hx_c_Model_readLetter 418 = .ok (.iconst 1, 1) := by decide +kernel
theorem hx_d_Model_readLetter_419 : decode hx_c_Model_readLetter 419 = .ok (.iadd, 1) := by decide +kernel
theorem hx_d_Model_readLetter_420 : decode hx_c_Model_readLetter 420 = .ok (.iload 10, 2) := by decide +kernel
theorem hx_d_Model_readLetter_422 : decode hx_c_Model_readLetter 422 = .ok (.iadd, 1) := by decide +kernel
theorem hx_d_Model_readLetter_423 : decode hx_c_Model_readLetter 423 = .ok (.iaload, 1) := by decide +kernel
theorem hx_d_Model_readLetter_424 : decode hx_c_Model_readLetter 424 = .ok (.invokevirtual 115, 3) := by decide +kernel
theorem hx_d_Model_readLetter_427 : decode hx_c_Model_readLetter 427 = .ok (.iinc 10 1, 3) := by decide +kernel
theorem hx_d_Model_readLetter_430 : decode hx_c_Model_readLetter 430 = .ok (.goto (-39), 3) := by decide +kernel
theorem hx_d_Model_readLetter_433 : decode hx_c_Model_readLetter 433 = .ok (.aload_n 0, 1) := by decide +kernel
theorem hx_d_Model_readLetter_434 : decode hx_c_Model_readLetter 434 = .ok (.aload_n 0, 1) := by decide +kernel
theorem hx_d_Model_readLetter_435 : decode hx_c_Model_readLetter 435 = .ok (.getfield 57, 3) := by decide +kernel
theorem hx_d_Model_readLetter_438 : decode hx_c_Model_readLetter 438 = .ok (.aload_n 0, 1) := by decide +kernel
theorem hx_d_Model_readLetter_439 : decode hx_c_Model_readLetter 439 = .ok (.getfield 87, 3) := by decide +kernel
theorem hx_d_Model_readLetter_442 : decode hx_c_Model_readLetter 442 = .ok (.iadd, 1) := by decide +kernel
theorem hx_d_Model_readLetter_443 : decode hx_c_Model_readLetter 443 = .ok (.sipush 3000, 3) := by decide +kernel
theorem hx_d_Model_readLetter_446 : decode hx_c_Model_readLetter 446 = .ok (.if_icmp .gt 7, 3) := by decide +kernel
theorem hx_d_Model_readLetter_449 : decode hx_c_Model_readLetter 449 = .ok (.iconst 1, 1) := by decide +kernel
theorem hx_d_Model_readLetter_450 : decode hx_c_Model_readLetter 450 = .ok (.goto 4, 3) := by decide +kernel
theorem hx_d_Model_readLetter_453 : decode hx_c_Model_readLetter 453 = .ok (.iconst 0, 1) := by decide +kernel
theorem hx_d_Model_readLetter_454 : decode hx_c_Model_readLetter 454 = .ok (.bipush 9, 2) := by decide +kernel
theorem hx_d_Model_readLetter_456 : decode hx_c_Model_readLetter 456 = .ok (.invokevirtual 78, 3) := by decide +kernel
theorem hx_d_Model_readLetter_459 : decode hx_c_Model_readLetter 459 = .ok (.istore 10, 2) := by decide +kernel
theorem hx_d_Model_readLetter_461 : decode hx_c_Model_readLetter 461 = .ok (.return_, 1) := by decide +kernel
theorem hx_d_Model_wideOf_0 : decode hx_c_Model_wideOf 0 = .ok (.iload_n 0, 1) := by decide +kernel
theorem hx_d_Model_wideOf_1 : decode hx_c_Model_wideOf 1 = .ok (.iconst 2, 1) := by decide +kernel
theorem hx_d_Model_wideOf_2 : decode hx_c_Model_wideOf 2 = .ok (.if_icmp .eq 9, 3) := by decide +kernel
theorem hx_d_Model_wideOf_5 : decode hx_c_Model_wideOf 5 = .ok (.iload_n 0, 1) := by decide +kernel
theorem hx_d_Model_wideOf_6 : decode hx_c_Model_wideOf 6 = .ok (.bipush 8, 2) := by decide +kernel
theorem hx_d_Model_wideOf_8 : decode hx_c_Model_wideOf 8 = .ok (.if_icmp .ne 7, 3) := by decide +kernel
theorem hx_d_Model_wideOf_11 : decode hx_c_Model_wideOf 11 = .ok (.iconst 3, 1) := by decide +kernel
theorem hx_d_Model_wideOf_12 : decode hx_c_Model_wideOf 12 = .ok (.goto 19, 3) := by decide +kernel
theorem hx_d_Model_wideOf_15 : decode hx_c_Model_wideOf 15 = .ok (.iload_n 0, 1) := by decide +kernel
theorem hx_d_Model_wideOf_16 : decode hx_c_Model_wideOf 16 = .ok (.iconst 3, 1) := by decide +kernel
theorem hx_d_Model_wideOf_17 : decode hx_c_Model_wideOf 17 = .ok (.if_icmp .eq 9, 3) := by decide +kernel
theorem hx_d_Model_wideOf_20 : decode hx_c_Model_wideOf 20 = .ok (.iload_n 0, 1) := by decide +kernel
theorem hx_d_Model_wideOf_21 : decode hx_c_Model_wideOf 21 = .ok (.bipush 7, 2) := by decide +kernel
theorem hx_d_Model_wideOf_23 : decode hx_c_Model_wideOf 23 = .ok (.if_icmp .ne 7, 3) := by decide +kernel
theorem hx_d_Model_wideOf_26 : decode hx_c_Model_wideOf 26 = .ok (.iconst 4, 1) := by decide +kernel
theorem hx_d_Model_wideOf_27 : decode hx_c_Model_wideOf 27 = .ok (.goto 4, 3) := by decide +kernel
theorem hx_d_Model_wideOf_30 : decode hx_c_Model_wideOf 30 = .ok (.iconst 2, 1) := by decide +kernel
theorem hx_d_Model_wideOf_31 : decode hx_c_Model_wideOf 31 = .ok (.ireturn, 1) := by decide +kernel
theorem hx_d_Model_put_0 : decode hx_c_Model_put 0 = .ok (.aload_n 0, 1) := by decide +kernel
theorem hx_d_Model_put_1 : decode hx_c_Model_put 1 = .ok (.lload_n 1, 1) := by decide +kernel
theorem hx_d_Model_put_2 : decode hx_c_Model_put 2 = .ok (.invokevirtual 60, 3) := by decide +kernel
theorem hx_d_Model_put_5 : decode hx_c_Model_put 5 = .ok (.istore 4, 2) := by decide +kernel
theorem hx_d_Model_put_7 : decode hx_c_Model_put 7 = .ok (.iload 4, 2) := by decide +kernel
theorem hx_d_Model_put_9 : decode hx_c_Model_put 9 = .ok (.aload_n 0, 1) := by decide +kernel
theorem hx_d_Model_put_10 : decode hx_c_Model_put 10 = .ok (.getfield 57, 3) := by decide +kernel
theorem hx_d_Model_put_13 : decode hx_c_Model_put 13 = .ok (.if_icmp .eq 15, 3) := by decide +kernel
theorem hx_d_Model_put_16 : decode hx_c_Model_put 16 = .ok (.aload_n 0, 1) := by decide +kernel
theorem hx_d_Model_put_17 : decode hx_c_Model_put 17 = .ok (.getfield 7, 3) := by decide +kernel
theorem hx_d_Model_put_20 : decode hx_c_Model_put 20 = .ok (.iload 4, 2) := by decide +kernel
theorem hx_d_Model_put_22 : decode hx_c_Model_put 22 = .ok (.laload, 1) := by decide +kernel
theorem hx_d_Model_put_23 : decode hx_c_Model_put 23 = .ok (.lload_n 1, 1) := by decide +kernel
theorem hx_d_Model_put_24 : decode hx_c_Model_put 24 = .ok (.lcmp, 1) := by decide +kernel
theorem hx_d_Model_put_25 : decode hx_c_Model_put 25 = .ok (.ifCond .eq 72, 3) := by decide +kernel
theorem hx_d_Model_put_28 : decode hx_c_Model_put 28 = .ok (.aload_n 0, 1) := by decide +kernel
theorem hx_d_Model_put_29 : decode hx_c_Model_put 29 = .ok (.getfield 57, 3) := by decide +kernel
theorem hx_d_Model_put_32 : decode hx_c_Model_put 32 = .ok (.istore 5, 2) := by decide +kernel
theorem hx_d_Model_put_34 : decode hx_c_Model_put 34 = .ok (.iload 5, 2) := by decide +kernel
theorem hx_d_Model_put_36 : decode hx_c_Model_put 36 = .ok (.iload 4, 2) := by decide +kernel
theorem hx_d_Model_put_38 : decode hx_c_Model_put 38 = .ok (.if_icmp .le 41, 3) := by decide +kernel
theorem hx_d_Model_put_41 : decode hx_c_Model_put 41 = .ok (.aload_n 0, 1) := by decide +kernel
theorem hx_d_Model_put_42 : decode hx_c_Model_put 42 = .ok (.getfield 7, 3) := by decide +kernel
theorem hx_d_Model_put_45 : decode hx_c_Model_put 45 = .ok (.iload 5, 2) := by decide +kernel
theorem hx_d_Model_put_47 : decode hx_c_Model_put 47 = .ok (.aload_n 0, 1) := by decide +kernel
theorem hx_d_Model_put_48 : decode hx_c_Model_put 48 = .ok (.getfield 7, 3) := by decide +kernel
theorem hx_d_Model_put_51 : decode hx_c_Model_put 51 = .ok (.iload 5, 2) := by decide +kernel
theorem hx_d_Model_put_53 : decode hx_c_Model_put 53 = .ok (.iconst 1, 1) := by decide +kernel
theorem hx_d_Model_put_54 : decode hx_c_Model_put 54 = .ok (.isub, 1) := by decide +kernel
theorem hx_d_Model_put_55 : decode hx_c_Model_put 55 = .ok (.laload, 1) := by decide +kernel
theorem hx_d_Model_put_56 : decode hx_c_Model_put 56 = .ok (.lastore, 1) := by decide +kernel
theorem hx_d_Model_put_57 : decode hx_c_Model_put 57 = .ok (.aload_n 0, 1) := by decide +kernel
theorem hx_d_Model_put_58 : decode hx_c_Model_put 58 = .ok (.getfield 13, 3) := by decide +kernel
theorem hx_d_Model_put_61 : decode hx_c_Model_put 61 = .ok (.iload 5, 2) := by decide +kernel
theorem hx_d_Model_put_63 : decode hx_c_Model_put 63 = .ok (.aload_n 0, 1) := by decide +kernel
theorem hx_d_Model_put_64 : decode hx_c_Model_put 64 = .ok (.getfield 13, 3) := by decide +kernel
theorem hx_d_Model_put_67 : decode hx_c_Model_put 67 = .ok (.iload 5, 2) := by decide +kernel
theorem hx_d_Model_put_69 : decode hx_c_Model_put 69 = .ok (.iconst 1, 1) := by decide +kernel
theorem hx_d_Model_put_70 : decode hx_c_Model_put 70 = .ok (.isub, 1) := by decide +kernel
theorem hx_d_Model_put_71 : decode hx_c_Model_put 71 = .ok (.iaload, 1) := by decide +kernel
theorem hx_d_Model_put_72 : decode hx_c_Model_put 72 = .ok (.iastore, 1) := by decide +kernel
theorem hx_d_Model_put_73 : decode hx_c_Model_put 73 = .ok (.iinc 5 (-1), 3) := by decide +kernel
theorem hx_d_Model_put_76 : decode hx_c_Model_put 76 = .ok (.goto (-42), 3) := by decide +kernel
theorem hx_d_Model_put_79 : decode hx_c_Model_put 79 = .ok (.aload_n 0, 1) := by decide +kernel
theorem hx_d_Model_put_80 : decode hx_c_Model_put 80 = .ok (.getfield 7, 3) := by decide +kernel
theorem hx_d_Model_put_83 : decode hx_c_Model_put 83 = .ok (.iload 4, 2) := by decide +kernel
theorem hx_d_Model_put_85 : decode hx_c_Model_put 85 = .ok (.lload_n 1, 1) := by decide +kernel
theorem hx_d_Model_put_86 : decode hx_c_Model_put 86 = .ok (.lastore, 1) := by decide +kernel
theorem hx_d_Model_put_87 : decode hx_c_Model_put 87 = .ok (.aload_n 0, 1) := by decide +kernel
theorem hx_d_Model_put_88 : decode hx_c_Model_put 88 = .ok (.dup, 1) := by decide +kernel
theorem hx_d_Model_put_89 : decode hx_c_Model_put 89 = .ok (.getfield 57, 3) := by decide +kernel
theorem hx_d_Model_put_92 : decode hx_c_Model_put 92 = .ok (.iconst 1, 1) := by decide +kernel
theorem hx_d_Model_put_93 : decode hx_c_Model_put 93 = .ok (.iadd, 1) := by decide +kernel
theorem hx_d_Model_put_94 : decode hx_c_Model_put 94 = .ok (.putfield 57, 3) := by decide +kernel
theorem hx_d_Model_put_97 : decode hx_c_Model_put 97 = .ok (.aload_n 0, 1) := by decide +kernel
theorem hx_d_Model_put_98 : decode hx_c_Model_put 98 = .ok (.getfield 13, 3) := by decide +kernel
theorem hx_d_Model_put_101 : decode hx_c_Model_put 101 = .ok (.iload 4, 2) := by decide +kernel
theorem hx_d_Model_put_103 : decode hx_c_Model_put 103 = .ok (.iload_n 3, 1) := by decide +kernel
theorem hx_d_Model_put_104 : decode hx_c_Model_put 104 = .ok (.iastore, 1) := by decide +kernel
theorem hx_d_Model_put_105 : decode hx_c_Model_put 105 = .ok (.return_, 1) := by decide +kernel
theorem hx_d_Model_place_0 : decode hx_c_Model_place 0 = .ok (.aload_n 0, 1) := by decide +kernel
theorem hx_d_Model_place_1 : decode hx_c_Model_place 1 = .ok (.iconst 0, 1) := by decide +kernel
theorem hx_d_Model_place_2 : decode hx_c_Model_place 2 = .ok (.putfield 43, 3) := by decide +kernel
theorem hx_d_Model_place_5 : decode hx_c_Model_place 5 = .ok (.aload_n 0, 1) := by decide +kernel
theorem hx_d_Model_place_6 : decode hx_c_Model_place 6 = .ok (.getfield 21, 3) := by decide +kernel
theorem hx_d_Model_place_9 : decode hx_c_Model_place 9 = .ok (.ireturn, 1) := by decide +kernel
theorem hx_d_Model_set_0 : decode hx_c_Model_set 0 = .ok (.aload_n 0, 1) := by decide +kernel
theorem hx_d_Model_set_1 : decode hx_c_Model_set 1 = .ok (.iconst 0, 1) := by decide +kernel
theorem hx_d_Model_set_2 : decode hx_c_Model_set 2 = .ok (.putfield 43, 3) := by decide +kernel
theorem hx_d_Model_set_5 : decode hx_c_Model_set 5 = .ok (.iload_n 2, 1) := by decide +kernel
theorem hx_d_Model_set_6 : decode hx_c_Model_set 6 = .ok (.ifCond .lt 31, 3) := by decide +kernel
theorem hx_d_Model_set_9 : decode hx_c_Model_set 9 = .ok (.iload_n 2, 1) := by decide +kernel
theorem hx_d_Model_set_10 : decode hx_c_Model_set 10 = .ok (.sipush 255, 3) := by decide +kernel
theorem hx_d_Model_set_13 : decode hx_c_Model_set 13 = .ok (.if_icmp .gt 24, 3) := by decide +kernel
theorem hx_d_Model_set_16 : decode hx_c_Model_set 16 = .ok (.aload_n 0, 1) := by decide +kernel
theorem hx_d_Model_set_17 : decode hx_c_Model_set 17 = .ok (.getfield 57, 3) := by decide +kernel
theorem hx_d_Model_set_20 : decode hx_c_Model_set 20 = .ok (.sipush 3000, 3) := by decide +kernel
theorem hx_d_Model_set_23 : decode hx_c_Model_set 23 = .ok (.if_icmp .ne 16, 3) := by decide +kernel
theorem hx_d_Model_set_26 : decode hx_c_Model_set 26 = .ok (.aload_n 0, 1) := by decide +kernel
theorem hx_d_Model_set_27 : decode hx_c_Model_set 27 = .ok (.iload_n 1, 1) := by decide +kernel
theorem hx_d_Model_set_28 : decode hx_c_Model_set 28 = .ok (.invokestatic 151, 3) := by decide +kernel
theorem hx_d_Model_set_31 : decode hx_c_Model_set 31 = .ok (.invokevirtual 64, 3) := by decide +kernel
theorem hx_d_Model_set_34 : decode hx_c_Model_set 34 = .ok (.ifCond .ne 5, 3) := by decide +kernel
theorem hx_d_Model_set_37 : decode hx_c_Model_set 37 = .ok (.iconst 0, 1) := by decide +kernel
theorem hx_d_Model_set_38 : decode hx_c_Model_set 38 = .ok (.ireturn, 1) := by decide +kernel
theorem hx_d_Model_set_39 : decode hx_c_Model_set 39 = .ok (.aload_n 0, 1) := by decide +kernel
theorem hx_d_Model_set_40 : decode hx_c_Model_set 40 = .ok (.iload_n 1, 1) := by decide +kernel
theorem hx_d_Model_set_41 : decode hx_c_Model_set 41 = .ok (.invokestatic 151, 3) := by decide +kernel
theorem hx_d_Model_set_44 : decode hx_c_Model_set 44 = .ok (.iload_n 2, 1) := by decide +kernel
theorem hx_d_Model_set_45 : decode hx_c_Model_set 45 = .ok (.invokevirtual 142, 3) := by decide +kernel
theorem hx_d_Model_set_48 : decode hx_c_Model_set 48 = .ok (.iconst 1, 1) := by decide +kernel
theorem hx_d_Model_set_49 : decode hx_c_Model_set 49 = .ok (.ireturn, 1) := by decide +kernel
theorem hx_d_Model_unsigned_0 : decode hx_c_Model_unsigned 0 = .ok (.iload_n 0, 1) := by decide +kernel
theorem hx_d_Model_unsigned_1 : decode hx_c_Model_unsigned 1 = .ok (.ifCond .ge 12, 3) := by decide +kernel
theorem hx_d_Model_unsigned_4 : decode hx_c_Model_unsigned 4 = .ok (.iload_n 0, 1) := by decide +kernel
theorem hx_d_Model_unsigned_5 : decode hx_c_Model_unsigned 5 = .ok (.i2l, 1) := by decide +kernel
theorem hx_d_Model_unsigned_6 : decode hx_c_Model_unsigned 6 = .ok (.ldc2_w 46, 3) := by decide +kernel
theorem hx_d_Model_unsigned_9 : decode hx_c_Model_unsigned 9 = .ok (.ladd, 1) := by decide +kernel
theorem hx_d_Model_unsigned_10 : decode hx_c_Model_unsigned 10 = .ok (.goto 5, 3) := by decide +kernel
theorem hx_d_Model_unsigned_13 : decode hx_c_Model_unsigned 13 = .ok (.iload_n 0, 1) := by decide +kernel
theorem hx_d_Model_unsigned_14 : decode hx_c_Model_unsigned 14 = .ok (.i2l, 1) := by decide +kernel
theorem hx_d_Model_unsigned_15 : decode hx_c_Model_unsigned 15 = .ok (.lreturn, 1) := by decide +kernel
theorem hx_d_Model_drop_0 : decode hx_c_Model_drop 0 = .ok (.aload_n 0, 1) := by decide +kernel
theorem hx_d_Model_drop_1 : decode hx_c_Model_drop 1 = .ok (.iconst 0, 1) := by decide +kernel
theorem hx_d_Model_drop_2 : decode hx_c_Model_drop 2 = .ok (.putfield 43, 3) := by decide +kernel
theorem hx_d_Model_drop_5 : decode hx_c_Model_drop 5 = .ok (.aload_n 0, 1) := by decide +kernel
theorem hx_d_Model_drop_6 : decode hx_c_Model_drop 6 = .ok (.iload_n 1, 1) := by decide +kernel
theorem hx_d_Model_drop_7 : decode hx_c_Model_drop 7 = .ok (.invokestatic 151, 3) := by decide +kernel
theorem hx_d_Model_drop_10 : decode hx_c_Model_drop 10 = .ok (.invokevirtual 155, 3) := by decide +kernel
theorem hx_d_Model_drop_13 : decode hx_c_Model_drop 13 = .ok (.istore_n 2, 1) := by decide +kernel
theorem hx_d_Model_drop_14 : decode hx_c_Model_drop 14 = .ok (.aload_n 0, 1) := by decide +kernel
theorem hx_d_Model_drop_15 : decode hx_c_Model_drop 15 = .ok (.iload_n 1, 1) := by decide +kernel
theorem hx_d_Model_drop_16 : decode hx_c_Model_drop 16 = .ok (.invokestatic 151, 3) := by decide +kernel
theorem hx_d_Model_drop_19 : decode hx_c_Model_drop 19 = .ok (.invokevirtual 158, 3) := by decide +kernel
theorem hx_d_Model_drop_22 : decode hx_c_Model_drop 22 = .ok (.iload_n 2, 1) := by decide +kernel
theorem hx_d_Model_drop_23 : decode hx_c_Model_drop 23 = .ok (.ireturn, 1) := by decide +kernel
theorem hx_d_Model_valueAt_0 : decode hx_c_Model_valueAt 0 = .ok (.aload_n 0, 1) := by decide +kernel
theorem hx_d_Model_valueAt_1 : decode hx_c_Model_valueAt 1 = .ok (.lload_n 1, 1) := by decide +kernel
theorem hx_d_Model_valueAt_2 : decode hx_c_Model_valueAt 2 = .ok (.invokevirtual 64, 3) := by decide +kernel
theorem hx_d_Model_valueAt_5 : decode hx_c_Model_valueAt 5 = .ok (.ifCond .eq 16, 3) := by decide +kernel
theorem hx_d_Model_valueAt_8 : decode hx_c_Model_valueAt 8 = .ok (.aload_n 0, 1) := by decide +kernel
theorem hx_d_Model_valueAt_9 : decode hx_c_Model_valueAt 9 = .ok (.getfield 13, 3) := by decide +kernel
theorem hx_d_Model_valueAt_12 : decode hx_c_Model_valueAt 12 = .ok (.aload_n 0, 1) := by decide +kernel
theorem hx_d_Model_valueAt_13 : decode hx_c_Model_valueAt 13 = .ok (.lload_n 1, 1) := by decide +kernel
theorem hx_d_Model_valueAt_14 : decode hx_c_Model_valueAt 14 = .ok (.invokevirtual 60, 3) := by decide +kernel
theorem hx_d_Model_valueAt_17 : decode hx_c_Model_valueAt 17 = .ok (.iaload, 1) := by decide +kernel
theorem hx_d_Model_valueAt_18 : decode hx_c_Model_valueAt 18 = .ok (.goto 4, 3) := by decide +kernel
theorem hx_d_Model_valueAt_21 : decode hx_c_Model_valueAt 21 = .ok (.iconst (-1), 1) := by decide +kernel
theorem hx_d_Model_valueAt_22 : decode hx_c_Model_valueAt 22 = .ok (.ireturn, 1) := by decide +kernel
theorem hx_d_Model_remove_0 : decode hx_c_Model_remove 0 = .ok (.aload_n 0, 1) := by decide +kernel
theorem hx_d_Model_remove_1 : decode hx_c_Model_remove 1 = .ok (.lload_n 1, 1) := by decide +kernel
theorem hx_d_Model_remove_2 : decode hx_c_Model_remove 2 = .ok (.invokevirtual 64, 3) := by decide +kernel
theorem hx_d_Model_remove_5 : decode hx_c_Model_remove 5 = .ok (.ifCond .ne 4, 3) := by decide +kernel
theorem hx_d_Model_remove_8 : decode hx_c_Model_remove 8 = .ok (.return_, 1) := by decide +kernel
theorem hx_d_Model_remove_9 : decode hx_c_Model_remove 9 = .ok (.aload_n 0, 1) := by decide +kernel
theorem hx_d_Model_remove_10 : decode hx_c_Model_remove 10 = .ok (.dup, 1) := by decide +kernel
theorem hx_d_Model_remove_11 : decode hx_c_Model_remove 11 = .ok (.getfield 57, 3) := by decide +kernel
theorem hx_d_Model_remove_14 : decode hx_c_Model_remove 14 = .ok (.iconst 1, 1) := by decide +kernel
theorem hx_d_Model_remove_15 : decode hx_c_Model_remove 15 = .ok (.isub, 1) := by decide +kernel
theorem hx_d_Model_remove_16 : decode hx_c_Model_remove 16 = .ok (.putfield 57, 3) := by decide +kernel
theorem hx_d_Model_remove_19 : decode hx_c_Model_remove 19 = .ok (.aload_n 0, 1) := by decide +kernel
theorem hx_d_Model_remove_20 : decode hx_c_Model_remove 20 = .ok (.lload_n 1, 1) := by decide +kernel
theorem hx_d_Model_remove_21 : decode hx_c_Model_remove 21 = .ok (.invokevirtual 60, 3) := by decide +kernel
theorem hx_d_Model_remove_24 : decode hx_c_Model_remove 24 = .ok (.istore_n 3, 1) := by decide +kernel
theorem hx_d_Model_remove_25 : decode hx_c_Model_remove 25 = .ok (.iload_n 3, 1) := by decide +kernel
theorem hx_d_Model_remove_26 : decode hx_c_Model_remove 26 = .ok (.aload_n 0, 1) := by decide +kernel
theorem hx_d_Model_remove_27 : decode hx_c_Model_remove 27 = .ok (.getfield 57, 3) := by decide +kernel
theorem hx_d_Model_remove_30 : decode hx_c_Model_remove 30 = .ok (.if_icmp .ge 37, 3) := by decide +kernel
theorem hx_d_Model_remove_33 : decode hx_c_Model_remove 33 = .ok (.aload_n 0, 1) := by decide +kernel
theorem hx_d_Model_remove_34 : decode hx_c_Model_remove 34 = .ok (.getfield 7, 3) := by decide +kernel
theorem hx_d_Model_remove_37 : decode hx_c_Model_remove 37 = .ok (.iload_n 3, 1) := by decide +kernel
theorem hx_d_Model_remove_38 : decode hx_c_Model_remove 38 = .ok (.aload_n 0, 1) := by decide +kernel
theorem hx_d_Model_remove_39 : decode hx_c_Model_remove 39 = .ok (.getfield 7, 3) := by decide +kernel
theorem hx_d_Model_remove_42 : decode hx_c_Model_remove 42 = .ok (.iload_n 3, 1) := by decide +kernel
theorem hx_d_Model_remove_43 : decode hx_c_Model_remove 43 = .ok (.iconst 1, 1) := by decide +kernel
theorem hx_d_Model_remove_44 : decode hx_c_Model_remove 44 = .ok (.iadd, 1) := by decide +kernel
theorem hx_d_Model_remove_45 : decode hx_c_Model_remove 45 = .ok (.laload, 1) := by decide +kernel
theorem hx_d_Model_remove_46 : decode hx_c_Model_remove 46 = .ok (.lastore, 1) := by decide +kernel
theorem hx_d_Model_remove_47 : decode hx_c_Model_remove 47 = .ok (.aload_n 0, 1) := by decide +kernel
theorem hx_d_Model_remove_48 : decode hx_c_Model_remove 48 = .ok (.getfield 13, 3) := by decide +kernel
theorem hx_d_Model_remove_51 : decode hx_c_Model_remove 51 = .ok (.iload_n 3, 1) := by decide +kernel
theorem hx_d_Model_remove_52 : decode hx_c_Model_remove 52 = .ok (.aload_n 0, 1) := by decide +kernel
theorem hx_d_Model_remove_53 : decode hx_c_Model_remove 53 = .ok (.getfield 13, 3) := by decide +kernel
theorem hx_d_Model_remove_56 : decode hx_c_Model_remove 56 = .ok (.iload_n 3, 1) := by decide +kernel
theorem hx_d_Model_remove_57 : decode hx_c_Model_remove 57 = .ok (.iconst 1, 1) := by decide +kernel
theorem hx_d_Model_remove_58 : decode hx_c_Model_remove 58 = .ok (.iadd, 1) := by decide +kernel
theorem hx_d_Model_remove_59 : decode hx_c_Model_remove 59 = .ok (.iaload, 1) := by decide +kernel
theorem hx_d_Model_remove_60 : decode hx_c_Model_remove 60 = .ok (.iastore, 1) := by decide +kernel
theorem hx_d_Model_remove_61 : decode hx_c_Model_remove 61 = .ok (.iinc 3 1, 3) := by decide +kernel
theorem hx_d_Model_remove_64 : decode hx_c_Model_remove 64 = .ok (.goto (-39), 3) := by decide +kernel
theorem hx_d_Model_remove_67 : decode hx_c_Model_remove 67 = .ok (.return_, 1) := by decide +kernel
theorem hx_d_Model_get_0 : decode hx_c_Model_get 0 = .ok (.aload_n 0, 1) := by decide +kernel
theorem hx_d_Model_get_1 : decode hx_c_Model_get 1 = .ok (.iconst 0, 1) := by decide +kernel
theorem hx_d_Model_get_2 : decode hx_c_Model_get 2 = .ok (.putfield 43, 3) := by decide +kernel
theorem hx_d_Model_get_5 : decode hx_c_Model_get 5 = .ok (.aload_n 0, 1) := by decide +kernel
theorem hx_d_Model_get_6 : decode hx_c_Model_get 6 = .ok (.iload_n 1, 1) := by decide +kernel
theorem hx_d_Model_get_7 : decode hx_c_Model_get 7 = .ok (.invokestatic 151, 3) := by decide +kernel
theorem hx_d_Model_get_10 : decode hx_c_Model_get 10 = .ok (.invokevirtual 155, 3) := by decide +kernel
theorem hx_d_Model_get_13 : decode hx_c_Model_get 13 = .ok (.ireturn, 1) := by decide +kernel
theorem hx_d_Model_fill_0 : decode hx_c_Model_fill 0 = .ok (.aload_n 0, 1) := by decide +kernel
theorem hx_d_Model_fill_1 : decode hx_c_Model_fill 1 = .ok (.iconst 0, 1) := by decide +kernel
theorem hx_d_Model_fill_2 : decode hx_c_Model_fill 2 = .ok (.putfield 43, 3) := by decide +kernel
theorem hx_d_Model_fill_5 : decode hx_c_Model_fill 5 = .ok (.iload_n 1, 1) := by decide +kernel
theorem hx_d_Model_fill_6 : decode hx_c_Model_fill 6 = .ok (.iload_n 2, 1) := by decide +kernel
theorem hx_d_Model_fill_7 : decode hx_c_Model_fill 7 = .ok (.invokestatic 162, 3) := by decide +kernel
theorem hx_d_Model_fill_10 : decode hx_c_Model_fill 10 = .ok (.ifCond .eq 33, 3) := by decide +kernel
theorem hx_d_Model_fill_13 : decode hx_c_Model_fill 13 = .ok (.iload_n 3, 1) := by decide +kernel
theorem hx_d_Model_fill_14 : decode hx_c_Model_fill 14 = .ok (.ifCond .lt 29, 3) := by decide +kernel
theorem hx_d_Model_fill_17 : decode hx_c_Model_fill 17 = .ok (.iload_n 3, 1) := by decide +kernel
theorem hx_d_Model_fill_18 : decode hx_c_Model_fill 18 = .ok (.sipush 255, 3) := by decide +kernel
theorem hx_d_Model_fill_21 : decode hx_c_Model_fill 21 = .ok (.if_icmp .gt 22, 3) := by decide +kernel
theorem hx_d_Model_fill_24 : decode hx_c_Model_fill 24 = .ok (.aload_n 0, 1) := by decide +kernel
theorem hx_d_Model_fill_25 : decode hx_c_Model_fill 25 = .ok (.getfield 57, 3) := by decide +kernel
theorem hx_d_Model_fill_28 : decode hx_c_Model_fill 28 = .ok (.iload_n 2, 1) := by decide +kernel
theorem hx_d_Model_fill_29 : decode hx_c_Model_fill 29 = .ok (.iadd, 1) := by decide +kernel
theorem hx_d_Model_fill_30 : decode hx_c_Model_fill 30 = .ok (.aload_n 0, 1) := by decide +kernel
theorem hx_d_Model_fill_31 : decode hx_c_Model_fill 31 = .ok (.iload_n 1, 1) := by decide +kernel
theorem hx_d_Model_fill_32 : decode hx_c_Model_fill 32 = .ok (.iload_n 2, 1) := by decide +kernel
theorem hx_d_Model_fill_33 : decode hx_c_Model_fill 33 = .ok (.invokevirtual 166, 3) := by decide +kernel
theorem hx_d_Model_fill_36 : decode hx_c_Model_fill 36 = .ok (.isub, 1) := by decide +kernel
theorem hx_d_Model_fill_37 : decode hx_c_Model_fill 37 = .ok (.sipush 3000, 3) := by decide +kernel
theorem hx_d_Model_fill_40 : decode hx_c_Model_fill 40 = .ok (.if_icmp .le 5, 3) := by decide +kernel
theorem hx_d_Model_fill_43 : decode hx_c_Model_fill 43 = .ok (.iconst 0, 1) := by decide +kernel
theorem hx_d_Model_fill_44 : decode hx_c_Model_fill 44 = .ok (.ireturn, 1) := by decide +kernel
theorem hx_d_Model_fill_45 : decode hx_c_Model_fill 45 = .ok (.iconst 0, 1) := by decide +kernel
theorem hx_d_Model_fill_46 : decode hx_c_Model_fill 46 = .ok (.istore 4, 2) := by decide +kernel
theorem hx_d_Model_fill_48 : decode hx_c_Model_fill 48 = .ok (.iload 4, 2) := by decide +kernel
theorem hx_d_Model_fill_50 : decode hx_c_Model_fill 50 = .ok (.iload_n 2, 1) := by decide +kernel
theorem hx_d_Model_fill_51 : decode hx_c_Model_fill 51 = .ok (.if_icmp .ge 22, 3) := by decide +kernel
theorem hx_d_Model_fill_54 : decode hx_c_Model_fill 54 = .ok (.aload_n 0, 1) := by decide +kernel
theorem hx_d_Model_fill_55 : decode hx_c_Model_fill 55 = .ok (.iload_n 1, 1) := by decide +kernel
theorem hx_d_Model_fill_56 : decode hx_c_Model_fill 56 = .ok (.invokestatic 151, 3) := by decide +kernel
theorem hx_d_Model_fill_59 : decode hx_c_Model_fill 59 = .ok (.iload 4, 2) := by decide +kernel
theorem hx_d_Model_fill_61 : decode hx_c_Model_fill 61 = .ok (.i2l, 1) := by decide +kernel
theorem hx_d_Model_fill_62 : decode hx_c_Model_fill 62 = .ok (.ladd, 1) := by decide +kernel
theorem hx_d_Model_fill_63 : decode hx_c_Model_fill 63 = .ok (.iload_n 3, 1) := by decide +kernel
theorem hx_d_Model_fill_64 : decode hx_c_Model_fill 64 = .ok (.invokevirtual 142, 3) := by decide +kernel
theorem hx_d_Model_fill_67 : decode hx_c_Model_fill 67 = .ok (.iinc 4 1, 3) := by decide +kernel
theorem hx_d_Model_fill_70 : decode hx_c_Model_fill 70 = .ok (.goto (-22), 3) := by decide +kernel
theorem hx_d_Model_fill_73 : decode hx_c_Model_fill 73 = .ok (.iconst 1, 1) := by decide +kernel
theorem hx_d_Model_fill_74 : decode hx_c_Model_fill 74 = .ok (.ireturn, 1) := by decide +kernel
theorem hx_d_Model_isRange_0 : decode hx_c_Model_isRange 0 = .ok (.iload_n 1, 1) := by decide +kernel
theorem hx_d_Model_isRange_1 : decode hx_c_Model_isRange 1 = .ok (.iconst 1, 1) := by decide +kernel
theorem hx_d_Model_isRange_2 : decode hx_c_Model_isRange 2 = .ok (.if_icmp .lt 28, 3) := by decide +kernel
theorem hx_d_Model_isRange_5 : decode hx_c_Model_isRange 5 = .ok (.iload_n 1, 1) := by decide +kernel
theorem hx_d_Model_isRange_6 : decode hx_c_Model_isRange 6 = .ok (.sipush 256, 3) := by decide +kernel
theorem hx_d_Model_isRange_9 : decode hx_c_Model_isRange 9 = .ok (.if_icmp .gt 21, 3) := by decide +kernel
theorem hx_d_Model_isRange_12 : decode hx_c_Model_isRange 12 = .ok (.iload_n 0, 1) := by decide +kernel
theorem hx_d_Model_isRange_13 : decode hx_c_Model_isRange 13 = .ok (.invokestatic 151, 3) := by decide +kernel
theorem hx_d_Model_isRange_16 : decode hx_c_Model_isRange 16 = .ok (.iload_n 1, 1) := by decide +kernel
theorem hx_d_Model_isRange_17 : decode hx_c_Model_isRange 17 = .ok (.i2l, 1) := by decide +kernel
theorem hx_d_Model_isRange_18 : decode hx_c_Model_isRange 18 = .ok (.ladd, 1) := by decide +kernel
theorem hx_d_Model_isRange_19 : decode hx_c_Model_isRange 19 = .ok (.ldc2_w 46, 3) := by decide +kernel
theorem hx_d_Model_isRange_22 : decode hx_c_Model_isRange 22 = .ok (.lcmp, 1) := by decide +kernel
theorem hx_d_Model_isRange_23 : decode hx_c_Model_isRange 23 = .ok (.ifCond .gt 7, 3) := by decide +kernel
theorem hx_d_Model_isRange_26 : decode hx_c_Model_isRange 26 = .ok (.iconst 1, 1) := by decide +kernel
theorem hx_d_Model_isRange_27 : decode hx_c_Model_isRange 27 = .ok (.goto 4, 3) := by decide +kernel
theorem hx_d_Model_isRange_30 : decode hx_c_Model_isRange 30 = .ok (.iconst 0, 1) := by decide +kernel
theorem hx_d_Model_isRange_31 : decode hx_c_Model_isRange 31 = .ok (.ireturn, 1) := by decide +kernel
theorem hx_d_Model_countIn_0 : decode hx_c_Model_countIn 0 = .ok (.iconst 0, 1) := by decide +kernel
theorem hx_d_Model_countIn_1 : decode hx_c_Model_countIn 1 = .ok (.istore_n 3, 1) := by decide +kernel
theorem hx_d_Model_countIn_2 : decode hx_c_Model_countIn 2 = .ok (.iconst 0, 1) := by decide +kernel
theorem hx_d_Model_countIn_3 : decode hx_c_Model_countIn 3 = .ok (.istore 4, 2) := by decide +kernel
theorem hx_d_Model_countIn_5 : decode hx_c_Model_countIn 5 = .ok (.iload 4, 2) := by decide +kernel
theorem hx_d_Model_countIn_7 : decode hx_c_Model_countIn 7 = .ok (.aload_n 0, 1) := by decide +kernel
theorem hx_d_Model_countIn_8 : decode hx_c_Model_countIn 8 = .ok (.getfield 57, 3) := by decide +kernel
theorem hx_d_Model_countIn_11 : decode hx_c_Model_countIn 11 = .ok (.if_icmp .ge 50, 3) := by decide +kernel
theorem hx_d_Model_countIn_14 : decode hx_c_Model_countIn 14 = .ok (.aload_n 0, 1) := by decide +kernel
theorem hx_d_Model_countIn_15 : decode hx_c_Model_countIn 15 = .ok (.getfield 7, 3) := by decide +kernel
theorem hx_d_Model_countIn_18 : decode hx_c_Model_countIn 18 = .ok (.iload 4, 2) := by decide +kernel
theorem hx_d_Model_countIn_20 : decode hx_c_Model_countIn 20 = .ok (.laload, 1) := by decide +kernel
theorem hx_d_Model_countIn_21 : decode hx_c_Model_countIn 21 = .ok (.iload_n 1, 1) := by decide +kernel
theorem hx_d_Model_countIn_22 : decode hx_c_Model_countIn 22 = .ok (.invokestatic 151, 3) := by decide +kernel
theorem hx_d_Model_countIn_25 : decode hx_c_Model_countIn 25 = .ok (.lcmp, 1) := by decide +kernel
theorem hx_d_Model_countIn_26 : decode hx_c_Model_countIn 26 = .ok (.ifCond .lt 27, 3) := by decide +kernel
theorem hx_d_Model_countIn_29 : decode hx_c_Model_countIn 29 = .ok (.aload_n 0, 1) := by decide +kernel
theorem hx_d_Model_countIn_30 : decode hx_c_Model_countIn 30 = .ok (.getfield 7, 3) := by decide +kernel
theorem hx_d_Model_countIn_33 : decode hx_c_Model_countIn 33 = .ok (.iload 4, 2) := by decide +kernel
theorem hx_d_Model_countIn_35 : decode hx_c_Model_countIn 35 = .ok (.laload, 1) := by decide +kernel
theorem hx_d_Model_countIn_36 : decode hx_c_Model_countIn 36 = .ok (.iload_n 1, 1) := by decide +kernel
theorem hx_d_Model_countIn_37 : decode hx_c_Model_countIn 37 = .ok (.invokestatic 151, 3) := by decide +kernel
theorem hx_d_Model_countIn_40 : decode hx_c_Model_countIn 40 = .ok (.iload_n 2, 1) := by decide +kernel
theorem hx_d_Model_countIn_41 : decode hx_c_Model_countIn 41 = .ok (.i2l, 1) := by decide +kernel
theorem hx_d_Model_countIn_42 : decode hx_c_Model_countIn 42 = .ok (.ladd, 1) := by decide +kernel
theorem hx_d_Model_countIn_43 : decode hx_c_Model_countIn 43 = .ok (.lcmp, 1) := by decide +kernel
theorem hx_d_Model_countIn_44 : decode hx_c_Model_countIn 44 = .ok (.ifCond .ge 9, 3) := by decide +kernel
theorem hx_d_Model_countIn_47 : decode hx_c_Model_countIn 47 = .ok (.iload_n 3, 1) := by decide +kernel
theorem hx_d_Model_countIn_48 : decode hx_c_Model_countIn 48 = .ok (.iconst 1, 1) := by decide +kernel
theorem hx_d_Model_countIn_49 : decode hx_c_Model_countIn 49 = .ok (.iadd, 1) := by decide +kernel
theorem hx_d_Model_countIn_50 : decode hx_c_Model_countIn 50 = .ok (.goto 4, 3) := by decide +kernel
theorem hx_d_Model_countIn_53 : decode hx_c_Model_countIn 53 = .ok (.iload_n 3, 1) := by decide +kernel
theorem hx_d_Model_countIn_54 : decode hx_c_Model_countIn 54 = .ok (.istore_n 3, 1) := by decide +kernel
theorem hx_d_Model_countIn_55 : decode hx_c_Model_countIn 55 = .ok (.iinc 4 1, 3) := by decide +kernel
theorem hx_d_Model_countIn_58 : decode hx_c_Model_countIn 58 = .ok (.goto (-53), 3) := by decide +kernel
theorem hx_d_Model_countIn_61 : decode hx_c_Model_countIn 61 = .ok (.iload_n 3, 1) := by decide +kernel
theorem hx_d_Model_countIn_62 : decode hx_c_Model_countIn 62 = .ok (.ireturn, 1) := by decide +kernel
theorem hx_d_Model_copy_0 : decode hx_c_Model_copy 0 = .ok (.aload_n 0, 1) := by decide +kernel
theorem hx_d_Model_copy_1 : decode hx_c_Model_copy 1 = .ok (.iconst 0, 1) := by decide +kernel
theorem hx_d_Model_copy_2 : decode hx_c_Model_copy 2 = .ok (.putfield 43, 3) := by decide +kernel
theorem hx_d_Model_copy_5 : decode hx_c_Model_copy 5 = .ok (.iload_n 1, 1) := by decide +kernel
theorem hx_d_Model_copy_6 : decode hx_c_Model_copy 6 = .ok (.iload_n 2, 1) := by decide +kernel
theorem hx_d_Model_copy_7 : decode hx_c_Model_copy 7 = .ok (.invokestatic 162, 3) := by decide +kernel
theorem hx_d_Model_copy_10 : decode hx_c_Model_copy 10 = .ok (.ifCond .eq 35, 3) := by decide +kernel
theorem hx_d_Model_copy_13 : decode hx_c_Model_copy 13 = .ok (.iload_n 3, 1) := by decide +kernel
theorem hx_d_Model_copy_14 : decode hx_c_Model_copy 14 = .ok (.iload_n 2, 1) := by decide +kernel
theorem hx_d_Model_copy_15 : decode hx_c_Model_copy 15 = .ok (.invokestatic 162, 3) := by decide +kernel
theorem hx_d_Model_copy_18 : decode hx_c_Model_copy 18 = .ok (.ifCond .eq 27, 3) := by decide +kernel
theorem hx_d_Model_copy_21 : decode hx_c_Model_copy 21 = .ok (.aload_n 0, 1) := by decide +kernel
theorem hx_d_Model_copy_22 : decode hx_c_Model_copy 22 = .ok (.getfield 57, 3) := by decide +kernel
theorem hx_d_Model_copy_25 : decode hx_c_Model_copy 25 = .ok (.aload_n 0, 1) := by decide +kernel
theorem hx_d_Model_copy_26 : decode hx_c_Model_copy 26 = .ok (.iload_n 1, 1) := by decide +kernel
theorem hx_d_Model_copy_27 : decode hx_c_Model_copy 27 = .ok (.iload_n 2, 1) := by decide +kernel
theorem hx_d_Model_copy_28 : decode hx_c_Model_copy 28 = .ok (.invokevirtual 166, 3) := by decide +kernel
theorem hx_d_Model_copy_31 : decode hx_c_Model_copy 31 = .ok (.iadd, 1) := by decide +kernel
theorem hx_d_Model_copy_32 : decode hx_c_Model_copy 32 = .ok (.aload_n 0, 1) := by decide +kernel
theorem hx_d_Model_copy_33 : decode hx_c_Model_copy 33 = .ok (.iload_n 3, 1) := by decide +kernel
theorem hx_d_Model_copy_34 : decode hx_c_Model_copy 34 = .ok (.iload_n 2, 1) := by decide +kernel
theorem hx_d_Model_copy_35 : decode hx_c_Model_copy 35 = .ok (.invokevirtual 166, 3) := by decide +kernel
theorem hx_d_Model_copy_38 : decode hx_c_Model_copy 38 = .ok (.isub, 1) := by decide +kernel
theorem hx_d_Model_copy_39 : decode hx_c_Model_copy 39 = .ok (.sipush 3000, 3) := by decide +kernel
theorem hx_d_Model_copy_42 : decode hx_c_Model_copy 42 = .ok (.if_icmp .le 5, 3) := by decide +kernel
theorem hx_d_Model_copy_45 : decode hx_c_Model_copy 45 = .ok (.iconst 0, 1) := by decide +kernel
theorem hx_d_Model_copy_46 : decode hx_c_Model_copy 46 = .ok (.ireturn, 1) := by decide +kernel
theorem hx_d_Model_copy_47 : decode hx_c_Model_copy 47 = .ok (.iconst 0, 1) := by decide +kernel
theorem hx_d_Model_copy_48 : decode hx_c_Model_copy 48 = .ok (.istore 4, 2) := by decide +kernel
theorem hx_d_Model_copy_50 : decode hx_c_Model_copy 50 = .ok (.iload 4, 2) := by decide +kernel
theorem hx_d_Model_copy_52 : decode hx_c_Model_copy 52 = .ok (.iload_n 2, 1) := by decide +kernel
theorem hx_d_Model_copy_53 : decode hx_c_Model_copy 53 = .ok (.if_icmp .ge 28, 3) := by decide +kernel
theorem hx_d_Model_copy_56 : decode hx_c_Model_copy 56 = .ok (.aload_n 0, 1) := by decide +kernel
theorem hx_d_Model_copy_57 : decode hx_c_Model_copy 57 = .ok (.getfield 34, 3) := by decide +kernel
theorem hx_d_Model_copy_60 : decode hx_c_Model_copy 60 = .ok (.iload 4, 2) := by decide +kernel
theorem hx_d_Model_copy_62 : decode hx_c_Model_copy 62 = .ok (.aload_n 0, 1) := by decide +kernel
theorem hx_d_Model_copy_63 : decode hx_c_Model_copy 63 = .ok (.iload_n 1, 1) := by decide +kernel
theorem hx_d_Model_copy_64 : decode hx_c_Model_copy 64 = .ok (.invokestatic 151, 3) := by decide +kernel
theorem hx_d_Model_copy_67 : decode hx_c_Model_copy 67 = .ok (.iload 4, 2) := by decide +kernel
theorem hx_d_Model_copy_69 : decode hx_c_Model_copy 69 = .ok (.i2l, 1) := by decide +kernel
theorem hx_d_Model_copy_70 : decode hx_c_Model_copy 70 = .ok (.ladd, 1) := by decide +kernel
theorem hx_d_Model_copy_71 : decode hx_c_Model_copy 71 = .ok (.invokevirtual 155, 3) := by decide +kernel
theorem hx_d_Model_copy_74 : decode hx_c_Model_copy 74 = .ok (.iastore, 1) := by decide +kernel
theorem hx_d_Model_copy_75 : decode hx_c_Model_copy 75 = .ok (.iinc 4 1, 3) := by decide +kernel
theorem hx_d_Model_copy_78 : decode hx_c_Model_copy 78 = .ok (.goto (-28), 3) := by decide +kernel
theorem hx_d_Model_copy_81 : decode hx_c_Model_copy 81 = .ok (.iconst 0, 1) := by decide +kernel
theorem hx_d_Model_copy_82 : decode hx_c_Model_copy 82 = .ok (.istore 4, 2) := by decide +kernel
theorem hx_d_Model_copy_84 : decode hx_c_Model_copy 84 = .ok (.iload 4, 2) := by decide +kernel
theorem hx_d_Model_copy_86 : decode hx_c_Model_copy 86 = .ok (.iload_n 2, 1) := by decide +kernel
theorem hx_d_Model_copy_87 : decode hx_c_Model_copy 87 = .ok (.if_icmp .ge 21, 3) := by decide +kernel
theorem hx_d_Model_copy_90 : decode hx_c_Model_copy 90 = .ok (.aload_n 0, 1) := by decide +kernel
