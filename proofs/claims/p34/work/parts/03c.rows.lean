theorem dX5_play_52 : decode cX5_play 52 = .ok (.getfield 13, 3) := by decide +kernel
theorem dX5_play_55 : decode cX5_play 55 = .ok (.iload 5, 2) := by decide +kernel
theorem dX5_play_57 : decode cX5_play 57 = .ok (.dup2, 1) := by decide +kernel
theorem dX5_play_58 : decode cX5_play 58 = .ok (.iaload, 1) := by decide +kernel
theorem dX5_play_59 : decode cX5_play 59 = .ok (.iconst 1, 1) := by decide +kernel
theorem dX5_play_60 : decode cX5_play 60 = .ok (.iadd, 1) := by decide +kernel
theorem dX5_play_61 : decode cX5_play 61 = .ok (.iastore, 1) := by decide +kernel
theorem dX5_play_62 : decode cX5_play 62 = .ok (.iinc 5 1, 3) := by decide +kernel
theorem dX5_play_65 : decode cX5_play 65 = .ok (.goto (-38), 3) := by decide +kernel
theorem dX5_play_68 : decode cX5_play 68 = .ok (.aload_n 0, 1) := by decide +kernel
theorem dX5_play_69 : decode cX5_play 69 = .ok (.aload_n 3, 1) := by decide +kernel
theorem dX5_play_70 : decode cX5_play 70 = .ok (.putfield 7, 3) := by decide +kernel
theorem dX5_play_73 : decode cX5_play 73 = .ok (.iconst 0, 1) := by decide +kernel
theorem dX5_play_74 : decode cX5_play 74 = .ok (.istore 5, 2) := by decide +kernel
theorem dX5_play_76 : decode cX5_play 76 = .ok (.iload 5, 2) := by decide +kernel
theorem dX5_play_78 : decode cX5_play 78 = .ok (.iconst 5, 1) := by decide +kernel
theorem dX5_play_79 : decode cX5_play 79 = .ok (.if_icmp .ge 49, 3) := by decide +kernel
theorem dX5_play_82 : decode cX5_play 82 = .ok (.aload_n 0, 1) := by decide +kernel
theorem dX5_play_83 : decode cX5_play 83 = .ok (.getfield 17, 3) := by decide +kernel
theorem dX5_play_86 : decode cX5_play 86 = .ok (.iload 5, 2) := by decide +kernel
theorem dX5_play_88 : decode cX5_play 88 = .ok (.iload 5, 2) := by decide +kernel
theorem dX5_play_90 : decode cX5_play 90 = .ok (.iload_n 1, 1) := by decide +kernel
theorem dX5_play_91 : decode cX5_play 91 = .ok (.if_icmp .ne 7, 3) := by decide +kernel
theorem dX5_play_94 : decode cX5_play 94 = .ok (.iconst 2, 1) := by decide +kernel
theorem dX5_play_95 : decode cX5_play 95 = .ok (.goto 26, 3) := by decide +kernel
theorem dX5_play_98 : decode cX5_play 98 = .ok (.aload_n 0, 1) := by decide +kernel
theorem dX5_play_99 : decode cX5_play 99 = .ok (.getfield 17, 3) := by decide +kernel
theorem dX5_play_102 : decode cX5_play 102 = .ok (.iload 5, 2) := by decide +kernel
theorem dX5_play_104 : decode cX5_play 104 = .ok (.iaload, 1) := by decide +kernel
theorem dX5_play_105 : decode cX5_play 105 = .ok (.ifCond .le 15, 3) := by decide +kernel
theorem dX5_play_108 : decode cX5_play 108 = .ok (.aload_n 0, 1) := by decide +kernel
theorem dX5_play_109 : decode cX5_play 109 = .ok (.getfield 17, 3) := by decide +kernel
theorem dX5_play_112 : decode cX5_play 112 = .ok (.iload 5, 2) := by decide +kernel
theorem dX5_play_114 : decode cX5_play 114 = .ok (.iaload, 1) := by decide +kernel
theorem dX5_play_115 : decode cX5_play 115 = .ok (.iconst 1, 1) := by decide +kernel
theorem dX5_play_116 : decode cX5_play 116 = .ok (.isub, 1) := by decide +kernel
theorem dX5_play_117 : decode cX5_play 117 = .ok (.goto 4, 3) := by decide +kernel
theorem dX5_play_120 : decode cX5_play 120 = .ok (.iconst 0, 1) := by decide +kernel
theorem dX5_play_121 : decode cX5_play 121 = .ok (.iastore, 1) := by decide +kernel
theorem dX5_play_122 : decode cX5_play 122 = .ok (.iinc 5 1, 3) := by decide +kernel
theorem dX5_play_125 : decode cX5_play 125 = .ok (.goto (-49), 3) := by decide +kernel
theorem dX5_play_128 : decode cX5_play 128 = .ok (.aload_n 0, 1) := by decide +kernel
theorem dX5_play_129 : decode cX5_play 129 = .ok (.dup, 1) := by decide +kernel
theorem dX5_play_130 : decode cX5_play 130 = .ok (.getfield 68, 3) := by decide +kernel
theorem dX5_play_133 : decode cX5_play 133 = .ok (.iconst 1, 1) := by decide +kernel
theorem dX5_play_134 : decode cX5_play 134 = .ok (.iadd, 1) := by decide +kernel
theorem dX5_play_135 : decode cX5_play 135 = .ok (.putfield 68, 3) := by decide +kernel
theorem dX5_play_138 : decode cX5_play 138 = .ok (.aload_n 0, 1) := by decide +kernel
theorem dX5_play_139 : decode cX5_play 139 = .ok (.getfield 25, 3) := by decide +kernel
theorem dX5_play_142 : decode cX5_play 142 = .ok (.arraylength, 1) := by decide +kernel
theorem dX5_play_143 : decode cX5_play 143 = .ok (.iconst 1, 1) := by decide +kernel
theorem dX5_play_144 : decode cX5_play 144 = .ok (.iadd, 1) := by decide +kernel
theorem dX5_play_145 : decode cX5_play 145 = .ok (.anewarray 24, 3) := by decide +kernel
theorem dX5_play_148 : decode cX5_play 148 = .ok (.astore 5, 2) := by decide +kernel
theorem dX5_play_150 : decode cX5_play 150 = .ok (.iconst 0, 1) := by decide +kernel
theorem dX5_play_151 : decode cX5_play 151 = .ok (.istore 6, 2) := by decide +kernel
theorem dX5_play_153 : decode cX5_play 153 = .ok (.iload 6, 2) := by decide +kernel
theorem dX5_play_155 : decode cX5_play 155 = .ok (.aload_n 0, 1) := by decide +kernel
theorem dX5_play_156 : decode cX5_play 156 = .ok (.getfield 25, 3) := by decide +kernel
theorem dX5_play_159 : decode cX5_play 159 = .ok (.arraylength, 1) := by decide +kernel
theorem dX5_play_160 : decode cX5_play 160 = .ok (.if_icmp .ge 21, 3) := by decide +kernel
theorem dX5_play_163 : decode cX5_play 163 = .ok (.aload 5, 2) := by decide +kernel
theorem dX5_play_165 : decode cX5_play 165 = .ok (.iload 6, 2) := by decide +kernel
theorem dX5_play_167 : decode cX5_play 167 = .ok (.aload_n 0, 1) := by decide +kernel
theorem dX5_play_168 : decode cX5_play 168 = .ok (.getfield 25, 3) := by decide +kernel
theorem dX5_play_171 : decode cX5_play 171 = .ok (.iload 6, 2) := by decide +kernel
theorem dX5_play_173 : decode cX5_play 173 = .ok (.aaload, 1) := by decide +kernel
theorem dX5_play_174 : decode cX5_play 174 = .ok (.aastore, 1) := by decide +kernel
theorem dX5_play_175 : decode cX5_play 175 = .ok (.iinc 6 1, 3) := by decide +kernel
theorem dX5_play_178 : decode cX5_play 178 = .ok (.goto (-25), 3) := by decide +kernel
theorem dX5_play_181 : decode cX5_play 181 = .ok (.aload 5, 2) := by decide +kernel
theorem dX5_play_183 : decode cX5_play 183 = .ok (.aload_n 0, 1) := by decide +kernel
theorem dX5_play_184 : decode cX5_play 184 = .ok (.getfield 25, 3) := by decide +kernel
theorem dX5_play_187 : decode cX5_play 187 = .ok (.arraylength, 1) := by decide +kernel
theorem dX5_play_188 : decode cX5_play 188 = .ok (.iconst 5, 1) := by decide +kernel
theorem dX5_play_189 : decode cX5_play 189 = .ok (.newarray .int, 2) := by decide +kernel
theorem dX5_play_191 : decode cX5_play 191 = .ok (.dup, 1) := by decide +kernel
theorem dX5_play_192 : decode cX5_play 192 = .ok (.iconst 0, 1) := by decide +kernel
theorem dX5_play_193 : decode cX5_play 193 = .ok (.aload_n 0, 1) := by decide +kernel
theorem dX5_play_194 : decode cX5_play 194 = .ok (.getfield 71, 3) := by decide +kernel
theorem dX5_play_197 : decode cX5_play 197 = .ok (.iastore, 1) := by decide +kernel
theorem dX5_play_198 : decode cX5_play 198 = .ok (.dup, 1) := by decide +kernel
theorem dX5_play_199 : decode cX5_play 199 = .ok (.iconst 1, 1) := by decide +kernel
theorem dX5_play_200 : decode cX5_play 200 = .ok (.aload_n 0, 1) := by decide +kernel
theorem dX5_play_201 : decode cX5_play 201 = .ok (.getfield 50, 3) := by decide +kernel
theorem dX5_play_204 : decode cX5_play 204 = .ok (.iastore, 1) := by decide +kernel
theorem dX5_play_205 : decode cX5_play 205 = .ok (.dup, 1) := by decide +kernel
theorem dX5_play_206 : decode cX5_play 206 = .ok (.iconst 2, 1) := by decide +kernel
theorem dX5_play_207 : decode cX5_play 207 = .ok (.iload 4, 2) := by decide +kernel
theorem dX5_play_209 : decode cX5_play 209 = .ok (.iastore, 1) := by decide +kernel
theorem dX5_play_210 : decode cX5_play 210 = .ok (.dup, 1) := by decide +kernel
theorem dX5_play_211 : decode cX5_play 211 = .ok (.iconst 3, 1) := by decide +kernel
theorem dX5_play_212 : decode cX5_play 212 = .ok (.aload_n 0, 1) := by decide +kernel
theorem dX5_play_213 : decode cX5_play 213 = .ok (.getfield 7, 3) := by decide +kernel
theorem dX5_play_216 : decode cX5_play 216 = .ok (.invokestatic 64, 3) := by decide +kernel
theorem dX5_play_219 : decode cX5_play 219 = .ok (.iastore, 1) := by decide +kernel
theorem dX5_play_220 : decode cX5_play 220 = .ok (.dup, 1) := by decide +kernel
theorem dX5_play_221 : decode cX5_play 221 = .ok (.iconst 4, 1) := by decide +kernel
theorem dX5_play_222 : decode cX5_play 222 = .ok (.aload_n 0, 1) := by decide +kernel
theorem dX5_play_223 : decode cX5_play 223 = .ok (.getfield 68, 3) := by decide +kernel
theorem dX5_play_226 : decode cX5_play 226 = .ok (.iastore, 1) := by decide +kernel
theorem dX5_play_227 : decode cX5_play 227 = .ok (.aastore, 1) := by decide +kernel
theorem dX5_play_228 : decode cX5_play 228 = .ok (.aload_n 0, 1) := by decide +kernel
theorem dX5_play_229 : decode cX5_play 229 = .ok (.aload 5, 2) := by decide +kernel
theorem dX5_play_231 : decode cX5_play 231 = .ok (.putfield 25, 3) := by decide +kernel
theorem dX5_play_234 : decode cX5_play 234 = .ok (.aload_n 0, 1) := by decide +kernel
theorem dX5_play_235 : decode cX5_play 235 = .ok (.getfield 7, 3) := by decide +kernel
theorem dX5_play_238 : decode cX5_play 238 = .ok (.invokestatic 64, 3) := by decide +kernel
theorem dX5_play_241 : decode cX5_play 241 = .ok (.ifCond .le 14, 3) := by decide +kernel
theorem dX5_play_244 : decode cX5_play 244 = .ok (.aload_n 0, 1) := by decide +kernel
theorem dX5_play_245 : decode cX5_play 245 = .ok (.getfield 68, 3) := by decide +kernel
theorem dX5_play_248 : decode cX5_play 248 = .ok (.iconst 3, 1) := by decide +kernel
theorem dX5_play_249 : decode cX5_play 249 = .ok (.if_icmp .ge 6, 3) := by decide +kernel
theorem dX5_play_252 : decode cX5_play 252 = .ok (.iload 4, 2) := by decide +kernel
theorem dX5_play_254 : decode cX5_play 254 = .ok (.ireturn, 1) := by decide +kernel
theorem dX5_play_255 : decode cX5_play 255 = .ok (.aload_n 0, 1) := by decide +kernel
theorem dX5_play_256 : decode cX5_play 256 = .ok (.iconst 0, 1) := by decide +kernel
theorem dX5_play_257 : decode cX5_play 257 = .ok (.putfield 68, 3) := by decide +kernel
theorem dX5_play_260 : decode cX5_play 260 = .ok (.aload_n 0, 1) := by decide +kernel
theorem dX5_play_261 : decode cX5_play 261 = .ok (.aload_n 0, 1) := by decide +kernel
theorem dX5_play_262 : decode cX5_play 262 = .ok (.getfield 71, 3) := by decide +kernel
theorem dX5_play_265 : decode cX5_play 265 = .ok (.iconst 1, 1) := by decide +kernel
theorem dX5_play_266 : decode cX5_play 266 = .ok (.iadd, 1) := by decide +kernel
theorem dX5_play_267 : decode cX5_play 267 = .ok (.aload_n 0, 1) := by decide +kernel
theorem dX5_play_268 : decode cX5_play 268 = .ok (.getfield 53, 3) := by decide +kernel
theorem dX5_play_271 : decode cX5_play 271 = .ok (.irem, 1) := by decide +kernel
theorem dX5_play_272 : decode cX5_play 272 = .ok (.putfield 71, 3) := by decide +kernel
theorem dX5_play_275 : decode cX5_play 275 = .ok (.aload_n 0, 1) := by decide +kernel
theorem dX5_play_276 : decode cX5_play 276 = .ok (.getfield 71, 3) := by decide +kernel
theorem dX5_play_279 : decode cX5_play 279 = .ok (.ifCond .ne 13, 3) := by decide +kernel
theorem dX5_play_282 : decode cX5_play 282 = .ok (.aload_n 0, 1) := by decide +kernel
theorem dX5_play_283 : decode cX5_play 283 = .ok (.dup, 1) := by decide +kernel
theorem dX5_play_284 : decode cX5_play 284 = .ok (.getfield 50, 3) := by decide +kernel
theorem dX5_play_287 : decode cX5_play 287 = .ok (.iconst 1, 1) := by decide +kernel
theorem dX5_play_288 : decode cX5_play 288 = .ok (.iadd, 1) := by decide +kernel
theorem dX5_play_289 : decode cX5_play 289 = .ok (.putfield 50, 3) := by decide +kernel
theorem dX5_play_292 : decode cX5_play 292 = .ok (.aload_n 0, 1) := by decide +kernel
theorem dX5_play_293 : decode cX5_play 293 = .ok (.invokevirtual 56, 3) := by decide +kernel
theorem dX5_play_296 : decode cX5_play 296 = .ok (.ifCond .ne 7, 3) := by decide +kernel
theorem dX5_play_299 : decode cX5_play 299 = .ok (.aload_n 0, 1) := by decide +kernel
theorem dX5_play_300 : decode cX5_play 300 = .ok (.invokevirtual 74, 3) := by decide +kernel
theorem dX5_play_303 : decode cX5_play 303 = .ok (.iload 4, 2) := by decide +kernel
theorem dX5_play_305 : decode cX5_play 305 = .ok (.ireturn, 1) := by decide +kernel
theorem dX5_of_0 : decode cX5_of 0 = .ok (.iconst 0, 1) := by decide +kernel
theorem dX5_of_1 : decode cX5_of 1 = .ok (.istore_n 3, 1) := by decide +kernel
theorem dX5_of_2 : decode cX5_of 2 = .ok (.iconst 0, 1) := by decide +kernel
theorem dX5_of_3 : decode cX5_of 3 = .ok (.istore 4, 2) := by decide +kernel
theorem dX5_of_5 : decode cX5_of 5 = .ok (.iconst (-1), 1) := by decide +kernel
theorem dX5_of_6 : decode cX5_of 6 = .ok (.istore 5, 2) := by decide +kernel
theorem dX5_of_8 : decode cX5_of 8 = .ok (.iconst 0, 1) := by decide +kernel
theorem dX5_of_9 : decode cX5_of 9 = .ok (.istore 6, 2) := by decide +kernel
theorem dX5_of_11 : decode cX5_of 11 = .ok (.iload 6, 2) := by decide +kernel
theorem dX5_of_13 : decode cX5_of 13 = .ok (.aload_n 0, 1) := by decide +kernel
theorem dX5_of_14 : decode cX5_of 14 = .ok (.getfield 25, 3) := by decide +kernel
theorem dX5_of_17 : decode cX5_of 17 = .ok (.arraylength, 1) := by decide +kernel
theorem dX5_of_18 : decode cX5_of 18 = .ok (.if_icmp .ge 56, 3) := by decide +kernel
theorem dX5_of_21 : decode cX5_of 21 = .ok (.aload_n 0, 1) := by decide +kernel
theorem dX5_of_22 : decode cX5_of 22 = .ok (.getfield 25, 3) := by decide +kernel
theorem dX5_of_25 : decode cX5_of 25 = .ok (.iload 6, 2) := by decide +kernel
theorem dX5_of_27 : decode cX5_of 27 = .ok (.aaload, 1) := by decide +kernel
theorem dX5_of_28 : decode cX5_of 28 = .ok (.iconst 0, 1) := by decide +kernel
theorem dX5_of_29 : decode cX5_of 29 = .ok (.iaload, 1) := by decide +kernel
theorem dX5_of_30 : decode cX5_of 30 = .ok (.iload_n 1, 1) := by decide +kernel
theorem dX5_of_31 : decode cX5_of 31 = .ok (.if_icmp .ne 37, 3) := by decide +kernel
theorem dX5_of_34 : decode cX5_of 34 = .ok (.aload_n 0, 1) := by decide +kernel
theorem dX5_of_35 : decode cX5_of 35 = .ok (.getfield 25, 3) := by decide +kernel
theorem dX5_of_38 : decode cX5_of 38 = .ok (.iload 6, 2) := by decide +kernel
theorem dX5_of_40 : decode cX5_of 40 = .ok (.aaload, 1) := by decide +kernel
theorem dX5_of_41 : decode cX5_of 41 = .ok (.iconst 1, 1) := by decide +kernel
theorem dX5_of_42 : decode cX5_of 42 = .ok (.iaload, 1) := by decide +kernel
theorem dX5_of_43 : decode cX5_of 43 = .ok (.iload_n 2, 1) := by decide +kernel
theorem dX5_of_44 : decode cX5_of 44 = .ok (.if_icmp .eq 6, 3) := by decide +kernel
theorem dX5_of_47 : decode cX5_of 47 = .ok (.goto 21, 3) := by decide +kernel
theorem dX5_of_50 : decode cX5_of 50 = .ok (.iload 4, 2) := by decide +kernel
theorem dX5_of_52 : decode cX5_of 52 = .ok (.aload_n 0, 1) := by decide +kernel
theorem dX5_of_53 : decode cX5_of 53 = .ok (.getfield 25, 3) := by decide +kernel
theorem dX5_of_56 : decode cX5_of 56 = .ok (.iload 6, 2) := by decide +kernel
theorem dX5_of_58 : decode cX5_of 58 = .ok (.aaload, 1) := by decide +kernel
theorem dX5_of_59 : decode cX5_of 59 = .ok (.iconst 2, 1) := by decide +kernel
theorem dX5_of_60 : decode cX5_of 60 = .ok (.iaload, 1) := by decide +kernel
theorem dX5_of_61 : decode cX5_of 61 = .ok (.iadd, 1) := by decide +kernel
theorem dX5_of_62 : decode cX5_of 62 = .ok (.istore 4, 2) := by decide +kernel
theorem dX5_of_64 : decode cX5_of 64 = .ok (.iload 6, 2) := by decide +kernel
theorem dX5_of_66 : decode cX5_of 66 = .ok (.istore 5, 2) := by decide +kernel
theorem dX5_of_68 : decode cX5_of 68 = .ok (.iinc 6 1, 3) := by decide +kernel
theorem dX5_of_71 : decode cX5_of 71 = .ok (.goto (-60), 3) := by decide +kernel
theorem dX5_of_74 : decode cX5_of 74 = .ok (.iload 5, 2) := by decide +kernel
theorem dX5_of_76 : decode cX5_of 76 = .ok (.ifCond .ge 19, 3) := by decide +kernel
theorem dX5_of_79 : decode cX5_of 79 = .ok (.iconst 3, 1) := by decide +kernel
theorem dX5_of_80 : decode cX5_of 80 = .ok (.newarray .int, 2) := by decide +kernel
theorem dX5_of_82 : decode cX5_of 82 = .ok (.dup, 1) := by decide +kernel
theorem dX5_of_83 : decode cX5_of 83 = .ok (.iconst 0, 1) := by decide +kernel
theorem dX5_of_84 : decode cX5_of 84 = .ok (.iconst 0, 1) := by decide +kernel
theorem dX5_of_85 : decode cX5_of 85 = .ok (.iastore, 1) := by decide +kernel
theorem dX5_of_86 : decode cX5_of 86 = .ok (.dup, 1) := by decide +kernel
theorem dX5_of_87 : decode cX5_of 87 = .ok (.iconst 1, 1) := by decide +kernel
theorem dX5_of_88 : decode cX5_of 88 = .ok (.iconst 0, 1) := by decide +kernel
theorem dX5_of_89 : decode cX5_of 89 = .ok (.iastore, 1) := by decide +kernel
theorem dX5_of_90 : decode cX5_of 90 = .ok (.dup, 1) := by decide +kernel
theorem dX5_of_91 : decode cX5_of 91 = .ok (.iconst 2, 1) := by decide +kernel
theorem dX5_of_92 : decode cX5_of 92 = .ok (.iconst 0, 1) := by decide +kernel
theorem dX5_of_93 : decode cX5_of 93 = .ok (.iastore, 1) := by decide +kernel
theorem dX5_of_94 : decode cX5_of 94 = .ok (.areturn, 1) := by decide +kernel
theorem dX5_of_95 : decode cX5_of 95 = .ok (.iload 4, 2) := by decide +kernel
theorem dX5_of_97 : decode cX5_of 97 = .ok (.istore_n 3, 1) := by decide +kernel
theorem dX5_of_98 : decode cX5_of 98 = .ok (.aload_n 0, 1) := by decide +kernel
theorem dX5_of_99 : decode cX5_of 99 = .ok (.getfield 25, 3) := by decide +kernel
theorem dX5_of_102 : decode cX5_of 102 = .ok (.iload 5, 2) := by decide +kernel
theorem dX5_of_104 : decode cX5_of 104 = .ok (.aaload, 1) := by decide +kernel
theorem dX5_of_105 : decode cX5_of 105 = .ok (.iconst 3, 1) := by decide +kernel
theorem dX5_of_106 : decode cX5_of 106 = .ok (.iaload, 1) := by decide +kernel
theorem dX5_of_107 : decode cX5_of 107 = .ok (.ifCond .ne 25, 3) := by decide +kernel
theorem dX5_of_110 : decode cX5_of 110 = .ok (.iload 4, 2) := by decide +kernel
theorem dX5_of_112 : decode cX5_of 112 = .ok (.ifCond .le 20, 3) := by decide +kernel
theorem dX5_of_115 : decode cX5_of 115 = .ok (.aload_n 0, 1) := by decide +kernel
theorem dX5_of_116 : decode cX5_of 116 = .ok (.getfield 25, 3) := by decide +kernel
theorem dX5_of_119 : decode cX5_of 119 = .ok (.iload 5, 2) := by decide +kernel
theorem dX5_of_121 : decode cX5_of 121 = .ok (.aaload, 1) := by decide +kernel
theorem dX5_of_122 : decode cX5_of 122 = .ok (.iconst 4, 1) := by decide +kernel
theorem dX5_of_123 : decode cX5_of 123 = .ok (.iaload, 1) := by decide +kernel
theorem dX5_of_124 : decode cX5_of 124 = .ok (.iconst 1, 1) := by decide +kernel
theorem dX5_of_125 : decode cX5_of 125 = .ok (.if_icmp .ne 7, 3) := by decide +kernel
theorem dX5_of_128 : decode cX5_of 128 = .ok (.iconst 1, 1) := by decide +kernel
theorem dX5_of_129 : decode cX5_of 129 = .ok (.goto 4, 3) := by decide +kernel
theorem dX5_of_132 : decode cX5_of 132 = .ok (.iconst 0, 1) := by decide +kernel
theorem dX5_of_133 : decode cX5_of 133 = .ok (.istore 6, 2) := by decide +kernel
theorem dX5_of_135 : decode cX5_of 135 = .ok (.aload_n 0, 1) := by decide +kernel
theorem dX5_of_136 : decode cX5_of 136 = .ok (.getfield 25, 3) := by decide +kernel
theorem dX5_of_139 : decode cX5_of 139 = .ok (.iload 5, 2) := by decide +kernel
theorem dX5_of_141 : decode cX5_of 141 = .ok (.aaload, 1) := by decide +kernel
theorem dX5_of_142 : decode cX5_of 142 = .ok (.iconst 3, 1) := by decide +kernel
theorem dX5_of_143 : decode cX5_of 143 = .ok (.iaload, 1) := by decide +kernel
theorem dX5_of_144 : decode cX5_of 144 = .ok (.ifCond .ne 25, 3) := by decide +kernel
theorem dX5_of_147 : decode cX5_of 147 = .ok (.iload 4, 2) := by decide +kernel
theorem dX5_of_149 : decode cX5_of 149 = .ok (.ifCond .le 20, 3) := by decide +kernel
theorem dX5_of_152 : decode cX5_of 152 = .ok (.aload_n 0, 1) := by decide +kernel
theorem dX5_of_153 : decode cX5_of 153 = .ok (.getfield 25, 3) := by decide +kernel
theorem dX5_of_156 : decode cX5_of 156 = .ok (.iload 5, 2) := by decide +kernel
theorem dX5_of_158 : decode cX5_of 158 = .ok (.aaload, 1) := by decide +kernel
theorem dX5_of_159 : decode cX5_of 159 = .ok (.iconst 4, 1) := by decide +kernel
theorem dX5_of_160 : decode cX5_of 160 = .ok (.iaload, 1) := by decide +kernel
theorem dX5_of_161 : decode cX5_of 161 = .ok (.iconst 1, 1) := by decide +kernel
theorem dX5_of_162 : decode cX5_of 162 = .ok (.if_icmp .le 7, 3) := by decide +kernel
theorem dX5_of_165 : decode cX5_of 165 = .ok (.iconst 1, 1) := by decide +kernel
theorem dX5_of_166 : decode cX5_of 166 = .ok (.goto 4, 3) := by decide +kernel
theorem dX5_of_169 : decode cX5_of 169 = .ok (.iconst 0, 1) := by decide +kernel
theorem dX5_of_170 : decode cX5_of 170 = .ok (.istore 7, 2) := by decide +kernel
theorem dX5_of_172 : decode cX5_of 172 = .ok (.iconst 2, 1) := by decide +kernel
theorem dX5_of_173 : decode cX5_of 173 = .ok (.iload 6, 2) := by decide +kernel
theorem dX5_of_175 : decode cX5_of 175 = .ok (.imul, 1) := by decide +kernel
theorem dX5_of_176 : decode cX5_of 176 = .ok (.iload 7, 2) := by decide +kernel
theorem dX5_of_178 : decode cX5_of 178 = .ok (.iadd, 1) := by decide +kernel
theorem dX5_of_179 : decode cX5_of 179 = .ok (.istore 8, 2) := by decide +kernel
theorem dX5_of_181 : decode cX5_of 181 = .ok (.iload 5, 2) := by decide +kernel
theorem dX5_of_183 : decode cX5_of 183 = .ok (.iconst 1, 1) := by decide +kernel
theorem dX5_of_184 : decode cX5_of 184 = .ok (.iadd, 1) := by decide +kernel
theorem dX5_of_185 : decode cX5_of 185 = .ok (.istore 9, 2) := by decide +kernel
theorem dX5_of_187 : decode cX5_of 187 = .ok (.iload 9, 2) := by decide +kernel
theorem dX5_of_189 : decode cX5_of 189 = .ok (.aload_n 0, 1) := by decide +kernel
theorem dX5_of_190 : decode cX5_of 190 = .ok (.getfield 25, 3) := by decide +kernel
theorem dX5_of_193 : decode cX5_of 193 = .ok (.arraylength, 1) := by decide +kernel
theorem dX5_of_194 : decode cX5_of 194 = .ok (.if_icmp .ge 45, 3) := by decide +kernel
theorem dX5_of_197 : decode cX5_of 197 = .ok (.iload 8, 2) := by decide +kernel
theorem dX5_of_199 : decode cX5_of 199 = .ok (.ifCond .le 40, 3) := by decide +kernel
theorem dX5_of_202 : decode cX5_of 202 = .ok (.aload_n 0, 1) := by decide +kernel
theorem dX5_of_203 : decode cX5_of 203 = .ok (.getfield 25, 3) := by decide +kernel
theorem dX5_of_206 : decode cX5_of 206 = .ok (.iload 9, 2) := by decide +kernel
theorem dX5_of_208 : decode cX5_of 208 = .ok (.aaload, 1) := by decide +kernel
theorem dX5_of_209 : decode cX5_of 209 = .ok (.iconst 0, 1) := by decide +kernel
theorem dX5_of_210 : decode cX5_of 210 = .ok (.iaload, 1) := by decide +kernel
theorem dX5_of_211 : decode cX5_of 211 = .ok (.iload_n 1, 1) := by decide +kernel
theorem dX5_of_212 : decode cX5_of 212 = .ok (.if_icmp .eq 6, 3) := by decide +kernel
theorem dX5_of_215 : decode cX5_of 215 = .ok (.goto 18, 3) := by decide +kernel
theorem dX5_of_218 : decode cX5_of 218 = .ok (.iload_n 3, 1) := by decide +kernel
theorem dX5_of_219 : decode cX5_of 219 = .ok (.aload_n 0, 1) := by decide +kernel
theorem dX5_of_220 : decode cX5_of 220 = .ok (.getfield 25, 3) := by decide +kernel
theorem dX5_of_223 : decode cX5_of 223 = .ok (.iload 9, 2) := by decide +kernel
theorem dX5_of_225 : decode cX5_of 225 = .ok (.aaload, 1) := by decide +kernel
theorem dX5_of_226 : decode cX5_of 226 = .ok (.iconst 2, 1) := by decide +kernel
theorem dX5_of_227 : decode cX5_of 227 = .ok (.iaload, 1) := by decide +kernel
theorem dX5_of_228 : decode cX5_of 228 = .ok (.iadd, 1) := by decide +kernel
theorem dX5_of_229 : decode cX5_of 229 = .ok (.istore_n 3, 1) := by decide +kernel
theorem dX5_of_230 : decode cX5_of 230 = .ok (.iinc 8 (-1), 3) := by decide +kernel
theorem dX5_of_233 : decode cX5_of 233 = .ok (.iinc 9 1, 3) := by decide +kernel
theorem dX5_of_236 : decode cX5_of 236 = .ok (.goto (-49), 3) := by decide +kernel
theorem dX5_of_239 : decode cX5_of 239 = .ok (.iconst 3, 1) := by decide +kernel
theorem dX5_of_240 : decode cX5_of 240 = .ok (.newarray .int, 2) := by decide +kernel
theorem dX5_of_242 : decode cX5_of 242 = .ok (.dup, 1) := by decide +kernel
theorem dX5_of_243 : decode cX5_of 243 = .ok (.iconst 0, 1) := by decide +kernel
theorem dX5_of_244 : decode cX5_of 244 = .ok (.iload_n 3, 1) := by decide +kernel
theorem dX5_of_245 : decode cX5_of 245 = .ok (.iastore, 1) := by decide +kernel
theorem dX5_of_246 : decode cX5_of 246 = .ok (.dup, 1) := by decide +kernel
theorem dX5_of_247 : decode cX5_of 247 = .ok (.iconst 1, 1) := by decide +kernel
theorem dX5_of_248 : decode cX5_of 248 = .ok (.iload 6, 2) := by decide +kernel
theorem dX5_of_250 : decode cX5_of 250 = .ok (.iastore, 1) := by decide +kernel
theorem dX5_of_251 : decode cX5_of 251 = .ok (.dup, 1) := by decide +kernel
theorem dX5_of_252 : decode cX5_of 252 = .ok (.iconst 2, 1) := by decide +kernel
theorem dX5_of_253 : decode cX5_of 253 = .ok (.iload 7, 2) := by decide +kernel
theorem dX5_of_255 : decode cX5_of 255 = .ok (.iastore, 1) := by decide +kernel
theorem dX5_of_256 : decode cX5_of 256 = .ok (.areturn, 1) := by decide +kernel
set_option maxRecDepth 20000 in
theorem ggX5_score_X5_of : GoodIn wsX5_score wsX5_of := goodIn_r _ [5, 6, 7, 8, 9, 10, 11, 12, 13, 14, 15, 16] (by decide +kernel) (by decide +kernel)
set_option maxRecDepth 20000 in
theorem gX5_score_X5_of : GoodIn wsX5_score (wsV RX5 77 RX5 yX5_of wsX5_of) := goodIn_app (goodIn_of _ (by decide +kernel)) ggX5_score_X5_of
theorem dX5_score_0 : decode cX5_score 0 = .ok (.iconst 0, 1) := by decide +kernel
theorem dX5_score_1 : decode cX5_score 1 = .ok (.istore_n 2, 1) := by decide +kernel
theorem dX5_score_2 : decode cX5_score 2 = .ok (.iconst 0, 1) := by decide +kernel
theorem dX5_score_3 : decode cX5_score 3 = .ok (.istore_n 3, 1) := by decide +kernel
theorem dX5_score_4 : decode cX5_score 4 = .ok (.iload_n 3, 1) := by decide +kernel
theorem dX5_score_5 : decode cX5_score 5 = .ok (.bipush 10, 2) := by decide +kernel
theorem dX5_score_7 : decode cX5_score 7 = .ok (.if_icmp .ge 20, 3) := by decide +kernel
theorem dX5_score_10 : decode cX5_score 10 = .ok (.iload_n 2, 1) := by decide +kernel
theorem dX5_score_11 : decode cX5_score 11 = .ok (.aload_n 0, 1) := by decide +kernel
theorem dX5_score_12 : decode cX5_score 12 = .ok (.iload_n 1, 1) := by decide +kernel
theorem dX5_score_13 : decode cX5_score 13 = .ok (.iload_n 3, 1) := by decide +kernel
theorem dX5_score_14 : decode cX5_score 14 = .ok (.invokevirtual 77, 3) := by decide +kernel
theorem dX5_score_17 : decode cX5_score 17 = .ok (.iconst 0, 1) := by decide +kernel
theorem dX5_score_18 : decode cX5_score 18 = .ok (.iaload, 1) := by decide +kernel
theorem dX5_score_19 : decode cX5_score 19 = .ok (.iadd, 1) := by decide +kernel
theorem dX5_score_20 : decode cX5_score 20 = .ok (.istore_n 2, 1) := by decide +kernel
theorem dX5_score_21 : decode cX5_score 21 = .ok (.iinc 3 1, 3) := by decide +kernel
theorem dX5_score_24 : decode cX5_score 24 = .ok (.goto (-20), 3) := by decide +kernel
theorem dX5_score_27 : decode cX5_score 27 = .ok (.iload_n 2, 1) := by decide +kernel
theorem dX5_score_28 : decode cX5_score 28 = .ok (.ireturn, 1) := by decide +kernel
set_option maxRecDepth 20000 in
theorem ggX5_leader_X5_score : GoodIn wsX5_leader wsX5_score := goodIn_r _ [6, 7, 8, 9, 5, 10, 11, 12, 13, 14, 15, 16, 17, 18, 19, 20, 21] (by decide +kernel) (by decide +kernel)
set_option maxRecDepth 20000 in
theorem gX5_leader_X5_score : GoodIn wsX5_leader (wsV RX5 81 RX5 yX5_score wsX5_score) := goodIn_app (goodIn_of _ (by decide +kernel)) ggX5_leader_X5_score
theorem dX5_leader_0 : decode cX5_leader 0 = .ok (.iconst (-1), 1) := by decide +kernel
theorem dX5_leader_1 : decode cX5_leader 1 = .ok (.istore_n 1, 1) := by decide +kernel
theorem dX5_leader_2 : decode cX5_leader 2 = .ok (.aload_n 0, 1) := by decide +kernel
theorem dX5_leader_3 : decode cX5_leader 3 = .ok (.getfield 53, 3) := by decide +kernel
theorem dX5_leader_6 : decode cX5_leader 6 = .ok (.iconst 1, 1) := by decide +kernel
theorem dX5_leader_7 : decode cX5_leader 7 = .ok (.isub, 1) := by decide +kernel
theorem dX5_leader_8 : decode cX5_leader 8 = .ok (.istore_n 2, 1) := by decide +kernel
theorem dX5_leader_9 : decode cX5_leader 9 = .ok (.iload_n 2, 1) := by decide +kernel
theorem dX5_leader_10 : decode cX5_leader 10 = .ok (.ifCond .lt 28, 3) := by decide +kernel
theorem dX5_leader_13 : decode cX5_leader 13 = .ok (.iload_n 1, 1) := by decide +kernel
theorem dX5_leader_14 : decode cX5_leader 14 = .ok (.ifCond .lt 16, 3) := by decide +kernel
theorem dX5_leader_17 : decode cX5_leader 17 = .ok (.aload_n 0, 1) := by decide +kernel
theorem dX5_leader_18 : decode cX5_leader 18 = .ok (.iload_n 2, 1) := by decide +kernel
theorem dX5_leader_19 : decode cX5_leader 19 = .ok (.invokevirtual 81, 3) := by decide +kernel
theorem dX5_leader_22 : decode cX5_leader 22 = .ok (.aload_n 0, 1) := by decide +kernel
theorem dX5_leader_23 : decode cX5_leader 23 = .ok (.iload_n 1, 1) := by decide +kernel
theorem dX5_leader_24 : decode cX5_leader 24 = .ok (.invokevirtual 81, 3) := by decide +kernel
theorem dX5_leader_27 : decode cX5_leader 27 = .ok (.if_icmp .lt 5, 3) := by decide +kernel
theorem dX5_leader_30 : decode cX5_leader 30 = .ok (.iload_n 2, 1) := by decide +kernel
theorem dX5_leader_31 : decode cX5_leader 31 = .ok (.istore_n 1, 1) := by decide +kernel
theorem dX5_leader_32 : decode cX5_leader 32 = .ok (.iinc 2 (-1), 3) := by decide +kernel
theorem dX5_leader_35 : decode cX5_leader 35 = .ok (.goto (-26), 3) := by decide +kernel
theorem dX5_leader_38 : decode cX5_leader 38 = .ok (.iload_n 1, 1) := by decide +kernel
theorem dX5_leader_39 : decode cX5_leader 39 = .ok (.ireturn, 1) := by decide +kernel
set_option maxRecDepth 20000 in
theorem ggX5_newGame_X5_leader : GoodIn wsX5_newGame wsX5_leader := goodIn_r _ [11, 12, 13, 14, 15, 10, 16, 17, 18, 19, 20, 2, 21, 28, 29, 30, 31, 32, 33, 34, 35, 36] (by decide +kernel) (by decide +kernel)
set_option maxRecDepth 20000 in
theorem gX5_newGame_X5_leader : GoodIn wsX5_newGame (wsV RX5 85 RX5 yX5_leader wsX5_leader) := goodIn_app (goodIn_of _ (by decide +kernel)) ggX5_newGame_X5_leader
set_option maxRecDepth 20000 in
theorem ggX5_newGame_X5_setUp : GoodIn wsX5_newGame wsX5_setUp := goodIn_r _ [25, 26, 27, 28, 29, 30, 31, 32, 33, 34, 35, 36] (by decide +kernel) (by decide +kernel)
set_option maxRecDepth 20000 in
theorem gX5_newGame_X5_setUp : GoodIn wsX5_newGame (wsV RX5 74 RX5 yX5_setUp wsX5_setUp) := goodIn_app (goodIn_of _ (by decide +kernel)) ggX5_newGame_X5_setUp
theorem dX5_newGame_0 : decode cX5_newGame 0 = .ok (.aload_n 0, 1) := by decide +kernel
theorem dX5_newGame_1 : decode cX5_newGame 1 = .ok (.invokevirtual 85, 3) := by decide +kernel
theorem dX5_newGame_4 : decode cX5_newGame 4 = .ok (.istore_n 1, 1) := by decide +kernel
theorem dX5_newGame_5 : decode cX5_newGame 5 = .ok (.aload_n 0, 1) := by decide +kernel
theorem dX5_newGame_6 : decode cX5_newGame 6 = .ok (.iconst 0, 1) := by decide +kernel
theorem dX5_newGame_7 : decode cX5_newGame 7 = .ok (.anewarray 24, 3) := by decide +kernel
theorem dX5_newGame_10 : decode cX5_newGame 10 = .ok (.putfield 25, 3) := by decide +kernel
theorem dX5_newGame_13 : decode cX5_newGame 13 = .ok (.aload_n 0, 1) := by decide +kernel
theorem dX5_newGame_14 : decode cX5_newGame 14 = .ok (.iconst 0, 1) := by decide +kernel
theorem dX5_newGame_15 : decode cX5_newGame 15 = .ok (.putfield 71, 3) := by decide +kernel
theorem dX5_newGame_18 : decode cX5_newGame 18 = .ok (.aload_n 0, 1) := by decide +kernel
theorem dX5_newGame_19 : decode cX5_newGame 19 = .ok (.iconst 0, 1) := by decide +kernel
theorem dX5_newGame_20 : decode cX5_newGame 20 = .ok (.putfield 50, 3) := by decide +kernel
theorem dX5_newGame_23 : decode cX5_newGame 23 = .ok (.aload_n 0, 1) := by decide +kernel
theorem dX5_newGame_24 : decode cX5_newGame 24 = .ok (.iconst 0, 1) := by decide +kernel
theorem dX5_newGame_25 : decode cX5_newGame 25 = .ok (.putfield 68, 3) := by decide +kernel
theorem dX5_newGame_28 : decode cX5_newGame 28 = .ok (.iconst 0, 1) := by decide +kernel
theorem dX5_newGame_29 : decode cX5_newGame 29 = .ok (.istore_n 2, 1) := by decide +kernel
theorem dX5_newGame_30 : decode cX5_newGame 30 = .ok (.iload_n 2, 1) := by decide +kernel
theorem dX5_newGame_31 : decode cX5_newGame 31 = .ok (.iconst 5, 1) := by decide +kernel
theorem dX5_newGame_32 : decode cX5_newGame 32 = .ok (.if_icmp .ge 16, 3) := by decide +kernel
theorem dX5_newGame_35 : decode cX5_newGame 35 = .ok (.aload_n 0, 1) := by decide +kernel
theorem dX5_newGame_36 : decode cX5_newGame 36 = .ok (.getfield 17, 3) := by decide +kernel
theorem dX5_newGame_39 : decode cX5_newGame 39 = .ok (.iload_n 2, 1) := by decide +kernel
theorem dX5_newGame_40 : decode cX5_newGame 40 = .ok (.iconst 0, 1) := by decide +kernel
theorem dX5_newGame_41 : decode cX5_newGame 41 = .ok (.iastore, 1) := by decide +kernel
theorem dX5_newGame_42 : decode cX5_newGame 42 = .ok (.iinc 2 1, 3) := by decide +kernel
theorem dX5_newGame_45 : decode cX5_newGame 45 = .ok (.goto (-15), 3) := by decide +kernel
theorem dX5_newGame_48 : decode cX5_newGame 48 = .ok (.aload_n 0, 1) := by decide +kernel
theorem dX5_newGame_49 : decode cX5_newGame 49 = .ok (.invokevirtual 74, 3) := by decide +kernel
theorem dX5_newGame_52 : decode cX5_newGame 52 = .ok (.iload_n 1, 1) := by decide +kernel
theorem dX5_newGame_53 : decode cX5_newGame 53 = .ok (.ireturn, 1) := by decide +kernel
set_option maxRecDepth 20000 in
theorem ggX5_isSame_X4_isStanding : GoodIn wsX5_isSame wsX4_isStanding := goodIn_ca (goodIn_r _ [14, 15, 16, 17, 13, 18, 19, 20, 21, 22, 23, 24, 25, 26, 27, 28, 29, 30, 31, 32, 33, 234, 235, 236, 237, 238, 239, 240, 241, 242, 243] (by decide +kernel) (by decide +kernel)) (goodIn_sub (fun _ h => List.mem_cons_of_mem _ (List.mem_append_right _ h)) (by decide +kernel))
set_option maxRecDepth 20000 in
theorem gX5_isSame_X4_isStanding : GoodIn wsX5_isSame (wsV RX5 89 RX4 yX4_isStanding wsX4_isStanding) := goodIn_app (goodIn_of _ (by decide +kernel)) ggX5_isSame_X4_isStanding
set_option maxRecDepth 20000 in
theorem ggX5_isSame_X4_wearOf : GoodIn wsX5_isSame wsX4_wearOf := goodIn_ca (goodIn_r _ [37, 15, 16, 17, 13, 18, 19, 20, 21, 22, 23, 38, 39, 40, 27, 41, 42, 234, 235, 236, 237, 238, 239, 240, 241, 242, 243] (by decide +kernel) (by decide +kernel)) (goodIn_sub (fun _ h => List.mem_cons_of_mem _ (List.mem_append_right _ h)) (by decide +kernel))
set_option maxRecDepth 20000 in
theorem gX5_isSame_X4_wearOf : GoodIn wsX5_isSame (wsV RX5 95 RX4 yX4_wearOf wsX4_wearOf) := goodIn_app (goodIn_of _ (by decide +kernel)) ggX5_isSame_X4_wearOf
set_option maxRecDepth 20000 in
theorem ggX5_isSame_X4_isBroken : GoodIn wsX5_isSame wsX4_isBroken := goodIn_ca (goodIn_r _ [46, 15, 16, 17, 13, 18, 19, 20, 21, 22, 23, 47, 48, 49, 27, 50, 42, 234, 235, 236, 237, 238, 239, 240, 241, 242, 243] (by decide +kernel) (by decide +kernel)) (goodIn_sub (fun _ h => List.mem_cons_of_mem _ (List.mem_append_right _ h)) (by decide +kernel))
set_option maxRecDepth 20000 in
theorem gX5_isSame_X4_isBroken : GoodIn wsX5_isSame (wsV RX5 98 RX4 yX4_isBroken wsX4_isBroken) := goodIn_app (goodIn_of _ (by decide +kernel)) ggX5_isSame_X4_isBroken
set_option maxRecDepth 20000 in
theorem ggX5_isSame_X4_awayFor : GoodIn wsX5_isSame wsX4_awayFor := goodIn_ca (goodIn_r _ [54, 55, 56, 57, 13, 58, 19, 20, 21, 22, 23, 59, 60, 61, 62, 63, 64, 234, 235, 236, 237, 238, 239, 240, 244] (by decide +kernel) (by decide +kernel)) (goodIn_sub (fun _ h => List.mem_cons_of_mem _ (List.mem_append_right _ h)) (by decide +kernel))
set_option maxRecDepth 20000 in
theorem gX5_isSame_X4_awayFor : GoodIn wsX5_isSame (wsV RX5 101 RX4 yX4_awayFor wsX4_awayFor) := goodIn_app (goodIn_of _ (by decide +kernel)) ggX5_isSame_X4_awayFor
set_option maxRecDepth 20000 in
theorem ggX5_isSame_X5_of : GoodIn wsX5_isSame wsX5_of := goodIn_r _ [69, 5, 70, 225, 226, 227, 228, 229, 230, 231, 232, 233] (by decide +kernel) (by decide +kernel)
set_option maxRecDepth 20000 in
theorem gX5_isSame_X5_of : GoodIn wsX5_isSame (wsV RX5 77 RX5 yX5_of wsX5_of) := goodIn_app (goodIn_of _ (by decide +kernel)) ggX5_isSame_X5_of
set_option maxRecDepth 20000 in
theorem ggX5_isSame_X4_pointsOf : GoodIn wsX5_isSame wsX4_pointsOf := goodIn_ca (goodIn_r _ [74, 75, 76, 77, 78, 13, 79, 80, 19, 20, 21, 22, 23, 81, 82, 83, 84, 85, 86, 87, 88, 89, 90, 91, 92, 93, 94, 234, 235, 236, 237, 238, 239, 240, 245, 246, 247, 248, 249] (by decide +kernel) (by decide +kernel)) (goodIn_sub (fun _ h => List.mem_cons_of_mem _ (List.mem_append_right _ h)) (by decide +kernel))
set_option maxRecDepth 20000 in
theorem gX5_isSame_X4_pointsOf : GoodIn wsX5_isSame (wsV RX5 104 RX4 yX4_pointsOf wsX4_pointsOf) := goodIn_app (goodIn_of _ (by decide +kernel)) ggX5_isSame_X4_pointsOf
set_option maxRecDepth 20000 in
theorem ggX5_isSame_X5_score : GoodIn wsX5_isSame wsX5_score := goodIn_r _ [98, 65, 66, 67, 68, 69, 5, 70, 225, 226, 227, 228, 229, 230, 231, 232, 233] (by decide +kernel) (by decide +kernel)
set_option maxRecDepth 20000 in
theorem gX5_isSame_X5_score : GoodIn wsX5_isSame (wsV RX5 81 RX5 yX5_score wsX5_score) := goodIn_app (goodIn_of _ (by decide +kernel)) ggX5_isSame_X5_score
set_option maxRecDepth 20000 in
theorem ggX5_isSame_X4_throwsOf : GoodIn wsX5_isSame wsX4_throwsOf := goodIn_ca (goodIn_r _ [102, 75, 76, 77, 78, 13, 79, 80, 19, 20, 21, 22, 23, 103, 104, 105, 84, 106, 86, 234, 235, 236, 237, 238, 239, 240, 245, 246, 247, 248, 249] (by decide +kernel) (by decide +kernel)) (goodIn_sub (fun _ h => List.mem_cons_of_mem _ (List.mem_append_right _ h)) (by decide +kernel))
set_option maxRecDepth 20000 in
theorem gX5_isSame_X4_throwsOf : GoodIn wsX5_isSame (wsV RX5 107 RX4 yX4_throwsOf wsX4_throwsOf) := goodIn_app (goodIn_of _ (by decide +kernel)) ggX5_isSame_X4_throwsOf
set_option maxRecDepth 20000 in
theorem ggX5_isSame_X4_scoreOf : GoodIn wsX5_isSame wsX4_scoreOf := goodIn_ca (goodIn_r _ [110, 75, 76, 77, 78, 13, 79, 80, 19, 20, 21, 22, 23, 111, 112, 113, 84, 114, 115, 82, 83, 85, 86, 87, 88, 89, 90, 91, 92, 93, 94, 234, 235, 236, 237, 238, 239, 240, 245, 246, 247, 248, 249] (by decide +kernel) (by decide +kernel)) (goodIn_sub (fun _ h => List.mem_cons_of_mem _ (List.mem_append_right _ h)) (by decide +kernel))
set_option maxRecDepth 20000 in
theorem gX5_isSame_X4_scoreOf : GoodIn wsX5_isSame (wsV RX5 110 RX4 yX4_scoreOf wsX4_scoreOf) := goodIn_app (goodIn_of _ (by decide +kernel)) ggX5_isSame_X4_scoreOf
set_option maxRecDepth 20000 in
theorem ggX5_isSame_X4_strikesOf : GoodIn wsX5_isSame wsX4_strikesOf := goodIn_ca (goodIn_r _ [119, 75, 76, 77, 78, 13, 79, 80, 19, 20, 21, 22, 23, 120, 121, 122, 84, 123, 124, 125, 126, 127, 89, 234, 235, 236, 237, 238, 239, 240, 245, 246, 247, 248, 249] (by decide +kernel) (by decide +kernel)) (goodIn_sub (fun _ h => List.mem_cons_of_mem _ (List.mem_append_right _ h)) (by decide +kernel))
set_option maxRecDepth 20000 in
theorem gX5_isSame_X4_strikesOf : GoodIn wsX5_isSame (wsV RX5 113 RX4 yX4_strikesOf wsX4_strikesOf) := goodIn_app (goodIn_of _ (by decide +kernel)) ggX5_isSame_X4_strikesOf
set_option maxRecDepth 20000 in
theorem ggX5_isSame_X4_sparesOf : GoodIn wsX5_isSame wsX4_sparesOf := goodIn_ca (goodIn_r _ [131, 75, 76, 77, 78, 13, 79, 80, 19, 20, 21, 22, 23, 132, 133, 134, 84, 135, 124, 125, 126, 127, 89, 234, 235, 236, 237, 238, 239, 240, 245, 246, 247, 248, 249] (by decide +kernel) (by decide +kernel)) (goodIn_sub (fun _ h => List.mem_cons_of_mem _ (List.mem_append_right _ h)) (by decide +kernel))
set_option maxRecDepth 20000 in
theorem gX5_isSame_X4_sparesOf : GoodIn wsX5_isSame (wsV RX5 116 RX4 yX4_sparesOf wsX4_sparesOf) := goodIn_app (goodIn_of _ (by decide +kernel)) ggX5_isSame_X4_sparesOf
set_option maxRecDepth 20000 in
theorem ggX5_isSame_X4_standing : GoodIn wsX5_isSame wsX4_standing := goodIn_r _ [139, 15, 24, 25, 26, 27, 28, 29, 140, 141, 142, 143, 144, 145, 146, 234, 235, 236, 237, 238, 239, 240, 241, 242, 243] (by decide +kernel) (by decide +kernel)
set_option maxRecDepth 20000 in
theorem gX5_isSame_X4_standing : GoodIn wsX5_isSame (wsV RX5 119 RX4 yX4_standing wsX4_standing) := goodIn_app (goodIn_of _ (by decide +kernel)) ggX5_isSame_X4_standing
set_option maxRecDepth 20000 in
theorem ggX5_isSame_X5_many : GoodIn wsX5_isSame wsX5_many := goodIn_r _ [149] (by decide +kernel) (by decide +kernel)
set_option maxRecDepth 20000 in
theorem gX5_isSame_X5_many : GoodIn wsX5_isSame (va_wsS RX5 64 yX5_many wsX5_many) := goodIn_app (goodIn_of _ (by decide +kernel)) ggX5_isSame_X5_many
set_option maxRecDepth 20000 in
theorem ggX5_isSame_X4_brokenStrings : GoodIn wsX5_isSame wsX4_brokenStrings := goodIn_r _ [153, 15, 154, 155, 156, 27, 157, 158, 48, 49, 50, 42, 234, 235, 236, 237, 238, 239, 240, 241, 242, 243] (by decide +kernel) (by decide +kernel)
set_option maxRecDepth 20000 in
theorem gX5_isSame_X4_brokenStrings : GoodIn wsX5_isSame (wsV RX5 122 RX4 yX4_brokenStrings wsX4_brokenStrings) := goodIn_app (goodIn_of _ (by decide +kernel)) ggX5_isSame_X4_brokenStrings
set_option maxRecDepth 20000 in
theorem ggX5_isSame_X4_wouldBreak : GoodIn wsX5_isSame wsX4_wouldBreak := goodIn_r _ [162, 15, 163, 164, 165, 27, 166, 29, 42, 167, 31, 32, 33, 234, 235, 236, 237, 238, 239, 240, 241, 242, 243] (by decide +kernel) (by decide +kernel)
set_option maxRecDepth 20000 in
theorem gX5_isSame_X4_wouldBreak : GoodIn wsX5_isSame (wsV RX5 125 RX4 yX4_wouldBreak wsX4_wouldBreak) := goodIn_app (goodIn_of _ (by decide +kernel)) ggX5_isSame_X4_wouldBreak
set_option maxRecDepth 20000 in
theorem ggX5_isSame_X4_mostWorn : GoodIn wsX5_isSame wsX4_mostWorn := goodIn_r _ [171, 15, 172, 173, 174, 27, 175, 42, 158, 48, 49, 50, 234, 235, 236, 237, 238, 239, 240, 241, 242, 243] (by decide +kernel) (by decide +kernel)
set_option maxRecDepth 20000 in
theorem gX5_isSame_X4_mostWorn : GoodIn wsX5_isSame (wsV RX5 128 RX4 yX4_mostWorn wsX4_mostWorn) := goodIn_app (goodIn_of _ (by decide +kernel)) ggX5_isSame_X4_mostWorn
set_option maxRecDepth 20000 in
theorem ggX5_isSame_X4_spareStrings : GoodIn wsX5_isSame wsX4_spareStrings := goodIn_r _ [179, 15, 180, 181, 182, 27, 183, 184, 234, 235, 236, 237, 238, 239, 240, 241, 242, 243] (by decide +kernel) (by decide +kernel)
set_option maxRecDepth 20000 in
theorem gX5_isSame_X4_spareStrings : GoodIn wsX5_isSame (wsV RX5 131 RX4 yX4_spareStrings wsX4_spareStrings) := goodIn_app (goodIn_of _ (by decide +kernel)) ggX5_isSame_X4_spareStrings
set_option maxRecDepth 20000 in
theorem ggX5_isSame_X4_players : GoodIn wsX5_isSame wsX4_players := goodIn_r _ [188, 80, 234, 235, 236, 237, 238, 239, 240] (by decide +kernel) (by decide +kernel)
set_option maxRecDepth 20000 in
theorem gX5_isSame_X4_players : GoodIn wsX5_isSame (wsV RX5 134 RX4 yX4_players wsX4_players) := goodIn_app (goodIn_of _ (by decide +kernel)) ggX5_isSame_X4_players
set_option maxRecDepth 20000 in
theorem ggX5_isSame_X4_playerInTurn : GoodIn wsX5_isSame wsX4_playerInTurn := goodIn_r _ [192, 80, 193, 194, 195, 196, 13, 197, 198, 234, 235, 236, 237, 238, 239, 240] (by decide +kernel) (by decide +kernel)
set_option maxRecDepth 20000 in
theorem gX5_isSame_X4_playerInTurn : GoodIn wsX5_isSame (wsV RX5 136 RX4 yX4_playerInTurn wsX4_playerInTurn) := goodIn_app (goodIn_of _ (by decide +kernel)) ggX5_isSame_X4_playerInTurn
set_option maxRecDepth 20000 in
theorem ggX5_isSame_X5_isOver : GoodIn wsX5_isSame wsX5_isOver := goodIn_r _ [202, 8, 225, 226, 227, 228, 229, 230, 231, 232, 233] (by decide +kernel) (by decide +kernel)
set_option maxRecDepth 20000 in
theorem gX5_isSame_X5_isOver : GoodIn wsX5_isSame (wsV RX5 56 RX5 yX5_isOver wsX5_isOver) := goodIn_app (goodIn_of _ (by decide +kernel)) ggX5_isSame_X5_isOver
set_option maxRecDepth 20000 in
theorem ggX5_isSame_X4_frame : GoodIn wsX5_isSame wsX4_frame := goodIn_r _ [206, 198, 234, 235, 236, 237, 238, 239, 240] (by decide +kernel) (by decide +kernel)
set_option maxRecDepth 20000 in
theorem gX5_isSame_X4_frame : GoodIn wsX5_isSame (wsV RX5 139 RX4 yX4_frame wsX4_frame) := goodIn_app (goodIn_of _ (by decide +kernel)) ggX5_isSame_X4_frame
set_option maxRecDepth 20000 in
theorem ggX5_isSame_X4_throwsInFrame : GoodIn wsX5_isSame wsX4_throwsInFrame := goodIn_r _ [210, 211, 234, 235, 236, 237, 238, 239, 240] (by decide +kernel) (by decide +kernel)
set_option maxRecDepth 20000 in
theorem gX5_isSame_X4_throwsInFrame : GoodIn wsX5_isSame (wsV RX5 141 RX4 yX4_throwsInFrame wsX4_throwsInFrame) := goodIn_app (goodIn_of _ (by decide +kernel)) ggX5_isSame_X4_throwsInFrame
set_option maxRecDepth 20000 in
theorem ggX5_isSame_X4_isOver : GoodIn wsX5_isSame wsX4_isOver := goodIn_r _ [197, 198, 234, 235, 236, 237, 238, 239, 240] (by decide +kernel) (by decide +kernel)
set_option maxRecDepth 20000 in
theorem gX5_isSame_X4_isOver : GoodIn wsX5_isSame (wsV RX5 144 RX4 yX4_isOver wsX4_isOver) := goodIn_app (goodIn_of _ (by decide +kernel)) ggX5_isSame_X4_isOver
set_option maxRecDepth 20000 in
theorem ggX5_isSame_X4_leader : GoodIn wsX5_isSame wsX4_leader := goodIn_r _ [216, 80, 75, 111, 112, 113, 84, 114, 115, 82, 83, 85, 86, 87, 88, 89, 90, 91, 92, 93, 94, 234, 235, 236, 237, 238, 239, 240, 245, 246, 247, 248, 249] (by decide +kernel) (by decide +kernel)
set_option maxRecDepth 20000 in
theorem gX5_isSame_X4_leader : GoodIn wsX5_isSame (wsV RX5 145 RX4 yX4_leader wsX4_leader) := goodIn_app (goodIn_of _ (by decide +kernel)) ggX5_isSame_X4_leader
set_option maxRecDepth 20000 in
theorem ggX5_isSame_X5_leader : GoodIn wsX5_isSame wsX5_leader := goodIn_r _ [220, 4, 95, 96, 97, 68, 98, 65, 66, 67, 69, 5, 70, 225, 226, 227, 228, 229, 230, 231, 232, 233] (by decide +kernel) (by decide +kernel)
set_option maxRecDepth 20000 in
theorem gX5_isSame_X5_leader : GoodIn wsX5_isSame (wsV RX5 85 RX5 yX5_leader wsX5_leader) := goodIn_app (goodIn_of _ (by decide +kernel)) ggX5_isSame_X5_leader
set_option maxRecDepth 20000 in
theorem ggX5_isSame_X4_meanScore : GoodIn wsX5_isSame wsX4_meanScore := goodIn_r _ [224, 80, 75, 111, 112, 113, 84, 114, 115, 82, 83, 85, 86, 87, 88, 89, 90, 91, 92, 93, 94, 234, 235, 236, 237, 238, 239, 240, 245, 246, 247, 248, 249] (by decide +kernel) (by decide +kernel)
set_option maxRecDepth 20000 in
theorem gX5_isSame_X4_meanScore : GoodIn wsX5_isSame (wsV RX5 146 RX4 yX4_meanScore wsX4_meanScore) := goodIn_app (goodIn_of _ (by decide +kernel)) ggX5_isSame_X4_meanScore
theorem dX5_isSame_0 : decode cX5_isSame 0 = .ok (.iconst 0, 1) := by decide +kernel
theorem dX5_isSame_1 : decode cX5_isSame 1 = .ok (.istore_n 2, 1) := by decide +kernel
theorem dX5_isSame_2 : decode cX5_isSame 2 = .ok (.iconst (-1), 1) := by decide +kernel
theorem dX5_isSame_3 : decode cX5_isSame 3 = .ok (.istore_n 3, 1) := by decide +kernel
theorem dX5_isSame_4 : decode cX5_isSame 4 = .ok (.iconst 0, 1) := by decide +kernel
theorem dX5_isSame_5 : decode cX5_isSame 5 = .ok (.istore 4, 2) := by decide +kernel
theorem dX5_isSame_7 : decode cX5_isSame 7 = .ok (.bipush 8, 2) := by decide +kernel
theorem dX5_isSame_9 : decode cX5_isSame 9 = .ok (.istore 5, 2) := by decide +kernel
theorem dX5_isSame_11 : decode cX5_isSame 11 = .ok (.iload 5, 2) := by decide +kernel
theorem dX5_isSame_13 : decode cX5_isSame 13 = .ok (.ifCond .lt 168, 3) := by decide +kernel
theorem dX5_isSame_16 : decode cX5_isSame 16 = .ok (.aload_n 1, 1) := by decide +kernel
theorem dX5_isSame_17 : decode cX5_isSame 17 = .ok (.iload 5, 2) := by decide +kernel
theorem dX5_isSame_19 : decode cX5_isSame 19 = .ok (.invokevirtual 89, 3) := by decide +kernel
theorem dX5_isSame_22 : decode cX5_isSame 22 = .ok (.aload_n 0, 1) := by decide +kernel
theorem dX5_isSame_23 : decode cX5_isSame 23 = .ok (.getfield 7, 3) := by decide +kernel
theorem dX5_isSame_26 : decode cX5_isSame 26 = .ok (.iload 5, 2) := by decide +kernel
theorem dX5_isSame_28 : decode cX5_isSame 28 = .ok (.baload, 1) := by decide +kernel
theorem dX5_isSame_29 : decode cX5_isSame 29 = .ok (.if_icmp .ne 45, 3) := by decide +kernel
theorem dX5_isSame_32 : decode cX5_isSame 32 = .ok (.aload_n 1, 1) := by decide +kernel
theorem dX5_isSame_33 : decode cX5_isSame 33 = .ok (.iload 5, 2) := by decide +kernel
theorem dX5_isSame_35 : decode cX5_isSame 35 = .ok (.invokevirtual 95, 3) := by decide +kernel
theorem dX5_isSame_38 : decode cX5_isSame 38 = .ok (.aload_n 0, 1) := by decide +kernel
theorem dX5_isSame_39 : decode cX5_isSame 39 = .ok (.getfield 13, 3) := by decide +kernel
theorem dX5_isSame_42 : decode cX5_isSame 42 = .ok (.iload 5, 2) := by decide +kernel
theorem dX5_isSame_44 : decode cX5_isSame 44 = .ok (.iaload, 1) := by decide +kernel
theorem dX5_isSame_45 : decode cX5_isSame 45 = .ok (.if_icmp .ne 29, 3) := by decide +kernel
theorem dX5_isSame_48 : decode cX5_isSame 48 = .ok (.aload_n 1, 1) := by decide +kernel
theorem dX5_isSame_49 : decode cX5_isSame 49 = .ok (.iload 5, 2) := by decide +kernel
theorem dX5_isSame_51 : decode cX5_isSame 51 = .ok (.invokevirtual 98, 3) := by decide +kernel
theorem dX5_isSame_54 : decode cX5_isSame 54 = .ok (.aload_n 0, 1) := by decide +kernel
theorem dX5_isSame_55 : decode cX5_isSame 55 = .ok (.getfield 13, 3) := by decide +kernel
theorem dX5_isSame_58 : decode cX5_isSame 58 = .ok (.iload 5, 2) := by decide +kernel
theorem dX5_isSame_60 : decode cX5_isSame 60 = .ok (.iaload, 1) := by decide +kernel
theorem dX5_isSame_61 : decode cX5_isSame 61 = .ok (.bipush 12, 2) := by decide +kernel
theorem dX5_isSame_63 : decode cX5_isSame 63 = .ok (.if_icmp .ne 7, 3) := by decide +kernel
theorem dX5_isSame_66 : decode cX5_isSame 66 = .ok (.iconst 1, 1) := by decide +kernel
theorem dX5_isSame_67 : decode cX5_isSame 67 = .ok (.goto 4, 3) := by decide +kernel
theorem dX5_isSame_70 : decode cX5_isSame 70 = .ok (.iconst 0, 1) := by decide +kernel
theorem dX5_isSame_71 : decode cX5_isSame 71 = .ok (.if_icmp .eq 5, 3) := by decide +kernel
theorem dX5_isSame_74 : decode cX5_isSame 74 = .ok (.iconst 0, 1) := by decide +kernel
theorem dX5_isSame_75 : decode cX5_isSame 75 = .ok (.ireturn, 1) := by decide +kernel
theorem dX5_isSame_76 : decode cX5_isSame 76 = .ok (.iload_n 2, 1) := by decide +kernel
theorem dX5_isSame_77 : decode cX5_isSame 77 = .ok (.aload_n 0, 1) := by decide +kernel
theorem dX5_isSame_78 : decode cX5_isSame 78 = .ok (.getfield 13, 3) := by decide +kernel
theorem dX5_isSame_81 : decode cX5_isSame 81 = .ok (.iload 5, 2) := by decide +kernel
theorem dX5_isSame_83 : decode cX5_isSame 83 = .ok (.iaload, 1) := by decide +kernel
theorem dX5_isSame_84 : decode cX5_isSame 84 = .ok (.bipush 12, 2) := by decide +kernel
theorem dX5_isSame_86 : decode cX5_isSame 86 = .ok (.if_icmp .ne 7, 3) := by decide +kernel
theorem dX5_isSame_89 : decode cX5_isSame 89 = .ok (.iconst 1, 1) := by decide +kernel
theorem dX5_isSame_90 : decode cX5_isSame 90 = .ok (.goto 4, 3) := by decide +kernel
theorem dX5_isSame_93 : decode cX5_isSame 93 = .ok (.iconst 0, 1) := by decide +kernel
theorem dX5_isSame_94 : decode cX5_isSame 94 = .ok (.iadd, 1) := by decide +kernel
theorem dX5_isSame_95 : decode cX5_isSame 95 = .ok (.istore_n 2, 1) := by decide +kernel
theorem dX5_isSame_96 : decode cX5_isSame 96 = .ok (.iload 4, 2) := by decide +kernel
theorem dX5_isSame_98 : decode cX5_isSame 98 = .ok (.aload_n 0, 1) := by decide +kernel
theorem dX5_isSame_99 : decode cX5_isSame 99 = .ok (.getfield 13, 3) := by decide +kernel
theorem dX5_isSame_102 : decode cX5_isSame 102 = .ok (.iload 5, 2) := by decide +kernel
theorem dX5_isSame_104 : decode cX5_isSame 104 = .ok (.iaload, 1) := by decide +kernel
theorem dX5_isSame_105 : decode cX5_isSame 105 = .ok (.bipush 12, 2) := by decide +kernel
theorem dX5_isSame_107 : decode cX5_isSame 107 = .ok (.if_icmp .eq 25, 3) := by decide +kernel
theorem dX5_isSame_110 : decode cX5_isSame 110 = .ok (.aload_n 0, 1) := by decide +kernel
theorem dX5_isSame_111 : decode cX5_isSame 111 = .ok (.getfield 13, 3) := by decide +kernel
theorem dX5_isSame_114 : decode cX5_isSame 114 = .ok (.iload 5, 2) := by decide +kernel
theorem dX5_isSame_116 : decode cX5_isSame 116 = .ok (.iaload, 1) := by decide +kernel
theorem dX5_isSame_117 : decode cX5_isSame 117 = .ok (.bipush 11, 2) := by decide +kernel
theorem dX5_isSame_119 : decode cX5_isSame 119 = .ok (.if_icmp .ne 17, 3) := by decide +kernel
theorem dX5_isSame_122 : decode cX5_isSame 122 = .ok (.aload_n 0, 1) := by decide +kernel
theorem dX5_isSame_123 : decode cX5_isSame 123 = .ok (.getfield 7, 3) := by decide +kernel
theorem dX5_isSame_126 : decode cX5_isSame 126 = .ok (.iload 5, 2) := by decide +kernel
theorem dX5_isSame_128 : decode cX5_isSame 128 = .ok (.baload, 1) := by decide +kernel
theorem dX5_isSame_129 : decode cX5_isSame 129 = .ok (.ifCond .eq 7, 3) := by decide +kernel
theorem dX5_isSame_132 : decode cX5_isSame 132 = .ok (.iconst 1, 1) := by decide +kernel
theorem dX5_isSame_133 : decode cX5_isSame 133 = .ok (.goto 4, 3) := by decide +kernel
theorem dX5_isSame_136 : decode cX5_isSame 136 = .ok (.iconst 0, 1) := by decide +kernel
theorem dX5_isSame_137 : decode cX5_isSame 137 = .ok (.iadd, 1) := by decide +kernel
theorem dX5_isSame_138 : decode cX5_isSame 138 = .ok (.istore 4, 2) := by decide +kernel
theorem dX5_isSame_140 : decode cX5_isSame 140 = .ok (.aload_n 0, 1) := by decide +kernel
theorem dX5_isSame_141 : decode cX5_isSame 141 = .ok (.getfield 13, 3) := by decide +kernel
theorem dX5_isSame_144 : decode cX5_isSame 144 = .ok (.iload 5, 2) := by decide +kernel
theorem dX5_isSame_146 : decode cX5_isSame 146 = .ok (.iaload, 1) := by decide +kernel
theorem dX5_isSame_147 : decode cX5_isSame 147 = .ok (.bipush 12, 2) := by decide +kernel
theorem dX5_isSame_149 : decode cX5_isSame 149 = .ok (.if_icmp .ge 26, 3) := by decide +kernel
theorem dX5_isSame_152 : decode cX5_isSame 152 = .ok (.iload_n 3, 1) := by decide +kernel
theorem dX5_isSame_153 : decode cX5_isSame 153 = .ok (.ifCond .lt 19, 3) := by decide +kernel
theorem dX5_isSame_156 : decode cX5_isSame 156 = .ok (.aload_n 0, 1) := by decide +kernel
theorem dX5_isSame_157 : decode cX5_isSame 157 = .ok (.getfield 13, 3) := by decide +kernel
theorem dX5_isSame_160 : decode cX5_isSame 160 = .ok (.iload 5, 2) := by decide +kernel
theorem dX5_isSame_162 : decode cX5_isSame 162 = .ok (.iaload, 1) := by decide +kernel
theorem dX5_isSame_163 : decode cX5_isSame 163 = .ok (.aload_n 0, 1) := by decide +kernel
theorem dX5_isSame_164 : decode cX5_isSame 164 = .ok (.getfield 13, 3) := by decide +kernel
theorem dX5_isSame_167 : decode cX5_isSame 167 = .ok (.iload_n 3, 1) := by decide +kernel
theorem dX5_isSame_168 : decode cX5_isSame 168 = .ok (.iaload, 1) := by decide +kernel
theorem dX5_isSame_169 : decode cX5_isSame 169 = .ok (.if_icmp .lt 6, 3) := by decide +kernel
theorem dX5_isSame_172 : decode cX5_isSame 172 = .ok (.iload 5, 2) := by decide +kernel
theorem dX5_isSame_174 : decode cX5_isSame 174 = .ok (.istore_n 3, 1) := by decide +kernel
theorem dX5_isSame_175 : decode cX5_isSame 175 = .ok (.iinc 5 (-1), 3) := by decide +kernel
theorem dX5_isSame_178 : decode cX5_isSame 178 = .ok (.goto (-167), 3) := by decide +kernel
theorem dX5_isSame_181 : decode cX5_isSame 181 = .ok (.iconst 0, 1) := by decide +kernel
theorem dX5_isSame_182 : decode cX5_isSame 182 = .ok (.istore 5, 2) := by decide +kernel
theorem dX5_isSame_184 : decode cX5_isSame 184 = .ok (.iload 5, 2) := by decide +kernel
theorem dX5_isSame_186 : decode cX5_isSame 186 = .ok (.iconst 5, 1) := by decide +kernel
theorem dX5_isSame_187 : decode cX5_isSame 187 = .ok (.if_icmp .ge 27, 3) := by decide +kernel
theorem dX5_isSame_190 : decode cX5_isSame 190 = .ok (.aload_n 1, 1) := by decide +kernel
theorem dX5_isSame_191 : decode cX5_isSame 191 = .ok (.iload 5, 2) := by decide +kernel
theorem dX5_isSame_193 : decode cX5_isSame 193 = .ok (.invokevirtual 101, 3) := by decide +kernel
theorem dX5_isSame_196 : decode cX5_isSame 196 = .ok (.aload_n 0, 1) := by decide +kernel
theorem dX5_isSame_197 : decode cX5_isSame 197 = .ok (.getfield 17, 3) := by decide +kernel
theorem dX5_isSame_200 : decode cX5_isSame 200 = .ok (.iload 5, 2) := by decide +kernel
theorem dX5_isSame_202 : decode cX5_isSame 202 = .ok (.iaload, 1) := by decide +kernel
theorem dX5_isSame_203 : decode cX5_isSame 203 = .ok (.if_icmp .eq 5, 3) := by decide +kernel
theorem dX5_isSame_206 : decode cX5_isSame 206 = .ok (.iconst 0, 1) := by decide +kernel
theorem dX5_isSame_207 : decode cX5_isSame 207 = .ok (.ireturn, 1) := by decide +kernel
theorem dX5_isSame_208 : decode cX5_isSame 208 = .ok (.iinc 5 1, 3) := by decide +kernel
theorem dX5_isSame_211 : decode cX5_isSame 211 = .ok (.goto (-27), 3) := by decide +kernel
theorem dX5_isSame_214 : decode cX5_isSame 214 = .ok (.iconst 0, 1) := by decide +kernel
theorem dX5_isSame_215 : decode cX5_isSame 215 = .ok (.istore 5, 2) := by decide +kernel
theorem dX5_isSame_217 : decode cX5_isSame 217 = .ok (.iconst 0, 1) := by decide +kernel
theorem dX5_isSame_218 : decode cX5_isSame 218 = .ok (.istore 6, 2) := by decide +kernel
theorem dX5_isSame_220 : decode cX5_isSame 220 = .ok (.iload 6, 2) := by decide +kernel
theorem dX5_isSame_222 : decode cX5_isSame 222 = .ok (.aload_n 0, 1) := by decide +kernel
theorem dX5_isSame_223 : decode cX5_isSame 223 = .ok (.getfield 53, 3) := by decide +kernel
theorem dX5_isSame_226 : decode cX5_isSame 226 = .ok (.if_icmp .ge 193, 3) := by decide +kernel
theorem dX5_isSame_229 : decode cX5_isSame 229 = .ok (.iconst 0, 1) := by decide +kernel
theorem dX5_isSame_230 : decode cX5_isSame 230 = .ok (.istore 7, 2) := by decide +kernel
theorem dX5_isSame_232 : decode cX5_isSame 232 = .ok (.iconst 0, 1) := by decide +kernel
theorem dX5_isSame_233 : decode cX5_isSame 233 = .ok (.istore 8, 2) := by decide +kernel
theorem dX5_isSame_235 : decode cX5_isSame 235 = .ok (.iconst 0, 1) := by decide +kernel
theorem dX5_isSame_236 : decode cX5_isSame 236 = .ok (.istore 9, 2) := by decide +kernel
theorem dX5_isSame_238 : decode cX5_isSame 238 = .ok (.aload_n 0, 1) := by decide +kernel
theorem dX5_isSame_239 : decode cX5_isSame 239 = .ok (.getfield 25, 3) := by decide +kernel
theorem dX5_isSame_242 : decode cX5_isSame 242 = .ok (.astore 10, 2) := by decide +kernel
theorem dX5_isSame_244 : decode cX5_isSame 244 = .ok (.aload 10, 2) := by decide +kernel
theorem dX5_isSame_246 : decode cX5_isSame 246 = .ok (.arraylength, 1) := by decide +kernel
theorem dX5_isSame_247 : decode cX5_isSame 247 = .ok (.istore 11, 2) := by decide +kernel
theorem dX5_isSame_249 : decode cX5_isSame 249 = .ok (.iconst 0, 1) := by decide +kernel
theorem dX5_isSame_250 : decode cX5_isSame 250 = .ok (.istore 12, 2) := by decide +kernel
theorem dX5_isSame_252 : decode cX5_isSame 252 = .ok (.iload 12, 2) := by decide +kernel
theorem dX5_isSame_254 : decode cX5_isSame 254 = .ok (.iload 11, 2) := by decide +kernel
theorem dX5_isSame_256 : decode cX5_isSame 256 = .ok (.if_icmp .ge 35, 3) := by decide +kernel
theorem dX5_isSame_259 : decode cX5_isSame 259 = .ok (.aload 10, 2) := by decide +kernel
theorem dX5_isSame_261 : decode cX5_isSame 261 = .ok (.iload 12, 2) := by decide +kernel
theorem dX5_isSame_263 : decode cX5_isSame 263 = .ok (.aaload, 1) := by decide +kernel
theorem dX5_isSame_264 : decode cX5_isSame 264 = .ok (.astore 13, 2) := by decide +kernel
theorem dX5_isSame_266 : decode cX5_isSame 266 = .ok (.iload 7, 2) := by decide +kernel
theorem dX5_isSame_268 : decode cX5_isSame 268 = .ok (.aload 13, 2) := by decide +kernel
theorem dX5_isSame_270 : decode cX5_isSame 270 = .ok (.iconst 0, 1) := by decide +kernel
theorem dX5_isSame_271 : decode cX5_isSame 271 = .ok (.iaload, 1) := by decide +kernel
theorem dX5_isSame_272 : decode cX5_isSame 272 = .ok (.iload 6, 2) := by decide +kernel
theorem dX5_isSame_274 : decode cX5_isSame 274 = .ok (.if_icmp .ne 7, 3) := by decide +kernel
theorem dX5_isSame_277 : decode cX5_isSame 277 = .ok (.iconst 1, 1) := by decide +kernel
theorem dX5_isSame_278 : decode cX5_isSame 278 = .ok (.goto 4, 3) := by decide +kernel
theorem dX5_isSame_281 : decode cX5_isSame 281 = .ok (.iconst 0, 1) := by decide +kernel
theorem dX5_isSame_282 : decode cX5_isSame 282 = .ok (.iadd, 1) := by decide +kernel
theorem dX5_isSame_283 : decode cX5_isSame 283 = .ok (.istore 7, 2) := by decide +kernel
theorem dX5_isSame_285 : decode cX5_isSame 285 = .ok (.iinc 12 1, 3) := by decide +kernel
theorem dX5_isSame_288 : decode cX5_isSame 288 = .ok (.goto (-36), 3) := by decide +kernel
theorem dX5_isSame_291 : decode cX5_isSame 291 = .ok (.iconst 0, 1) := by decide +kernel
theorem dX5_isSame_292 : decode cX5_isSame 292 = .ok (.istore 10, 2) := by decide +kernel
theorem dX5_isSame_294 : decode cX5_isSame 294 = .ok (.iload 10, 2) := by decide +kernel
theorem dX5_isSame_296 : decode cX5_isSame 296 = .ok (.bipush 10, 2) := by decide +kernel
theorem dX5_isSame_298 : decode cX5_isSame 298 = .ok (.if_icmp .ge 54, 3) := by decide +kernel
theorem dX5_isSame_301 : decode cX5_isSame 301 = .ok (.aload_n 0, 1) := by decide +kernel
theorem dX5_isSame_302 : decode cX5_isSame 302 = .ok (.iload 6, 2) := by decide +kernel
theorem dX5_isSame_304 : decode cX5_isSame 304 = .ok (.iload 10, 2) := by decide +kernel
theorem dX5_isSame_306 : decode cX5_isSame 306 = .ok (.invokevirtual 77, 3) := by decide +kernel
theorem dX5_isSame_309 : decode cX5_isSame 309 = .ok (.astore 11, 2) := by decide +kernel
theorem dX5_isSame_311 : decode cX5_isSame 311 = .ok (.aload_n 1, 1) := by decide +kernel
theorem dX5_isSame_312 : decode cX5_isSame 312 = .ok (.iload 6, 2) := by decide +kernel
theorem dX5_isSame_314 : decode cX5_isSame 314 = .ok (.iload 10, 2) := by decide +kernel
theorem dX5_isSame_316 : decode cX5_isSame 316 = .ok (.invokevirtual 104, 3) := by decide +kernel
theorem dX5_isSame_319 : decode cX5_isSame 319 = .ok (.aload 11, 2) := by decide +kernel
theorem dX5_isSame_321 : decode cX5_isSame 321 = .ok (.iconst 0, 1) := by decide +kernel
theorem dX5_isSame_322 : decode cX5_isSame 322 = .ok (.iaload, 1) := by decide +kernel
theorem dX5_isSame_323 : decode cX5_isSame 323 = .ok (.if_icmp .eq 5, 3) := by decide +kernel
theorem dX5_isSame_326 : decode cX5_isSame 326 = .ok (.iconst 0, 1) := by decide +kernel
theorem dX5_isSame_327 : decode cX5_isSame 327 = .ok (.ireturn, 1) := by decide +kernel
theorem dX5_isSame_328 : decode cX5_isSame 328 = .ok (.iload 8, 2) := by decide +kernel
theorem dX5_isSame_330 : decode cX5_isSame 330 = .ok (.aload 11, 2) := by decide +kernel
theorem dX5_isSame_332 : decode cX5_isSame 332 = .ok (.iconst 1, 1) := by decide +kernel
theorem dX5_isSame_333 : decode cX5_isSame 333 = .ok (.iaload, 1) := by decide +kernel
theorem dX5_isSame_334 : decode cX5_isSame 334 = .ok (.iadd, 1) := by decide +kernel
theorem dX5_isSame_335 : decode cX5_isSame 335 = .ok (.istore 8, 2) := by decide +kernel
theorem dX5_isSame_337 : decode cX5_isSame 337 = .ok (.iload 9, 2) := by decide +kernel
theorem dX5_isSame_339 : decode cX5_isSame 339 = .ok (.aload 11, 2) := by decide +kernel
theorem dX5_isSame_341 : decode cX5_isSame 341 = .ok (.iconst 2, 1) := by decide +kernel
theorem dX5_isSame_342 : decode cX5_isSame 342 = .ok (.iaload, 1) := by decide +kernel
theorem dX5_isSame_343 : decode cX5_isSame 343 = .ok (.iadd, 1) := by decide +kernel
theorem dX5_isSame_344 : decode cX5_isSame 344 = .ok (.istore 9, 2) := by decide +kernel
theorem dX5_isSame_346 : decode cX5_isSame 346 = .ok (.iinc 10 1, 3) := by decide +kernel
theorem dX5_isSame_349 : decode cX5_isSame 349 = .ok (.goto (-55), 3) := by decide +kernel
theorem dX5_isSame_352 : decode cX5_isSame 352 = .ok (.iload 5, 2) := by decide +kernel
theorem dX5_isSame_354 : decode cX5_isSame 354 = .ok (.aload_n 0, 1) := by decide +kernel
theorem dX5_isSame_355 : decode cX5_isSame 355 = .ok (.iload 6, 2) := by decide +kernel
theorem dX5_isSame_357 : decode cX5_isSame 357 = .ok (.invokevirtual 81, 3) := by decide +kernel
theorem dX5_isSame_360 : decode cX5_isSame 360 = .ok (.iadd, 1) := by decide +kernel
theorem dX5_isSame_361 : decode cX5_isSame 361 = .ok (.istore 5, 2) := by decide +kernel
theorem dX5_isSame_363 : decode cX5_isSame 363 = .ok (.aload_n 1, 1) := by decide +kernel
theorem dX5_isSame_364 : decode cX5_isSame 364 = .ok (.iload 6, 2) := by decide +kernel
theorem dX5_isSame_366 : decode cX5_isSame 366 = .ok (.invokevirtual 107, 3) := by decide +kernel
theorem dX5_isSame_369 : decode cX5_isSame 369 = .ok (.iload 7, 2) := by decide +kernel
theorem dX5_isSame_371 : decode cX5_isSame 371 = .ok (.if_icmp .ne 40, 3) := by decide +kernel
theorem dX5_isSame_374 : decode cX5_isSame 374 = .ok (.aload_n 1, 1) := by decide +kernel
theorem dX5_isSame_375 : decode cX5_isSame 375 = .ok (.iload 6, 2) := by decide +kernel
theorem dX5_isSame_377 : decode cX5_isSame 377 = .ok (.invokevirtual 110, 3) := by decide +kernel
theorem dX5_isSame_380 : decode cX5_isSame 380 = .ok (.aload_n 0, 1) := by decide +kernel
theorem dX5_isSame_381 : decode cX5_isSame 381 = .ok (.iload 6, 2) := by decide +kernel
theorem dX5_isSame_383 : decode cX5_isSame 383 = .ok (.invokevirtual 81, 3) := by decide +kernel
theorem dX5_isSame_386 : decode cX5_isSame 386 = .ok (.if_icmp .ne 25, 3) := by decide +kernel
theorem dX5_isSame_389 : decode cX5_isSame 389 = .ok (.aload_n 1, 1) := by decide +kernel
theorem dX5_isSame_390 : decode cX5_isSame 390 = .ok (.iload 6, 2) := by decide +kernel
theorem dX5_isSame_392 : decode cX5_isSame 392 = .ok (.invokevirtual 113, 3) := by decide +kernel
theorem dX5_isSame_395 : decode cX5_isSame 395 = .ok (.iload 8, 2) := by decide +kernel
theorem dX5_isSame_397 : decode cX5_isSame 397 = .ok (.if_icmp .ne 14, 3) := by decide +kernel
theorem dX5_isSame_400 : decode cX5_isSame 400 = .ok (.aload_n 1, 1) := by decide +kernel
theorem dX5_isSame_401 : decode cX5_isSame 401 = .ok (.iload 6, 2) := by decide +kernel
theorem dX5_isSame_403 : decode cX5_isSame 403 = .ok (.invokevirtual 116, 3) := by decide +kernel
theorem dX5_isSame_406 : decode cX5_isSame 406 = .ok (.iload 9, 2) := by decide +kernel
theorem dX5_isSame_408 : decode cX5_isSame 408 = .ok (.if_icmp .eq 5, 3) := by decide +kernel
theorem dX5_isSame_411 : decode cX5_isSame 411 = .ok (.iconst 0, 1) := by decide +kernel
theorem dX5_isSame_412 : decode cX5_isSame 412 = .ok (.ireturn, 1) := by decide +kernel
theorem dX5_isSame_413 : decode cX5_isSame 413 = .ok (.iinc 6 1, 3) := by decide +kernel
theorem dX5_isSame_416 : decode cX5_isSame 416 = .ok (.goto (-196), 3) := by decide +kernel
theorem dX5_isSame_419 : decode cX5_isSame 419 = .ok (.aload_n 1, 1) := by decide +kernel
theorem dX5_isSame_420 : decode cX5_isSame 420 = .ok (.invokevirtual 119, 3) := by decide +kernel
theorem dX5_isSame_423 : decode cX5_isSame 423 = .ok (.aload_n 0, 1) := by decide +kernel
theorem dX5_isSame_424 : decode cX5_isSame 424 = .ok (.getfield 7, 3) := by decide +kernel
theorem dX5_isSame_427 : decode cX5_isSame 427 = .ok (.invokestatic 64, 3) := by decide +kernel
theorem dX5_isSame_430 : decode cX5_isSame 430 = .ok (.if_icmp .ne 155, 3) := by decide +kernel
theorem dX5_isSame_433 : decode cX5_isSame 433 = .ok (.aload_n 1, 1) := by decide +kernel
theorem dX5_isSame_434 : decode cX5_isSame 434 = .ok (.invokevirtual 122, 3) := by decide +kernel
theorem dX5_isSame_437 : decode cX5_isSame 437 = .ok (.iload_n 2, 1) := by decide +kernel
theorem dX5_isSame_438 : decode cX5_isSame 438 = .ok (.if_icmp .ne 147, 3) := by decide +kernel
theorem dX5_isSame_441 : decode cX5_isSame 441 = .ok (.aload_n 1, 1) := by decide +kernel
theorem dX5_isSame_442 : decode cX5_isSame 442 = .ok (.invokevirtual 125, 3) := by decide +kernel
theorem dX5_isSame_445 : decode cX5_isSame 445 = .ok (.iload 4, 2) := by decide +kernel
theorem dX5_isSame_447 : decode cX5_isSame 447 = .ok (.if_icmp .ne 138, 3) := by decide +kernel
theorem dX5_isSame_450 : decode cX5_isSame 450 = .ok (.aload_n 1, 1) := by decide +kernel
theorem dX5_isSame_451 : decode cX5_isSame 451 = .ok (.invokevirtual 128, 3) := by decide +kernel
theorem dX5_isSame_454 : decode cX5_isSame 454 = .ok (.iload_n 3, 1) := by decide +kernel
theorem dX5_isSame_455 : decode cX5_isSame 455 = .ok (.if_icmp .ne 130, 3) := by decide +kernel
theorem dX5_isSame_458 : decode cX5_isSame 458 = .ok (.aload_n 1, 1) := by decide +kernel
theorem dX5_isSame_459 : decode cX5_isSame 459 = .ok (.invokevirtual 131, 3) := by decide +kernel
theorem dX5_isSame_462 : decode cX5_isSame 462 = .ok (.aload_n 0, 1) := by decide +kernel
theorem dX5_isSame_463 : decode cX5_isSame 463 = .ok (.getfield 20, 3) := by decide +kernel
theorem dX5_isSame_466 : decode cX5_isSame 466 = .ok (.if_icmp .ne 119, 3) := by decide +kernel
theorem dX5_isSame_469 : decode cX5_isSame 469 = .ok (.aload_n 1, 1) := by decide +kernel
theorem dX5_isSame_470 : decode cX5_isSame 470 = .ok (.invokevirtual 134, 3) := by decide +kernel
theorem dX5_isSame_473 : decode cX5_isSame 473 = .ok (.aload_n 0, 1) := by decide +kernel
theorem dX5_isSame_474 : decode cX5_isSame 474 = .ok (.getfield 53, 3) := by decide +kernel
theorem dX5_isSame_477 : decode cX5_isSame 477 = .ok (.if_icmp .ne 108, 3) := by decide +kernel
theorem dX5_isSame_480 : decode cX5_isSame 480 = .ok (.aload_n 1, 1) := by decide +kernel
theorem dX5_isSame_481 : decode cX5_isSame 481 = .ok (.invokevirtual 136, 3) := by decide +kernel
theorem dX5_isSame_484 : decode cX5_isSame 484 = .ok (.aload_n 0, 1) := by decide +kernel
theorem dX5_isSame_485 : decode cX5_isSame 485 = .ok (.getfield 53, 3) := by decide +kernel
theorem dX5_isSame_488 : decode cX5_isSame 488 = .ok (.ifCond .eq 10, 3) := by decide +kernel
theorem dX5_isSame_491 : decode cX5_isSame 491 = .ok (.aload_n 0, 1) := by decide +kernel
theorem dX5_isSame_492 : decode cX5_isSame 492 = .ok (.invokevirtual 56, 3) := by decide +kernel
theorem dX5_isSame_495 : decode cX5_isSame 495 = .ok (.ifCond .eq 7, 3) := by decide +kernel
theorem dX5_isSame_498 : decode cX5_isSame 498 = .ok (.iconst (-1), 1) := by decide +kernel
theorem dX5_isSame_499 : decode cX5_isSame 499 = .ok (.goto 7, 3) := by decide +kernel
theorem dX5_isSame_502 : decode cX5_isSame 502 = .ok (.aload_n 0, 1) := by decide +kernel
theorem dX5_isSame_503 : decode cX5_isSame 503 = .ok (.getfield 71, 3) := by decide +kernel
theorem dX5_isSame_506 : decode cX5_isSame 506 = .ok (.if_icmp .ne 79, 3) := by decide +kernel
theorem dX5_isSame_509 : decode cX5_isSame 509 = .ok (.aload_n 1, 1) := by decide +kernel
theorem dX5_isSame_510 : decode cX5_isSame 510 = .ok (.invokevirtual 139, 3) := by decide +kernel
theorem dX5_isSame_513 : decode cX5_isSame 513 = .ok (.aload_n 0, 1) := by decide +kernel
theorem dX5_isSame_514 : decode cX5_isSame 514 = .ok (.getfield 50, 3) := by decide +kernel
theorem dX5_isSame_517 : decode cX5_isSame 517 = .ok (.if_icmp .ne 68, 3) := by decide +kernel
theorem dX5_isSame_520 : decode cX5_isSame 520 = .ok (.aload_n 1, 1) := by decide +kernel
theorem dX5_isSame_521 : decode cX5_isSame 521 = .ok (.invokevirtual 141, 3) := by decide +kernel
theorem dX5_isSame_524 : decode cX5_isSame 524 = .ok (.aload_n 0, 1) := by decide +kernel
theorem dX5_isSame_525 : decode cX5_isSame 525 = .ok (.getfield 68, 3) := by decide +kernel
theorem dX5_isSame_528 : decode cX5_isSame 528 = .ok (.if_icmp .ne 57, 3) := by decide +kernel
theorem dX5_isSame_531 : decode cX5_isSame 531 = .ok (.aload_n 1, 1) := by decide +kernel
theorem dX5_isSame_532 : decode cX5_isSame 532 = .ok (.invokevirtual 144, 3) := by decide +kernel
theorem dX5_isSame_535 : decode cX5_isSame 535 = .ok (.aload_n 0, 1) := by decide +kernel
theorem dX5_isSame_536 : decode cX5_isSame 536 = .ok (.invokevirtual 56, 3) := by decide +kernel
theorem dX5_isSame_539 : decode cX5_isSame 539 = .ok (.if_icmp .ne 46, 3) := by decide +kernel
theorem dX5_isSame_542 : decode cX5_isSame 542 = .ok (.aload_n 1, 1) := by decide +kernel
theorem dX5_isSame_543 : decode cX5_isSame 543 = .ok (.invokevirtual 145, 3) := by decide +kernel
theorem dX5_isSame_546 : decode cX5_isSame 546 = .ok (.aload_n 0, 1) := by decide +kernel
theorem dX5_isSame_547 : decode cX5_isSame 547 = .ok (.invokevirtual 85, 3) := by decide +kernel
theorem dX5_isSame_550 : decode cX5_isSame 550 = .ok (.if_icmp .ne 35, 3) := by decide +kernel
theorem dX5_isSame_553 : decode cX5_isSame 553 = .ok (.aload_n 1, 1) := by decide +kernel
theorem dX5_isSame_554 : decode cX5_isSame 554 = .ok (.invokevirtual 146, 3) := by decide +kernel
theorem dX5_isSame_557 : decode cX5_isSame 557 = .ok (.aload_n 0, 1) := by decide +kernel
theorem dX5_isSame_558 : decode cX5_isSame 558 = .ok (.getfield 53, 3) := by decide +kernel
theorem dX5_isSame_561 : decode cX5_isSame 561 = .ok (.ifCond .ne 7, 3) := by decide +kernel
theorem dX5_isSame_564 : decode cX5_isSame 564 = .ok (.dconst 0, 1) := by decide +kernel
theorem dX5_isSame_565 : decode cX5_isSame 565 = .ok (.goto 12, 3) := by decide +kernel
theorem dX5_isSame_568 : decode cX5_isSame 568 = .ok (.iload 5, 2) := by decide +kernel
theorem dX5_isSame_570 : decode cX5_isSame 570 = .ok (.i2d, 1) := by decide +kernel
theorem dX5_isSame_571 : decode cX5_isSame 571 = .ok (.aload_n 0, 1) := by decide +kernel
theorem dX5_isSame_572 : decode cX5_isSame 572 = .ok (.getfield 53, 3) := by decide +kernel
theorem dX5_isSame_575 : decode cX5_isSame 575 = .ok (.i2d, 1) := by decide +kernel
theorem dX5_isSame_576 : decode cX5_isSame 576 = .ok (.ddiv, 1) := by decide +kernel
theorem dX5_isSame_577 : decode cX5_isSame 577 = .ok (.dcmp .l, 1) := by decide +kernel
theorem dX5_isSame_578 : decode cX5_isSame 578 = .ok (.ifCond .ne 7, 3) := by decide +kernel
theorem dX5_isSame_581 : decode cX5_isSame 581 = .ok (.iconst 1, 1) := by decide +kernel
theorem dX5_isSame_582 : decode cX5_isSame 582 = .ok (.goto 4, 3) := by decide +kernel
theorem dX5_isSame_585 : decode cX5_isSame 585 = .ok (.iconst 0, 1) := by decide +kernel
theorem dX5_isSame_586 : decode cX5_isSame 586 = .ok (.ireturn, 1) := by decide +kernel
theorem dJ6_bitCount_0f7a4_0 : decode cJ6_bitCount_0f7a4 0 = .ok (.iload_n 0, 1) := by decide +kernel
theorem dJ6_bitCount_0f7a4_1 : decode cJ6_bitCount_0f7a4 1 = .ok (.iload_n 0, 1) := by decide +kernel
theorem dJ6_bitCount_0f7a4_2 : decode cJ6_bitCount_0f7a4 2 = .ok (.iconst 1, 1) := by decide +kernel
theorem dJ6_bitCount_0f7a4_3 : decode cJ6_bitCount_0f7a4 3 = .ok (.iushr, 1) := by decide +kernel
theorem dJ6_bitCount_0f7a4_4 : decode cJ6_bitCount_0f7a4 4 = .ok (.ldc_w 265, 3) := by decide +kernel
theorem dJ6_bitCount_0f7a4_7 : decode cJ6_bitCount_0f7a4 7 = .ok (.iand, 1) := by decide +kernel
theorem dJ6_bitCount_0f7a4_8 : decode cJ6_bitCount_0f7a4 8 = .ok (.isub, 1) := by decide +kernel
theorem dJ6_bitCount_0f7a4_9 : decode cJ6_bitCount_0f7a4 9 = .ok (.istore_n 0, 1) := by decide +kernel
theorem dJ6_bitCount_0f7a4_10 : decode cJ6_bitCount_0f7a4 10 = .ok (.iload_n 0, 1) := by decide +kernel
theorem dJ6_bitCount_0f7a4_11 : decode cJ6_bitCount_0f7a4 11 = .ok (.ldc_w 266, 3) := by decide +kernel
theorem dJ6_bitCount_0f7a4_14 : decode cJ6_bitCount_0f7a4 14 = .ok (.iand, 1) := by decide +kernel
theorem dJ6_bitCount_0f7a4_15 : decode cJ6_bitCount_0f7a4 15 = .ok (.iload_n 0, 1) := by decide +kernel
theorem dJ6_bitCount_0f7a4_16 : decode cJ6_bitCount_0f7a4 16 = .ok (.iconst 2, 1) := by decide +kernel
theorem dJ6_bitCount_0f7a4_17 : decode cJ6_bitCount_0f7a4 17 = .ok (.iushr, 1) := by decide +kernel
theorem dJ6_bitCount_0f7a4_18 : decode cJ6_bitCount_0f7a4 18 = .ok (.ldc_w 266, 3) := by decide +kernel
theorem dJ6_bitCount_0f7a4_21 : decode cJ6_bitCount_0f7a4 21 = .ok (.iand, 1) := by decide +kernel
theorem dJ6_bitCount_0f7a4_22 : decode cJ6_bitCount_0f7a4 22 = .ok (.iadd, 1) := by decide +kernel
theorem dJ6_bitCount_0f7a4_23 : decode cJ6_bitCount_0f7a4 23 = .ok (.istore_n 0, 1) := by decide +kernel
theorem dJ6_bitCount_0f7a4_24 : decode cJ6_bitCount_0f7a4 24 = .ok (.iload_n 0, 1) := by decide +kernel
theorem dJ6_bitCount_0f7a4_25 : decode cJ6_bitCount_0f7a4 25 = .ok (.iload_n 0, 1) := by decide +kernel
theorem dJ6_bitCount_0f7a4_26 : decode cJ6_bitCount_0f7a4 26 = .ok (.iconst 4, 1) := by decide +kernel
theorem dJ6_bitCount_0f7a4_27 : decode cJ6_bitCount_0f7a4 27 = .ok (.iushr, 1) := by decide +kernel
theorem dJ6_bitCount_0f7a4_28 : decode cJ6_bitCount_0f7a4 28 = .ok (.iadd, 1) := by decide +kernel
theorem dJ6_bitCount_0f7a4_29 : decode cJ6_bitCount_0f7a4 29 = .ok (.ldc_w 267, 3) := by decide +kernel
theorem dJ6_bitCount_0f7a4_32 : decode cJ6_bitCount_0f7a4 32 = .ok (.iand, 1) := by decide +kernel
theorem dJ6_bitCount_0f7a4_33 : decode cJ6_bitCount_0f7a4 33 = .ok (.istore_n 0, 1) := by decide +kernel
theorem dJ6_bitCount_0f7a4_34 : decode cJ6_bitCount_0f7a4 34 = .ok (.iload_n 0, 1) := by decide +kernel
theorem dJ6_bitCount_0f7a4_35 : decode cJ6_bitCount_0f7a4 35 = .ok (.iload_n 0, 1) := by decide +kernel
theorem dJ6_bitCount_0f7a4_36 : decode cJ6_bitCount_0f7a4 36 = .ok (.bipush 8, 2) := by decide +kernel
theorem dJ6_bitCount_0f7a4_38 : decode cJ6_bitCount_0f7a4 38 = .ok (.iushr, 1) := by decide +kernel
theorem dJ6_bitCount_0f7a4_39 : decode cJ6_bitCount_0f7a4 39 = .ok (.iadd, 1) := by decide +kernel
theorem dJ6_bitCount_0f7a4_40 : decode cJ6_bitCount_0f7a4 40 = .ok (.istore_n 0, 1) := by decide +kernel
theorem dJ6_bitCount_0f7a4_41 : decode cJ6_bitCount_0f7a4 41 = .ok (.iload_n 0, 1) := by decide +kernel
theorem dJ6_bitCount_0f7a4_42 : decode cJ6_bitCount_0f7a4 42 = .ok (.iload_n 0, 1) := by decide +kernel
theorem dJ6_bitCount_0f7a4_43 : decode cJ6_bitCount_0f7a4 43 = .ok (.bipush 16, 2) := by decide +kernel
theorem dJ6_bitCount_0f7a4_45 : decode cJ6_bitCount_0f7a4 45 = .ok (.iushr, 1) := by decide +kernel
theorem dJ6_bitCount_0f7a4_46 : decode cJ6_bitCount_0f7a4 46 = .ok (.iadd, 1) := by decide +kernel
theorem dJ6_bitCount_0f7a4_47 : decode cJ6_bitCount_0f7a4 47 = .ok (.istore_n 0, 1) := by decide +kernel
theorem dJ6_bitCount_0f7a4_48 : decode cJ6_bitCount_0f7a4 48 = .ok (.iload_n 0, 1) := by decide +kernel
theorem dJ6_bitCount_0f7a4_49 : decode cJ6_bitCount_0f7a4 49 = .ok (.bipush 63, 2) := by decide +kernel
theorem dJ6_bitCount_0f7a4_51 : decode cJ6_bitCount_0f7a4 51 = .ok (.iand, 1) := by decide +kernel
theorem dJ6_bitCount_0f7a4_52 : decode cJ6_bitCount_0f7a4 52 = .ok (.ireturn, 1) := by decide +kernel
theorem dJ9_max_7cf53_0 : decode cJ9_max_7cf53 0 = .ok (.iload_n 0, 1) := by decide +kernel
theorem dJ9_max_7cf53_1 : decode cJ9_max_7cf53 1 = .ok (.iload_n 1, 1) := by decide +kernel
theorem dJ9_max_7cf53_2 : decode cJ9_max_7cf53 2 = .ok (.if_icmp .lt 7, 3) := by decide +kernel
theorem dJ9_max_7cf53_5 : decode cJ9_max_7cf53 5 = .ok (.iload_n 0, 1) := by decide +kernel
theorem dJ9_max_7cf53_6 : decode cJ9_max_7cf53 6 = .ok (.goto 4, 3) := by decide +kernel
theorem dJ9_max_7cf53_9 : decode cJ9_max_7cf53 9 = .ok (.iload_n 1, 1) := by decide +kernel
theorem dJ9_max_7cf53_10 : decode cJ9_max_7cf53 10 = .ok (.ireturn, 1) := by decide +kernel
theorem dJ9_min_7cf53_0 : decode cJ9_min_7cf53 0 = .ok (.iload_n 0, 1) := by decide +kernel
theorem dJ9_min_7cf53_1 : decode cJ9_min_7cf53 1 = .ok (.iload_n 1, 1) := by decide +kernel
theorem dJ9_min_7cf53_2 : decode cJ9_min_7cf53 2 = .ok (.if_icmp .gt 7, 3) := by decide +kernel
theorem dJ9_min_7cf53_5 : decode cJ9_min_7cf53 5 = .ok (.iload_n 0, 1) := by decide +kernel
theorem dJ9_min_7cf53_6 : decode cJ9_min_7cf53 6 = .ok (.goto 4, 3) := by decide +kernel
theorem dJ9_min_7cf53_9 : decode cJ9_min_7cf53 9 = .ok (.iload_n 1, 1) := by decide +kernel
theorem dJ9_min_7cf53_10 : decode cJ9_min_7cf53 10 = .ok (.ireturn, 1) := by decide +kernel
