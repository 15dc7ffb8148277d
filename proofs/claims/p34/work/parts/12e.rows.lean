theorem goodIn_cons {big a : List Cond} {c : Cond} (ha : GoodIn big [c]) (hb : GoodIn big a) : GoodIn big (c :: a) := fun w h => (List.mem_cons.mp h).elim (fun e => ha w (List.mem_singleton.mpr e)) (hb w)
theorem dL_below_0 : decode cL_below 0 = .ok (.iload_n 0, 1) := by decide +kernel
theorem dL_below_1 : decode cL_below 1 = .ok (.ldc 7, 2) := by decide +kernel
theorem dL_below_3 : decode cL_below 3 = .ok (.iand, 1) := by decide +kernel
theorem dL_below_4 : decode cL_below 4 = .ok (.iload_n 1, 1) := by decide +kernel
theorem dL_below_5 : decode cL_below 5 = .ok (.irem, 1) := by decide +kernel
theorem dL_below_6 : decode cL_below 6 = .ok (.ireturn, 1) := by decide +kernel
theorem dL_cell_0 : decode cL_cell 0 = .ok (.iload_n 1, 1) := by decide +kernel
theorem dL_cell_1 : decode cL_cell 1 = .ok (.aload_n 0, 1) := by decide +kernel
theorem dL_cell_2 : decode cL_cell 2 = .ok (.arraylength, 1) := by decide +kernel
theorem dL_cell_3 : decode cL_cell 3 = .ok (.if_icmp .ge 9, 3) := by decide +kernel
theorem dL_cell_6 : decode cL_cell 6 = .ok (.aload_n 0, 1) := by decide +kernel
theorem dL_cell_7 : decode cL_cell 7 = .ok (.iload_n 1, 1) := by decide +kernel
theorem dL_cell_8 : decode cL_cell 8 = .ok (.iaload, 1) := by decide +kernel
theorem dL_cell_9 : decode cL_cell 9 = .ok (.goto 9, 3) := by decide +kernel
theorem dL_cell_12 : decode cL_cell 12 = .ok (.ldc 8, 2) := by decide +kernel
theorem dL_cell_14 : decode cL_cell 14 = .ok (.iload_n 1, 1) := by decide +kernel
theorem dL_cell_15 : decode cL_cell 15 = .ok (.iconst 3, 1) := by decide +kernel
theorem dL_cell_16 : decode cL_cell 16 = .ok (.iadd, 1) := by decide +kernel
theorem dL_cell_17 : decode cL_cell 17 = .ok (.imul, 1) := by decide +kernel
theorem dL_cell_18 : decode cL_cell 18 = .ok (.ireturn, 1) := by decide +kernel
set_option maxRecDepth 20000 in
theorem ggL_act_L_below : GoodIn wsL_act wsL_below := goodIn_r _ [9, 10] (by decide +kernel) (by decide +kernel)
set_option maxRecDepth 20000 in
theorem gL_act_L_below : GoodIn wsL_act (va_wsS RL 9 yL_below wsL_below) := goodIn_app (goodIn_of _ (by decide +kernel)) ggL_act_L_below
set_option maxRecDepth 20000 in
theorem ggL_act_X4_addPlayer : GoodIn wsL_act wsX4_addPlayer := goodIn_ca (goodIn_r _ [15, 16, 17, 18, 19, 20, 21, 14, 22, 23, 24, 25, 26, 27, 28, 29, 248, 249, 250, 251, 252, 253, 254, 255, 256, 257, 258, 259] (by decide +kernel) (by decide +kernel)) (goodIn_sub (fun _ h => List.mem_cons_of_mem _ (List.mem_append_left _ (List.mem_append_left _ (List.mem_append_right _ h)))) (by decide +kernel))
set_option maxRecDepth 20000 in
theorem gL_act_X4_addPlayer : GoodIn wsL_act (wsV RL 25 RX4 yX4_addPlayer wsX4_addPlayer) := goodIn_app (goodIn_of _ (by decide +kernel)) ggL_act_X4_addPlayer
set_option maxRecDepth 20000 in
theorem ggL_act_X4_replaceString : GoodIn wsL_act wsX4_replaceString := goodIn_ca (goodIn_ca (goodIn_r _ [33, 16, 17, 34, 35, 36, 14, 37, 38, 39, 40, 41, 42, 43, 44, 45, 46, 47, 48, 49, 50, 51, 52, 53, 248, 249, 250, 251, 252, 253, 254, 260, 261, 262] (by decide +kernel) (by decide +kernel)) (goodIn_sub (fun _ h => List.mem_cons_of_mem _ (List.mem_append_left _ (List.mem_append_left _ (List.mem_append_right _ h)))) (by decide +kernel))) (goodIn_sub (fun _ h => List.mem_cons_of_mem _ (List.mem_append_left _ (List.mem_append_right _ h))) (by decide +kernel))
set_option maxRecDepth 20000 in
theorem gL_act_X4_replaceString : GoodIn wsL_act (wsV RL 38 RX4 yX4_replaceString wsX4_replaceString) := goodIn_app (goodIn_of _ (by decide +kernel)) ggL_act_X4_replaceString
set_option maxRecDepth 20000 in
theorem ggL_act_X4_buyStrings : GoodIn wsL_act wsX4_buyStrings := goodIn_ca (goodIn_r _ [57, 58, 59, 34, 60, 61, 62, 46, 63, 48, 43, 44, 45, 47, 248, 249, 250, 251, 252, 253, 254, 260, 261, 262] (by decide +kernel) (by decide +kernel)) (goodIn_sub (fun _ h => List.mem_cons_of_mem _ (List.mem_append_right _ h)) (by decide +kernel))
set_option maxRecDepth 20000 in
theorem gL_act_X4_buyStrings : GoodIn wsL_act (wsV RL 42 RX4 yX4_buyStrings wsX4_buyStrings) := goodIn_app (goodIn_of _ (by decide +kernel)) ggL_act_X4_buyStrings
set_option maxRecDepth 20000 in
theorem ggL_act_X4_newGame : GoodIn wsL_act wsX4_newGame := goodIn_r _ [67, 23, 68, 69, 70, 71, 34, 72, 73, 74, 14, 75, 18, 76, 77, 78, 27, 79, 80, 81, 82, 83, 29, 84, 85, 86, 87, 88, 89, 90, 91, 92, 93, 94, 95, 96, 97, 98, 99, 100, 101, 102, 103, 104, 46, 105, 106, 107, 108, 109, 110, 53, 248, 249, 250, 251, 252, 253, 254, 255, 256, 257, 258, 259, 263, 260, 261, 262] (by decide +kernel) (by decide +kernel)
set_option maxRecDepth 20000 in
theorem gL_act_X4_newGame : GoodIn wsL_act (wsV RL 45 RX4 yX4_newGame wsX4_newGame) := goodIn_app (goodIn_of _ (by decide +kernel)) ggL_act_X4_newGame
set_option maxRecDepth 20000 in
theorem ggL_act_X5_newGame : GoodIn wsL_act wsX5_newGame := goodIn_r _ [115, 116, 117, 118, 119, 120, 121, 122, 123, 124, 114, 125, 126, 127, 128, 129, 130, 131, 132, 133, 134, 135, 136, 137, 138, 139, 140, 141, 239, 240, 241, 242, 243, 244, 245, 246, 247] (by decide +kernel) (by decide +kernel)
set_option maxRecDepth 20000 in
theorem gL_act_X5_newGame : GoodIn wsL_act (wsV RL 48 RX5 yX5_newGame wsX5_newGame) := goodIn_app (goodIn_of _ (by decide +kernel)) ggL_act_X5_newGame
set_option maxRecDepth 20000 in
theorem ggL_act_X5_canThrow : GoodIn wsL_act wsX5_canThrow := goodIn_r _ [145, 126, 121, 146, 147, 148, 114, 149, 119, 239, 240, 241, 242, 243, 244, 245, 246, 247] (by decide +kernel) (by decide +kernel)
set_option maxRecDepth 20000 in
theorem gL_act_X5_canThrow : GoodIn wsL_act (wsV RL 49 RX5 yX5_canThrow wsX5_canThrow) := goodIn_app (goodIn_of _ (by decide +kernel)) ggL_act_X5_canThrow
set_option maxRecDepth 20000 in
theorem ggL_act_X4_throwBall : GoodIn wsL_act wsX4_throwBall := goodIn_ca (goodIn_ca (goodIn_r _ [153, 16, 17, 71, 34, 23, 69, 70, 154, 155, 14, 156, 157, 158, 159, 38, 39, 40, 41, 42, 160, 161, 162, 163, 18, 68, 164, 165, 166, 167, 168, 169, 170, 99, 171, 101, 172, 173, 174, 46, 175, 106, 53, 176, 177, 178, 179, 180, 181, 182, 183, 184, 185, 186, 187, 188, 189, 190, 191, 192, 193, 194, 195, 196, 197, 198, 199, 200, 201, 202, 203, 89, 204, 205, 206, 207, 208, 209, 210, 211, 27, 212, 29, 91, 85, 84, 86, 213, 214, 215, 216, 102, 103, 104, 105, 107, 108, 109, 110, 248, 249, 250, 251, 252, 253, 254, 263, 260, 261, 262, 255, 256, 257, 258, 259] (by decide +kernel) (by decide +kernel)) (goodIn_sub (fun _ h => List.mem_cons_of_mem _ (List.mem_append_left _ (List.mem_append_left _ (List.mem_append_right _ h)))) (by decide +kernel))) (goodIn_sub (fun _ h => List.mem_cons_of_mem _ (List.mem_append_left _ (List.mem_append_right _ h))) (by decide +kernel))
set_option maxRecDepth 20000 in
theorem gL_act_X4_throwBall : GoodIn wsL_act (wsV RL 53 RX4 yX4_throwBall wsX4_throwBall) := goodIn_app (goodIn_of _ (by decide +kernel)) ggL_act_X4_throwBall
set_option maxRecDepth 20000 in
theorem ggL_act_X5_play : GoodIn wsL_act wsX5_play := goodIn_r _ [220, 140, 141, 121, 120, 117, 116, 135, 118, 119, 126, 221, 222, 114, 223, 224, 225, 226, 227, 228, 229, 230, 231, 232, 233, 234, 235, 236, 237, 238, 146, 147, 148, 149, 136, 137, 138, 139, 239, 240, 241, 242, 243, 244, 245, 246, 247] (by decide +kernel) (by decide +kernel)
set_option maxRecDepth 20000 in
theorem gL_act_X5_play : GoodIn wsL_act (wsV RL 56 RX5 yX5_play wsX5_play) := goodIn_app (goodIn_of _ (by decide +kernel)) ggL_act_X5_play
theorem dL_act_0 : decode cL_act 0 = .ok (.iload_n 2, 1) := by decide +kernel
theorem dL_act_1 : decode cL_act 1 = .ok (.iconst 3, 1) := by decide +kernel
theorem dL_act_2 : decode cL_act 2 = .ok (.ishr, 1) := by decide +kernel
theorem dL_act_3 : decode cL_act 3 = .ok (.iconst 5, 1) := by decide +kernel
theorem dL_act_4 : decode cL_act 4 = .ok (.invokestatic 9, 3) := by decide +kernel
theorem dL_act_7 : decode cL_act 7 = .ok (.istore_n 3, 1) := by decide +kernel
theorem dL_act_8 : decode cL_act 8 = .ok (.iload_n 2, 1) := by decide +kernel
theorem dL_act_9 : decode cL_act 9 = .ok (.iconst 5, 1) := by decide +kernel
theorem dL_act_10 : decode cL_act 10 = .ok (.ishr, 1) := by decide +kernel
theorem dL_act_11 : decode cL_act 11 = .ok (.iconst 5, 1) := by decide +kernel
theorem dL_act_12 : decode cL_act 12 = .ok (.invokestatic 9, 3) := by decide +kernel
theorem dL_act_15 : decode cL_act 15 = .ok (.istore 4, 2) := by decide +kernel
theorem dL_act_17 : decode cL_act 17 = .ok (.iload_n 2, 1) := by decide +kernel
theorem dL_act_18 : decode cL_act 18 = .ok (.iconst 4, 1) := by decide +kernel
theorem dL_act_19 : decode cL_act 19 = .ok (.ishr, 1) := by decide +kernel
theorem dL_act_20 : decode cL_act 20 = .ok (.bipush 9, 2) := by decide +kernel
theorem dL_act_22 : decode cL_act 22 = .ok (.invokestatic 9, 3) := by decide +kernel
theorem dL_act_25 : decode cL_act 25 = .ok (.istore 5, 2) := by decide +kernel
theorem dL_act_27 : decode cL_act 27 = .ok (.iconst 1, 1) := by decide +kernel
theorem dL_act_28 : decode cL_act 28 = .ok (.istore 6, 2) := by decide +kernel
theorem dL_act_30 : decode cL_act 30 = .ok (.iload_n 2, 1) := by decide +kernel
theorem dL_act_31 : decode cL_act 31 = .ok (.bipush 16, 2) := by decide +kernel
theorem dL_act_33 : decode cL_act 33 = .ok (.invokestatic 9, 3) := by decide +kernel
theorem dL_act_36 : decode cL_act 36 = .ok (.tableswitch 235 0 4 #[36, 102, 102, 163, 205], 36) := by decide +kernel
theorem dL_act_72 : decode cL_act 72 = .ok (.aload_n 1, 1) := by decide +kernel
theorem dL_act_73 : decode cL_act 73 = .ok (.getfield 15, 3) := by decide +kernel
theorem dL_act_76 : decode cL_act 76 = .ok (.iconst 4, 1) := by decide +kernel
theorem dL_act_77 : decode cL_act 77 = .ok (.if_icmp .ge 15, 3) := by decide +kernel
theorem dL_act_80 : decode cL_act 80 = .ok (.aload_n 1, 1) := by decide +kernel
theorem dL_act_81 : decode cL_act 81 = .ok (.getfield 21, 3) := by decide +kernel
theorem dL_act_84 : decode cL_act 84 = .ok (.arraylength, 1) := by decide +kernel
theorem dL_act_85 : decode cL_act 85 = .ok (.ifCond .ne 7, 3) := by decide +kernel
theorem dL_act_88 : decode cL_act 88 = .ok (.iconst 1, 1) := by decide +kernel
theorem dL_act_89 : decode cL_act 89 = .ok (.goto 4, 3) := by decide +kernel
theorem dL_act_92 : decode cL_act 92 = .ok (.iconst 0, 1) := by decide +kernel
theorem dL_act_93 : decode cL_act 93 = .ok (.istore 6, 2) := by decide +kernel
theorem dL_act_95 : decode cL_act 95 = .ok (.aload_n 1, 1) := by decide +kernel
theorem dL_act_96 : decode cL_act 96 = .ok (.dup, 1) := by decide +kernel
theorem dL_act_97 : decode cL_act 97 = .ok (.getfield 15, 3) := by decide +kernel
theorem dL_act_100 : decode cL_act 100 = .ok (.iload 6, 2) := by decide +kernel
theorem dL_act_102 : decode cL_act 102 = .ok (.ifCond .eq 7, 3) := by decide +kernel
theorem dL_act_105 : decode cL_act 105 = .ok (.iconst 1, 1) := by decide +kernel
theorem dL_act_106 : decode cL_act 106 = .ok (.goto 4, 3) := by decide +kernel
theorem dL_act_109 : decode cL_act 109 = .ok (.iconst 0, 1) := by decide +kernel
theorem dL_act_110 : decode cL_act 110 = .ok (.iadd, 1) := by decide +kernel
theorem dL_act_111 : decode cL_act 111 = .ok (.putfield 15, 3) := by decide +kernel
theorem dL_act_114 : decode cL_act 114 = .ok (.aload_n 0, 1) := by decide +kernel
theorem dL_act_115 : decode cL_act 115 = .ok (.invokevirtual 25, 3) := by decide +kernel
theorem dL_act_118 : decode cL_act 118 = .ok (.aload_n 1, 1) := by decide +kernel
theorem dL_act_119 : decode cL_act 119 = .ok (.getfield 15, 3) := by decide +kernel
theorem dL_act_122 : decode cL_act 122 = .ok (.iconst 1, 1) := by decide +kernel
theorem dL_act_123 : decode cL_act 123 = .ok (.isub, 1) := by decide +kernel
theorem dL_act_124 : decode cL_act 124 = .ok (.if_icmp .ne 12, 3) := by decide +kernel
theorem dL_act_127 : decode cL_act 127 = .ok (.iload 6, 2) := by decide +kernel
theorem dL_act_129 : decode cL_act 129 = .ok (.ifCond .eq 7, 3) := by decide +kernel
theorem dL_act_132 : decode cL_act 132 = .ok (.iconst 1, 1) := by decide +kernel
theorem dL_act_133 : decode cL_act 133 = .ok (.goto 4, 3) := by decide +kernel
theorem dL_act_136 : decode cL_act 136 = .ok (.iconst 0, 1) := by decide +kernel
theorem dL_act_137 : decode cL_act 137 = .ok (.ireturn, 1) := by decide +kernel
theorem dL_act_138 : decode cL_act 138 = .ok (.aload_n 1, 1) := by decide +kernel
theorem dL_act_139 : decode cL_act 139 = .ok (.getfield 31, 3) := by decide +kernel
theorem dL_act_142 : decode cL_act 142 = .ok (.ifCond .le 7, 3) := by decide +kernel
theorem dL_act_145 : decode cL_act 145 = .ok (.iconst 1, 1) := by decide +kernel
theorem dL_act_146 : decode cL_act 146 = .ok (.goto 4, 3) := by decide +kernel
theorem dL_act_149 : decode cL_act 149 = .ok (.iconst 0, 1) := by decide +kernel
theorem dL_act_150 : decode cL_act 150 = .ok (.istore 6, 2) := by decide +kernel
theorem dL_act_152 : decode cL_act 152 = .ok (.iload 6, 2) := by decide +kernel
theorem dL_act_154 : decode cL_act 154 = .ok (.ifCond .eq 21, 3) := by decide +kernel
theorem dL_act_157 : decode cL_act 157 = .ok (.aload_n 1, 1) := by decide +kernel
theorem dL_act_158 : decode cL_act 158 = .ok (.getfield 34, 3) := by decide +kernel
theorem dL_act_161 : decode cL_act 161 = .ok (.iload 5, 2) := by decide +kernel
theorem dL_act_163 : decode cL_act 163 = .ok (.iconst 0, 1) := by decide +kernel
theorem dL_act_164 : decode cL_act 164 = .ok (.iastore, 1) := by decide +kernel
theorem dL_act_165 : decode cL_act 165 = .ok (.aload_n 1, 1) := by decide +kernel
theorem dL_act_166 : decode cL_act 166 = .ok (.dup, 1) := by decide +kernel
theorem dL_act_167 : decode cL_act 167 = .ok (.getfield 31, 3) := by decide +kernel
theorem dL_act_170 : decode cL_act 170 = .ok (.iconst 1, 1) := by decide +kernel
theorem dL_act_171 : decode cL_act 171 = .ok (.isub, 1) := by decide +kernel
theorem dL_act_172 : decode cL_act 172 = .ok (.putfield 31, 3) := by decide +kernel
theorem dL_act_175 : decode cL_act 175 = .ok (.aload_n 0, 1) := by decide +kernel
theorem dL_act_176 : decode cL_act 176 = .ok (.iload 5, 2) := by decide +kernel
theorem dL_act_178 : decode cL_act 178 = .ok (.invokevirtual 38, 3) := by decide +kernel
theorem dL_act_181 : decode cL_act 181 = .ok (.aload_n 1, 1) := by decide +kernel
theorem dL_act_182 : decode cL_act 182 = .ok (.getfield 31, 3) := by decide +kernel
theorem dL_act_185 : decode cL_act 185 = .ok (.if_icmp .ne 12, 3) := by decide +kernel
theorem dL_act_188 : decode cL_act 188 = .ok (.iload 6, 2) := by decide +kernel
theorem dL_act_190 : decode cL_act 190 = .ok (.ifCond .eq 7, 3) := by decide +kernel
theorem dL_act_193 : decode cL_act 193 = .ok (.iconst 1, 1) := by decide +kernel
theorem dL_act_194 : decode cL_act 194 = .ok (.goto 4, 3) := by decide +kernel
theorem dL_act_197 : decode cL_act 197 = .ok (.iconst 0, 1) := by decide +kernel
theorem dL_act_198 : decode cL_act 198 = .ok (.ireturn, 1) := by decide +kernel
theorem dL_act_199 : decode cL_act 199 = .ok (.iconst 1, 1) := by decide +kernel
theorem dL_act_200 : decode cL_act 200 = .ok (.iload_n 2, 1) := by decide +kernel
theorem dL_act_201 : decode cL_act 201 = .ok (.iconst 4, 1) := by decide +kernel
theorem dL_act_202 : decode cL_act 202 = .ok (.ishr, 1) := by decide +kernel
theorem dL_act_203 : decode cL_act 203 = .ok (.bipush 20, 2) := by decide +kernel
theorem dL_act_205 : decode cL_act 205 = .ok (.invokestatic 9, 3) := by decide +kernel
theorem dL_act_208 : decode cL_act 208 = .ok (.iadd, 1) := by decide +kernel
theorem dL_act_209 : decode cL_act 209 = .ok (.istore 7, 2) := by decide +kernel
theorem dL_act_211 : decode cL_act 211 = .ok (.aload_n 1, 1) := by decide +kernel
theorem dL_act_212 : decode cL_act 212 = .ok (.dup, 1) := by decide +kernel
theorem dL_act_213 : decode cL_act 213 = .ok (.getfield 31, 3) := by decide +kernel
theorem dL_act_216 : decode cL_act 216 = .ok (.iload 7, 2) := by decide +kernel
theorem dL_act_218 : decode cL_act 218 = .ok (.iadd, 1) := by decide +kernel
theorem dL_act_219 : decode cL_act 219 = .ok (.putfield 31, 3) := by decide +kernel
theorem dL_act_222 : decode cL_act 222 = .ok (.aload_n 0, 1) := by decide +kernel
theorem dL_act_223 : decode cL_act 223 = .ok (.iload 7, 2) := by decide +kernel
theorem dL_act_225 : decode cL_act 225 = .ok (.invokevirtual 42, 3) := by decide +kernel
theorem dL_act_228 : decode cL_act 228 = .ok (.aload_n 1, 1) := by decide +kernel
theorem dL_act_229 : decode cL_act 229 = .ok (.getfield 31, 3) := by decide +kernel
theorem dL_act_232 : decode cL_act 232 = .ok (.if_icmp .ne 7, 3) := by decide +kernel
theorem dL_act_235 : decode cL_act 235 = .ok (.iconst 1, 1) := by decide +kernel
theorem dL_act_236 : decode cL_act 236 = .ok (.goto 4, 3) := by decide +kernel
theorem dL_act_239 : decode cL_act 239 = .ok (.iconst 0, 1) := by decide +kernel
theorem dL_act_240 : decode cL_act 240 = .ok (.ireturn, 1) := by decide +kernel
theorem dL_act_241 : decode cL_act 241 = .ok (.iload_n 2, 1) := by decide +kernel
theorem dL_act_242 : decode cL_act 242 = .ok (.bipush 6, 2) := by decide +kernel
theorem dL_act_244 : decode cL_act 244 = .ok (.ishr, 1) := by decide +kernel
theorem dL_act_245 : decode cL_act 245 = .ok (.iconst 4, 1) := by decide +kernel
theorem dL_act_246 : decode cL_act 246 = .ok (.invokestatic 9, 3) := by decide +kernel
theorem dL_act_249 : decode cL_act 249 = .ok (.ifCond .le 5, 3) := by decide +kernel
theorem dL_act_252 : decode cL_act 252 = .ok (.iconst 1, 1) := by decide +kernel
theorem dL_act_253 : decode cL_act 253 = .ok (.ireturn, 1) := by decide +kernel
theorem dL_act_254 : decode cL_act 254 = .ok (.aload_n 0, 1) := by decide +kernel
theorem dL_act_255 : decode cL_act 255 = .ok (.invokevirtual 45, 3) := by decide +kernel
theorem dL_act_258 : decode cL_act 258 = .ok (.aload_n 1, 1) := by decide +kernel
theorem dL_act_259 : decode cL_act 259 = .ok (.invokevirtual 48, 3) := by decide +kernel
theorem dL_act_262 : decode cL_act 262 = .ok (.if_icmp .ne 7, 3) := by decide +kernel
theorem dL_act_265 : decode cL_act 265 = .ok (.iconst 1, 1) := by decide +kernel
theorem dL_act_266 : decode cL_act 266 = .ok (.goto 4, 3) := by decide +kernel
theorem dL_act_269 : decode cL_act 269 = .ok (.iconst 0, 1) := by decide +kernel
theorem dL_act_270 : decode cL_act 270 = .ok (.ireturn, 1) := by decide +kernel
theorem dL_act_271 : decode cL_act 271 = .ok (.aload_n 1, 1) := by decide +kernel
theorem dL_act_272 : decode cL_act 272 = .ok (.iload_n 3, 1) := by decide +kernel
theorem dL_act_273 : decode cL_act 273 = .ok (.invokevirtual 49, 3) := by decide +kernel
theorem dL_act_276 : decode cL_act 276 = .ok (.istore 6, 2) := by decide +kernel
theorem dL_act_278 : decode cL_act 278 = .ok (.aload_n 0, 1) := by decide +kernel
theorem dL_act_279 : decode cL_act 279 = .ok (.iload_n 3, 1) := by decide +kernel
theorem dL_act_280 : decode cL_act 280 = .ok (.iload 4, 2) := by decide +kernel
theorem dL_act_282 : decode cL_act 282 = .ok (.invokevirtual 53, 3) := by decide +kernel
theorem dL_act_285 : decode cL_act 285 = .ok (.iload 6, 2) := by decide +kernel
theorem dL_act_287 : decode cL_act 287 = .ok (.ifCond .eq 13, 3) := by decide +kernel
theorem dL_act_290 : decode cL_act 290 = .ok (.aload_n 1, 1) := by decide +kernel
theorem dL_act_291 : decode cL_act 291 = .ok (.iload_n 3, 1) := by decide +kernel
theorem dL_act_292 : decode cL_act 292 = .ok (.iload 4, 2) := by decide +kernel
theorem dL_act_294 : decode cL_act 294 = .ok (.invokevirtual 56, 3) := by decide +kernel
theorem dL_act_297 : decode cL_act 297 = .ok (.goto 4, 3) := by decide +kernel
theorem dL_act_300 : decode cL_act 300 = .ok (.iconst (-1), 1) := by decide +kernel
theorem dL_act_301 : decode cL_act 301 = .ok (.if_icmp .ne 12, 3) := by decide +kernel
theorem dL_act_304 : decode cL_act 304 = .ok (.iload 6, 2) := by decide +kernel
theorem dL_act_306 : decode cL_act 306 = .ok (.ifCond .eq 7, 3) := by decide +kernel
theorem dL_act_309 : decode cL_act 309 = .ok (.iconst 1, 1) := by decide +kernel
theorem dL_act_310 : decode cL_act 310 = .ok (.goto 4, 3) := by decide +kernel
theorem dL_act_313 : decode cL_act 313 = .ok (.iconst 0, 1) := by decide +kernel
theorem dL_act_314 : decode cL_act 314 = .ok (.ireturn, 1) := by decide +kernel
theorem dL_act_315 : decode cL_act 315 = .ok (.astore 7, 2) := by decide +kernel
theorem dL_act_317 : decode cL_act 317 = .ok (.iload 6, 2) := by decide +kernel
theorem dL_act_319 : decode cL_act 319 = .ok (.ifCond .ne 7, 3) := by decide +kernel
theorem dL_act_322 : decode cL_act 322 = .ok (.iconst 1, 1) := by decide +kernel
theorem dL_act_323 : decode cL_act 323 = .ok (.goto 4, 3) := by decide +kernel
theorem dL_act_326 : decode cL_act 326 = .ok (.iconst 0, 1) := by decide +kernel
theorem dL_act_327 : decode cL_act 327 = .ok (.ireturn, 1) := by decide +kernel
set_option maxRecDepth 20000 in
theorem ggL_build_X5_init : GoodIn wsL_build wsX5_init := goodIn_r _ [6, 7, 8, 9, 10, 11, 12, 13, 14, 15, 16, 17, 179, 180, 181, 182, 183, 184, 185, 186, 187] (by decide +kernel) (by decide +kernel)
set_option maxRecDepth 20000 in
theorem gL_build_X5_init_n61 : GoodIn wsL_build (wsX5_init) := ggL_build_X5_init
set_option maxRecDepth 20000 in
theorem ggL_build_L_cell : GoodIn wsL_build wsL_cell := goodIn_r _ [21, 22] (by decide +kernel) (by decide +kernel)
set_option maxRecDepth 20000 in
theorem gL_build_L_cell : GoodIn wsL_build (va_wsS RL 62 yL_cell wsL_cell) := goodIn_app (goodIn_of _ (by decide +kernel)) ggL_build_L_cell
set_option maxRecDepth 20000 in
theorem ggL_build_L_below : GoodIn wsL_build wsL_below := goodIn_r _ [25, 26] (by decide +kernel) (by decide +kernel)
set_option maxRecDepth 20000 in
theorem gL_build_L_below : GoodIn wsL_build (va_wsS RL 9 yL_below wsL_below) := goodIn_app (goodIn_of _ (by decide +kernel)) ggL_build_L_below
set_option maxRecDepth 20000 in
theorem ggL_build_X4_addPlayer : GoodIn wsL_build wsX4_addPlayer := goodIn_ca (goodIn_r _ [31, 32, 33, 34, 35, 36, 37, 30, 38, 39, 40, 41, 42, 43, 44, 45, 188, 189, 190, 191, 192, 193, 194, 195, 196, 197, 198, 199] (by decide +kernel) (by decide +kernel)) (goodIn_sub (fun _ h => List.mem_cons_of_mem _ (List.mem_append_left _ (List.mem_append_right _ h))) (by decide +kernel))
set_option maxRecDepth 20000 in
theorem gL_build_X4_addPlayer : GoodIn wsL_build (wsV RL 25 RX4 yX4_addPlayer wsX4_addPlayer) := goodIn_app (goodIn_of _ (by decide +kernel)) ggL_build_X4_addPlayer
set_option maxRecDepth 20000 in
theorem ggL_build_X5_canThrow : GoodIn wsL_build wsX5_canThrow := goodIn_r _ [49, 50, 14, 51, 52, 53, 3, 54, 55, 179, 180, 181, 182, 183, 184, 185, 186, 187] (by decide +kernel) (by decide +kernel)
set_option maxRecDepth 20000 in
theorem gL_build_X5_canThrow : GoodIn wsL_build (wsV RL 49 RX5 yX5_canThrow wsX5_canThrow) := goodIn_app (goodIn_of _ (by decide +kernel)) ggL_build_X5_canThrow
set_option maxRecDepth 20000 in
theorem ggL_build_X5_play : GoodIn wsL_build wsX5_play := goodIn_r _ [59, 11, 13, 14, 60, 17, 16, 12, 61, 55, 50, 62, 63, 3, 64, 65, 66, 67, 68, 69, 70, 71, 72, 73, 74, 75, 76, 77, 78, 79, 51, 52, 53, 54, 80, 81, 82, 83, 179, 180, 181, 182, 183, 184, 185, 186, 187] (by decide +kernel) (by decide +kernel)
set_option maxRecDepth 20000 in
theorem gL_build_X5_play : GoodIn wsL_build (wsV RL 56 RX5 yX5_play wsX5_play) := goodIn_app (goodIn_of _ (by decide +kernel)) ggL_build_X5_play
set_option maxRecDepth 20000 in
theorem ggL_build_X4_throwBall : GoodIn wsL_build wsX4_throwBall := goodIn_ca (goodIn_ca (goodIn_r _ [87, 32, 33, 88, 89, 39, 90, 91, 92, 93, 30, 94, 95, 96, 97, 98, 99, 100, 101, 102, 103, 104, 105, 106, 34, 107, 108, 109, 110, 111, 112, 113, 114, 115, 116, 117, 118, 119, 120, 121, 122, 123, 124, 125, 126, 127, 128, 129, 130, 131, 132, 133, 134, 135, 136, 137, 138, 139, 140, 141, 142, 143, 144, 145, 146, 147, 148, 149, 150, 151, 152, 153, 154, 155, 156, 157, 158, 159, 160, 161, 43, 162, 45, 163, 164, 165, 166, 167, 168, 169, 170, 171, 172, 173, 174, 175, 176, 177, 178, 188, 189, 190, 191, 192, 193, 194, 200, 201, 202, 203, 195, 196, 197, 198, 199] (by decide +kernel) (by decide +kernel)) (goodIn_sub (fun _ h => List.mem_cons_of_mem _ (List.mem_append_left _ (List.mem_append_right _ h))) (by decide +kernel))) (goodIn_sub (fun _ h => List.mem_cons_of_mem _ (List.mem_append_right _ h)) (by decide +kernel))
set_option maxRecDepth 20000 in
theorem gL_build_X4_throwBall : GoodIn wsL_build (wsV RL 53 RX4 yX4_throwBall wsX4_throwBall) := goodIn_app (goodIn_of _ (by decide +kernel)) ggL_build_X4_throwBall
theorem dL_build_0 : decode cL_build 0 = .ok (.new 16, 3) := by decide +kernel
theorem dL_build_3 : decode cL_build 3 = .ok (.dup, 1) := by decide +kernel
theorem dL_build_4 : decode cL_build 4 = .ok (.invokespecial 61, 3) := by decide +kernel
theorem dL_build_7 : decode cL_build 7 = .ok (.astore_n 2, 1) := by decide +kernel
theorem dL_build_8 : decode cL_build 8 = .ok (.aload_n 2, 1) := by decide +kernel
theorem dL_build_9 : decode cL_build 9 = .ok (.iconst 1, 1) := by decide +kernel
theorem dL_build_10 : decode cL_build 10 = .ok (.aload_n 1, 1) := by decide +kernel
theorem dL_build_11 : decode cL_build 11 = .ok (.iconst 0, 1) := by decide +kernel
theorem dL_build_12 : decode cL_build 12 = .ok (.invokestatic 62, 3) := by decide +kernel
theorem dL_build_15 : decode cL_build 15 = .ok (.iconst 4, 1) := by decide +kernel
theorem dL_build_16 : decode cL_build 16 = .ok (.invokestatic 9, 3) := by decide +kernel
theorem dL_build_19 : decode cL_build 19 = .ok (.iadd, 1) := by decide +kernel
theorem dL_build_20 : decode cL_build 20 = .ok (.putfield 15, 3) := by decide +kernel
theorem dL_build_23 : decode cL_build 23 = .ok (.iconst 0, 1) := by decide +kernel
theorem dL_build_24 : decode cL_build 24 = .ok (.istore_n 3, 1) := by decide +kernel
theorem dL_build_25 : decode cL_build 25 = .ok (.iload_n 3, 1) := by decide +kernel
theorem dL_build_26 : decode cL_build 26 = .ok (.aload_n 2, 1) := by decide +kernel
theorem dL_build_27 : decode cL_build 27 = .ok (.getfield 15, 3) := by decide +kernel
theorem dL_build_30 : decode cL_build 30 = .ok (.if_icmp .ge 19, 3) := by decide +kernel
theorem dL_build_33 : decode cL_build 33 = .ok (.aload_n 0, 1) := by decide +kernel
theorem dL_build_34 : decode cL_build 34 = .ok (.invokevirtual 25, 3) := by decide +kernel
theorem dL_build_37 : decode cL_build 37 = .ok (.iload_n 3, 1) := by decide +kernel
theorem dL_build_38 : decode cL_build 38 = .ok (.if_icmp .eq 5, 3) := by decide +kernel
theorem dL_build_41 : decode cL_build 41 = .ok (.aconst_null, 1) := by decide +kernel
theorem dL_build_42 : decode cL_build 42 = .ok (.areturn, 1) := by decide +kernel
theorem dL_build_43 : decode cL_build 43 = .ok (.iinc 3 1, 3) := by decide +kernel
theorem dL_build_46 : decode cL_build 46 = .ok (.goto (-21), 3) := by decide +kernel
theorem dL_build_49 : decode cL_build 49 = .ok (.iconst 0, 1) := by decide +kernel
theorem dL_build_50 : decode cL_build 50 = .ok (.istore_n 3, 1) := by decide +kernel
theorem dL_build_51 : decode cL_build 51 = .ok (.iload_n 3, 1) := by decide +kernel
theorem dL_build_52 : decode cL_build 52 = .ok (.aload_n 1, 1) := by decide +kernel
theorem dL_build_53 : decode cL_build 53 = .ok (.iconst 1, 1) := by decide +kernel
theorem dL_build_54 : decode cL_build 54 = .ok (.invokestatic 62, 3) := by decide +kernel
theorem dL_build_57 : decode cL_build 57 = .ok (.bipush 60, 2) := by decide +kernel
theorem dL_build_59 : decode cL_build 59 = .ok (.invokestatic 9, 3) := by decide +kernel
theorem dL_build_62 : decode cL_build 62 = .ok (.if_icmp .ge 90, 3) := by decide +kernel
theorem dL_build_65 : decode cL_build 65 = .ok (.aload_n 1, 1) := by decide +kernel
theorem dL_build_66 : decode cL_build 66 = .ok (.iconst 2, 1) := by decide +kernel
theorem dL_build_67 : decode cL_build 67 = .ok (.iload_n 3, 1) := by decide +kernel
theorem dL_build_68 : decode cL_build 68 = .ok (.bipush 14, 2) := by decide +kernel
theorem dL_build_70 : decode cL_build 70 = .ok (.irem, 1) := by decide +kernel
theorem dL_build_71 : decode cL_build 71 = .ok (.iadd, 1) := by decide +kernel
theorem dL_build_72 : decode cL_build 72 = .ok (.invokestatic 62, 3) := by decide +kernel
theorem dL_build_75 : decode cL_build 75 = .ok (.iload_n 3, 1) := by decide +kernel
theorem dL_build_76 : decode cL_build 76 = .ok (.bipush 14, 2) := by decide +kernel
theorem dL_build_78 : decode cL_build 78 = .ok (.idiv, 1) := by decide +kernel
theorem dL_build_79 : decode cL_build 79 = .ok (.iconst 4, 1) := by decide +kernel
theorem dL_build_80 : decode cL_build 80 = .ok (.imul, 1) := by decide +kernel
theorem dL_build_81 : decode cL_build 81 = .ok (.ishr, 1) := by decide +kernel
theorem dL_build_82 : decode cL_build 82 = .ok (.bipush 31, 2) := by decide +kernel
theorem dL_build_84 : decode cL_build 84 = .ok (.iload_n 3, 1) := by decide +kernel
theorem dL_build_85 : decode cL_build 85 = .ok (.imul, 1) := by decide +kernel
theorem dL_build_86 : decode cL_build 86 = .ok (.iadd, 1) := by decide +kernel
theorem dL_build_87 : decode cL_build 87 = .ok (.istore 4, 2) := by decide +kernel
theorem dL_build_89 : decode cL_build 89 = .ok (.iload 4, 2) := by decide +kernel
theorem dL_build_91 : decode cL_build 91 = .ok (.iconst 5, 1) := by decide +kernel
theorem dL_build_92 : decode cL_build 92 = .ok (.invokestatic 9, 3) := by decide +kernel
theorem dL_build_95 : decode cL_build 95 = .ok (.istore 5, 2) := by decide +kernel
theorem dL_build_97 : decode cL_build 97 = .ok (.aload_n 2, 1) := by decide +kernel
theorem dL_build_98 : decode cL_build 98 = .ok (.iload 5, 2) := by decide +kernel
theorem dL_build_100 : decode cL_build 100 = .ok (.invokevirtual 49, 3) := by decide +kernel
theorem dL_build_103 : decode cL_build 103 = .ok (.ifCond .ne 6, 3) := by decide +kernel
theorem dL_build_106 : decode cL_build 106 = .ok (.goto 40, 3) := by decide +kernel
theorem dL_build_109 : decode cL_build 109 = .ok (.aload_n 2, 1) := by decide +kernel
theorem dL_build_110 : decode cL_build 110 = .ok (.iload 5, 2) := by decide +kernel
theorem dL_build_112 : decode cL_build 112 = .ok (.iload 4, 2) := by decide +kernel
theorem dL_build_114 : decode cL_build 114 = .ok (.iconst 4, 1) := by decide +kernel
theorem dL_build_115 : decode cL_build 115 = .ok (.ishr, 1) := by decide +kernel
theorem dL_build_116 : decode cL_build 116 = .ok (.iconst 5, 1) := by decide +kernel
theorem dL_build_117 : decode cL_build 117 = .ok (.invokestatic 9, 3) := by decide +kernel
theorem dL_build_120 : decode cL_build 120 = .ok (.invokevirtual 56, 3) := by decide +kernel
theorem dL_build_123 : decode cL_build 123 = .ok (.istore 6, 2) := by decide +kernel
theorem dL_build_125 : decode cL_build 125 = .ok (.aload_n 0, 1) := by decide +kernel
theorem dL_build_126 : decode cL_build 126 = .ok (.iload 5, 2) := by decide +kernel
theorem dL_build_128 : decode cL_build 128 = .ok (.iload 4, 2) := by decide +kernel
theorem dL_build_130 : decode cL_build 130 = .ok (.iconst 4, 1) := by decide +kernel
theorem dL_build_131 : decode cL_build 131 = .ok (.ishr, 1) := by decide +kernel
theorem dL_build_132 : decode cL_build 132 = .ok (.iconst 5, 1) := by decide +kernel
theorem dL_build_133 : decode cL_build 133 = .ok (.invokestatic 9, 3) := by decide +kernel
theorem dL_build_136 : decode cL_build 136 = .ok (.invokevirtual 53, 3) := by decide +kernel
theorem dL_build_139 : decode cL_build 139 = .ok (.iload 6, 2) := by decide +kernel
theorem dL_build_141 : decode cL_build 141 = .ok (.if_icmp .eq 5, 3) := by decide +kernel
theorem dL_build_144 : decode cL_build 144 = .ok (.aconst_null, 1) := by decide +kernel
theorem dL_build_145 : decode cL_build 145 = .ok (.areturn, 1) := by decide +kernel
theorem dL_build_146 : decode cL_build 146 = .ok (.iinc 3 1, 3) := by decide +kernel
theorem dL_build_149 : decode cL_build 149 = .ok (.goto (-98), 3) := by decide +kernel
theorem dL_build_152 : decode cL_build 152 = .ok (.aload_n 2, 1) := by decide +kernel
theorem dL_build_153 : decode cL_build 153 = .ok (.areturn, 1) := by decide +kernel
set_option maxRecDepth 20000 in
theorem ggL_law_X4_init : GoodIn wsL_law wsX4_init := goodIn_r _ [14, 15, 16, 17, 18, 19, 20, 21, 22, 23, 24, 25, 26, 27, 28, 29, 30, 31, 32, 3, 33, 34, 35, 36, 37, 38, 39, 40, 41, 42, 43, 44, 45, 46, 471, 472, 473, 464, 465, 466, 467, 468, 469, 470, 474, 475, 476, 477, 478, 479] (by decide +kernel) (by decide +kernel)
set_option maxRecDepth 20000 in
theorem gL_law_X4_init : GoodIn wsL_law (wsX4_init) := ggL_law_X4_init
set_option maxRecDepth 20000 in
theorem ggL_law_L_build_r1 : GoodIn wsL_law wsL_build_r1 := goodIn_r wsL_build_r1 [51, 52, 53, 54, 55, 56, 57, 16, 17, 4, 58, 3, 59, 60, 61, 62, 63, 64, 65, 49, 66, 67, 68, 69] (by decide +kernel) (by decide +kernel)
set_option maxRecDepth 20000 in
theorem ggL_law_L_build_r2 : GoodIn wsL_law wsL_build_r2 := goodIn_r wsL_build_r2 [70, 71, 72, 73, 74, 2, 75, 76, 77, 78, 79, 80, 81, 82, 27, 83, 84, 85, 29, 86, 87, 88, 89, 90] (by decide +kernel) (by decide +kernel)
set_option maxRecDepth 20000 in
theorem ggL_law_L_build_r3 : GoodIn wsL_law wsL_build_r3 := goodIn_r wsL_build_r3 [91, 92, 93, 94, 95, 96, 97, 98, 99, 100, 101, 102, 103, 104, 105, 106, 107, 108, 109, 110, 111, 112, 113, 114] (by decide +kernel) (by decide +kernel)
set_option maxRecDepth 20000 in
theorem ggL_law_L_build_r4 : GoodIn wsL_law wsL_build_r4 := goodIn_r wsL_build_r4 [115, 116, 117, 118, 119, 120, 121, 122, 123, 124, 125, 126, 127, 128, 129, 25, 21, 130, 131, 132, 133, 134, 135, 136] (by decide +kernel) (by decide +kernel)
set_option maxRecDepth 20000 in
theorem ggL_law_L_build_r5 : GoodIn wsL_law wsL_build_r5 := goodIn_r wsL_build_r5 [137, 138, 139, 140, 141, 142, 143, 144, 145, 146, 147, 148, 149, 150, 151, 152, 153, 154, 24, 155, 39, 156, 157, 158] (by decide +kernel) (by decide +kernel)
set_option maxRecDepth 20000 in
theorem ggL_law_L_build_r6 : GoodIn wsL_law wsL_build_r6 := goodIn_r wsL_build_r6 [20, 159, 34, 33, 160, 161, 162, 163, 164, 165, 166, 167, 168, 169, 170, 171, 172, 173, 174, 175, 176, 177, 178, 179] (by decide +kernel) (by decide +kernel)
set_option maxRecDepth 20000 in
theorem ggL_law_L_build_r7 : GoodIn wsL_law wsL_build_r7 := goodIn_r wsL_build_r7 [180, 181, 182, 183, 184, 185, 186, 10, 7, 11, 187, 188, 189, 190, 191, 192, 193, 194, 43, 45, 44, 46, 195, 196] (by decide +kernel) (by decide +kernel)
set_option maxRecDepth 20000 in
theorem ggL_law_L_build_r8 : GoodIn wsL_law wsL_build_r8 := goodIn_r wsL_build_r8 [197, 198, 199, 200, 201, 202, 203, 204, 205, 206] (by decide +kernel) (by decide +kernel)
set_option maxRecDepth 20000 in
theorem ggL_law_L_build_wsX50 : GoodIn wsL_law wsX50 := goodIn_r wsX50 [480, 481, 482, 483, 484, 485, 486, 487, 488] (by decide +kernel) (by decide +kernel)
set_option maxRecDepth 20000 in
theorem ggL_law_L_build_wsX40 : GoodIn wsL_law wsX40 := goodIn_r wsX40 [464, 465, 466, 467, 468, 469, 470] (by decide +kernel) (by decide +kernel)
set_option maxRecDepth 20000 in
theorem ggL_law_L_build_wsX30 : GoodIn wsL_law wsX30 := goodIn_r wsX30 [475, 476, 477, 478, 479] (by decide +kernel) (by decide +kernel)
set_option maxRecDepth 20000 in
theorem ggL_law_L_build_wsX20 : GoodIn wsL_law wsX20 := goodIn_r wsX20 [474] (by decide +kernel) (by decide +kernel)
set_option maxRecDepth 20000 in
theorem ggL_law_L_build_wsX00 : GoodIn wsL_law wsX00 := goodIn_r wsX00 [471, 472, 473] (by decide +kernel) (by decide +kernel)
set_option maxRecDepth 20000 in
theorem ggL_law_L_build : GoodIn wsL_law wsL_build := goodIn_ca (goodIn_ca (goodIn_cons (goodIn_r [_] [50] (by decide +kernel) (by decide +kernel)) (goodIn_app (goodIn_app (goodIn_app (goodIn_app (goodIn_app (goodIn_app ggL_law_L_build_r1 (goodIn_app ggL_law_L_build_r2 (goodIn_app ggL_law_L_build_r3 (goodIn_app ggL_law_L_build_r4 (goodIn_app ggL_law_L_build_r5 (goodIn_app ggL_law_L_build_r6 (goodIn_app ggL_law_L_build_r7 ggL_law_L_build_r8))))))) ggL_law_L_build_wsX50) ggL_law_L_build_wsX40) ggL_law_L_build_wsX30) ggL_law_L_build_wsX20) ggL_law_L_build_wsX00)) (goodIn_sub (fun _ h => List.mem_append_left _ (List.mem_append_left _ (List.mem_append_right _ h))) (by decide +kernel))) (goodIn_sub (fun _ h => List.mem_append_left _ (List.mem_append_right _ h)) (by decide +kernel))
set_option maxRecDepth 20000 in
theorem gL_law_L_build : GoodIn wsL_law (va_wsS RL 67 yL_build wsL_build) := goodIn_app (goodIn_of _ (by decide +kernel)) ggL_law_L_build
set_option maxRecDepth 20000 in
theorem ggL_law_L_cell : GoodIn wsL_law wsL_cell := goodIn_r _ [66, 67] (by decide +kernel) (by decide +kernel)
set_option maxRecDepth 20000 in
theorem gL_law_L_cell : GoodIn wsL_law (va_wsS RL 62 yL_cell wsL_cell) := goodIn_app (goodIn_of _ (by decide +kernel)) ggL_law_L_cell
set_option maxRecDepth 20000 in
theorem ggL_law_L_act_r1 : GoodIn wsL_law wsL_act_r1 := goodIn_r wsL_act_r1 [210, 54, 211, 212, 213, 68, 69, 49, 70, 71, 72, 73, 74, 2, 75, 76, 77, 78, 79, 80, 81, 82, 27, 83] (by decide +kernel) (by decide +kernel)
set_option maxRecDepth 20000 in
theorem ggL_law_L_act_r2 : GoodIn wsL_law wsL_act_r2 := goodIn_r wsL_act_r2 [84, 85, 29, 86, 87, 214, 215, 216, 217, 21, 218, 219, 220, 138, 139, 140, 141, 142, 221, 222, 223, 20, 224, 35] (by decide +kernel) (by decide +kernel)
set_option maxRecDepth 20000 in
theorem ggL_law_L_act_r3 : GoodIn wsL_law wsL_act_r3 := goodIn_r wsL_act_r3 [225, 226, 227, 228, 33, 229, 230, 231, 232, 233, 234, 235, 236, 237, 238, 239, 240, 241, 242, 147, 130, 131, 25, 243] (by decide +kernel) (by decide +kernel)
set_option maxRecDepth 20000 in
theorem ggL_law_L_act_r4 : GoodIn wsL_law wsL_act_r4 := goodIn_r wsL_act_r4 [244, 245, 246, 247, 248, 249, 250, 251, 252, 253, 254, 44, 45, 46, 255, 6, 7, 8, 43, 256, 257, 258, 259, 260] (by decide +kernel) (by decide +kernel)
set_option maxRecDepth 20000 in
theorem ggL_law_L_act_r5 : GoodIn wsL_law wsL_act_r5 := goodIn_r wsL_act_r5 [261, 262, 24, 263, 39, 199, 200, 201, 202, 34, 203, 204, 205, 206, 264, 265, 266, 53, 267, 62, 63, 103, 97, 102] (by decide +kernel) (by decide +kernel)
set_option maxRecDepth 20000 in
theorem ggL_law_L_act_r6 : GoodIn wsL_law wsL_act_r6 := goodIn_r wsL_act_r6 [60, 268, 269, 270, 271, 92, 272, 273, 274, 275, 276, 277, 278, 279, 3, 122, 123, 124, 125, 58, 59, 88, 89, 90] (by decide +kernel) (by decide +kernel)
set_option maxRecDepth 20000 in
theorem ggL_law_L_act_r7 : GoodIn wsL_law wsL_act_r7 := goodIn_r wsL_act_r7 [91, 93, 94, 95, 96, 126, 127, 128, 129, 132, 133, 134, 135, 136, 137, 143, 144, 145, 146, 148, 149, 150, 151, 152] (by decide +kernel) (by decide +kernel)
set_option maxRecDepth 20000 in
theorem ggL_law_L_act_r8 : GoodIn wsL_law wsL_act_r8 := goodIn_r wsL_act_r8 [153, 154, 155, 156, 157, 158, 159, 160, 161, 162, 163, 164, 165, 166, 167, 168, 169, 170, 171, 172, 173, 174, 175, 176] (by decide +kernel) (by decide +kernel)
set_option maxRecDepth 20000 in
theorem ggL_law_L_act_r9 : GoodIn wsL_law wsL_act_r9 := goodIn_r wsL_act_r9 [177, 178, 179, 180, 181, 182, 183, 184, 185, 186, 10, 11, 187, 188, 189, 190, 191, 192, 193, 194, 195, 196, 197, 198] (by decide +kernel) (by decide +kernel)
set_option maxRecDepth 20000 in
theorem ggL_law_L_act_r10 : GoodIn wsL_law wsL_act_r10 := goodIn_r wsL_act_r10 [98, 99, 100, 101, 104, 105, 106, 107, 108, 109, 110, 111, 112, 113, 114, 115, 116, 117, 118, 119, 120, 121] (by decide +kernel) (by decide +kernel)
set_option maxRecDepth 20000 in
theorem ggL_law_L_act_wsX50 : GoodIn wsL_law wsX50 := goodIn_r wsX50 [480, 481, 482, 483, 484, 485, 486, 487, 488] (by decide +kernel) (by decide +kernel)
set_option maxRecDepth 20000 in
theorem ggL_law_L_act_wsX40 : GoodIn wsL_law wsX40 := goodIn_r wsX40 [464, 465, 466, 467, 468, 469, 470] (by decide +kernel) (by decide +kernel)
set_option maxRecDepth 20000 in
theorem ggL_law_L_act_wsX30 : GoodIn wsL_law wsX30 := goodIn_r wsX30 [475, 476, 477, 478, 479] (by decide +kernel) (by decide +kernel)
set_option maxRecDepth 20000 in
theorem ggL_law_L_act_wsX00 : GoodIn wsL_law wsX00 := goodIn_r wsX00 [471, 472, 473] (by decide +kernel) (by decide +kernel)
set_option maxRecDepth 20000 in
theorem ggL_law_L_act_wsX20 : GoodIn wsL_law wsX20 := goodIn_r wsX20 [474] (by decide +kernel) (by decide +kernel)
set_option maxRecDepth 20000 in
theorem ggL_law_L_act : GoodIn wsL_law wsL_act := goodIn_ca (goodIn_ca (goodIn_ca (goodIn_cons (goodIn_r [_] [209] (by decide +kernel) (by decide +kernel)) (goodIn_app (goodIn_app (goodIn_app (goodIn_app (goodIn_app (goodIn_app ggL_law_L_act_r1 (goodIn_app ggL_law_L_act_r2 (goodIn_app ggL_law_L_act_r3 (goodIn_app ggL_law_L_act_r4 (goodIn_app ggL_law_L_act_r5 (goodIn_app ggL_law_L_act_r6 (goodIn_app ggL_law_L_act_r7 (goodIn_app ggL_law_L_act_r8 (goodIn_app ggL_law_L_act_r9 ggL_law_L_act_r10))))))))) ggL_law_L_act_wsX50) ggL_law_L_act_wsX40) ggL_law_L_act_wsX30) ggL_law_L_act_wsX00) ggL_law_L_act_wsX20)) (goodIn_sub (fun _ h => List.mem_append_left _ (List.mem_append_left _ (List.mem_append_right _ h))) (by decide +kernel))) (goodIn_sub (fun _ h => List.mem_append_left _ (List.mem_append_right _ h)) (by decide +kernel))) (goodIn_sub (fun _ h => List.mem_append_right _ h) (by decide +kernel))
set_option maxRecDepth 20000 in
theorem gL_law_L_act : GoodIn wsL_law (va_wsS RL 71 yL_act wsL_act) := goodIn_app (goodIn_of _ (by decide +kernel)) ggL_law_L_act
set_option maxRecDepth 20000 in
theorem ggL_law_X4_digest : GoodIn wsL_law wsX4_digest := goodIn_r _ [283, 284, 285, 78, 130, 131, 21, 25, 27, 143, 144, 145, 2, 146, 147, 148, 149, 150, 151, 221, 222, 223, 20, 224, 35, 286, 287, 288, 289, 152, 153, 154, 24, 155, 39, 187, 188, 189, 190, 34, 290, 161, 162, 163, 164, 165, 166, 167, 168, 169, 170, 171, 172, 173, 291, 176, 177, 178, 179, 180, 181, 292, 293, 294, 295, 296, 297, 298, 299, 300, 301, 302, 303, 304, 33, 174, 305, 306, 307, 308, 309, 310, 311, 312, 29, 313, 314, 87, 315, 248, 249, 250, 251, 252, 253, 254, 44, 45, 46, 255, 6, 7, 8, 43, 316, 317, 318, 319, 320, 321, 322, 323, 324, 325, 326, 327, 464, 465, 466, 467, 468, 469, 470, 471, 472, 473, 474, 475, 476, 477, 478, 479] (by decide +kernel) (by decide +kernel)
set_option maxRecDepth 20000 in
theorem gL_law_X4_digest : GoodIn wsL_law (wsV RL 75 RX4 yX4_digest wsX4_digest) := goodIn_app (goodIn_of _ (by decide +kernel)) ggL_law_X4_digest
set_option maxRecDepth 20000 in
theorem ggL_law_X4_wearOf : GoodIn wsL_law wsX4_wearOf := goodIn_ca (goodIn_r _ [331, 21, 218, 219, 2, 220, 138, 139, 140, 141, 142, 332, 333, 334, 20, 335, 33, 464, 465, 466, 467, 468, 469, 470, 471, 472, 473] (by decide +kernel) (by decide +kernel)) (goodIn_sub (fun _ h => List.mem_append_left _ (List.mem_append_right _ h)) (by decide +kernel))
set_option maxRecDepth 20000 in
theorem gL_law_X4_wearOf : GoodIn wsL_law (wsV RL 79 RX4 yX4_wearOf wsX4_wearOf) := goodIn_app (goodIn_of _ (by decide +kernel)) ggL_law_X4_wearOf
set_option maxRecDepth 20000 in
theorem ggL_law_X4_isStanding : GoodIn wsL_law wsX4_isStanding := goodIn_ca (goodIn_r _ [339, 21, 218, 219, 2, 220, 138, 139, 140, 141, 142, 187, 188, 189, 20, 190, 34, 340, 172, 162, 173, 464, 465, 466, 467, 468, 469, 470, 471, 472, 473] (by decide +kernel) (by decide +kernel)) (goodIn_sub (fun _ h => List.mem_append_left _ (List.mem_append_right _ h)) (by decide +kernel))
set_option maxRecDepth 20000 in
theorem gL_law_X4_isStanding : GoodIn wsL_law (wsV RL 82 RX4 yX4_isStanding wsX4_isStanding) := goodIn_app (goodIn_of _ (by decide +kernel)) ggL_law_X4_isStanding
set_option maxRecDepth 20000 in
theorem ggL_law_X4_isBroken : GoodIn wsL_law wsX4_isBroken := goodIn_ca (goodIn_r _ [344, 21, 218, 219, 2, 220, 138, 139, 140, 141, 142, 345, 204, 205, 20, 206, 33, 464, 465, 466, 467, 468, 469, 470, 471, 472, 473] (by decide +kernel) (by decide +kernel)) (goodIn_sub (fun _ h => List.mem_append_left _ (List.mem_append_right _ h)) (by decide +kernel))
set_option maxRecDepth 20000 in
theorem gL_law_X4_isBroken : GoodIn wsL_law (wsV RL 85 RX4 yX4_isBroken wsX4_isBroken) := goodIn_app (goodIn_of _ (by decide +kernel)) ggL_law_X4_isBroken
set_option maxRecDepth 20000 in
theorem ggL_law_X4_awayFor : GoodIn wsL_law wsX4_awayFor := goodIn_ca (goodIn_r _ [349, 25, 135, 136, 2, 137, 138, 139, 140, 141, 142, 152, 153, 154, 24, 155, 39, 464, 465, 466, 467, 468, 469, 470, 474] (by decide +kernel) (by decide +kernel)) (goodIn_sub (fun _ h => List.mem_append_left _ (List.mem_append_right _ h)) (by decide +kernel))
set_option maxRecDepth 20000 in
theorem gL_law_X4_awayFor : GoodIn wsL_law (wsV RL 88 RX4 yX4_awayFor wsX4_awayFor) := goodIn_app (goodIn_of _ (by decide +kernel)) ggL_law_X4_awayFor
set_option maxRecDepth 20000 in
theorem ggL_law_X4_standing : GoodIn wsL_law wsX4_standing := goodIn_r _ [353, 21, 187, 188, 189, 20, 190, 34, 291, 176, 177, 178, 179, 180, 181, 464, 465, 466, 467, 468, 469, 470, 471, 472, 473] (by decide +kernel) (by decide +kernel)
set_option maxRecDepth 20000 in
theorem gL_law_X4_standing : GoodIn wsL_law (wsV RL 91 RX4 yX4_standing wsX4_standing) := goodIn_app (goodIn_of _ (by decide +kernel)) ggL_law_X4_standing
set_option maxRecDepth 20000 in
theorem ggL_law_X4_brokenStrings : GoodIn wsL_law wsX4_brokenStrings := goodIn_r _ [357, 21, 358, 359, 360, 20, 361, 203, 204, 205, 206, 33, 464, 465, 466, 467, 468, 469, 470, 471, 472, 473] (by decide +kernel) (by decide +kernel)
set_option maxRecDepth 20000 in
theorem gL_law_X4_brokenStrings : GoodIn wsL_law (wsV RL 94 RX4 yX4_brokenStrings wsX4_brokenStrings) := goodIn_app (goodIn_of _ (by decide +kernel)) ggL_law_X4_brokenStrings
set_option maxRecDepth 20000 in
theorem ggL_law_X4_wouldBreak : GoodIn wsL_law wsX4_wouldBreak := goodIn_r _ [365, 21, 366, 367, 368, 20, 369, 34, 33, 174, 172, 162, 173, 464, 465, 466, 467, 468, 469, 470, 471, 472, 473] (by decide +kernel) (by decide +kernel)
set_option maxRecDepth 20000 in
theorem gL_law_X4_wouldBreak : GoodIn wsL_law (wsV RL 97 RX4 yX4_wouldBreak wsX4_wouldBreak) := goodIn_app (goodIn_of _ (by decide +kernel)) ggL_law_X4_wouldBreak
set_option maxRecDepth 20000 in
theorem ggL_law_X4_mostWorn : GoodIn wsL_law wsX4_mostWorn := goodIn_r _ [373, 21, 374, 375, 376, 20, 377, 33, 203, 204, 205, 206, 464, 465, 466, 467, 468, 469, 470, 471, 472, 473] (by decide +kernel) (by decide +kernel)
set_option maxRecDepth 20000 in
theorem gL_law_X4_mostWorn : GoodIn wsL_law (wsV RL 100 RX4 yX4_mostWorn wsX4_mostWorn) := goodIn_app (goodIn_of _ (by decide +kernel)) ggL_law_X4_mostWorn
set_option maxRecDepth 20000 in
theorem ggL_law_X4_throwsInFrame : GoodIn wsL_law wsX4_throwsInFrame := goodIn_r _ [381, 131, 464, 465, 466, 467, 468, 469, 470] (by decide +kernel) (by decide +kernel)
set_option maxRecDepth 20000 in
theorem gL_law_X4_throwsInFrame : GoodIn wsL_law (wsV RL 103 RX4 yX4_throwsInFrame wsX4_throwsInFrame) := goodIn_app (goodIn_of _ (by decide +kernel)) ggL_law_X4_throwsInFrame
set_option maxRecDepth 20000 in
theorem ggL_law_X4_players : GoodIn wsL_law wsX4_players := goodIn_r _ [385, 78, 464, 465, 466, 467, 468, 469, 470] (by decide +kernel) (by decide +kernel)
set_option maxRecDepth 20000 in
theorem gL_law_X4_players : GoodIn wsL_law (wsV RL 106 RX4 yX4_players wsX4_players) := goodIn_app (goodIn_of _ (by decide +kernel)) ggL_law_X4_players
set_option maxRecDepth 20000 in
theorem ggL_law_X4_pointsOf : GoodIn wsL_law wsX4_pointsOf := goodIn_ca (goodIn_r _ [389, 27, 390, 391, 392, 2, 393, 78, 138, 139, 140, 141, 142, 394, 252, 253, 29, 254, 87, 44, 45, 46, 255, 6, 7, 8, 43, 464, 465, 466, 467, 468, 469, 470, 475, 476, 477, 478, 479] (by decide +kernel) (by decide +kernel)) (goodIn_sub (fun _ h => List.mem_append_left _ (List.mem_append_right _ h)) (by decide +kernel))
set_option maxRecDepth 20000 in
theorem gL_law_X4_pointsOf : GoodIn wsL_law (wsV RL 108 RX4 yX4_pointsOf wsX4_pointsOf) := goodIn_app (goodIn_of _ (by decide +kernel)) ggL_law_X4_pointsOf
set_option maxRecDepth 20000 in
theorem ggL_law_X4_frame : GoodIn wsL_law wsX4_frame := goodIn_r _ [398, 130, 464, 465, 466, 467, 468, 469, 470] (by decide +kernel) (by decide +kernel)
set_option maxRecDepth 20000 in
theorem gL_law_X4_frame : GoodIn wsL_law (wsV RL 111 RX4 yX4_frame wsX4_frame) := goodIn_app (goodIn_of _ (by decide +kernel)) ggL_law_X4_frame
set_option maxRecDepth 20000 in
theorem ggL_law_X4_scoreOf : GoodIn wsL_law wsX4_scoreOf := goodIn_ca (goodIn_r _ [402, 27, 390, 391, 392, 2, 393, 78, 138, 139, 140, 141, 142, 247, 248, 249, 29, 250, 251, 252, 253, 254, 87, 44, 45, 46, 255, 6, 7, 8, 43, 464, 465, 466, 467, 468, 469, 470, 475, 476, 477, 478, 479] (by decide +kernel) (by decide +kernel)) (goodIn_sub (fun _ h => List.mem_append_left _ (List.mem_append_right _ h)) (by decide +kernel))
set_option maxRecDepth 20000 in
theorem gL_law_X4_scoreOf : GoodIn wsL_law (wsV RL 119 RX4 yX4_scoreOf wsX4_scoreOf) := goodIn_app (goodIn_of _ (by decide +kernel)) ggL_law_X4_scoreOf
set_option maxRecDepth 20000 in
theorem ggL_law_X4_strikesOf : GoodIn wsL_law wsX4_strikesOf := goodIn_ca (goodIn_r _ [406, 27, 390, 391, 392, 2, 393, 78, 138, 139, 140, 141, 142, 407, 317, 318, 29, 319, 320, 321, 322, 323, 46, 464, 465, 466, 467, 468, 469, 470, 475, 476, 477, 478, 479] (by decide +kernel) (by decide +kernel)) (goodIn_sub (fun _ h => List.mem_append_left _ (List.mem_append_right _ h)) (by decide +kernel))
set_option maxRecDepth 20000 in
theorem gL_law_X4_strikesOf : GoodIn wsL_law (wsV RL 122 RX4 yX4_strikesOf wsX4_strikesOf) := goodIn_app (goodIn_of _ (by decide +kernel)) ggL_law_X4_strikesOf
set_option maxRecDepth 20000 in
theorem ggL_law_X4_sparesOf : GoodIn wsL_law wsX4_sparesOf := goodIn_ca (goodIn_r _ [411, 27, 390, 391, 392, 2, 393, 78, 138, 139, 140, 141, 142, 412, 325, 326, 29, 327, 320, 321, 322, 323, 46, 464, 465, 466, 467, 468, 469, 470, 475, 476, 477, 478, 479] (by decide +kernel) (by decide +kernel)) (goodIn_sub (fun _ h => List.mem_append_left _ (List.mem_append_right _ h)) (by decide +kernel))
set_option maxRecDepth 20000 in
theorem gL_law_X4_sparesOf : GoodIn wsL_law (wsV RL 125 RX4 yX4_sparesOf wsX4_sparesOf) := goodIn_app (goodIn_of _ (by decide +kernel)) ggL_law_X4_sparesOf
set_option maxRecDepth 20000 in
theorem ggL_law_X4_throwsOf : GoodIn wsL_law wsX4_throwsOf := goodIn_ca (goodIn_r _ [416, 27, 390, 391, 392, 2, 393, 78, 138, 139, 140, 141, 142, 83, 84, 85, 29, 86, 87, 464, 465, 466, 467, 468, 469, 470, 475, 476, 477, 478, 479] (by decide +kernel) (by decide +kernel)) (goodIn_sub (fun _ h => List.mem_append_left _ (List.mem_append_right _ h)) (by decide +kernel))
set_option maxRecDepth 20000 in
theorem gL_law_X4_throwsOf : GoodIn wsL_law (wsV RL 128 RX4 yX4_throwsOf wsX4_throwsOf) := goodIn_app (goodIn_of _ (by decide +kernel)) ggL_law_X4_throwsOf
set_option maxRecDepth 20000 in
theorem ggL_law_X4_leader : GoodIn wsL_law wsX4_leader := goodIn_r _ [246, 78, 27, 247, 248, 249, 29, 250, 251, 252, 253, 254, 87, 44, 45, 46, 255, 6, 7, 8, 43, 464, 465, 466, 467, 468, 469, 470, 475, 476, 477, 478, 479] (by decide +kernel) (by decide +kernel)
set_option maxRecDepth 20000 in
theorem gL_law_X4_leader : GoodIn wsL_law (wsV RL 134 RX4 yX4_leader wsX4_leader) := goodIn_app (goodIn_of _ (by decide +kernel)) ggL_law_X4_leader
set_option maxRecDepth 20000 in
theorem ggL_law_X4_meanScore : GoodIn wsL_law wsX4_meanScore := goodIn_r _ [421, 78, 27, 247, 248, 249, 29, 250, 251, 252, 253, 254, 87, 44, 45, 46, 255, 6, 7, 8, 43, 464, 465, 466, 467, 468, 469, 470, 475, 476, 477, 478, 479] (by decide +kernel) (by decide +kernel)
set_option maxRecDepth 20000 in
theorem gL_law_X4_meanScore : GoodIn wsL_law (wsV RL 137 RX4 yX4_meanScore wsX4_meanScore) := goodIn_app (goodIn_of _ (by decide +kernel)) ggL_law_X4_meanScore
set_option maxRecDepth 20000 in
theorem ggL_law_X4_bestThrow : GoodIn wsL_law wsX4_bestThrow := goodIn_r _ [289, 25, 21, 152, 153, 154, 24, 155, 39, 187, 188, 189, 20, 190, 34, 290, 161, 162, 163, 164, 165, 166, 167, 168, 169, 170, 171, 172, 173, 291, 176, 177, 178, 179, 180, 181, 464, 465, 466, 467, 468, 469, 470, 474, 471, 472, 473] (by decide +kernel) (by decide +kernel)
set_option maxRecDepth 20000 in
theorem gL_law_X4_bestThrow : GoodIn wsL_law (wsV RL 141 RX4 yX4_bestThrow wsX4_bestThrow) := goodIn_app (goodIn_of _ (by decide +kernel)) ggL_law_X4_bestThrow
set_option maxRecDepth 20000 in
theorem ggL_law_X4_throwsToClear : GoodIn wsL_law wsX4_throwsToClear := goodIn_r _ [295, 21, 187, 188, 189, 20, 190, 34, 296, 162, 297, 171, 172, 173, 298, 161, 163, 164, 165, 166, 167, 168, 169, 170, 299, 464, 465, 466, 467, 468, 469, 470, 471, 472, 473] (by decide +kernel) (by decide +kernel)
set_option maxRecDepth 20000 in
theorem gL_law_X4_throwsToClear : GoodIn wsL_law (wsV RL 144 RX4 yX4_throwsToClear wsX4_throwsToClear) := goodIn_app (goodIn_of _ (by decide +kernel)) ggL_law_X4_throwsToClear
set_option maxRecDepth 20000 in
theorem ggL_law_X4_wouldFall : GoodIn wsL_law wsX4_wouldFall := goodIn_ca (goodIn_r _ [427, 21, 132, 133, 2, 134, 135, 136, 137, 138, 139, 140, 141, 142, 187, 188, 189, 20, 190, 34, 290, 161, 162, 163, 164, 165, 166, 167, 168, 169, 170, 171, 172, 173, 291, 176, 177, 178, 179, 180, 181, 464, 465, 466, 467, 468, 469, 470, 471, 472, 473] (by decide +kernel) (by decide +kernel)) (goodIn_sub (fun _ h => List.mem_append_left _ (List.mem_append_right _ h)) (by decide +kernel))
set_option maxRecDepth 20000 in
theorem gL_law_X4_wouldFall : GoodIn wsL_law (wsV RL 147 RX4 yX4_wouldFall wsX4_wouldFall) := goodIn_app (goodIn_of _ (by decide +kernel)) ggL_law_X4_wouldFall
set_option maxRecDepth 20000 in
theorem ggL_law_X4_lastToFall : GoodIn wsL_law wsX4_lastToFall := goodIn_ca (goodIn_r _ [431, 21, 132, 133, 2, 134, 135, 136, 137, 138, 139, 140, 141, 142, 187, 188, 189, 20, 190, 34, 290, 161, 162, 163, 164, 165, 166, 167, 168, 169, 170, 171, 172, 173, 432, 433, 434, 464, 465, 466, 467, 468, 469, 470, 471, 472, 473] (by decide +kernel) (by decide +kernel)) (goodIn_sub (fun _ h => List.mem_append_left _ (List.mem_append_right _ h)) (by decide +kernel))
set_option maxRecDepth 20000 in
theorem gL_law_X4_lastToFall : GoodIn wsL_law (wsV RL 150 RX4 yX4_lastToFall wsX4_lastToFall) := goodIn_app (goodIn_of _ (by decide +kernel)) ggL_law_X4_lastToFall
set_option maxRecDepth 20000 in
theorem ggL_law_L_below : GoodIn wsL_law wsL_below := goodIn_r _ [70, 71] (by decide +kernel) (by decide +kernel)
set_option maxRecDepth 20000 in
theorem gL_law_L_below : GoodIn wsL_law (va_wsS RL 9 yL_below wsL_below) := goodIn_app (goodIn_of _ (by decide +kernel)) ggL_law_L_below
set_option maxRecDepth 20000 in
theorem ggL_law_X5_canThrow : GoodIn wsL_law wsX5_canThrow := goodIn_r _ [91, 92, 60, 93, 94, 95, 53, 96, 97, 480, 481, 482, 483, 484, 485, 486, 487, 488] (by decide +kernel) (by decide +kernel)
set_option maxRecDepth 20000 in
theorem gL_law_X5_canThrow : GoodIn wsL_law (wsV RL 49 RX5 yX5_canThrow wsX5_canThrow) := goodIn_app (goodIn_of _ (by decide +kernel)) ggL_law_X5_canThrow
set_option maxRecDepth 20000 in
theorem ggL_law_X4_playerInTurn : GoodIn wsL_law wsX4_playerInTurn := goodIn_r _ [146, 78, 147, 148, 149, 150, 2, 151, 130, 464, 465, 466, 467, 468, 469, 470] (by decide +kernel) (by decide +kernel)
set_option maxRecDepth 20000 in
theorem gL_law_X4_playerInTurn : GoodIn wsL_law (wsV RL 153 RX4 yX4_playerInTurn wsX4_playerInTurn) := goodIn_app (goodIn_of _ (by decide +kernel)) ggL_law_X4_playerInTurn
set_option maxRecDepth 20000 in
theorem ggL_law_X4_throwBall : GoodIn wsL_law wsX4_throwBall := goodIn_ca (goodIn_ca (goodIn_r _ [129, 76, 77, 25, 21, 27, 130, 131, 132, 133, 2, 134, 135, 136, 137, 138, 139, 140, 141, 142, 143, 144, 145, 146, 78, 147, 148, 149, 150, 151, 152, 153, 154, 24, 155, 39, 156, 157, 158, 20, 159, 34, 33, 160, 161, 162, 163, 164, 165, 166, 167, 168, 169, 170, 171, 172, 173, 174, 175, 176, 177, 178, 179, 180, 181, 182, 183, 184, 185, 186, 10, 7, 11, 187, 188, 189, 190, 191, 192, 193, 29, 194, 87, 43, 45, 44, 46, 195, 196, 197, 198, 199, 200, 201, 202, 203, 204, 205, 206, 464, 465, 466, 467, 468, 469, 470, 474, 471, 472, 473, 475, 476, 477, 478, 479] (by decide +kernel) (by decide +kernel)) (goodIn_sub (fun _ h => List.mem_append_left _ (List.mem_append_left _ (List.mem_append_right _ h))) (by decide +kernel))) (goodIn_sub (fun _ h => List.mem_append_left _ (List.mem_append_right _ h)) (by decide +kernel))
set_option maxRecDepth 20000 in
theorem gL_law_X4_throwBall : GoodIn wsL_law (wsV RL 53 RX4 yX4_throwBall wsX4_throwBall) := goodIn_app (goodIn_of _ (by decide +kernel)) ggL_law_X4_throwBall
set_option maxRecDepth 20000 in
theorem ggL_law_X5_play : GoodIn wsL_law wsX5_play := goodIn_r _ [101, 58, 59, 60, 102, 63, 62, 3, 103, 97, 92, 104, 105, 53, 106, 107, 108, 109, 110, 111, 112, 113, 114, 115, 116, 117, 118, 119, 120, 121, 93, 94, 95, 96, 122, 123, 124, 125, 480, 481, 482, 483, 484, 485, 486, 487, 488] (by decide +kernel) (by decide +kernel)
set_option maxRecDepth 20000 in
theorem gL_law_X5_play : GoodIn wsL_law (wsV RL 56 RX5 yX5_play wsX5_play) := goodIn_app (goodIn_of _ (by decide +kernel)) ggL_law_X5_play
set_option maxRecDepth 20000 in
theorem ggL_law_X5_isSame_r1 : GoodIn wsL_law wsX5_isSame_r1 := goodIn_r wsX5_isSame_r1 [58, 59, 60, 92, 63, 61, 103, 97, 102, 440, 337, 338, 2, 339, 21, 218, 219, 220, 138, 139, 140, 141, 142, 187] (by decide +kernel) (by decide +kernel)
set_option maxRecDepth 20000 in
theorem ggL_law_X5_isSame_r2 : GoodIn wsL_law wsX5_isSame_r2 := goodIn_r wsX5_isSame_r2 [188, 189, 20, 190, 34, 340, 172, 162, 173, 441, 329, 330, 331, 332, 333, 334, 335, 33, 442, 342, 343, 344, 345, 204] (by decide +kernel) (by decide +kernel)
set_option maxRecDepth 20000 in
theorem ggL_law_X5_isSame_r3 : GoodIn wsL_law wsX5_isSame_r3 := goodIn_r wsX5_isSame_r3 [205, 206, 443, 347, 348, 349, 25, 135, 136, 137, 152, 153, 154, 24, 155, 39, 276, 277, 278, 53, 279, 3, 444, 387] (by decide +kernel) (by decide +kernel)
set_option maxRecDepth 20000 in
theorem ggL_law_X5_isSame_r4 : GoodIn wsL_law wsX5_isSame_r4 := goodIn_r wsX5_isSame_r4 [388, 389, 27, 390, 391, 392, 393, 78, 394, 252, 253, 29, 254, 87, 44, 45, 46, 255, 6, 7, 8, 43, 272, 273] (by decide +kernel) (by decide +kernel)
set_option maxRecDepth 20000 in
theorem ggL_law_X5_isSame_r5 : GoodIn wsL_law wsX5_isSame_r5 := goodIn_r wsX5_isSame_r5 [274, 275, 445, 414, 415, 416, 83, 84, 85, 86, 446, 400, 401, 402, 247, 248, 249, 250, 251, 447, 404, 405, 406, 407] (by decide +kernel) (by decide +kernel)
set_option maxRecDepth 20000 in
theorem ggL_law_X5_isSame_r6 : GoodIn wsL_law wsX5_isSame_r6 := goodIn_r wsX5_isSame_r6 [317, 318, 319, 320, 321, 322, 323, 448, 409, 410, 411, 412, 325, 326, 327, 449, 351, 352, 353, 291, 176, 177, 178, 179] (by decide +kernel) (by decide +kernel)
set_option maxRecDepth 20000 in
theorem ggL_law_X5_isSame_r7 : GoodIn wsL_law wsX5_isSame_r7 := goodIn_r wsX5_isSame_r7 [180, 181, 119, 120, 121, 450, 355, 356, 357, 358, 359, 360, 361, 203, 451, 363, 364, 365, 366, 367, 368, 369, 174, 452] (by decide +kernel) (by decide +kernel)
set_option maxRecDepth 20000 in
theorem ggL_law_X5_isSame_r8 : GoodIn wsL_law wsX5_isSame_r8 := goodIn_r wsX5_isSame_r8 [371, 372, 373, 374, 375, 376, 377, 453, 454, 455, 456, 221, 222, 223, 224, 35, 457, 383, 384, 385, 458, 144, 145, 146] (by decide +kernel) (by decide +kernel)
set_option maxRecDepth 20000 in
theorem ggL_law_X5_isSame_r9 : GoodIn wsL_law wsX5_isSame_r9 := goodIn_r wsX5_isSame_r9 [147, 148, 149, 150, 151, 130, 93, 94, 95, 96, 459, 396, 397, 398, 460, 379, 380, 381, 131, 461, 462, 244, 245, 246] (by decide +kernel) (by decide +kernel)
set_option maxRecDepth 20000 in
theorem ggL_law_X5_isSame_r10 : GoodIn wsL_law wsX5_isSame_r10 := goodIn_r wsX5_isSame_r10 [268, 269, 270, 271, 463, 419, 420, 421] (by decide +kernel) (by decide +kernel)
set_option maxRecDepth 20000 in
theorem ggL_law_X5_isSame_wsX50 : GoodIn wsL_law wsX50 := goodIn_r wsX50 [480, 481, 482, 483, 484, 485, 486, 487, 488] (by decide +kernel) (by decide +kernel)
set_option maxRecDepth 20000 in
theorem ggL_law_X5_isSame_wsX40 : GoodIn wsL_law wsX40 := goodIn_r wsX40 [464, 465, 466, 467, 468, 469, 470] (by decide +kernel) (by decide +kernel)
set_option maxRecDepth 20000 in
theorem ggL_law_X5_isSame_wsX00 : GoodIn wsL_law wsX00 := goodIn_r wsX00 [471, 472, 473] (by decide +kernel) (by decide +kernel)
set_option maxRecDepth 20000 in
theorem ggL_law_X5_isSame_wsX20 : GoodIn wsL_law wsX20 := goodIn_r wsX20 [474] (by decide +kernel) (by decide +kernel)
set_option maxRecDepth 20000 in
theorem ggL_law_X5_isSame_wsX30 : GoodIn wsL_law wsX30 := goodIn_r wsX30 [475, 476, 477, 478, 479] (by decide +kernel) (by decide +kernel)
set_option maxRecDepth 20000 in
theorem ggL_law_X5_isSame : GoodIn wsL_law wsX5_isSame := goodIn_ca (goodIn_cons (goodIn_r [_] [439] (by decide +kernel) (by decide +kernel)) (goodIn_app (goodIn_app (goodIn_app (goodIn_app (goodIn_app (goodIn_app ggL_law_X5_isSame_r1 (goodIn_app ggL_law_X5_isSame_r2 (goodIn_app ggL_law_X5_isSame_r3 (goodIn_app ggL_law_X5_isSame_r4 (goodIn_app ggL_law_X5_isSame_r5 (goodIn_app ggL_law_X5_isSame_r6 (goodIn_app ggL_law_X5_isSame_r7 (goodIn_app ggL_law_X5_isSame_r8 (goodIn_app ggL_law_X5_isSame_r9 ggL_law_X5_isSame_r10))))))))) ggL_law_X5_isSame_wsX50) ggL_law_X5_isSame_wsX40) ggL_law_X5_isSame_wsX00) ggL_law_X5_isSame_wsX20) ggL_law_X5_isSame_wsX30)) (goodIn_sub (fun _ h => List.mem_append_left _ (List.mem_append_right _ h)) (by decide +kernel))
set_option maxRecDepth 20000 in
theorem gL_law_X5_isSame : GoodIn wsL_law (wsV RL 156 RX5 yX5_isSame wsX5_isSame) := goodIn_app (goodIn_of _ (by decide +kernel)) ggL_law_X5_isSame
theorem dL_law_0 : decode cL_law 0 = .ok (.new 26, 3) := by decide +kernel
theorem dL_law_3 : decode cL_law 3 = .ok (.dup, 1) := by decide +kernel
theorem dL_law_4 : decode cL_law 4 = .ok (.invokespecial 66, 3) := by decide +kernel
theorem dL_law_7 : decode cL_law 7 = .ok (.astore_n 1, 1) := by decide +kernel
theorem dL_law_8 : decode cL_law 8 = .ok (.aload_n 1, 1) := by decide +kernel
theorem dL_law_9 : decode cL_law 9 = .ok (.aload_n 0, 1) := by decide +kernel
theorem dL_law_10 : decode cL_law 10 = .ok (.invokestatic 67, 3) := by decide +kernel
theorem dL_law_13 : decode cL_law 13 = .ok (.astore_n 2, 1) := by decide +kernel
theorem dL_law_14 : decode cL_law 14 = .ok (.aload_n 2, 1) := by decide +kernel
theorem dL_law_15 : decode cL_law 15 = .ok (.ifnonnull 5, 3) := by decide +kernel
theorem dL_law_18 : decode cL_law 18 = .ok (.iconst 0, 1) := by decide +kernel
theorem dL_law_19 : decode cL_law 19 = .ok (.ireturn, 1) := by decide +kernel
theorem dL_law_20 : decode cL_law 20 = .ok (.iconst 0, 1) := by decide +kernel
theorem dL_law_21 : decode cL_law 21 = .ok (.istore_n 3, 1) := by decide +kernel
theorem dL_law_22 : decode cL_law 22 = .ok (.iload_n 3, 1) := by decide +kernel
theorem dL_law_23 : decode cL_law 23 = .ok (.bipush 10, 2) := by decide +kernel
theorem dL_law_25 : decode cL_law 25 = .ok (.if_icmp .ge 1254, 3) := by decide +kernel
theorem dL_law_28 : decode cL_law 28 = .ok (.aload_n 0, 1) := by decide +kernel
theorem dL_law_29 : decode cL_law 29 = .ok (.iload_n 3, 1) := by decide +kernel
theorem dL_law_30 : decode cL_law 30 = .ok (.iconst 1, 1) := by decide +kernel
theorem dL_law_31 : decode cL_law 31 = .ok (.iadd, 1) := by decide +kernel
theorem dL_law_32 : decode cL_law 32 = .ok (.invokestatic 62, 3) := by decide +kernel
theorem dL_law_35 : decode cL_law 35 = .ok (.iconst 2, 1) := by decide +kernel
theorem dL_law_36 : decode cL_law 36 = .ok (.ishr, 1) := by decide +kernel
theorem dL_law_37 : decode cL_law 37 = .ok (.bipush 53, 2) := by decide +kernel
theorem dL_law_39 : decode cL_law 39 = .ok (.iload_n 3, 1) := by decide +kernel
theorem dL_law_40 : decode cL_law 40 = .ok (.imul, 1) := by decide +kernel
theorem dL_law_41 : decode cL_law 41 = .ok (.iadd, 1) := by decide +kernel
theorem dL_law_42 : decode cL_law 42 = .ok (.istore 4, 2) := by decide +kernel
theorem dL_law_44 : decode cL_law 44 = .ok (.iconst 0, 1) := by decide +kernel
theorem dL_law_45 : decode cL_law 45 = .ok (.istore 5, 2) := by decide +kernel
theorem dL_law_47 : decode cL_law 47 = .ok (.iload 5, 2) := by decide +kernel
theorem dL_law_49 : decode cL_law 49 = .ok (.iconst 3, 1) := by decide +kernel
theorem dL_law_50 : decode cL_law 50 = .ok (.if_icmp .ge 32, 3) := by decide +kernel
theorem dL_law_53 : decode cL_law 53 = .ok (.aload_n 1, 1) := by decide +kernel
theorem dL_law_54 : decode cL_law 54 = .ok (.aload_n 2, 1) := by decide +kernel
theorem dL_law_55 : decode cL_law 55 = .ok (.iload 4, 2) := by decide +kernel
theorem dL_law_57 : decode cL_law 57 = .ok (.iconst 3, 1) := by decide +kernel
theorem dL_law_58 : decode cL_law 58 = .ok (.iload 5, 2) := by decide +kernel
theorem dL_law_60 : decode cL_law 60 = .ok (.imul, 1) := by decide +kernel
theorem dL_law_61 : decode cL_law 61 = .ok (.ishr, 1) := by decide +kernel
theorem dL_law_62 : decode cL_law 62 = .ok (.bipush 29, 2) := by decide +kernel
theorem dL_law_64 : decode cL_law 64 = .ok (.iload 5, 2) := by decide +kernel
theorem dL_law_66 : decode cL_law 66 = .ok (.imul, 1) := by decide +kernel
theorem dL_law_67 : decode cL_law 67 = .ok (.iadd, 1) := by decide +kernel
theorem dL_law_68 : decode cL_law 68 = .ok (.invokestatic 71, 3) := by decide +kernel
theorem dL_law_71 : decode cL_law 71 = .ok (.ifCond .ne 5, 3) := by decide +kernel
theorem dL_law_74 : decode cL_law 74 = .ok (.iconst 0, 1) := by decide +kernel
theorem dL_law_75 : decode cL_law 75 = .ok (.ireturn, 1) := by decide +kernel
theorem dL_law_76 : decode cL_law 76 = .ok (.iinc 5 1, 3) := by decide +kernel
theorem dL_law_79 : decode cL_law 79 = .ok (.goto (-32), 3) := by decide +kernel
theorem dL_law_82 : decode cL_law 82 = .ok (.aload_n 1, 1) := by decide +kernel
theorem dL_law_83 : decode cL_law 83 = .ok (.invokevirtual 75, 3) := by decide +kernel
theorem dL_law_86 : decode cL_law 86 = .ok (.lstore 5, 2) := by decide +kernel
theorem dL_law_88 : decode cL_law 88 = .ok (.iconst 0, 1) := by decide +kernel
theorem dL_law_89 : decode cL_law 89 = .ok (.istore 7, 2) := by decide +kernel
theorem dL_law_91 : decode cL_law 91 = .ok (.iconst 0, 1) := by decide +kernel
theorem dL_law_92 : decode cL_law 92 = .ok (.istore 8, 2) := by decide +kernel
theorem dL_law_94 : decode cL_law 94 = .ok (.iconst 0, 1) := by decide +kernel
theorem dL_law_95 : decode cL_law 95 = .ok (.istore 9, 2) := by decide +kernel
theorem dL_law_97 : decode cL_law 97 = .ok (.bipush 9, 2) := by decide +kernel
theorem dL_law_99 : decode cL_law 99 = .ok (.newarray .int, 2) := by decide +kernel
theorem dL_law_101 : decode cL_law 101 = .ok (.astore 10, 2) := by decide +kernel
theorem dL_law_103 : decode cL_law 103 = .ok (.bipush 9, 2) := by decide +kernel
theorem dL_law_105 : decode cL_law 105 = .ok (.newarray .boolean, 2) := by decide +kernel
theorem dL_law_107 : decode cL_law 107 = .ok (.astore 11, 2) := by decide +kernel
theorem dL_law_109 : decode cL_law 109 = .ok (.iconst 0, 1) := by decide +kernel
theorem dL_law_110 : decode cL_law 110 = .ok (.istore 12, 2) := by decide +kernel
theorem dL_law_112 : decode cL_law 112 = .ok (.iload 12, 2) := by decide +kernel
theorem dL_law_114 : decode cL_law 114 = .ok (.bipush 9, 2) := by decide +kernel
theorem dL_law_116 : decode cL_law 116 = .ok (.if_icmp .ge 129, 3) := by decide +kernel
theorem dL_law_119 : decode cL_law 119 = .ok (.aload 10, 2) := by decide +kernel
theorem dL_law_121 : decode cL_law 121 = .ok (.iload 12, 2) := by decide +kernel
theorem dL_law_123 : decode cL_law 123 = .ok (.aload_n 1, 1) := by decide +kernel
theorem dL_law_124 : decode cL_law 124 = .ok (.iload 12, 2) := by decide +kernel
theorem dL_law_126 : decode cL_law 126 = .ok (.invokevirtual 79, 3) := by decide +kernel
theorem dL_law_129 : decode cL_law 129 = .ok (.iastore, 1) := by decide +kernel
theorem dL_law_130 : decode cL_law 130 = .ok (.aload 11, 2) := by decide +kernel
theorem dL_law_132 : decode cL_law 132 = .ok (.iload 12, 2) := by decide +kernel
theorem dL_law_134 : decode cL_law 134 = .ok (.aload_n 1, 1) := by decide +kernel
theorem dL_law_135 : decode cL_law 135 = .ok (.iload 12, 2) := by decide +kernel
theorem dL_law_137 : decode cL_law 137 = .ok (.invokevirtual 82, 3) := by decide +kernel
theorem dL_law_140 : decode cL_law 140 = .ok (.bastore, 1) := by decide +kernel
theorem dL_law_141 : decode cL_law 141 = .ok (.iload 7, 2) := by decide +kernel
theorem dL_law_143 : decode cL_law 143 = .ok (.aload 11, 2) := by decide +kernel
theorem dL_law_145 : decode cL_law 145 = .ok (.iload 12, 2) := by decide +kernel
theorem dL_law_147 : decode cL_law 147 = .ok (.baload, 1) := by decide +kernel
theorem dL_law_148 : decode cL_law 148 = .ok (.ifCond .eq 7, 3) := by decide +kernel
theorem dL_law_151 : decode cL_law 151 = .ok (.iconst 1, 1) := by decide +kernel
theorem dL_law_152 : decode cL_law 152 = .ok (.goto 4, 3) := by decide +kernel
theorem dL_law_155 : decode cL_law 155 = .ok (.iconst 0, 1) := by decide +kernel
theorem dL_law_156 : decode cL_law 156 = .ok (.iadd, 1) := by decide +kernel
theorem dL_law_157 : decode cL_law 157 = .ok (.istore 7, 2) := by decide +kernel
theorem dL_law_159 : decode cL_law 159 = .ok (.iload 8, 2) := by decide +kernel
theorem dL_law_161 : decode cL_law 161 = .ok (.aload_n 1, 1) := by decide +kernel
theorem dL_law_162 : decode cL_law 162 = .ok (.iload 12, 2) := by decide +kernel
theorem dL_law_164 : decode cL_law 164 = .ok (.invokevirtual 85, 3) := by decide +kernel
theorem dL_law_167 : decode cL_law 167 = .ok (.ifCond .eq 7, 3) := by decide +kernel
theorem dL_law_170 : decode cL_law 170 = .ok (.iconst 1, 1) := by decide +kernel
theorem dL_law_171 : decode cL_law 171 = .ok (.goto 4, 3) := by decide +kernel
theorem dL_law_174 : decode cL_law 174 = .ok (.iconst 0, 1) := by decide +kernel
theorem dL_law_175 : decode cL_law 175 = .ok (.iadd, 1) := by decide +kernel
theorem dL_law_176 : decode cL_law 176 = .ok (.istore 8, 2) := by decide +kernel
theorem dL_law_178 : decode cL_law 178 = .ok (.aload 10, 2) := by decide +kernel
theorem dL_law_180 : decode cL_law 180 = .ok (.iload 12, 2) := by decide +kernel
theorem dL_law_182 : decode cL_law 182 = .ok (.iaload, 1) := by decide +kernel
theorem dL_law_183 : decode cL_law 183 = .ok (.ifCond .lt 54, 3) := by decide +kernel
theorem dL_law_186 : decode cL_law 186 = .ok (.aload 10, 2) := by decide +kernel
theorem dL_law_188 : decode cL_law 188 = .ok (.iload 12, 2) := by decide +kernel
theorem dL_law_190 : decode cL_law 190 = .ok (.iaload, 1) := by decide +kernel
theorem dL_law_191 : decode cL_law 191 = .ok (.bipush 12, 2) := by decide +kernel
theorem dL_law_193 : decode cL_law 193 = .ok (.if_icmp .gt 44, 3) := by decide +kernel
theorem dL_law_196 : decode cL_law 196 = .ok (.aload_n 1, 1) := by decide +kernel
theorem dL_law_197 : decode cL_law 197 = .ok (.iload 12, 2) := by decide +kernel
theorem dL_law_199 : decode cL_law 199 = .ok (.invokevirtual 85, 3) := by decide +kernel
theorem dL_law_202 : decode cL_law 202 = .ok (.aload 10, 2) := by decide +kernel
theorem dL_law_204 : decode cL_law 204 = .ok (.iload 12, 2) := by decide +kernel
theorem dL_law_206 : decode cL_law 206 = .ok (.iaload, 1) := by decide +kernel
theorem dL_law_207 : decode cL_law 207 = .ok (.bipush 12, 2) := by decide +kernel
theorem dL_law_209 : decode cL_law 209 = .ok (.if_icmp .ne 7, 3) := by decide +kernel
theorem dL_law_212 : decode cL_law 212 = .ok (.iconst 1, 1) := by decide +kernel
theorem dL_law_213 : decode cL_law 213 = .ok (.goto 4, 3) := by decide +kernel
theorem dL_law_216 : decode cL_law 216 = .ok (.iconst 0, 1) := by decide +kernel
theorem dL_law_217 : decode cL_law 217 = .ok (.if_icmp .ne 20, 3) := by decide +kernel
theorem dL_law_220 : decode cL_law 220 = .ok (.aload 11, 2) := by decide +kernel
theorem dL_law_222 : decode cL_law 222 = .ok (.iload 12, 2) := by decide +kernel
theorem dL_law_224 : decode cL_law 224 = .ok (.baload, 1) := by decide +kernel
theorem dL_law_225 : decode cL_law 225 = .ok (.ifCond .eq 14, 3) := by decide +kernel
theorem dL_law_228 : decode cL_law 228 = .ok (.aload_n 1, 1) := by decide +kernel
theorem dL_law_229 : decode cL_law 229 = .ok (.iload 12, 2) := by decide +kernel
theorem dL_law_231 : decode cL_law 231 = .ok (.invokevirtual 85, 3) := by decide +kernel
theorem dL_law_234 : decode cL_law 234 = .ok (.ifCond .eq 5, 3) := by decide +kernel
theorem dL_law_237 : decode cL_law 237 = .ok (.iconst 0, 1) := by decide +kernel
theorem dL_law_238 : decode cL_law 238 = .ok (.ireturn, 1) := by decide +kernel
theorem dL_law_239 : decode cL_law 239 = .ok (.iinc 12 1, 3) := by decide +kernel
theorem dL_law_242 : decode cL_law 242 = .ok (.goto (-130), 3) := by decide +kernel
theorem dL_law_245 : decode cL_law 245 = .ok (.iconst 0, 1) := by decide +kernel
theorem dL_law_246 : decode cL_law 246 = .ok (.istore 12, 2) := by decide +kernel
theorem dL_law_248 : decode cL_law 248 = .ok (.iload 12, 2) := by decide +kernel
theorem dL_law_250 : decode cL_law 250 = .ok (.iconst 5, 1) := by decide +kernel
theorem dL_law_251 : decode cL_law 251 = .ok (.if_icmp .ge 49, 3) := by decide +kernel
theorem dL_law_254 : decode cL_law 254 = .ok (.iload 9, 2) := by decide +kernel
theorem dL_law_256 : decode cL_law 256 = .ok (.aload_n 1, 1) := by decide +kernel
theorem dL_law_257 : decode cL_law 257 = .ok (.iload 12, 2) := by decide +kernel
theorem dL_law_259 : decode cL_law 259 = .ok (.invokevirtual 88, 3) := by decide +kernel
theorem dL_law_262 : decode cL_law 262 = .ok (.ifCond .le 7, 3) := by decide +kernel
theorem dL_law_265 : decode cL_law 265 = .ok (.iconst 1, 1) := by decide +kernel
theorem dL_law_266 : decode cL_law 266 = .ok (.goto 4, 3) := by decide +kernel
theorem dL_law_269 : decode cL_law 269 = .ok (.iconst 0, 1) := by decide +kernel
theorem dL_law_270 : decode cL_law 270 = .ok (.iadd, 1) := by decide +kernel
theorem dL_law_271 : decode cL_law 271 = .ok (.istore 9, 2) := by decide +kernel
theorem dL_law_273 : decode cL_law 273 = .ok (.aload_n 1, 1) := by decide +kernel
theorem dL_law_274 : decode cL_law 274 = .ok (.iload 12, 2) := by decide +kernel
theorem dL_law_276 : decode cL_law 276 = .ok (.invokevirtual 88, 3) := by decide +kernel
theorem dL_law_279 : decode cL_law 279 = .ok (.ifCond .lt 13, 3) := by decide +kernel
theorem dL_law_282 : decode cL_law 282 = .ok (.aload_n 1, 1) := by decide +kernel
theorem dL_law_283 : decode cL_law 283 = .ok (.iload 12, 2) := by decide +kernel
theorem dL_law_285 : decode cL_law 285 = .ok (.invokevirtual 88, 3) := by decide +kernel
theorem dL_law_288 : decode cL_law 288 = .ok (.iconst 2, 1) := by decide +kernel
theorem dL_law_289 : decode cL_law 289 = .ok (.if_icmp .le 5, 3) := by decide +kernel
theorem dL_law_292 : decode cL_law 292 = .ok (.iconst 0, 1) := by decide +kernel
theorem dL_law_293 : decode cL_law 293 = .ok (.ireturn, 1) := by decide +kernel
theorem dL_law_294 : decode cL_law 294 = .ok (.iinc 12 1, 3) := by decide +kernel
theorem dL_law_297 : decode cL_law 297 = .ok (.goto (-49), 3) := by decide +kernel
theorem dL_law_300 : decode cL_law 300 = .ok (.iload 7, 2) := by decide +kernel
theorem dL_law_302 : decode cL_law 302 = .ok (.aload_n 1, 1) := by decide +kernel
theorem dL_law_303 : decode cL_law 303 = .ok (.invokevirtual 91, 3) := by decide +kernel
theorem dL_law_306 : decode cL_law 306 = .ok (.if_icmp .ne 81, 3) := by decide +kernel
theorem dL_law_309 : decode cL_law 309 = .ok (.iload 8, 2) := by decide +kernel
theorem dL_law_311 : decode cL_law 311 = .ok (.aload_n 1, 1) := by decide +kernel
theorem dL_law_312 : decode cL_law 312 = .ok (.invokevirtual 94, 3) := by decide +kernel
theorem dL_law_315 : decode cL_law 315 = .ok (.if_icmp .ne 72, 3) := by decide +kernel
theorem dL_law_318 : decode cL_law 318 = .ok (.iload 9, 2) := by decide +kernel
theorem dL_law_320 : decode cL_law 320 = .ok (.iconst 2, 1) := by decide +kernel
theorem dL_law_321 : decode cL_law 321 = .ok (.if_icmp .gt 66, 3) := by decide +kernel
theorem dL_law_324 : decode cL_law 324 = .ok (.aload_n 1, 1) := by decide +kernel
theorem dL_law_325 : decode cL_law 325 = .ok (.invokevirtual 97, 3) := by decide +kernel
theorem dL_law_328 : decode cL_law 328 = .ok (.iload 8, 2) := by decide +kernel
theorem dL_law_330 : decode cL_law 330 = .ok (.if_icmp .lt 57, 3) := by decide +kernel
theorem dL_law_333 : decode cL_law 333 = .ok (.aload_n 1, 1) := by decide +kernel
theorem dL_law_334 : decode cL_law 334 = .ok (.invokevirtual 97, 3) := by decide +kernel
theorem dL_law_337 : decode cL_law 337 = .ok (.iload 8, 2) := by decide +kernel
theorem dL_law_339 : decode cL_law 339 = .ok (.iload 7, 2) := by decide +kernel
theorem dL_law_341 : decode cL_law 341 = .ok (.iadd, 1) := by decide +kernel
theorem dL_law_342 : decode cL_law 342 = .ok (.if_icmp .gt 45, 3) := by decide +kernel
theorem dL_law_345 : decode cL_law 345 = .ok (.aload_n 1, 1) := by decide +kernel
theorem dL_law_346 : decode cL_law 346 = .ok (.invokevirtual 100, 3) := by decide +kernel
theorem dL_law_349 : decode cL_law 349 = .ok (.ifCond .ge 7, 3) := by decide +kernel
theorem dL_law_352 : decode cL_law 352 = .ok (.iconst 1, 1) := by decide +kernel
theorem dL_law_353 : decode cL_law 353 = .ok (.goto 4, 3) := by decide +kernel
theorem dL_law_356 : decode cL_law 356 = .ok (.iconst 0, 1) := by decide +kernel
theorem dL_law_357 : decode cL_law 357 = .ok (.iload 8, 2) := by decide +kernel
theorem dL_law_359 : decode cL_law 359 = .ok (.bipush 9, 2) := by decide +kernel
theorem dL_law_361 : decode cL_law 361 = .ok (.if_icmp .ne 7, 3) := by decide +kernel
theorem dL_law_364 : decode cL_law 364 = .ok (.iconst 1, 1) := by decide +kernel
theorem dL_law_365 : decode cL_law 365 = .ok (.goto 4, 3) := by decide +kernel
theorem dL_law_368 : decode cL_law 368 = .ok (.iconst 0, 1) := by decide +kernel
theorem dL_law_369 : decode cL_law 369 = .ok (.if_icmp .ne 18, 3) := by decide +kernel
theorem dL_law_372 : decode cL_law 372 = .ok (.aload_n 1, 1) := by decide +kernel
theorem dL_law_373 : decode cL_law 373 = .ok (.invokevirtual 103, 3) := by decide +kernel
theorem dL_law_376 : decode cL_law 376 = .ok (.ifCond .lt 11, 3) := by decide +kernel
theorem dL_law_379 : decode cL_law 379 = .ok (.aload_n 1, 1) := by decide +kernel
theorem dL_law_380 : decode cL_law 380 = .ok (.invokevirtual 103, 3) := by decide +kernel
theorem dL_law_383 : decode cL_law 383 = .ok (.iconst 2, 1) := by decide +kernel
theorem dL_law_384 : decode cL_law 384 = .ok (.if_icmp .le 5, 3) := by decide +kernel
theorem dL_law_387 : decode cL_law 387 = .ok (.iconst 0, 1) := by decide +kernel
theorem dL_law_388 : decode cL_law 388 = .ok (.ireturn, 1) := by decide +kernel
theorem dL_law_389 : decode cL_law 389 = .ok (.iconst 0, 1) := by decide +kernel
theorem dL_law_390 : decode cL_law 390 = .ok (.istore 12, 2) := by decide +kernel
theorem dL_law_392 : decode cL_law 392 = .ok (.iconst (-1), 1) := by decide +kernel
theorem dL_law_393 : decode cL_law 393 = .ok (.istore 13, 2) := by decide +kernel
theorem dL_law_395 : decode cL_law 395 = .ok (.iconst 0, 1) := by decide +kernel
theorem dL_law_396 : decode cL_law 396 = .ok (.istore 14, 2) := by decide +kernel
theorem dL_law_398 : decode cL_law 398 = .ok (.iload 14, 2) := by decide +kernel
theorem dL_law_400 : decode cL_law 400 = .ok (.aload_n 1, 1) := by decide +kernel
theorem dL_law_401 : decode cL_law 401 = .ok (.invokevirtual 106, 3) := by decide +kernel
theorem dL_law_404 : decode cL_law 404 = .ok (.if_icmp .ge 173, 3) := by decide +kernel
theorem dL_law_407 : decode cL_law 407 = .ok (.iconst 0, 1) := by decide +kernel
theorem dL_law_408 : decode cL_law 408 = .ok (.istore 15, 2) := by decide +kernel
theorem dL_law_410 : decode cL_law 410 = .ok (.iconst 0, 1) := by decide +kernel
theorem dL_law_411 : decode cL_law 411 = .ok (.istore 16, 2) := by decide +kernel
theorem dL_law_413 : decode cL_law 413 = .ok (.iload 16, 2) := by decide +kernel
theorem dL_law_415 : decode cL_law 415 = .ok (.bipush 10, 2) := by decide +kernel
theorem dL_law_417 : decode cL_law 417 = .ok (.if_icmp .ge 68, 3) := by decide +kernel
theorem dL_law_420 : decode cL_law 420 = .ok (.iload 15, 2) := by decide +kernel
theorem dL_law_422 : decode cL_law 422 = .ok (.aload_n 1, 1) := by decide +kernel
theorem dL_law_423 : decode cL_law 423 = .ok (.iload 14, 2) := by decide +kernel
theorem dL_law_425 : decode cL_law 425 = .ok (.iload 16, 2) := by decide +kernel
theorem dL_law_427 : decode cL_law 427 = .ok (.invokevirtual 108, 3) := by decide +kernel
theorem dL_law_430 : decode cL_law 430 = .ok (.iadd, 1) := by decide +kernel
theorem dL_law_431 : decode cL_law 431 = .ok (.istore 15, 2) := by decide +kernel
theorem dL_law_433 : decode cL_law 433 = .ok (.aload_n 1, 1) := by decide +kernel
theorem dL_law_434 : decode cL_law 434 = .ok (.iload 14, 2) := by decide +kernel
theorem dL_law_436 : decode cL_law 436 = .ok (.iload 16, 2) := by decide +kernel
theorem dL_law_438 : decode cL_law 438 = .ok (.invokevirtual 108, 3) := by decide +kernel
theorem dL_law_441 : decode cL_law 441 = .ok (.ifCond .lt 36, 3) := by decide +kernel
theorem dL_law_444 : decode cL_law 444 = .ok (.aload_n 1, 1) := by decide +kernel
theorem dL_law_445 : decode cL_law 445 = .ok (.iload 14, 2) := by decide +kernel
theorem dL_law_447 : decode cL_law 447 = .ok (.iload 16, 2) := by decide +kernel
theorem dL_law_449 : decode cL_law 449 = .ok (.invokevirtual 108, 3) := by decide +kernel
theorem dL_law_452 : decode cL_law 452 = .ok (.bipush 27, 2) := by decide +kernel
theorem dL_law_454 : decode cL_law 454 = .ok (.if_icmp .gt 23, 3) := by decide +kernel
theorem dL_law_457 : decode cL_law 457 = .ok (.iload 16, 2) := by decide +kernel
theorem dL_law_459 : decode cL_law 459 = .ok (.aload_n 1, 1) := by decide +kernel
theorem dL_law_460 : decode cL_law 460 = .ok (.invokevirtual 111, 3) := by decide +kernel
theorem dL_law_463 : decode cL_law 463 = .ok (.if_icmp .le 16, 3) := by decide +kernel
theorem dL_law_466 : decode cL_law 466 = .ok (.aload_n 1, 1) := by decide +kernel
theorem dL_law_467 : decode cL_law 467 = .ok (.iload 14, 2) := by decide +kernel
theorem dL_law_469 : decode cL_law 469 = .ok (.iload 16, 2) := by decide +kernel
theorem dL_law_471 : decode cL_law 471 = .ok (.invokevirtual 108, 3) := by decide +kernel
theorem dL_law_474 : decode cL_law 474 = .ok (.ifCond .le 5, 3) := by decide +kernel
theorem dL_law_477 : decode cL_law 477 = .ok (.iconst 0, 1) := by decide +kernel
theorem dL_law_478 : decode cL_law 478 = .ok (.ireturn, 1) := by decide +kernel
theorem dL_law_479 : decode cL_law 479 = .ok (.iinc 16 1, 3) := by decide +kernel
theorem dL_law_482 : decode cL_law 482 = .ok (.goto (-69), 3) := by decide +kernel
theorem dL_law_485 : decode cL_law 485 = .ok (.bipush 10, 2) := by decide +kernel
theorem dL_law_487 : decode cL_law 487 = .ok (.aload_n 1, 1) := by decide +kernel
theorem dL_law_488 : decode cL_law 488 = .ok (.invokevirtual 111, 3) := by decide +kernel
theorem dL_law_491 : decode cL_law 491 = .ok (.iconst 1, 1) := by decide +kernel
theorem dL_law_492 : decode cL_law 492 = .ok (.iadd, 1) := by decide +kernel
theorem dL_law_493 : decode cL_law 493 = .ok (.invokestatic 114, 3) := by decide +kernel
theorem dL_law_496 : decode cL_law 496 = .ok (.istore 16, 2) := by decide +kernel
theorem dL_law_498 : decode cL_law 498 = .ok (.iload 15, 2) := by decide +kernel
theorem dL_law_500 : decode cL_law 500 = .ok (.aload_n 1, 1) := by decide +kernel
theorem dL_law_501 : decode cL_law 501 = .ok (.iload 14, 2) := by decide +kernel
theorem dL_law_503 : decode cL_law 503 = .ok (.invokevirtual 119, 3) := by decide +kernel
theorem dL_law_506 : decode cL_law 506 = .ok (.if_icmp .ne 47, 3) := by decide +kernel
theorem dL_law_509 : decode cL_law 509 = .ok (.aload_n 1, 1) := by decide +kernel
theorem dL_law_510 : decode cL_law 510 = .ok (.iload 14, 2) := by decide +kernel
theorem dL_law_512 : decode cL_law 512 = .ok (.invokevirtual 122, 3) := by decide +kernel
theorem dL_law_515 : decode cL_law 515 = .ok (.aload_n 1, 1) := by decide +kernel
theorem dL_law_516 : decode cL_law 516 = .ok (.iload 14, 2) := by decide +kernel
theorem dL_law_518 : decode cL_law 518 = .ok (.invokevirtual 125, 3) := by decide +kernel
theorem dL_law_521 : decode cL_law 521 = .ok (.iadd, 1) := by decide +kernel
theorem dL_law_522 : decode cL_law 522 = .ok (.iload 16, 2) := by decide +kernel
theorem dL_law_524 : decode cL_law 524 = .ok (.if_icmp .gt 29, 3) := by decide +kernel
theorem dL_law_527 : decode cL_law 527 = .ok (.aload_n 1, 1) := by decide +kernel
theorem dL_law_528 : decode cL_law 528 = .ok (.iload 14, 2) := by decide +kernel
theorem dL_law_530 : decode cL_law 530 = .ok (.invokevirtual 128, 3) := by decide +kernel
theorem dL_law_533 : decode cL_law 533 = .ok (.iconst 3, 1) := by decide +kernel
theorem dL_law_534 : decode cL_law 534 = .ok (.iload 16, 2) := by decide +kernel
theorem dL_law_536 : decode cL_law 536 = .ok (.imul, 1) := by decide +kernel
theorem dL_law_537 : decode cL_law 537 = .ok (.if_icmp .gt 16, 3) := by decide +kernel
theorem dL_law_540 : decode cL_law 540 = .ok (.aload_n 1, 1) := by decide +kernel
theorem dL_law_541 : decode cL_law 541 = .ok (.iload 14, 2) := by decide +kernel
theorem dL_law_543 : decode cL_law 543 = .ok (.invokevirtual 128, 3) := by decide +kernel
theorem dL_law_546 : decode cL_law 546 = .ok (.aload_n 1, 1) := by decide +kernel
theorem dL_law_547 : decode cL_law 547 = .ok (.invokevirtual 111, 3) := by decide +kernel
theorem dL_law_550 : decode cL_law 550 = .ok (.if_icmp .ge 5, 3) := by decide +kernel
theorem dL_law_553 : decode cL_law 553 = .ok (.iconst 0, 1) := by decide +kernel
theorem dL_law_554 : decode cL_law 554 = .ok (.ireturn, 1) := by decide +kernel
theorem dL_law_555 : decode cL_law 555 = .ok (.iload 12, 2) := by decide +kernel
theorem dL_law_557 : decode cL_law 557 = .ok (.iload 15, 2) := by decide +kernel
theorem dL_law_559 : decode cL_law 559 = .ok (.iadd, 1) := by decide +kernel
theorem dL_law_560 : decode cL_law 560 = .ok (.istore 12, 2) := by decide +kernel
theorem dL_law_562 : decode cL_law 562 = .ok (.iload 13, 2) := by decide +kernel
theorem dL_law_564 : decode cL_law 564 = .ok (.iload 15, 2) := by decide +kernel
theorem dL_law_566 : decode cL_law 566 = .ok (.invokestatic 131, 3) := by decide +kernel
theorem dL_law_569 : decode cL_law 569 = .ok (.istore 13, 2) := by decide +kernel
theorem dL_law_571 : decode cL_law 571 = .ok (.iinc 14 1, 3) := by decide +kernel
theorem dL_law_574 : decode cL_law 574 = .ok (.goto (-176), 3) := by decide +kernel
theorem dL_law_577 : decode cL_law 577 = .ok (.aload_n 1, 1) := by decide +kernel
theorem dL_law_578 : decode cL_law 578 = .ok (.invokevirtual 106, 3) := by decide +kernel
theorem dL_law_581 : decode cL_law 581 = .ok (.ifCond .le 35, 3) := by decide +kernel
theorem dL_law_584 : decode cL_law 584 = .ok (.aload_n 1, 1) := by decide +kernel
theorem dL_law_585 : decode cL_law 585 = .ok (.aload_n 1, 1) := by decide +kernel
theorem dL_law_586 : decode cL_law 586 = .ok (.invokevirtual 134, 3) := by decide +kernel
theorem dL_law_589 : decode cL_law 589 = .ok (.invokevirtual 119, 3) := by decide +kernel
theorem dL_law_592 : decode cL_law 592 = .ok (.iload 13, 2) := by decide +kernel
theorem dL_law_594 : decode cL_law 594 = .ok (.if_icmp .ne 20, 3) := by decide +kernel
theorem dL_law_597 : decode cL_law 597 = .ok (.aload_n 1, 1) := by decide +kernel
theorem dL_law_598 : decode cL_law 598 = .ok (.invokevirtual 137, 3) := by decide +kernel
theorem dL_law_601 : decode cL_law 601 = .ok (.iload 12, 2) := by decide +kernel
theorem dL_law_603 : decode cL_law 603 = .ok (.i2d, 1) := by decide +kernel
theorem dL_law_604 : decode cL_law 604 = .ok (.aload_n 1, 1) := by decide +kernel
theorem dL_law_605 : decode cL_law 605 = .ok (.invokevirtual 106, 3) := by decide +kernel
theorem dL_law_608 : decode cL_law 608 = .ok (.i2d, 1) := by decide +kernel
theorem dL_law_609 : decode cL_law 609 = .ok (.ddiv, 1) := by decide +kernel
theorem dL_law_610 : decode cL_law 610 = .ok (.dcmp .l, 1) := by decide +kernel
theorem dL_law_611 : decode cL_law 611 = .ok (.ifCond .eq 5, 3) := by decide +kernel
theorem dL_law_614 : decode cL_law 614 = .ok (.iconst 0, 1) := by decide +kernel
theorem dL_law_615 : decode cL_law 615 = .ok (.ireturn, 1) := by decide +kernel
theorem dL_law_616 : decode cL_law 616 = .ok (.aload_n 1, 1) := by decide +kernel
theorem dL_law_617 : decode cL_law 617 = .ok (.invokevirtual 141, 3) := by decide +kernel
theorem dL_law_620 : decode cL_law 620 = .ok (.istore 14, 2) := by decide +kernel
theorem dL_law_622 : decode cL_law 622 = .ok (.aload_n 1, 1) := by decide +kernel
theorem dL_law_623 : decode cL_law 623 = .ok (.invokevirtual 144, 3) := by decide +kernel
theorem dL_law_626 : decode cL_law 626 = .ok (.istore 15, 2) := by decide +kernel
theorem dL_law_628 : decode cL_law 628 = .ok (.iload 15, 2) := by decide +kernel
theorem dL_law_630 : decode cL_law 630 = .ok (.iconst (-1), 1) := by decide +kernel
theorem dL_law_631 : decode cL_law 631 = .ok (.if_icmp .lt 32, 3) := by decide +kernel
theorem dL_law_634 : decode cL_law 634 = .ok (.iload 15, 2) := by decide +kernel
