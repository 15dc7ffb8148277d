theorem dX5_throwsOfAll_3 : decode cX5_throwsOfAll 3 = .ok (.istore_n 2, 1) := by decide +kernel
theorem dX5_throwsOfAll_4 : decode cX5_throwsOfAll 4 = .ok (.iload_n 2, 1) := by decide +kernel
theorem dX5_throwsOfAll_5 : decode cX5_throwsOfAll 5 = .ok (.aload_n 0, 1) := by decide +kernel
theorem dX5_throwsOfAll_6 : decode cX5_throwsOfAll 6 = .ok (.getfield 48, 3) := by decide +kernel
theorem dX5_throwsOfAll_9 : decode cX5_throwsOfAll 9 = .ok (.if_icmp .ge 18, 3) := by decide +kernel
theorem dX5_throwsOfAll_12 : decode cX5_throwsOfAll 12 = .ok (.iload_n 1, 1) := by decide +kernel
theorem dX5_throwsOfAll_13 : decode cX5_throwsOfAll 13 = .ok (.aload_n 0, 1) := by decide +kernel
theorem dX5_throwsOfAll_14 : decode cX5_throwsOfAll 14 = .ok (.getfield 23, 3) := by decide +kernel
theorem dX5_throwsOfAll_17 : decode cX5_throwsOfAll 17 = .ok (.iload_n 2, 1) := by decide +kernel
theorem dX5_throwsOfAll_18 : decode cX5_throwsOfAll 18 = .ok (.iaload, 1) := by decide +kernel
theorem dX5_throwsOfAll_19 : decode cX5_throwsOfAll 19 = .ok (.iadd, 1) := by decide +kernel
theorem dX5_throwsOfAll_20 : decode cX5_throwsOfAll 20 = .ok (.istore_n 1, 1) := by decide +kernel
theorem dX5_throwsOfAll_21 : decode cX5_throwsOfAll 21 = .ok (.iinc 2 1, 3) := by decide +kernel
theorem dX5_throwsOfAll_24 : decode cX5_throwsOfAll 24 = .ok (.goto (-20), 3) := by decide +kernel
theorem dX5_throwsOfAll_27 : decode cX5_throwsOfAll 27 = .ok (.iload_n 1, 1) := by decide +kernel
theorem dX5_throwsOfAll_28 : decode cX5_throwsOfAll 28 = .ok (.ireturn, 1) := by decide +kernel
set_option maxRecDepth 20000 in
theorem ggX5_addPlayer_X5_throwsOfAll : GoodIn wsX5_addPlayer wsX5_throwsOfAll := goodIn_r _ [7, 2, 8, 13, 14, 15, 16, 17, 18, 19, 20, 21, 22, 23, 24, 25, 26, 27] (by decide +kernel) (by decide +kernel)
set_option maxRecDepth 20000 in
theorem gX5_addPlayer_X5_throwsOfAll : GoodIn wsX5_addPlayer (wsV RX5 75 RX5 yX5_throwsOfAll wsX5_throwsOfAll) := goodIn_app (goodIn_of _ (by decide +kernel)) ggX5_addPlayer_X5_throwsOfAll
set_option maxRecDepth 20000 in
theorem ggX5_addPlayer_X5_no : GoodIn wsX5_addPlayer wsX5_no := goodIn_r _ [12, 1, 13, 14, 15, 16, 17, 18, 19, 20, 21, 22, 23, 24, 25, 26, 27] (by decide +kernel) (by decide +kernel)
set_option maxRecDepth 20000 in
theorem gX5_addPlayer_X5_no : GoodIn wsX5_addPlayer (wsV RX5 79 RX5 yX5_no wsX5_no) := goodIn_app (goodIn_of _ (by decide +kernel)) ggX5_addPlayer_X5_no
theorem dX5_addPlayer_0 : decode cX5_addPlayer 0 = .ok (.aload_n 0, 1) := by decide +kernel
theorem dX5_addPlayer_1 : decode cX5_addPlayer 1 = .ok (.iconst 0, 1) := by decide +kernel
theorem dX5_addPlayer_2 : decode cX5_addPlayer 2 = .ok (.putfield 41, 3) := by decide +kernel
theorem dX5_addPlayer_5 : decode cX5_addPlayer 5 = .ok (.aload_n 0, 1) := by decide +kernel
theorem dX5_addPlayer_6 : decode cX5_addPlayer 6 = .ok (.getfield 48, 3) := by decide +kernel
theorem dX5_addPlayer_9 : decode cX5_addPlayer 9 = .ok (.iconst 4, 1) := by decide +kernel
theorem dX5_addPlayer_10 : decode cX5_addPlayer 10 = .ok (.if_icmp .eq 10, 3) := by decide +kernel
theorem dX5_addPlayer_13 : decode cX5_addPlayer 13 = .ok (.aload_n 0, 1) := by decide +kernel
theorem dX5_addPlayer_14 : decode cX5_addPlayer 14 = .ok (.invokevirtual 75, 3) := by decide +kernel
theorem dX5_addPlayer_17 : decode cX5_addPlayer 17 = .ok (.ifCond .le 9, 3) := by decide +kernel
theorem dX5_addPlayer_20 : decode cX5_addPlayer 20 = .ok (.aload_n 0, 1) := by decide +kernel
theorem dX5_addPlayer_21 : decode cX5_addPlayer 21 = .ok (.iconst 1, 1) := by decide +kernel
theorem dX5_addPlayer_22 : decode cX5_addPlayer 22 = .ok (.invokevirtual 79, 3) := by decide +kernel
theorem dX5_addPlayer_25 : decode cX5_addPlayer 25 = .ok (.ireturn, 1) := by decide +kernel
theorem dX5_addPlayer_26 : decode cX5_addPlayer 26 = .ok (.aload_n 0, 1) := by decide +kernel
theorem dX5_addPlayer_27 : decode cX5_addPlayer 27 = .ok (.dup, 1) := by decide +kernel
theorem dX5_addPlayer_28 : decode cX5_addPlayer 28 = .ok (.getfield 48, 3) := by decide +kernel
theorem dX5_addPlayer_31 : decode cX5_addPlayer 31 = .ok (.iconst 1, 1) := by decide +kernel
theorem dX5_addPlayer_32 : decode cX5_addPlayer 32 = .ok (.iadd, 1) := by decide +kernel
theorem dX5_addPlayer_33 : decode cX5_addPlayer 33 = .ok (.putfield 48, 3) := by decide +kernel
theorem dX5_addPlayer_36 : decode cX5_addPlayer 36 = .ok (.aload_n 0, 1) := by decide +kernel
theorem dX5_addPlayer_37 : decode cX5_addPlayer 37 = .ok (.getfield 48, 3) := by decide +kernel
theorem dX5_addPlayer_40 : decode cX5_addPlayer 40 = .ok (.iconst 1, 1) := by decide +kernel
theorem dX5_addPlayer_41 : decode cX5_addPlayer 41 = .ok (.isub, 1) := by decide +kernel
theorem dX5_addPlayer_42 : decode cX5_addPlayer 42 = .ok (.ireturn, 1) := by decide +kernel
theorem dX5_sum_0 : decode cX5_sum 0 = .ok (.iconst 0, 1) := by decide +kernel
theorem dX5_sum_1 : decode cX5_sum 1 = .ok (.istore 4, 2) := by decide +kernel
theorem dX5_sum_3 : decode cX5_sum 3 = .ok (.iload_n 2, 1) := by decide +kernel
theorem dX5_sum_4 : decode cX5_sum 4 = .ok (.istore 5, 2) := by decide +kernel
theorem dX5_sum_6 : decode cX5_sum 6 = .ok (.iload 5, 2) := by decide +kernel
theorem dX5_sum_8 : decode cX5_sum 8 = .ok (.iload_n 3, 1) := by decide +kernel
theorem dX5_sum_9 : decode cX5_sum 9 = .ok (.aload_n 0, 1) := by decide +kernel
theorem dX5_sum_10 : decode cX5_sum 10 = .ok (.getfield 23, 3) := by decide +kernel
theorem dX5_sum_13 : decode cX5_sum 13 = .ok (.iload_n 1, 1) := by decide +kernel
theorem dX5_sum_14 : decode cX5_sum 14 = .ok (.iaload, 1) := by decide +kernel
theorem dX5_sum_15 : decode cX5_sum 15 = .ok (.invokestatic 83, 3) := by decide +kernel
theorem dX5_sum_18 : decode cX5_sum 18 = .ok (.if_icmp .ge 26, 3) := by decide +kernel
theorem dX5_sum_21 : decode cX5_sum 21 = .ok (.iload 4, 2) := by decide +kernel
theorem dX5_sum_23 : decode cX5_sum 23 = .ok (.aload_n 0, 1) := by decide +kernel
theorem dX5_sum_24 : decode cX5_sum 24 = .ok (.getfield 26, 3) := by decide +kernel
theorem dX5_sum_27 : decode cX5_sum 27 = .ok (.bipush 30, 2) := by decide +kernel
theorem dX5_sum_29 : decode cX5_sum 29 = .ok (.iload_n 1, 1) := by decide +kernel
theorem dX5_sum_30 : decode cX5_sum 30 = .ok (.imul, 1) := by decide +kernel
theorem dX5_sum_31 : decode cX5_sum 31 = .ok (.iload 5, 2) := by decide +kernel
theorem dX5_sum_33 : decode cX5_sum 33 = .ok (.iadd, 1) := by decide +kernel
theorem dX5_sum_34 : decode cX5_sum 34 = .ok (.iaload, 1) := by decide +kernel
theorem dX5_sum_35 : decode cX5_sum 35 = .ok (.iadd, 1) := by decide +kernel
theorem dX5_sum_36 : decode cX5_sum 36 = .ok (.istore 4, 2) := by decide +kernel
theorem dX5_sum_38 : decode cX5_sum 38 = .ok (.iinc 5 1, 3) := by decide +kernel
theorem dX5_sum_41 : decode cX5_sum 41 = .ok (.goto (-35), 3) := by decide +kernel
theorem dX5_sum_44 : decode cX5_sum 44 = .ok (.iload 4, 2) := by decide +kernel
theorem dX5_sum_46 : decode cX5_sum 46 = .ok (.ireturn, 1) := by decide +kernel
theorem dX5_begin_0 : decode cX5_begin 0 = .ok (.aload_n 0, 1) := by decide +kernel
theorem dX5_begin_1 : decode cX5_begin 1 = .ok (.getfield 29, 3) := by decide +kernel
theorem dX5_begin_4 : decode cX5_begin 4 = .ok (.bipush 11, 2) := by decide +kernel
theorem dX5_begin_6 : decode cX5_begin 6 = .ok (.iload_n 1, 1) := by decide +kernel
theorem dX5_begin_7 : decode cX5_begin 7 = .ok (.imul, 1) := by decide +kernel
theorem dX5_begin_8 : decode cX5_begin 8 = .ok (.iload_n 2, 1) := by decide +kernel
theorem dX5_begin_9 : decode cX5_begin 9 = .ok (.iadd, 1) := by decide +kernel
theorem dX5_begin_10 : decode cX5_begin 10 = .ok (.iaload, 1) := by decide +kernel
theorem dX5_begin_11 : decode cX5_begin 11 = .ok (.ireturn, 1) := by decide +kernel
set_option maxRecDepth 20000 in
theorem ggX5_endFrame_X5_begin : GoodIn wsX5_endFrame wsX5_begin := goodIn_r _ [15, 9, 38, 39, 40, 41, 42, 43, 44, 45, 46, 47, 48, 49, 50, 51, 52] (by decide +kernel) (by decide +kernel)
set_option maxRecDepth 20000 in
theorem gX5_endFrame_X5_begin : GoodIn wsX5_endFrame (wsV RX5 91 RX5 yX5_begin wsX5_begin) := goodIn_app (goodIn_of _ (by decide +kernel)) ggX5_endFrame_X5_begin
set_option maxRecDepth 20000 in
theorem ggX5_endFrame_X5_sum : GoodIn wsX5_endFrame wsX5_sum := goodIn_r _ [19, 3, 20, 21, 22, 23, 24, 38, 39, 40, 41, 42, 43, 44, 45, 46, 47, 48, 49, 50, 51, 52] (by decide +kernel) (by decide +kernel)
set_option maxRecDepth 20000 in
theorem gX5_endFrame_X5_sum : GoodIn wsX5_endFrame (wsV RX5 94 RX5 yX5_sum wsX5_sum) := goodIn_app (goodIn_of _ (by decide +kernel)) ggX5_endFrame_X5_sum
set_option maxRecDepth 20000 in
theorem ggX5_endFrame_X5_over : GoodIn wsX5_endFrame wsX5_over := goodIn_r _ [28, 2, 38, 39, 40, 41, 42, 43, 44, 45, 46, 47, 48, 49, 50, 51, 52] (by decide +kernel) (by decide +kernel)
set_option maxRecDepth 20000 in
theorem gX5_endFrame_X5_over : GoodIn wsX5_endFrame (wsV RX5 100 RX5 yX5_over wsX5_over) := goodIn_app (goodIn_of _ (by decide +kernel)) ggX5_endFrame_X5_over
set_option maxRecDepth 20000 in
theorem ggX5_endFrame_X5_putUp : GoodIn wsX5_endFrame wsX5_putUp := goodIn_r _ [32, 4, 33, 34, 35, 14, 36, 37, 38, 39, 40, 41, 42, 43, 44, 45, 46, 47, 48, 49, 50, 51, 52] (by decide +kernel) (by decide +kernel)
set_option maxRecDepth 20000 in
theorem gX5_endFrame_X5_putUp : GoodIn wsX5_endFrame (wsV RX5 104 RX5 yX5_putUp wsX5_putUp) := goodIn_app (goodIn_of _ (by decide +kernel)) ggX5_endFrame_X5_putUp
theorem dX5_endFrame_0 : decode cX5_endFrame 0 = .ok (.aload_n 0, 1) := by decide +kernel
theorem dX5_endFrame_1 : decode cX5_endFrame 1 = .ok (.aload_n 0, 1) := by decide +kernel
theorem dX5_endFrame_2 : decode cX5_endFrame 2 = .ok (.getfield 88, 3) := by decide +kernel
theorem dX5_endFrame_5 : decode cX5_endFrame 5 = .ok (.aload_n 0, 1) := by decide +kernel
theorem dX5_endFrame_6 : decode cX5_endFrame 6 = .ok (.aload_n 0, 1) := by decide +kernel
theorem dX5_endFrame_7 : decode cX5_endFrame 7 = .ok (.getfield 88, 3) := by decide +kernel
theorem dX5_endFrame_10 : decode cX5_endFrame 10 = .ok (.aload_n 0, 1) := by decide +kernel
theorem dX5_endFrame_11 : decode cX5_endFrame 11 = .ok (.getfield 72, 3) := by decide +kernel
theorem dX5_endFrame_14 : decode cX5_endFrame 14 = .ok (.invokevirtual 91, 3) := by decide +kernel
theorem dX5_endFrame_17 : decode cX5_endFrame 17 = .ok (.aload_n 0, 1) := by decide +kernel
theorem dX5_endFrame_18 : decode cX5_endFrame 18 = .ok (.getfield 23, 3) := by decide +kernel
theorem dX5_endFrame_21 : decode cX5_endFrame 21 = .ok (.aload_n 0, 1) := by decide +kernel
theorem dX5_endFrame_22 : decode cX5_endFrame 22 = .ok (.getfield 88, 3) := by decide +kernel
theorem dX5_endFrame_25 : decode cX5_endFrame 25 = .ok (.iaload, 1) := by decide +kernel
theorem dX5_endFrame_26 : decode cX5_endFrame 26 = .ok (.invokevirtual 94, 3) := by decide +kernel
theorem dX5_endFrame_29 : decode cX5_endFrame 29 = .ok (.istore_n 1, 1) := by decide +kernel
theorem dX5_endFrame_30 : decode cX5_endFrame 30 = .ok (.aload_n 0, 1) := by decide +kernel
theorem dX5_endFrame_31 : decode cX5_endFrame 31 = .ok (.getfield 9, 3) := by decide +kernel
theorem dX5_endFrame_34 : decode cX5_endFrame 34 = .ok (.ifCond .ne 49, 3) := by decide +kernel
theorem dX5_endFrame_37 : decode cX5_endFrame 37 = .ok (.iload_n 1, 1) := by decide +kernel
theorem dX5_endFrame_38 : decode cX5_endFrame 38 = .ok (.ifCond .le 45, 3) := by decide +kernel
theorem dX5_endFrame_41 : decode cX5_endFrame 41 = .ok (.aload_n 0, 1) := by decide +kernel
theorem dX5_endFrame_42 : decode cX5_endFrame 42 = .ok (.getfield 97, 3) := by decide +kernel
theorem dX5_endFrame_45 : decode cX5_endFrame 45 = .ok (.iconst 1, 1) := by decide +kernel
theorem dX5_endFrame_46 : decode cX5_endFrame 46 = .ok (.if_icmp .ne 37, 3) := by decide +kernel
theorem dX5_endFrame_49 : decode cX5_endFrame 49 = .ok (.aload_n 0, 1) := by decide +kernel
theorem dX5_endFrame_50 : decode cX5_endFrame 50 = .ok (.getfield 32, 3) := by decide +kernel
theorem dX5_endFrame_53 : decode cX5_endFrame 53 = .ok (.aload_n 0, 1) := by decide +kernel
theorem dX5_endFrame_54 : decode cX5_endFrame 54 = .ok (.getfield 88, 3) := by decide +kernel
theorem dX5_endFrame_57 : decode cX5_endFrame 57 = .ok (.dup2, 1) := by decide +kernel
theorem dX5_endFrame_58 : decode cX5_endFrame 58 = .ok (.iaload, 1) := by decide +kernel
theorem dX5_endFrame_59 : decode cX5_endFrame 59 = .ok (.iconst 1, 1) := by decide +kernel
theorem dX5_endFrame_60 : decode cX5_endFrame 60 = .ok (.iadd, 1) := by decide +kernel
theorem dX5_endFrame_61 : decode cX5_endFrame 61 = .ok (.iastore, 1) := by decide +kernel
theorem dX5_endFrame_62 : decode cX5_endFrame 62 = .ok (.aload_n 0, 1) := by decide +kernel
theorem dX5_endFrame_63 : decode cX5_endFrame 63 = .ok (.getfield 38, 3) := by decide +kernel
theorem dX5_endFrame_66 : decode cX5_endFrame 66 = .ok (.bipush 10, 2) := by decide +kernel
theorem dX5_endFrame_68 : decode cX5_endFrame 68 = .ok (.aload_n 0, 1) := by decide +kernel
theorem dX5_endFrame_69 : decode cX5_endFrame 69 = .ok (.getfield 88, 3) := by decide +kernel
theorem dX5_endFrame_72 : decode cX5_endFrame 72 = .ok (.imul, 1) := by decide +kernel
theorem dX5_endFrame_73 : decode cX5_endFrame 73 = .ok (.aload_n 0, 1) := by decide +kernel
theorem dX5_endFrame_74 : decode cX5_endFrame 74 = .ok (.getfield 72, 3) := by decide +kernel
theorem dX5_endFrame_77 : decode cX5_endFrame 77 = .ok (.iadd, 1) := by decide +kernel
theorem dX5_endFrame_78 : decode cX5_endFrame 78 = .ok (.iconst 2, 1) := by decide +kernel
theorem dX5_endFrame_79 : decode cX5_endFrame 79 = .ok (.iastore, 1) := by decide +kernel
theorem dX5_endFrame_80 : decode cX5_endFrame 80 = .ok (.goto 45, 3) := by decide +kernel
theorem dX5_endFrame_83 : decode cX5_endFrame 83 = .ok (.aload_n 0, 1) := by decide +kernel
theorem dX5_endFrame_84 : decode cX5_endFrame 84 = .ok (.getfield 9, 3) := by decide +kernel
theorem dX5_endFrame_87 : decode cX5_endFrame 87 = .ok (.ifCond .ne 38, 3) := by decide +kernel
theorem dX5_endFrame_90 : decode cX5_endFrame 90 = .ok (.iload_n 1, 1) := by decide +kernel
theorem dX5_endFrame_91 : decode cX5_endFrame 91 = .ok (.ifCond .le 34, 3) := by decide +kernel
theorem dX5_endFrame_94 : decode cX5_endFrame 94 = .ok (.aload_n 0, 1) := by decide +kernel
theorem dX5_endFrame_95 : decode cX5_endFrame 95 = .ok (.getfield 35, 3) := by decide +kernel
theorem dX5_endFrame_98 : decode cX5_endFrame 98 = .ok (.aload_n 0, 1) := by decide +kernel
theorem dX5_endFrame_99 : decode cX5_endFrame 99 = .ok (.getfield 88, 3) := by decide +kernel
theorem dX5_endFrame_102 : decode cX5_endFrame 102 = .ok (.dup2, 1) := by decide +kernel
theorem dX5_endFrame_103 : decode cX5_endFrame 103 = .ok (.iaload, 1) := by decide +kernel
theorem dX5_endFrame_104 : decode cX5_endFrame 104 = .ok (.iconst 1, 1) := by decide +kernel
theorem dX5_endFrame_105 : decode cX5_endFrame 105 = .ok (.iadd, 1) := by decide +kernel
theorem dX5_endFrame_106 : decode cX5_endFrame 106 = .ok (.iastore, 1) := by decide +kernel
theorem dX5_endFrame_107 : decode cX5_endFrame 107 = .ok (.aload_n 0, 1) := by decide +kernel
theorem dX5_endFrame_108 : decode cX5_endFrame 108 = .ok (.getfield 38, 3) := by decide +kernel
theorem dX5_endFrame_111 : decode cX5_endFrame 111 = .ok (.bipush 10, 2) := by decide +kernel
theorem dX5_endFrame_113 : decode cX5_endFrame 113 = .ok (.aload_n 0, 1) := by decide +kernel
theorem dX5_endFrame_114 : decode cX5_endFrame 114 = .ok (.getfield 88, 3) := by decide +kernel
theorem dX5_endFrame_117 : decode cX5_endFrame 117 = .ok (.imul, 1) := by decide +kernel
theorem dX5_endFrame_118 : decode cX5_endFrame 118 = .ok (.aload_n 0, 1) := by decide +kernel
theorem dX5_endFrame_119 : decode cX5_endFrame 119 = .ok (.getfield 72, 3) := by decide +kernel
theorem dX5_endFrame_122 : decode cX5_endFrame 122 = .ok (.iadd, 1) := by decide +kernel
theorem dX5_endFrame_123 : decode cX5_endFrame 123 = .ok (.iconst 1, 1) := by decide +kernel
theorem dX5_endFrame_124 : decode cX5_endFrame 124 = .ok (.iastore, 1) := by decide +kernel
theorem dX5_endFrame_125 : decode cX5_endFrame 125 = .ok (.aload_n 0, 1) := by decide +kernel
theorem dX5_endFrame_126 : decode cX5_endFrame 126 = .ok (.getfield 29, 3) := by decide +kernel
theorem dX5_endFrame_129 : decode cX5_endFrame 129 = .ok (.bipush 11, 2) := by decide +kernel
theorem dX5_endFrame_131 : decode cX5_endFrame 131 = .ok (.aload_n 0, 1) := by decide +kernel
theorem dX5_endFrame_132 : decode cX5_endFrame 132 = .ok (.getfield 88, 3) := by decide +kernel
theorem dX5_endFrame_135 : decode cX5_endFrame 135 = .ok (.imul, 1) := by decide +kernel
theorem dX5_endFrame_136 : decode cX5_endFrame 136 = .ok (.aload_n 0, 1) := by decide +kernel
theorem dX5_endFrame_137 : decode cX5_endFrame 137 = .ok (.getfield 72, 3) := by decide +kernel
theorem dX5_endFrame_140 : decode cX5_endFrame 140 = .ok (.iadd, 1) := by decide +kernel
theorem dX5_endFrame_141 : decode cX5_endFrame 141 = .ok (.iconst 1, 1) := by decide +kernel
theorem dX5_endFrame_142 : decode cX5_endFrame 142 = .ok (.iadd, 1) := by decide +kernel
theorem dX5_endFrame_143 : decode cX5_endFrame 143 = .ok (.aload_n 0, 1) := by decide +kernel
theorem dX5_endFrame_144 : decode cX5_endFrame 144 = .ok (.getfield 23, 3) := by decide +kernel
theorem dX5_endFrame_147 : decode cX5_endFrame 147 = .ok (.aload_n 0, 1) := by decide +kernel
theorem dX5_endFrame_148 : decode cX5_endFrame 148 = .ok (.getfield 88, 3) := by decide +kernel
theorem dX5_endFrame_151 : decode cX5_endFrame 151 = .ok (.iaload, 1) := by decide +kernel
theorem dX5_endFrame_152 : decode cX5_endFrame 152 = .ok (.iastore, 1) := by decide +kernel
theorem dX5_endFrame_153 : decode cX5_endFrame 153 = .ok (.aload_n 0, 1) := by decide +kernel
theorem dX5_endFrame_154 : decode cX5_endFrame 154 = .ok (.iconst 0, 1) := by decide +kernel
theorem dX5_endFrame_155 : decode cX5_endFrame 155 = .ok (.putfield 97, 3) := by decide +kernel
theorem dX5_endFrame_158 : decode cX5_endFrame 158 = .ok (.aload_n 0, 1) := by decide +kernel
theorem dX5_endFrame_159 : decode cX5_endFrame 159 = .ok (.dup, 1) := by decide +kernel
theorem dX5_endFrame_160 : decode cX5_endFrame 160 = .ok (.getfield 88, 3) := by decide +kernel
theorem dX5_endFrame_163 : decode cX5_endFrame 163 = .ok (.iconst 1, 1) := by decide +kernel
theorem dX5_endFrame_164 : decode cX5_endFrame 164 = .ok (.iadd, 1) := by decide +kernel
theorem dX5_endFrame_165 : decode cX5_endFrame 165 = .ok (.putfield 88, 3) := by decide +kernel
theorem dX5_endFrame_168 : decode cX5_endFrame 168 = .ok (.aload_n 0, 1) := by decide +kernel
theorem dX5_endFrame_169 : decode cX5_endFrame 169 = .ok (.getfield 88, 3) := by decide +kernel
theorem dX5_endFrame_172 : decode cX5_endFrame 172 = .ok (.aload_n 0, 1) := by decide +kernel
theorem dX5_endFrame_173 : decode cX5_endFrame 173 = .ok (.getfield 48, 3) := by decide +kernel
theorem dX5_endFrame_176 : decode cX5_endFrame 176 = .ok (.if_icmp .ne 18, 3) := by decide +kernel
theorem dX5_endFrame_179 : decode cX5_endFrame 179 = .ok (.aload_n 0, 1) := by decide +kernel
theorem dX5_endFrame_180 : decode cX5_endFrame 180 = .ok (.iconst 0, 1) := by decide +kernel
theorem dX5_endFrame_181 : decode cX5_endFrame 181 = .ok (.putfield 88, 3) := by decide +kernel
theorem dX5_endFrame_184 : decode cX5_endFrame 184 = .ok (.aload_n 0, 1) := by decide +kernel
theorem dX5_endFrame_185 : decode cX5_endFrame 185 = .ok (.dup, 1) := by decide +kernel
theorem dX5_endFrame_186 : decode cX5_endFrame 186 = .ok (.getfield 72, 3) := by decide +kernel
theorem dX5_endFrame_189 : decode cX5_endFrame 189 = .ok (.iconst 1, 1) := by decide +kernel
theorem dX5_endFrame_190 : decode cX5_endFrame 190 = .ok (.iadd, 1) := by decide +kernel
theorem dX5_endFrame_191 : decode cX5_endFrame 191 = .ok (.putfield 72, 3) := by decide +kernel
theorem dX5_endFrame_194 : decode cX5_endFrame 194 = .ok (.aload_n 0, 1) := by decide +kernel
theorem dX5_endFrame_195 : decode cX5_endFrame 195 = .ok (.invokevirtual 100, 3) := by decide +kernel
theorem dX5_endFrame_198 : decode cX5_endFrame 198 = .ok (.ifCond .ne 7, 3) := by decide +kernel
theorem dX5_endFrame_201 : decode cX5_endFrame 201 = .ok (.aload_n 0, 1) := by decide +kernel
theorem dX5_endFrame_202 : decode cX5_endFrame 202 = .ok (.invokevirtual 104, 3) := by decide +kernel
theorem dX5_endFrame_205 : decode cX5_endFrame 205 = .ok (.return_, 1) := by decide +kernel
set_option maxRecDepth 20000 in
theorem ggX5_play_X5_roll : GoodIn wsX5_play wsX5_roll := goodIn_r _ [15, 16, 17, 14, 18, 19, 20, 21, 22, 23, 24, 25, 26, 27] (by decide +kernel) (by decide +kernel)
set_option maxRecDepth 20000 in
theorem gX5_play_X5_roll : GoodIn wsX5_play (va_wsS RX5 107 yX5_roll wsX5_roll) := goodIn_app (goodIn_of _ (by decide +kernel)) ggX5_play_X5_roll
set_option maxRecDepth 20000 in
theorem ggX5_play_J6_bitCount_0f7a4 : GoodIn wsX5_play wsJ6_bitCount_0f7a4 := goodIn_r _ [31, 32, 33, 34] (by decide +kernel) (by decide +kernel)
set_option maxRecDepth 20000 in
theorem gX5_play_J6_bitCount_0f7a4 : GoodIn wsX5_play (va_wsS RX5 110 yJ6_bitCount_0f7a4 wsJ6_bitCount_0f7a4) := goodIn_app (goodIn_of _ (by decide +kernel)) ggX5_play_J6_bitCount_0f7a4
set_option maxRecDepth 20000 in
theorem ggX5_play_X5_endFrame : GoodIn wsX5_play wsX5_endFrame := goodIn_r _ [38, 9, 39, 10, 1, 11, 40, 41, 42, 43, 44, 45, 46, 47, 14, 48, 49, 50, 51, 52, 53, 54, 6, 55, 8, 56, 57, 58, 59, 60, 61, 62, 63, 64, 65, 66, 67, 2, 68, 69, 70, 71, 72, 73, 74, 75, 76, 77, 78, 79, 80, 81, 82] (by decide +kernel) (by decide +kernel)
set_option maxRecDepth 20000 in
theorem gX5_play_X5_endFrame : GoodIn wsX5_play (wsV RX5 118 RX5 yX5_endFrame wsX5_endFrame) := goodIn_app (goodIn_of _ (by decide +kernel)) ggX5_play_X5_endFrame
theorem dX5_play_0 : decode cX5_play 0 = .ok (.aload_n 0, 1) := by decide +kernel
theorem dX5_play_1 : decode cX5_play 1 = .ok (.getfield 9, 3) := by decide +kernel
theorem dX5_play_4 : decode cX5_play 4 = .ok (.iload_n 1, 1) := by decide +kernel
theorem dX5_play_5 : decode cX5_play 5 = .ok (.iload_n 2, 1) := by decide +kernel
theorem dX5_play_6 : decode cX5_play 6 = .ok (.invokestatic 107, 3) := by decide +kernel
theorem dX5_play_9 : decode cX5_play 9 = .ok (.istore_n 3, 1) := by decide +kernel
theorem dX5_play_10 : decode cX5_play 10 = .ok (.aload_n 0, 1) := by decide +kernel
theorem dX5_play_11 : decode cX5_play 11 = .ok (.getfield 9, 3) := by decide +kernel
theorem dX5_play_14 : decode cX5_play 14 = .ok (.iload_n 3, 1) := by decide +kernel
theorem dX5_play_15 : decode cX5_play 15 = .ok (.ixor, 1) := by decide +kernel
theorem dX5_play_16 : decode cX5_play 16 = .ok (.invokestatic 110, 3) := by decide +kernel
theorem dX5_play_19 : decode cX5_play 19 = .ok (.istore 4, 2) := by decide +kernel
theorem dX5_play_21 : decode cX5_play 21 = .ok (.iconst 0, 1) := by decide +kernel
theorem dX5_play_22 : decode cX5_play 22 = .ok (.istore 5, 2) := by decide +kernel
theorem dX5_play_24 : decode cX5_play 24 = .ok (.iload 5, 2) := by decide +kernel
theorem dX5_play_26 : decode cX5_play 26 = .ok (.bipush 9, 2) := by decide +kernel
theorem dX5_play_28 : decode cX5_play 28 = .ok (.if_icmp .ge 30, 3) := by decide +kernel
theorem dX5_play_31 : decode cX5_play 31 = .ok (.aload_n 0, 1) := by decide +kernel
theorem dX5_play_32 : decode cX5_play 32 = .ok (.getfield 13, 3) := by decide +kernel
theorem dX5_play_35 : decode cX5_play 35 = .ok (.iload 5, 2) := by decide +kernel
theorem dX5_play_37 : decode cX5_play 37 = .ok (.dup2, 1) := by decide +kernel
theorem dX5_play_38 : decode cX5_play 38 = .ok (.iaload, 1) := by decide +kernel
theorem dX5_play_39 : decode cX5_play 39 = .ok (.aload_n 0, 1) := by decide +kernel
theorem dX5_play_40 : decode cX5_play 40 = .ok (.getfield 9, 3) := by decide +kernel
theorem dX5_play_43 : decode cX5_play 43 = .ok (.iload_n 3, 1) := by decide +kernel
theorem dX5_play_44 : decode cX5_play 44 = .ok (.ixor, 1) := by decide +kernel
theorem dX5_play_45 : decode cX5_play 45 = .ok (.iload 5, 2) := by decide +kernel
theorem dX5_play_47 : decode cX5_play 47 = .ok (.ishr, 1) := by decide +kernel
theorem dX5_play_48 : decode cX5_play 48 = .ok (.iconst 1, 1) := by decide +kernel
theorem dX5_play_49 : decode cX5_play 49 = .ok (.iand, 1) := by decide +kernel
theorem dX5_play_50 : decode cX5_play 50 = .ok (.iadd, 1) := by decide +kernel
theorem dX5_play_51 : decode cX5_play 51 = .ok (.iastore, 1) := by decide +kernel
theorem dX5_play_52 : decode cX5_play 52 = .ok (.iinc 5 1, 3) := by decide +kernel
theorem dX5_play_55 : decode cX5_play 55 = .ok (.goto (-31), 3) := by decide +kernel
theorem dX5_play_58 : decode cX5_play 58 = .ok (.aload_n 0, 1) := by decide +kernel
theorem dX5_play_59 : decode cX5_play 59 = .ok (.iload_n 3, 1) := by decide +kernel
theorem dX5_play_60 : decode cX5_play 60 = .ok (.putfield 9, 3) := by decide +kernel
theorem dX5_play_63 : decode cX5_play 63 = .ok (.iconst 0, 1) := by decide +kernel
theorem dX5_play_64 : decode cX5_play 64 = .ok (.istore 5, 2) := by decide +kernel
theorem dX5_play_66 : decode cX5_play 66 = .ok (.iload 5, 2) := by decide +kernel
theorem dX5_play_68 : decode cX5_play 68 = .ok (.iconst 5, 1) := by decide +kernel
theorem dX5_play_69 : decode cX5_play 69 = .ok (.if_icmp .ge 29, 3) := by decide +kernel
theorem dX5_play_72 : decode cX5_play 72 = .ok (.aload_n 0, 1) := by decide +kernel
theorem dX5_play_73 : decode cX5_play 73 = .ok (.getfield 17, 3) := by decide +kernel
theorem dX5_play_76 : decode cX5_play 76 = .ok (.iload 5, 2) := by decide +kernel
theorem dX5_play_78 : decode cX5_play 78 = .ok (.iconst 0, 1) := by decide +kernel
theorem dX5_play_79 : decode cX5_play 79 = .ok (.aload_n 0, 1) := by decide +kernel
theorem dX5_play_80 : decode cX5_play 80 = .ok (.getfield 17, 3) := by decide +kernel
theorem dX5_play_83 : decode cX5_play 83 = .ok (.iload 5, 2) := by decide +kernel
theorem dX5_play_85 : decode cX5_play 85 = .ok (.iaload, 1) := by decide +kernel
theorem dX5_play_86 : decode cX5_play 86 = .ok (.iconst 1, 1) := by decide +kernel
theorem dX5_play_87 : decode cX5_play 87 = .ok (.isub, 1) := by decide +kernel
theorem dX5_play_88 : decode cX5_play 88 = .ok (.invokestatic 115, 3) := by decide +kernel
theorem dX5_play_91 : decode cX5_play 91 = .ok (.iastore, 1) := by decide +kernel
theorem dX5_play_92 : decode cX5_play 92 = .ok (.iinc 5 1, 3) := by decide +kernel
theorem dX5_play_95 : decode cX5_play 95 = .ok (.goto (-29), 3) := by decide +kernel
theorem dX5_play_98 : decode cX5_play 98 = .ok (.aload_n 0, 1) := by decide +kernel
theorem dX5_play_99 : decode cX5_play 99 = .ok (.getfield 17, 3) := by decide +kernel
theorem dX5_play_102 : decode cX5_play 102 = .ok (.iload_n 1, 1) := by decide +kernel
theorem dX5_play_103 : decode cX5_play 103 = .ok (.iconst 2, 1) := by decide +kernel
theorem dX5_play_104 : decode cX5_play 104 = .ok (.iastore, 1) := by decide +kernel
theorem dX5_play_105 : decode cX5_play 105 = .ok (.aload_n 0, 1) := by decide +kernel
theorem dX5_play_106 : decode cX5_play 106 = .ok (.getfield 26, 3) := by decide +kernel
theorem dX5_play_109 : decode cX5_play 109 = .ok (.bipush 30, 2) := by decide +kernel
theorem dX5_play_111 : decode cX5_play 111 = .ok (.aload_n 0, 1) := by decide +kernel
theorem dX5_play_112 : decode cX5_play 112 = .ok (.getfield 88, 3) := by decide +kernel
theorem dX5_play_115 : decode cX5_play 115 = .ok (.imul, 1) := by decide +kernel
theorem dX5_play_116 : decode cX5_play 116 = .ok (.aload_n 0, 1) := by decide +kernel
theorem dX5_play_117 : decode cX5_play 117 = .ok (.getfield 23, 3) := by decide +kernel
theorem dX5_play_120 : decode cX5_play 120 = .ok (.aload_n 0, 1) := by decide +kernel
theorem dX5_play_121 : decode cX5_play 121 = .ok (.getfield 88, 3) := by decide +kernel
theorem dX5_play_124 : decode cX5_play 124 = .ok (.iaload, 1) := by decide +kernel
theorem dX5_play_125 : decode cX5_play 125 = .ok (.iadd, 1) := by decide +kernel
theorem dX5_play_126 : decode cX5_play 126 = .ok (.iload 4, 2) := by decide +kernel
theorem dX5_play_128 : decode cX5_play 128 = .ok (.iastore, 1) := by decide +kernel
theorem dX5_play_129 : decode cX5_play 129 = .ok (.aload_n 0, 1) := by decide +kernel
theorem dX5_play_130 : decode cX5_play 130 = .ok (.getfield 23, 3) := by decide +kernel
theorem dX5_play_133 : decode cX5_play 133 = .ok (.aload_n 0, 1) := by decide +kernel
theorem dX5_play_134 : decode cX5_play 134 = .ok (.getfield 88, 3) := by decide +kernel
theorem dX5_play_137 : decode cX5_play 137 = .ok (.dup2, 1) := by decide +kernel
theorem dX5_play_138 : decode cX5_play 138 = .ok (.iaload, 1) := by decide +kernel
theorem dX5_play_139 : decode cX5_play 139 = .ok (.iconst 1, 1) := by decide +kernel
theorem dX5_play_140 : decode cX5_play 140 = .ok (.iadd, 1) := by decide +kernel
theorem dX5_play_141 : decode cX5_play 141 = .ok (.iastore, 1) := by decide +kernel
theorem dX5_play_142 : decode cX5_play 142 = .ok (.aload_n 0, 1) := by decide +kernel
theorem dX5_play_143 : decode cX5_play 143 = .ok (.dup, 1) := by decide +kernel
theorem dX5_play_144 : decode cX5_play 144 = .ok (.getfield 97, 3) := by decide +kernel
theorem dX5_play_147 : decode cX5_play 147 = .ok (.iconst 1, 1) := by decide +kernel
theorem dX5_play_148 : decode cX5_play 148 = .ok (.iadd, 1) := by decide +kernel
theorem dX5_play_149 : decode cX5_play 149 = .ok (.putfield 97, 3) := by decide +kernel
theorem dX5_play_152 : decode cX5_play 152 = .ok (.aload_n 0, 1) := by decide +kernel
theorem dX5_play_153 : decode cX5_play 153 = .ok (.getfield 9, 3) := by decide +kernel
theorem dX5_play_156 : decode cX5_play 156 = .ok (.ifCond .eq 11, 3) := by decide +kernel
theorem dX5_play_159 : decode cX5_play 159 = .ok (.aload_n 0, 1) := by decide +kernel
theorem dX5_play_160 : decode cX5_play 160 = .ok (.getfield 97, 3) := by decide +kernel
theorem dX5_play_163 : decode cX5_play 163 = .ok (.iconst 3, 1) := by decide +kernel
theorem dX5_play_164 : decode cX5_play 164 = .ok (.if_icmp .ne 7, 3) := by decide +kernel
theorem dX5_play_167 : decode cX5_play 167 = .ok (.aload_n 0, 1) := by decide +kernel
theorem dX5_play_168 : decode cX5_play 168 = .ok (.invokevirtual 118, 3) := by decide +kernel
theorem dX5_play_171 : decode cX5_play 171 = .ok (.iload 4, 2) := by decide +kernel
theorem dX5_play_173 : decode cX5_play 173 = .ok (.ireturn, 1) := by decide +kernel
set_option maxRecDepth 20000 in
theorem ggX5_throwBall_X5_isThrow : GoodIn wsX5_throwBall wsX5_isThrow := goodIn_r _ [7, 8, 9, 6, 10] (by decide +kernel) (by decide +kernel)
set_option maxRecDepth 20000 in
theorem gX5_throwBall_X5_isThrow : GoodIn wsX5_throwBall (va_wsS RX5 121 yX5_isThrow wsX5_isThrow) := goodIn_app (goodIn_of _ (by decide +kernel)) ggX5_throwBall_X5_isThrow
set_option maxRecDepth 20000 in
theorem ggX5_throwBall_X5_no : GoodIn wsX5_throwBall wsX5_no := goodIn_r _ [14, 1, 80, 81, 82, 83, 84, 85, 86, 87, 88, 89, 90, 91, 92, 93, 94] (by decide +kernel) (by decide +kernel)
set_option maxRecDepth 20000 in
theorem gX5_throwBall_X5_no : GoodIn wsX5_throwBall (wsV RX5 79 RX5 yX5_no wsX5_no) := goodIn_app (goodIn_of _ (by decide +kernel)) ggX5_throwBall_X5_no
set_option maxRecDepth 20000 in
theorem ggX5_throwBall_X5_over : GoodIn wsX5_throwBall wsX5_over := goodIn_r _ [18, 19, 80, 81, 82, 83, 84, 85, 86, 87, 88, 89, 90, 91, 92, 93, 94] (by decide +kernel) (by decide +kernel)
set_option maxRecDepth 20000 in
theorem gX5_throwBall_X5_over : GoodIn wsX5_throwBall (wsV RX5 100 RX5 yX5_over wsX5_over) := goodIn_app (goodIn_of _ (by decide +kernel)) ggX5_throwBall_X5_over
set_option maxRecDepth 20000 in
theorem ggX5_throwBall_X5_play : GoodIn wsX5_throwBall wsX5_play := goodIn_r _ [23, 24, 25, 3, 26, 27, 28, 29, 30, 31, 32, 33, 34, 35, 6, 36, 37, 38, 39, 40, 8, 9, 10, 41, 42, 43, 44, 45, 46, 47, 48, 49, 50, 51, 52, 53, 54, 55, 56, 19, 57, 58, 59, 60, 2, 61, 62, 63, 64, 65, 66, 67, 68, 69, 70, 71, 15, 16, 17, 18, 72, 73, 74, 75, 76, 77, 78, 79, 80, 81, 82, 83, 84, 85, 86, 87, 88, 89, 90, 91, 92, 93, 94] (by decide +kernel) (by decide +kernel)
set_option maxRecDepth 20000 in
theorem gX5_throwBall_X5_play : GoodIn wsX5_throwBall (wsV RX5 125 RX5 yX5_play wsX5_play) := goodIn_app (goodIn_of _ (by decide +kernel)) ggX5_throwBall_X5_play
theorem dX5_throwBall_0 : decode cX5_throwBall 0 = .ok (.aload_n 0, 1) := by decide +kernel
theorem dX5_throwBall_1 : decode cX5_throwBall 1 = .ok (.iconst 0, 1) := by decide +kernel
theorem dX5_throwBall_2 : decode cX5_throwBall 2 = .ok (.putfield 41, 3) := by decide +kernel
theorem dX5_throwBall_5 : decode cX5_throwBall 5 = .ok (.iload_n 1, 1) := by decide +kernel
theorem dX5_throwBall_6 : decode cX5_throwBall 6 = .ok (.iload_n 2, 1) := by decide +kernel
theorem dX5_throwBall_7 : decode cX5_throwBall 7 = .ok (.invokestatic 121, 3) := by decide +kernel
theorem dX5_throwBall_10 : decode cX5_throwBall 10 = .ok (.ifCond .ne 9, 3) := by decide +kernel
theorem dX5_throwBall_13 : decode cX5_throwBall 13 = .ok (.aload_n 0, 1) := by decide +kernel
theorem dX5_throwBall_14 : decode cX5_throwBall 14 = .ok (.iconst 1, 1) := by decide +kernel
theorem dX5_throwBall_15 : decode cX5_throwBall 15 = .ok (.invokevirtual 79, 3) := by decide +kernel
theorem dX5_throwBall_18 : decode cX5_throwBall 18 = .ok (.ireturn, 1) := by decide +kernel
theorem dX5_throwBall_19 : decode cX5_throwBall 19 = .ok (.aload_n 0, 1) := by decide +kernel
theorem dX5_throwBall_20 : decode cX5_throwBall 20 = .ok (.getfield 48, 3) := by decide +kernel
theorem dX5_throwBall_23 : decode cX5_throwBall 23 = .ok (.ifCond .eq 19, 3) := by decide +kernel
theorem dX5_throwBall_26 : decode cX5_throwBall 26 = .ok (.aload_n 0, 1) := by decide +kernel
theorem dX5_throwBall_27 : decode cX5_throwBall 27 = .ok (.invokevirtual 100, 3) := by decide +kernel
theorem dX5_throwBall_30 : decode cX5_throwBall 30 = .ok (.ifCond .ne 12, 3) := by decide +kernel
theorem dX5_throwBall_33 : decode cX5_throwBall 33 = .ok (.aload_n 0, 1) := by decide +kernel
theorem dX5_throwBall_34 : decode cX5_throwBall 34 = .ok (.getfield 17, 3) := by decide +kernel
theorem dX5_throwBall_37 : decode cX5_throwBall 37 = .ok (.iload_n 1, 1) := by decide +kernel
theorem dX5_throwBall_38 : decode cX5_throwBall 38 = .ok (.iaload, 1) := by decide +kernel
theorem dX5_throwBall_39 : decode cX5_throwBall 39 = .ok (.ifCond .le 11, 3) := by decide +kernel
theorem dX5_throwBall_42 : decode cX5_throwBall 42 = .ok (.aload_n 0, 1) := by decide +kernel
theorem dX5_throwBall_43 : decode cX5_throwBall 43 = .ok (.iconst 2, 1) := by decide +kernel
theorem dX5_throwBall_44 : decode cX5_throwBall 44 = .ok (.invokevirtual 79, 3) := by decide +kernel
theorem dX5_throwBall_47 : decode cX5_throwBall 47 = .ok (.goto 9, 3) := by decide +kernel
theorem dX5_throwBall_50 : decode cX5_throwBall 50 = .ok (.aload_n 0, 1) := by decide +kernel
theorem dX5_throwBall_51 : decode cX5_throwBall 51 = .ok (.iload_n 1, 1) := by decide +kernel
theorem dX5_throwBall_52 : decode cX5_throwBall 52 = .ok (.iload_n 2, 1) := by decide +kernel
theorem dX5_throwBall_53 : decode cX5_throwBall 53 = .ok (.invokevirtual 125, 3) := by decide +kernel
theorem dX5_throwBall_56 : decode cX5_throwBall 56 = .ok (.ireturn, 1) := by decide +kernel
set_option maxRecDepth 20000 in
theorem ggX5_replaceString_X5_isPin : GoodIn wsX5_replaceString wsX5_isPin := goodIn_r _ [7, 8, 9, 6, 10] (by decide +kernel) (by decide +kernel)
set_option maxRecDepth 20000 in
theorem gX5_replaceString_X5_isPin : GoodIn wsX5_replaceString (va_wsS RX5 128 yX5_isPin wsX5_isPin) := goodIn_app (goodIn_of _ (by decide +kernel)) ggX5_replaceString_X5_isPin
set_option maxRecDepth 20000 in
theorem ggX5_replaceString_X5_no : GoodIn wsX5_replaceString wsX5_no := goodIn_r _ [14, 1, 15, 16, 17, 18, 19, 20, 21, 22, 23, 24, 25, 26, 27, 28, 29] (by decide +kernel) (by decide +kernel)
set_option maxRecDepth 20000 in
theorem gX5_replaceString_X5_no : GoodIn wsX5_replaceString (wsV RX5 79 RX5 yX5_no wsX5_no) := goodIn_app (goodIn_of _ (by decide +kernel)) ggX5_replaceString_X5_no
theorem dX5_replaceString_0 : decode cX5_replaceString 0 = .ok (.aload_n 0, 1) := by decide +kernel
theorem dX5_replaceString_1 : decode cX5_replaceString 1 = .ok (.iconst 0, 1) := by decide +kernel
theorem dX5_replaceString_2 : decode cX5_replaceString 2 = .ok (.putfield 41, 3) := by decide +kernel
theorem dX5_replaceString_5 : decode cX5_replaceString 5 = .ok (.iload_n 1, 1) := by decide +kernel
theorem dX5_replaceString_6 : decode cX5_replaceString 6 = .ok (.invokestatic 128, 3) := by decide +kernel
theorem dX5_replaceString_9 : decode cX5_replaceString 9 = .ok (.ifCond .ne 9, 3) := by decide +kernel
theorem dX5_replaceString_12 : decode cX5_replaceString 12 = .ok (.aload_n 0, 1) := by decide +kernel
theorem dX5_replaceString_13 : decode cX5_replaceString 13 = .ok (.iconst 1, 1) := by decide +kernel
theorem dX5_replaceString_14 : decode cX5_replaceString 14 = .ok (.invokevirtual 79, 3) := by decide +kernel
theorem dX5_replaceString_17 : decode cX5_replaceString 17 = .ok (.ireturn, 1) := by decide +kernel
theorem dX5_replaceString_18 : decode cX5_replaceString 18 = .ok (.aload_n 0, 1) := by decide +kernel
theorem dX5_replaceString_19 : decode cX5_replaceString 19 = .ok (.getfield 20, 3) := by decide +kernel
theorem dX5_replaceString_22 : decode cX5_replaceString 22 = .ok (.ifCond .ne 9, 3) := by decide +kernel
theorem dX5_replaceString_25 : decode cX5_replaceString 25 = .ok (.aload_n 0, 1) := by decide +kernel
theorem dX5_replaceString_26 : decode cX5_replaceString 26 = .ok (.iconst 2, 1) := by decide +kernel
theorem dX5_replaceString_27 : decode cX5_replaceString 27 = .ok (.invokevirtual 79, 3) := by decide +kernel
theorem dX5_replaceString_30 : decode cX5_replaceString 30 = .ok (.ireturn, 1) := by decide +kernel
theorem dX5_replaceString_31 : decode cX5_replaceString 31 = .ok (.aload_n 0, 1) := by decide +kernel
theorem dX5_replaceString_32 : decode cX5_replaceString 32 = .ok (.getfield 13, 3) := by decide +kernel
theorem dX5_replaceString_35 : decode cX5_replaceString 35 = .ok (.iload_n 1, 1) := by decide +kernel
theorem dX5_replaceString_36 : decode cX5_replaceString 36 = .ok (.iconst 0, 1) := by decide +kernel
theorem dX5_replaceString_37 : decode cX5_replaceString 37 = .ok (.iastore, 1) := by decide +kernel
theorem dX5_replaceString_38 : decode cX5_replaceString 38 = .ok (.aload_n 0, 1) := by decide +kernel
theorem dX5_replaceString_39 : decode cX5_replaceString 39 = .ok (.dup, 1) := by decide +kernel
theorem dX5_replaceString_40 : decode cX5_replaceString 40 = .ok (.getfield 20, 3) := by decide +kernel
theorem dX5_replaceString_43 : decode cX5_replaceString 43 = .ok (.iconst 1, 1) := by decide +kernel
theorem dX5_replaceString_44 : decode cX5_replaceString 44 = .ok (.isub, 1) := by decide +kernel
theorem dX5_replaceString_45 : decode cX5_replaceString 45 = .ok (.putfield 20, 3) := by decide +kernel
theorem dX5_replaceString_48 : decode cX5_replaceString 48 = .ok (.aload_n 0, 1) := by decide +kernel
theorem dX5_replaceString_49 : decode cX5_replaceString 49 = .ok (.getfield 20, 3) := by decide +kernel
theorem dX5_replaceString_52 : decode cX5_replaceString 52 = .ok (.ireturn, 1) := by decide +kernel
set_option maxRecDepth 20000 in
theorem ggX5_buyStrings_X5_isIn : GoodIn wsX5_buyStrings wsX5_isIn := goodIn_r _ [6] (by decide +kernel) (by decide +kernel)
set_option maxRecDepth 20000 in
theorem gX5_buyStrings_X5_isIn : GoodIn wsX5_buyStrings (va_wsS RX5 44 yX5_isIn wsX5_isIn) := goodIn_app (goodIn_of _ (by decide +kernel)) ggX5_buyStrings_X5_isIn
set_option maxRecDepth 20000 in
theorem ggX5_buyStrings_X5_no : GoodIn wsX5_buyStrings wsX5_no := goodIn_r _ [10, 1, 11, 12, 13, 14, 15, 16, 17, 18, 19, 20, 21, 22, 23, 24, 25] (by decide +kernel) (by decide +kernel)
set_option maxRecDepth 20000 in
theorem gX5_buyStrings_X5_no : GoodIn wsX5_buyStrings (wsV RX5 79 RX5 yX5_no wsX5_no) := goodIn_app (goodIn_of _ (by decide +kernel)) ggX5_buyStrings_X5_no
theorem dX5_buyStrings_0 : decode cX5_buyStrings 0 = .ok (.aload_n 0, 1) := by decide +kernel
theorem dX5_buyStrings_1 : decode cX5_buyStrings 1 = .ok (.iconst 0, 1) := by decide +kernel
theorem dX5_buyStrings_2 : decode cX5_buyStrings 2 = .ok (.putfield 41, 3) := by decide +kernel
theorem dX5_buyStrings_5 : decode cX5_buyStrings 5 = .ok (.iload_n 1, 1) := by decide +kernel
theorem dX5_buyStrings_6 : decode cX5_buyStrings 6 = .ok (.iconst 1, 1) := by decide +kernel
theorem dX5_buyStrings_7 : decode cX5_buyStrings 7 = .ok (.bipush 20, 2) := by decide +kernel
theorem dX5_buyStrings_9 : decode cX5_buyStrings 9 = .ok (.invokestatic 44, 3) := by decide +kernel
theorem dX5_buyStrings_12 : decode cX5_buyStrings 12 = .ok (.ifCond .ne 9, 3) := by decide +kernel
theorem dX5_buyStrings_15 : decode cX5_buyStrings 15 = .ok (.aload_n 0, 1) := by decide +kernel
theorem dX5_buyStrings_16 : decode cX5_buyStrings 16 = .ok (.iconst 1, 1) := by decide +kernel
theorem dX5_buyStrings_17 : decode cX5_buyStrings 17 = .ok (.invokevirtual 79, 3) := by decide +kernel
theorem dX5_buyStrings_20 : decode cX5_buyStrings 20 = .ok (.ireturn, 1) := by decide +kernel
theorem dX5_buyStrings_21 : decode cX5_buyStrings 21 = .ok (.aload_n 0, 1) := by decide +kernel
theorem dX5_buyStrings_22 : decode cX5_buyStrings 22 = .ok (.dup, 1) := by decide +kernel
theorem dX5_buyStrings_23 : decode cX5_buyStrings 23 = .ok (.getfield 20, 3) := by decide +kernel
theorem dX5_buyStrings_26 : decode cX5_buyStrings 26 = .ok (.iload_n 1, 1) := by decide +kernel
theorem dX5_buyStrings_27 : decode cX5_buyStrings 27 = .ok (.iadd, 1) := by decide +kernel
theorem dX5_buyStrings_28 : decode cX5_buyStrings 28 = .ok (.putfield 20, 3) := by decide +kernel
theorem dX5_buyStrings_31 : decode cX5_buyStrings 31 = .ok (.aload_n 0, 1) := by decide +kernel
theorem dX5_buyStrings_32 : decode cX5_buyStrings 32 = .ok (.getfield 20, 3) := by decide +kernel
theorem dX5_buyStrings_35 : decode cX5_buyStrings 35 = .ok (.ireturn, 1) := by decide +kernel
set_option maxRecDepth 20000 in
theorem ggX5_points_X5_begin : GoodIn wsX5_points wsX5_begin := goodIn_r _ [9, 10, 20, 21, 22, 23, 24, 25, 26, 27, 28, 29, 30, 31, 32, 33, 34] (by decide +kernel) (by decide +kernel)
set_option maxRecDepth 20000 in
theorem gX5_points_X5_begin : GoodIn wsX5_points (wsV RX5 91 RX5 yX5_begin wsX5_begin) := goodIn_app (goodIn_of _ (by decide +kernel)) ggX5_points_X5_begin
set_option maxRecDepth 20000 in
theorem ggX5_points_X5_sum : GoodIn wsX5_points wsX5_sum := goodIn_r _ [14, 3, 15, 16, 17, 18, 19, 20, 21, 22, 23, 24, 25, 26, 27, 28, 29, 30, 31, 32, 33, 34] (by decide +kernel) (by decide +kernel)
set_option maxRecDepth 20000 in
theorem gX5_points_X5_sum : GoodIn wsX5_points (wsV RX5 94 RX5 yX5_sum wsX5_sum) := goodIn_app (goodIn_of _ (by decide +kernel)) ggX5_points_X5_sum
theorem dX5_points_0 : decode cX5_points 0 = .ok (.iload_n 2, 1) := by decide +kernel
theorem dX5_points_1 : decode cX5_points 1 = .ok (.aload_n 0, 1) := by decide +kernel
theorem dX5_points_2 : decode cX5_points 2 = .ok (.getfield 72, 3) := by decide +kernel
theorem dX5_points_5 : decode cX5_points 5 = .ok (.if_icmp .gt 19, 3) := by decide +kernel
theorem dX5_points_8 : decode cX5_points 8 = .ok (.iload_n 2, 1) := by decide +kernel
theorem dX5_points_9 : decode cX5_points 9 = .ok (.aload_n 0, 1) := by decide +kernel
theorem dX5_points_10 : decode cX5_points 10 = .ok (.getfield 72, 3) := by decide +kernel
theorem dX5_points_13 : decode cX5_points 13 = .ok (.if_icmp .ne 13, 3) := by decide +kernel
theorem dX5_points_16 : decode cX5_points 16 = .ok (.iload_n 1, 1) := by decide +kernel
theorem dX5_points_17 : decode cX5_points 17 = .ok (.aload_n 0, 1) := by decide +kernel
theorem dX5_points_18 : decode cX5_points 18 = .ok (.getfield 88, 3) := by decide +kernel
theorem dX5_points_21 : decode cX5_points 21 = .ok (.if_icmp .le 5, 3) := by decide +kernel
theorem dX5_points_24 : decode cX5_points 24 = .ok (.iconst 0, 1) := by decide +kernel
theorem dX5_points_25 : decode cX5_points 25 = .ok (.ireturn, 1) := by decide +kernel
theorem dX5_points_26 : decode cX5_points 26 = .ok (.iload_n 2, 1) := by decide +kernel
theorem dX5_points_27 : decode cX5_points 27 = .ok (.aload_n 0, 1) := by decide +kernel
theorem dX5_points_28 : decode cX5_points 28 = .ok (.getfield 72, 3) := by decide +kernel
theorem dX5_points_31 : decode cX5_points 31 = .ok (.if_icmp .ne 15, 3) := by decide +kernel
theorem dX5_points_34 : decode cX5_points 34 = .ok (.iload_n 1, 1) := by decide +kernel
theorem dX5_points_35 : decode cX5_points 35 = .ok (.aload_n 0, 1) := by decide +kernel
theorem dX5_points_36 : decode cX5_points 36 = .ok (.getfield 88, 3) := by decide +kernel
theorem dX5_points_39 : decode cX5_points 39 = .ok (.if_icmp .ne 7, 3) := by decide +kernel
theorem dX5_points_42 : decode cX5_points 42 = .ok (.iconst 1, 1) := by decide +kernel
theorem dX5_points_43 : decode cX5_points 43 = .ok (.goto 4, 3) := by decide +kernel
theorem dX5_points_46 : decode cX5_points 46 = .ok (.iconst 0, 1) := by decide +kernel
theorem dX5_points_47 : decode cX5_points 47 = .ok (.istore_n 3, 1) := by decide +kernel
theorem dX5_points_48 : decode cX5_points 48 = .ok (.iload_n 3, 1) := by decide +kernel
theorem dX5_points_49 : decode cX5_points 49 = .ok (.ifCond .eq 12, 3) := by decide +kernel
theorem dX5_points_52 : decode cX5_points 52 = .ok (.aload_n 0, 1) := by decide +kernel
theorem dX5_points_53 : decode cX5_points 53 = .ok (.getfield 23, 3) := by decide +kernel
theorem dX5_points_56 : decode cX5_points 56 = .ok (.iload_n 1, 1) := by decide +kernel
theorem dX5_points_57 : decode cX5_points 57 = .ok (.iaload, 1) := by decide +kernel
theorem dX5_points_58 : decode cX5_points 58 = .ok (.goto 11, 3) := by decide +kernel
theorem dX5_points_61 : decode cX5_points 61 = .ok (.aload_n 0, 1) := by decide +kernel
theorem dX5_points_62 : decode cX5_points 62 = .ok (.iload_n 1, 1) := by decide +kernel
theorem dX5_points_63 : decode cX5_points 63 = .ok (.iload_n 2, 1) := by decide +kernel
theorem dX5_points_64 : decode cX5_points 64 = .ok (.iconst 1, 1) := by decide +kernel
theorem dX5_points_65 : decode cX5_points 65 = .ok (.iadd, 1) := by decide +kernel
theorem dX5_points_66 : decode cX5_points 66 = .ok (.invokevirtual 91, 3) := by decide +kernel
theorem dX5_points_69 : decode cX5_points 69 = .ok (.istore 4, 2) := by decide +kernel
theorem dX5_points_71 : decode cX5_points 71 = .ok (.aload_n 0, 1) := by decide +kernel
theorem dX5_points_72 : decode cX5_points 72 = .ok (.iload_n 1, 1) := by decide +kernel
theorem dX5_points_73 : decode cX5_points 73 = .ok (.aload_n 0, 1) := by decide +kernel
theorem dX5_points_74 : decode cX5_points 74 = .ok (.iload_n 1, 1) := by decide +kernel
theorem dX5_points_75 : decode cX5_points 75 = .ok (.iload_n 2, 1) := by decide +kernel
theorem dX5_points_76 : decode cX5_points 76 = .ok (.invokevirtual 91, 3) := by decide +kernel
theorem dX5_points_79 : decode cX5_points 79 = .ok (.iload_n 3, 1) := by decide +kernel
theorem dX5_points_80 : decode cX5_points 80 = .ok (.ifCond .eq 8, 3) := by decide +kernel
theorem dX5_points_83 : decode cX5_points 83 = .ok (.iload 4, 2) := by decide +kernel
theorem dX5_points_85 : decode cX5_points 85 = .ok (.goto 17, 3) := by decide +kernel
theorem dX5_points_88 : decode cX5_points 88 = .ok (.iload 4, 2) := by decide +kernel
theorem dX5_points_90 : decode cX5_points 90 = .ok (.aload_n 0, 1) := by decide +kernel
theorem dX5_points_91 : decode cX5_points 91 = .ok (.getfield 38, 3) := by decide +kernel
theorem dX5_points_94 : decode cX5_points 94 = .ok (.bipush 10, 2) := by decide +kernel
theorem dX5_points_96 : decode cX5_points 96 = .ok (.iload_n 1, 1) := by decide +kernel
theorem dX5_points_97 : decode cX5_points 97 = .ok (.imul, 1) := by decide +kernel
theorem dX5_points_98 : decode cX5_points 98 = .ok (.iload_n 2, 1) := by decide +kernel
theorem dX5_points_99 : decode cX5_points 99 = .ok (.iadd, 1) := by decide +kernel
theorem dX5_points_100 : decode cX5_points 100 = .ok (.iaload, 1) := by decide +kernel
theorem dX5_points_101 : decode cX5_points 101 = .ok (.iadd, 1) := by decide +kernel
theorem dX5_points_102 : decode cX5_points 102 = .ok (.invokevirtual 94, 3) := by decide +kernel
theorem dX5_points_105 : decode cX5_points 105 = .ok (.ireturn, 1) := by decide +kernel
set_option maxRecDepth 20000 in
theorem ggX5_score_X5_points : GoodIn wsX5_score wsX5_points := goodIn_r _ [5, 6, 7, 8, 9, 10, 11, 12, 4, 13, 14, 15, 16, 17, 18, 19, 20, 21, 22, 23, 24, 25, 26, 27, 28, 29, 30, 31, 32, 33, 34, 35, 36, 37, 38] (by decide +kernel) (by decide +kernel)
set_option maxRecDepth 20000 in
theorem gX5_score_X5_points : GoodIn wsX5_score (wsV RX5 131 RX5 yX5_points wsX5_points) := goodIn_app (goodIn_of _ (by decide +kernel)) ggX5_score_X5_points
theorem dX5_score_0 : decode cX5_score 0 = .ok (.iconst 0, 1) := by decide +kernel
theorem dX5_score_1 : decode cX5_score 1 = .ok (.istore_n 2, 1) := by decide +kernel
theorem dX5_score_2 : decode cX5_score 2 = .ok (.iconst 0, 1) := by decide +kernel
theorem dX5_score_3 : decode cX5_score 3 = .ok (.istore_n 3, 1) := by decide +kernel
theorem dX5_score_4 : decode cX5_score 4 = .ok (.iload_n 3, 1) := by decide +kernel
theorem dX5_score_5 : decode cX5_score 5 = .ok (.bipush 10, 2) := by decide +kernel
theorem dX5_score_7 : decode cX5_score 7 = .ok (.if_icmp .ge 18, 3) := by decide +kernel
theorem dX5_score_10 : decode cX5_score 10 = .ok (.iload_n 2, 1) := by decide +kernel
theorem dX5_score_11 : decode cX5_score 11 = .ok (.aload_n 0, 1) := by decide +kernel
theorem dX5_score_12 : decode cX5_score 12 = .ok (.iload_n 1, 1) := by decide +kernel
theorem dX5_score_13 : decode cX5_score 13 = .ok (.iload_n 3, 1) := by decide +kernel
theorem dX5_score_14 : decode cX5_score 14 = .ok (.invokevirtual 131, 3) := by decide +kernel
theorem dX5_score_17 : decode cX5_score 17 = .ok (.iadd, 1) := by decide +kernel
theorem dX5_score_18 : decode cX5_score 18 = .ok (.istore_n 2, 1) := by decide +kernel
theorem dX5_score_19 : decode cX5_score 19 = .ok (.iinc 3 1, 3) := by decide +kernel
theorem dX5_score_22 : decode cX5_score 22 = .ok (.goto (-18), 3) := by decide +kernel
theorem dX5_score_25 : decode cX5_score 25 = .ok (.iload_n 2, 1) := by decide +kernel
theorem dX5_score_26 : decode cX5_score 26 = .ok (.ireturn, 1) := by decide +kernel
set_option maxRecDepth 20000 in
theorem ggX5_first_X5_score : GoodIn wsX5_first wsX5_score := goodIn_r _ [6, 7, 8, 9, 5, 10, 11, 12, 13, 14, 15, 16, 17, 18, 19, 20, 21, 22, 23, 24, 25, 26, 27, 28, 29, 30, 31, 32, 33, 34, 35, 36, 37, 38, 39, 40, 41, 42, 43] (by decide +kernel) (by decide +kernel)
set_option maxRecDepth 20000 in
theorem gX5_first_X5_score : GoodIn wsX5_first (wsV RX5 134 RX5 yX5_score wsX5_score) := goodIn_app (goodIn_of _ (by decide +kernel)) ggX5_first_X5_score
theorem dX5_first_0 : decode cX5_first 0 = .ok (.iconst (-1), 1) := by decide +kernel
theorem dX5_first_1 : decode cX5_first 1 = .ok (.istore_n 1, 1) := by decide +kernel
theorem dX5_first_2 : decode cX5_first 2 = .ok (.iconst 0, 1) := by decide +kernel
theorem dX5_first_3 : decode cX5_first 3 = .ok (.istore_n 2, 1) := by decide +kernel
theorem dX5_first_4 : decode cX5_first 4 = .ok (.iload_n 2, 1) := by decide +kernel
theorem dX5_first_5 : decode cX5_first 5 = .ok (.aload_n 0, 1) := by decide +kernel
theorem dX5_first_6 : decode cX5_first 6 = .ok (.getfield 48, 3) := by decide +kernel
theorem dX5_first_9 : decode cX5_first 9 = .ok (.if_icmp .ge 29, 3) := by decide +kernel
theorem dX5_first_12 : decode cX5_first 12 = .ok (.iload_n 1, 1) := by decide +kernel
theorem dX5_first_13 : decode cX5_first 13 = .ok (.iconst (-1), 1) := by decide +kernel
theorem dX5_first_14 : decode cX5_first 14 = .ok (.if_icmp .eq 16, 3) := by decide +kernel
theorem dX5_first_17 : decode cX5_first 17 = .ok (.aload_n 0, 1) := by decide +kernel
theorem dX5_first_18 : decode cX5_first 18 = .ok (.iload_n 2, 1) := by decide +kernel
theorem dX5_first_19 : decode cX5_first 19 = .ok (.invokevirtual 134, 3) := by decide +kernel
theorem dX5_first_22 : decode cX5_first 22 = .ok (.aload_n 0, 1) := by decide +kernel
theorem dX5_first_23 : decode cX5_first 23 = .ok (.iload_n 1, 1) := by decide +kernel
theorem dX5_first_24 : decode cX5_first 24 = .ok (.invokevirtual 134, 3) := by decide +kernel
theorem dX5_first_27 : decode cX5_first 27 = .ok (.if_icmp .le 5, 3) := by decide +kernel
theorem dX5_first_30 : decode cX5_first 30 = .ok (.iload_n 2, 1) := by decide +kernel
theorem dX5_first_31 : decode cX5_first 31 = .ok (.istore_n 1, 1) := by decide +kernel
theorem dX5_first_32 : decode cX5_first 32 = .ok (.iinc 2 1, 3) := by decide +kernel
theorem dX5_first_35 : decode cX5_first 35 = .ok (.goto (-31), 3) := by decide +kernel
theorem dX5_first_38 : decode cX5_first 38 = .ok (.iload_n 1, 1) := by decide +kernel
theorem dX5_first_39 : decode cX5_first 39 = .ok (.ireturn, 1) := by decide +kernel
set_option maxRecDepth 20000 in
theorem ggX5_newGame_X5_first : GoodIn wsX5_newGame wsX5_first := goodIn_r _ [15, 16, 17, 18, 19, 14, 20, 21, 22, 23, 24, 9, 8, 3, 7, 25, 26, 27, 28, 6, 29, 30, 31, 32, 33, 34, 35, 36, 37, 48, 49, 50, 51, 52, 53, 54, 55, 56, 57, 58, 59, 60, 61, 62] (by decide +kernel) (by decide +kernel)
set_option maxRecDepth 20000 in
theorem gX5_newGame_X5_first : GoodIn wsX5_newGame (wsV RX5 137 RX5 yX5_first wsX5_first) := goodIn_app (goodIn_of _ (by decide +kernel)) ggX5_newGame_X5_first
set_option maxRecDepth 20000 in
theorem ggX5_newGame_X5_putUp : GoodIn wsX5_newGame wsX5_putUp := goodIn_r _ [41, 42, 43, 44, 45, 14, 46, 47, 48, 49, 50, 51, 52, 53, 54, 55, 56, 57, 58, 59, 60, 61, 62] (by decide +kernel) (by decide +kernel)
set_option maxRecDepth 20000 in
theorem gX5_newGame_X5_putUp : GoodIn wsX5_newGame (wsV RX5 104 RX5 yX5_putUp wsX5_putUp) := goodIn_app (goodIn_of _ (by decide +kernel)) ggX5_newGame_X5_putUp
theorem dX5_newGame_0 : decode cX5_newGame 0 = .ok (.aload_n 0, 1) := by decide +kernel
theorem dX5_newGame_1 : decode cX5_newGame 1 = .ok (.iconst 0, 1) := by decide +kernel
theorem dX5_newGame_2 : decode cX5_newGame 2 = .ok (.putfield 41, 3) := by decide +kernel
theorem dX5_newGame_5 : decode cX5_newGame 5 = .ok (.aload_n 0, 1) := by decide +kernel
theorem dX5_newGame_6 : decode cX5_newGame 6 = .ok (.invokevirtual 137, 3) := by decide +kernel
theorem dX5_newGame_9 : decode cX5_newGame 9 = .ok (.istore_n 1, 1) := by decide +kernel
theorem dX5_newGame_10 : decode cX5_newGame 10 = .ok (.aload_n 0, 1) := by decide +kernel
theorem dX5_newGame_11 : decode cX5_newGame 11 = .ok (.invokevirtual 104, 3) := by decide +kernel
theorem dX5_newGame_14 : decode cX5_newGame 14 = .ok (.iconst 0, 1) := by decide +kernel
theorem dX5_newGame_15 : decode cX5_newGame 15 = .ok (.istore_n 2, 1) := by decide +kernel
theorem dX5_newGame_16 : decode cX5_newGame 16 = .ok (.iload_n 2, 1) := by decide +kernel
theorem dX5_newGame_17 : decode cX5_newGame 17 = .ok (.iconst 5, 1) := by decide +kernel
theorem dX5_newGame_18 : decode cX5_newGame 18 = .ok (.if_icmp .ge 16, 3) := by decide +kernel
theorem dX5_newGame_21 : decode cX5_newGame 21 = .ok (.aload_n 0, 1) := by decide +kernel
theorem dX5_newGame_22 : decode cX5_newGame 22 = .ok (.getfield 17, 3) := by decide +kernel
theorem dX5_newGame_25 : decode cX5_newGame 25 = .ok (.iload_n 2, 1) := by decide +kernel
theorem dX5_newGame_26 : decode cX5_newGame 26 = .ok (.iconst 0, 1) := by decide +kernel
theorem dX5_newGame_27 : decode cX5_newGame 27 = .ok (.iastore, 1) := by decide +kernel
theorem dX5_newGame_28 : decode cX5_newGame 28 = .ok (.iinc 2 1, 3) := by decide +kernel
theorem dX5_newGame_31 : decode cX5_newGame 31 = .ok (.goto (-15), 3) := by decide +kernel
theorem dX5_newGame_34 : decode cX5_newGame 34 = .ok (.iconst 0, 1) := by decide +kernel
theorem dX5_newGame_35 : decode cX5_newGame 35 = .ok (.istore_n 2, 1) := by decide +kernel
theorem dX5_newGame_36 : decode cX5_newGame 36 = .ok (.iload_n 2, 1) := by decide +kernel
theorem dX5_newGame_37 : decode cX5_newGame 37 = .ok (.iconst 4, 1) := by decide +kernel
theorem dX5_newGame_38 : decode cX5_newGame 38 = .ok (.if_icmp .ge 40, 3) := by decide +kernel
theorem dX5_newGame_41 : decode cX5_newGame 41 = .ok (.aload_n 0, 1) := by decide +kernel
theorem dX5_newGame_42 : decode cX5_newGame 42 = .ok (.getfield 23, 3) := by decide +kernel
theorem dX5_newGame_45 : decode cX5_newGame 45 = .ok (.iload_n 2, 1) := by decide +kernel
theorem dX5_newGame_46 : decode cX5_newGame 46 = .ok (.iconst 0, 1) := by decide +kernel
theorem dX5_newGame_47 : decode cX5_newGame 47 = .ok (.iastore, 1) := by decide +kernel
theorem dX5_newGame_48 : decode cX5_newGame 48 = .ok (.aload_n 0, 1) := by decide +kernel
theorem dX5_newGame_49 : decode cX5_newGame 49 = .ok (.getfield 32, 3) := by decide +kernel
theorem dX5_newGame_52 : decode cX5_newGame 52 = .ok (.iload_n 2, 1) := by decide +kernel
theorem dX5_newGame_53 : decode cX5_newGame 53 = .ok (.iconst 0, 1) := by decide +kernel
theorem dX5_newGame_54 : decode cX5_newGame 54 = .ok (.iastore, 1) := by decide +kernel
theorem dX5_newGame_55 : decode cX5_newGame 55 = .ok (.aload_n 0, 1) := by decide +kernel
theorem dX5_newGame_56 : decode cX5_newGame 56 = .ok (.getfield 35, 3) := by decide +kernel
theorem dX5_newGame_59 : decode cX5_newGame 59 = .ok (.iload_n 2, 1) := by decide +kernel
theorem dX5_newGame_60 : decode cX5_newGame 60 = .ok (.iconst 0, 1) := by decide +kernel
theorem dX5_newGame_61 : decode cX5_newGame 61 = .ok (.iastore, 1) := by decide +kernel
theorem dX5_newGame_62 : decode cX5_newGame 62 = .ok (.aload_n 0, 1) := by decide +kernel
theorem dX5_newGame_63 : decode cX5_newGame 63 = .ok (.getfield 29, 3) := by decide +kernel
theorem dX5_newGame_66 : decode cX5_newGame 66 = .ok (.bipush 11, 2) := by decide +kernel
theorem dX5_newGame_68 : decode cX5_newGame 68 = .ok (.iload_n 2, 1) := by decide +kernel
theorem dX5_newGame_69 : decode cX5_newGame 69 = .ok (.imul, 1) := by decide +kernel
theorem dX5_newGame_70 : decode cX5_newGame 70 = .ok (.iconst 0, 1) := by decide +kernel
theorem dX5_newGame_71 : decode cX5_newGame 71 = .ok (.iastore, 1) := by decide +kernel
theorem dX5_newGame_72 : decode cX5_newGame 72 = .ok (.iinc 2 1, 3) := by decide +kernel
theorem dX5_newGame_75 : decode cX5_newGame 75 = .ok (.goto (-39), 3) := by decide +kernel
theorem dX5_newGame_78 : decode cX5_newGame 78 = .ok (.iconst 0, 1) := by decide +kernel
theorem dX5_newGame_79 : decode cX5_newGame 79 = .ok (.istore_n 2, 1) := by decide +kernel
theorem dX5_newGame_80 : decode cX5_newGame 80 = .ok (.iload_n 2, 1) := by decide +kernel
theorem dX5_newGame_81 : decode cX5_newGame 81 = .ok (.aload_n 0, 1) := by decide +kernel
theorem dX5_newGame_82 : decode cX5_newGame 82 = .ok (.getfield 38, 3) := by decide +kernel
theorem dX5_newGame_85 : decode cX5_newGame 85 = .ok (.arraylength, 1) := by decide +kernel
theorem dX5_newGame_86 : decode cX5_newGame 86 = .ok (.if_icmp .ge 16, 3) := by decide +kernel
theorem dX5_newGame_89 : decode cX5_newGame 89 = .ok (.aload_n 0, 1) := by decide +kernel
theorem dX5_newGame_90 : decode cX5_newGame 90 = .ok (.getfield 38, 3) := by decide +kernel
theorem dX5_newGame_93 : decode cX5_newGame 93 = .ok (.iload_n 2, 1) := by decide +kernel
theorem dX5_newGame_94 : decode cX5_newGame 94 = .ok (.iconst 0, 1) := by decide +kernel
theorem dX5_newGame_95 : decode cX5_newGame 95 = .ok (.iastore, 1) := by decide +kernel
theorem dX5_newGame_96 : decode cX5_newGame 96 = .ok (.iinc 2 1, 3) := by decide +kernel
theorem dX5_newGame_99 : decode cX5_newGame 99 = .ok (.goto (-19), 3) := by decide +kernel
theorem dX5_newGame_102 : decode cX5_newGame 102 = .ok (.aload_n 0, 1) := by decide +kernel
theorem dX5_newGame_103 : decode cX5_newGame 103 = .ok (.iconst 0, 1) := by decide +kernel
theorem dX5_newGame_104 : decode cX5_newGame 104 = .ok (.putfield 88, 3) := by decide +kernel
theorem dX5_newGame_107 : decode cX5_newGame 107 = .ok (.aload_n 0, 1) := by decide +kernel
theorem dX5_newGame_108 : decode cX5_newGame 108 = .ok (.iconst 0, 1) := by decide +kernel
theorem dX5_newGame_109 : decode cX5_newGame 109 = .ok (.putfield 72, 3) := by decide +kernel
theorem dX5_newGame_112 : decode cX5_newGame 112 = .ok (.aload_n 0, 1) := by decide +kernel
theorem dX5_newGame_113 : decode cX5_newGame 113 = .ok (.iconst 0, 1) := by decide +kernel
theorem dX5_newGame_114 : decode cX5_newGame 114 = .ok (.putfield 97, 3) := by decide +kernel
theorem dX5_newGame_117 : decode cX5_newGame 117 = .ok (.iload_n 1, 1) := by decide +kernel
theorem dX5_newGame_118 : decode cX5_newGame 118 = .ok (.ireturn, 1) := by decide +kernel
set_option maxRecDepth 20000 in
theorem ggX5_isStanding_X5_isPin : GoodIn wsX5_isStanding wsX5_isPin := goodIn_r _ [6, 7, 8, 5, 9] (by decide +kernel) (by decide +kernel)
set_option maxRecDepth 20000 in
theorem gX5_isStanding_X5_isPin : GoodIn wsX5_isStanding (va_wsS RX5 128 yX5_isPin wsX5_isPin) := goodIn_app (goodIn_of _ (by decide +kernel)) ggX5_isStanding_X5_isPin
set_option maxRecDepth 20000 in
theorem ggX5_isStanding_X5_isNot : GoodIn wsX5_isStanding wsX5_isNot := goodIn_r _ [13, 1, 14, 15, 16, 17, 18, 19, 20, 21, 22, 23, 24, 25, 26, 27, 28] (by decide +kernel) (by decide +kernel)
set_option maxRecDepth 20000 in
theorem gX5_isStanding_X5_isNot : GoodIn wsX5_isStanding (wsV RX5 140 RX5 yX5_isNot wsX5_isNot) := goodIn_app (goodIn_of _ (by decide +kernel)) ggX5_isStanding_X5_isNot
theorem dX5_isStanding_0 : decode cX5_isStanding 0 = .ok (.aload_n 0, 1) := by decide +kernel
theorem dX5_isStanding_1 : decode cX5_isStanding 1 = .ok (.iconst 0, 1) := by decide +kernel
theorem dX5_isStanding_2 : decode cX5_isStanding 2 = .ok (.putfield 41, 3) := by decide +kernel
theorem dX5_isStanding_5 : decode cX5_isStanding 5 = .ok (.iload_n 1, 1) := by decide +kernel
theorem dX5_isStanding_6 : decode cX5_isStanding 6 = .ok (.invokestatic 128, 3) := by decide +kernel
theorem dX5_isStanding_9 : decode cX5_isStanding 9 = .ok (.ifCond .eq 23, 3) := by decide +kernel
theorem dX5_isStanding_12 : decode cX5_isStanding 12 = .ok (.aload_n 0, 1) := by decide +kernel
theorem dX5_isStanding_13 : decode cX5_isStanding 13 = .ok (.getfield 9, 3) := by decide +kernel
theorem dX5_isStanding_16 : decode cX5_isStanding 16 = .ok (.iload_n 1, 1) := by decide +kernel
theorem dX5_isStanding_17 : decode cX5_isStanding 17 = .ok (.ishr, 1) := by decide +kernel
theorem dX5_isStanding_18 : decode cX5_isStanding 18 = .ok (.iconst 1, 1) := by decide +kernel
theorem dX5_isStanding_19 : decode cX5_isStanding 19 = .ok (.iand, 1) := by decide +kernel
theorem dX5_isStanding_20 : decode cX5_isStanding 20 = .ok (.iconst 1, 1) := by decide +kernel
theorem dX5_isStanding_21 : decode cX5_isStanding 21 = .ok (.if_icmp .ne 7, 3) := by decide +kernel
theorem dX5_isStanding_24 : decode cX5_isStanding 24 = .ok (.iconst 1, 1) := by decide +kernel
theorem dX5_isStanding_25 : decode cX5_isStanding 25 = .ok (.goto 12, 3) := by decide +kernel
theorem dX5_isStanding_28 : decode cX5_isStanding 28 = .ok (.iconst 0, 1) := by decide +kernel
theorem dX5_isStanding_29 : decode cX5_isStanding 29 = .ok (.goto 8, 3) := by decide +kernel
theorem dX5_isStanding_32 : decode cX5_isStanding 32 = .ok (.aload_n 0, 1) := by decide +kernel
theorem dX5_isStanding_33 : decode cX5_isStanding 33 = .ok (.iconst 1, 1) := by decide +kernel
theorem dX5_isStanding_34 : decode cX5_isStanding 34 = .ok (.invokevirtual 140, 3) := by decide +kernel
theorem dX5_isStanding_37 : decode cX5_isStanding 37 = .ok (.ireturn, 1) := by decide +kernel
set_option maxRecDepth 20000 in
theorem ggX5_standing_J6_bitCount_0f7a4 : GoodIn wsX5_standing wsJ6_bitCount_0f7a4 := goodIn_r _ [5, 6, 7, 8] (by decide +kernel) (by decide +kernel)
set_option maxRecDepth 20000 in
theorem gX5_standing_J6_bitCount_0f7a4 : GoodIn wsX5_standing (va_wsS RX5 110 yJ6_bitCount_0f7a4 wsJ6_bitCount_0f7a4) := goodIn_app (goodIn_of _ (by decide +kernel)) ggX5_standing_J6_bitCount_0f7a4
set_option maxRecDepth 20000 in
theorem ggX5_standing_X5_ok : GoodIn wsX5_standing wsX5_ok := goodIn_r _ [13, 14, 15, 16, 17, 18, 19, 20, 21, 22, 23, 24, 25, 26, 27, 28, 29] (by decide +kernel) (by decide +kernel)
set_option maxRecDepth 20000 in
theorem gX5_standing_X5_ok : GoodIn wsX5_standing (wsV RX5 143 RX5 yX5_ok wsX5_ok) := goodIn_app (goodIn_of _ (by decide +kernel)) ggX5_standing_X5_ok
theorem dX5_standing_0 : decode cX5_standing 0 = .ok (.aload_n 0, 1) := by decide +kernel
theorem dX5_standing_1 : decode cX5_standing 1 = .ok (.aload_n 0, 1) := by decide +kernel
theorem dX5_standing_2 : decode cX5_standing 2 = .ok (.getfield 9, 3) := by decide +kernel
theorem dX5_standing_5 : decode cX5_standing 5 = .ok (.invokestatic 110, 3) := by decide +kernel
theorem dX5_standing_8 : decode cX5_standing 8 = .ok (.invokevirtual 143, 3) := by decide +kernel
theorem dX5_standing_11 : decode cX5_standing 11 = .ok (.ireturn, 1) := by decide +kernel
set_option maxRecDepth 20000 in
theorem ggX5_wearOf_X5_isPin : GoodIn wsX5_wearOf wsX5_isPin := goodIn_r _ [6, 7, 8, 5, 9] (by decide +kernel) (by decide +kernel)
set_option maxRecDepth 20000 in
theorem gX5_wearOf_X5_isPin : GoodIn wsX5_wearOf (va_wsS RX5 128 yX5_isPin wsX5_isPin) := goodIn_app (goodIn_of _ (by decide +kernel)) ggX5_wearOf_X5_isPin
set_option maxRecDepth 20000 in
theorem ggX5_wearOf_X5_no : GoodIn wsX5_wearOf wsX5_no := goodIn_r _ [13, 1, 14, 15, 16, 17, 18, 19, 20, 21, 22, 23, 24, 25, 26, 27, 28] (by decide +kernel) (by decide +kernel)
set_option maxRecDepth 20000 in
theorem gX5_wearOf_X5_no : GoodIn wsX5_wearOf (wsV RX5 79 RX5 yX5_no wsX5_no) := goodIn_app (goodIn_of _ (by decide +kernel)) ggX5_wearOf_X5_no
theorem dX5_wearOf_0 : decode cX5_wearOf 0 = .ok (.aload_n 0, 1) := by decide +kernel
theorem dX5_wearOf_1 : decode cX5_wearOf 1 = .ok (.iconst 0, 1) := by decide +kernel
theorem dX5_wearOf_2 : decode cX5_wearOf 2 = .ok (.putfield 41, 3) := by decide +kernel
theorem dX5_wearOf_5 : decode cX5_wearOf 5 = .ok (.iload_n 1, 1) := by decide +kernel
theorem dX5_wearOf_6 : decode cX5_wearOf 6 = .ok (.invokestatic 128, 3) := by decide +kernel
theorem dX5_wearOf_9 : decode cX5_wearOf 9 = .ok (.ifCond .eq 12, 3) := by decide +kernel
theorem dX5_wearOf_12 : decode cX5_wearOf 12 = .ok (.aload_n 0, 1) := by decide +kernel
theorem dX5_wearOf_13 : decode cX5_wearOf 13 = .ok (.getfield 13, 3) := by decide +kernel
theorem dX5_wearOf_16 : decode cX5_wearOf 16 = .ok (.iload_n 1, 1) := by decide +kernel
theorem dX5_wearOf_17 : decode cX5_wearOf 17 = .ok (.iaload, 1) := by decide +kernel
theorem dX5_wearOf_18 : decode cX5_wearOf 18 = .ok (.goto 8, 3) := by decide +kernel
theorem dX5_wearOf_21 : decode cX5_wearOf 21 = .ok (.aload_n 0, 1) := by decide +kernel
theorem dX5_wearOf_22 : decode cX5_wearOf 22 = .ok (.iconst 1, 1) := by decide +kernel
theorem dX5_wearOf_23 : decode cX5_wearOf 23 = .ok (.invokevirtual 79, 3) := by decide +kernel
theorem dX5_wearOf_26 : decode cX5_wearOf 26 = .ok (.ireturn, 1) := by decide +kernel
set_option maxRecDepth 20000 in
theorem ggX5_isBroken_X5_isPin : GoodIn wsX5_isBroken wsX5_isPin := goodIn_r _ [5, 6, 7, 4, 8] (by decide +kernel) (by decide +kernel)
set_option maxRecDepth 20000 in
theorem gX5_isBroken_X5_isPin : GoodIn wsX5_isBroken (va_wsS RX5 128 yX5_isPin wsX5_isPin) := goodIn_app (goodIn_of _ (by decide +kernel)) ggX5_isBroken_X5_isPin
set_option maxRecDepth 20000 in
theorem ggX5_isBroken_X5_broken : GoodIn wsX5_isBroken wsX5_broken := goodIn_r _ [12, 13, 18, 19, 20, 21, 22, 23, 24, 25, 26, 27, 28, 29, 30, 31, 32] (by decide +kernel) (by decide +kernel)
set_option maxRecDepth 20000 in
theorem gX5_isBroken_X5_broken : GoodIn wsX5_isBroken (wsV RX5 68 RX5 yX5_broken wsX5_broken) := goodIn_app (goodIn_of _ (by decide +kernel)) ggX5_isBroken_X5_broken
set_option maxRecDepth 20000 in
theorem ggX5_isBroken_X5_isNot : GoodIn wsX5_isBroken wsX5_isNot := goodIn_r _ [17, 1, 18, 19, 20, 21, 22, 23, 24, 25, 26, 27, 28, 29, 30, 31, 32] (by decide +kernel) (by decide +kernel)
set_option maxRecDepth 20000 in
theorem gX5_isBroken_X5_isNot : GoodIn wsX5_isBroken (wsV RX5 140 RX5 yX5_isNot wsX5_isNot) := goodIn_app (goodIn_of _ (by decide +kernel)) ggX5_isBroken_X5_isNot
theorem dX5_isBroken_0 : decode cX5_isBroken 0 = .ok (.aload_n 0, 1) := by decide +kernel
theorem dX5_isBroken_1 : decode cX5_isBroken 1 = .ok (.iconst 0, 1) := by decide +kernel
theorem dX5_isBroken_2 : decode cX5_isBroken 2 = .ok (.putfield 41, 3) := by decide +kernel
theorem dX5_isBroken_5 : decode cX5_isBroken 5 = .ok (.iload_n 1, 1) := by decide +kernel
theorem dX5_isBroken_6 : decode cX5_isBroken 6 = .ok (.invokestatic 128, 3) := by decide +kernel
theorem dX5_isBroken_9 : decode cX5_isBroken 9 = .ok (.ifCond .eq 11, 3) := by decide +kernel
theorem dX5_isBroken_12 : decode cX5_isBroken 12 = .ok (.aload_n 0, 1) := by decide +kernel
theorem dX5_isBroken_13 : decode cX5_isBroken 13 = .ok (.iload_n 1, 1) := by decide +kernel
theorem dX5_isBroken_14 : decode cX5_isBroken 14 = .ok (.invokevirtual 68, 3) := by decide +kernel
theorem dX5_isBroken_17 : decode cX5_isBroken 17 = .ok (.goto 8, 3) := by decide +kernel
theorem dX5_isBroken_20 : decode cX5_isBroken 20 = .ok (.aload_n 0, 1) := by decide +kernel
theorem dX5_isBroken_21 : decode cX5_isBroken 21 = .ok (.iconst 1, 1) := by decide +kernel
theorem dX5_isBroken_22 : decode cX5_isBroken 22 = .ok (.invokevirtual 140, 3) := by decide +kernel
theorem dX5_isBroken_25 : decode cX5_isBroken 25 = .ok (.ireturn, 1) := by decide +kernel
set_option maxRecDepth 20000 in
theorem ggX5_brokenNow_X5_broken : GoodIn wsX5_brokenNow wsX5_broken := goodIn_r _ [5, 6, 7, 8, 9, 10, 11, 12, 13, 14, 15, 16, 17, 18, 19, 20, 21] (by decide +kernel) (by decide +kernel)
set_option maxRecDepth 20000 in
theorem gX5_brokenNow_X5_broken : GoodIn wsX5_brokenNow (wsV RX5 68 RX5 yX5_broken wsX5_broken) := goodIn_app (goodIn_of _ (by decide +kernel)) ggX5_brokenNow_X5_broken
theorem dX5_brokenNow_0 : decode cX5_brokenNow 0 = .ok (.iconst 0, 1) := by decide +kernel
theorem dX5_brokenNow_1 : decode cX5_brokenNow 1 = .ok (.istore_n 1, 1) := by decide +kernel
theorem dX5_brokenNow_2 : decode cX5_brokenNow 2 = .ok (.iconst 0, 1) := by decide +kernel
theorem dX5_brokenNow_3 : decode cX5_brokenNow 3 = .ok (.istore_n 2, 1) := by decide +kernel
theorem dX5_brokenNow_4 : decode cX5_brokenNow 4 = .ok (.iload_n 2, 1) := by decide +kernel
theorem dX5_brokenNow_5 : decode cX5_brokenNow 5 = .ok (.bipush 9, 2) := by decide +kernel
theorem dX5_brokenNow_7 : decode cX5_brokenNow 7 = .ok (.if_icmp .ge 25, 3) := by decide +kernel
theorem dX5_brokenNow_10 : decode cX5_brokenNow 10 = .ok (.iload_n 1, 1) := by decide +kernel
theorem dX5_brokenNow_11 : decode cX5_brokenNow 11 = .ok (.aload_n 0, 1) := by decide +kernel
theorem dX5_brokenNow_12 : decode cX5_brokenNow 12 = .ok (.iload_n 2, 1) := by decide +kernel
theorem dX5_brokenNow_13 : decode cX5_brokenNow 13 = .ok (.invokevirtual 68, 3) := by decide +kernel
theorem dX5_brokenNow_16 : decode cX5_brokenNow 16 = .ok (.ifCond .eq 7, 3) := by decide +kernel
theorem dX5_brokenNow_19 : decode cX5_brokenNow 19 = .ok (.iconst 1, 1) := by decide +kernel
theorem dX5_brokenNow_20 : decode cX5_brokenNow 20 = .ok (.goto 4, 3) := by decide +kernel
theorem dX5_brokenNow_23 : decode cX5_brokenNow 23 = .ok (.iconst 0, 1) := by decide +kernel
theorem dX5_brokenNow_24 : decode cX5_brokenNow 24 = .ok (.iadd, 1) := by decide +kernel
theorem dX5_brokenNow_25 : decode cX5_brokenNow 25 = .ok (.istore_n 1, 1) := by decide +kernel
theorem dX5_brokenNow_26 : decode cX5_brokenNow 26 = .ok (.iinc 2 1, 3) := by decide +kernel
theorem dX5_brokenNow_29 : decode cX5_brokenNow 29 = .ok (.goto (-25), 3) := by decide +kernel
theorem dX5_brokenNow_32 : decode cX5_brokenNow 32 = .ok (.iload_n 1, 1) := by decide +kernel
theorem dX5_brokenNow_33 : decode cX5_brokenNow 33 = .ok (.ireturn, 1) := by decide +kernel
set_option maxRecDepth 20000 in
theorem ggX5_brokenStrings_X5_brokenNow : GoodIn wsX5_brokenStrings wsX5_brokenNow := goodIn_r _ [5, 6, 7, 8, 4, 9, 10, 16, 17, 18, 19, 20, 21, 22, 23, 24, 25, 26, 27, 28, 29, 30] (by decide +kernel) (by decide +kernel)
set_option maxRecDepth 20000 in
theorem gX5_brokenStrings_X5_brokenNow : GoodIn wsX5_brokenStrings (wsV RX5 146 RX5 yX5_brokenNow wsX5_brokenNow) := goodIn_app (goodIn_of _ (by decide +kernel)) ggX5_brokenStrings_X5_brokenNow
set_option maxRecDepth 20000 in
theorem ggX5_brokenStrings_X5_ok : GoodIn wsX5_brokenStrings wsX5_ok := goodIn_r _ [14, 15, 16, 17, 18, 19, 20, 21, 22, 23, 24, 25, 26, 27, 28, 29, 30] (by decide +kernel) (by decide +kernel)
set_option maxRecDepth 20000 in
theorem gX5_brokenStrings_X5_ok : GoodIn wsX5_brokenStrings (wsV RX5 143 RX5 yX5_ok wsX5_ok) := goodIn_app (goodIn_of _ (by decide +kernel)) ggX5_brokenStrings_X5_ok
theorem dX5_brokenStrings_0 : decode cX5_brokenStrings 0 = .ok (.aload_n 0, 1) := by decide +kernel
theorem dX5_brokenStrings_1 : decode cX5_brokenStrings 1 = .ok (.aload_n 0, 1) := by decide +kernel
theorem dX5_brokenStrings_2 : decode cX5_brokenStrings 2 = .ok (.invokevirtual 146, 3) := by decide +kernel
theorem dX5_brokenStrings_5 : decode cX5_brokenStrings 5 = .ok (.invokevirtual 143, 3) := by decide +kernel
theorem dX5_brokenStrings_8 : decode cX5_brokenStrings 8 = .ok (.ireturn, 1) := by decide +kernel
set_option maxRecDepth 20000 in
theorem ggX5_mostWorn_X5_broken : GoodIn wsX5_mostWorn wsX5_broken := goodIn_r _ [7, 2, 8, 9, 10, 11, 12, 13, 14, 15, 16, 17, 18, 19, 20, 21, 22] (by decide +kernel) (by decide +kernel)
set_option maxRecDepth 20000 in
theorem gX5_mostWorn_X5_broken : GoodIn wsX5_mostWorn (wsV RX5 68 RX5 yX5_broken wsX5_broken) := goodIn_app (goodIn_of _ (by decide +kernel)) ggX5_mostWorn_X5_broken
theorem dX5_mostWorn_0 : decode cX5_mostWorn 0 = .ok (.aload_n 0, 1) := by decide +kernel
theorem dX5_mostWorn_1 : decode cX5_mostWorn 1 = .ok (.iconst 0, 1) := by decide +kernel
theorem dX5_mostWorn_2 : decode cX5_mostWorn 2 = .ok (.putfield 41, 3) := by decide +kernel
theorem dX5_mostWorn_5 : decode cX5_mostWorn 5 = .ok (.iconst (-1), 1) := by decide +kernel
theorem dX5_mostWorn_6 : decode cX5_mostWorn 6 = .ok (.istore_n 1, 1) := by decide +kernel
theorem dX5_mostWorn_7 : decode cX5_mostWorn 7 = .ok (.iconst 0, 1) := by decide +kernel
theorem dX5_mostWorn_8 : decode cX5_mostWorn 8 = .ok (.istore_n 2, 1) := by decide +kernel
theorem dX5_mostWorn_9 : decode cX5_mostWorn 9 = .ok (.iload_n 2, 1) := by decide +kernel
theorem dX5_mostWorn_10 : decode cX5_mostWorn 10 = .ok (.bipush 9, 2) := by decide +kernel
theorem dX5_mostWorn_12 : decode cX5_mostWorn 12 = .ok (.if_icmp .ge 39, 3) := by decide +kernel
theorem dX5_mostWorn_15 : decode cX5_mostWorn 15 = .ok (.aload_n 0, 1) := by decide +kernel
theorem dX5_mostWorn_16 : decode cX5_mostWorn 16 = .ok (.iload_n 2, 1) := by decide +kernel
theorem dX5_mostWorn_17 : decode cX5_mostWorn 17 = .ok (.invokevirtual 68, 3) := by decide +kernel
theorem dX5_mostWorn_20 : decode cX5_mostWorn 20 = .ok (.ifCond .ne 25, 3) := by decide +kernel
theorem dX5_mostWorn_23 : decode cX5_mostWorn 23 = .ok (.iload_n 1, 1) := by decide +kernel
theorem dX5_mostWorn_24 : decode cX5_mostWorn 24 = .ok (.iconst (-1), 1) := by decide +kernel
theorem dX5_mostWorn_25 : decode cX5_mostWorn 25 = .ok (.if_icmp .eq 18, 3) := by decide +kernel
theorem dX5_mostWorn_28 : decode cX5_mostWorn 28 = .ok (.aload_n 0, 1) := by decide +kernel
theorem dX5_mostWorn_29 : decode cX5_mostWorn 29 = .ok (.getfield 13, 3) := by decide +kernel
theorem dX5_mostWorn_32 : decode cX5_mostWorn 32 = .ok (.iload_n 2, 1) := by decide +kernel
theorem dX5_mostWorn_33 : decode cX5_mostWorn 33 = .ok (.iaload, 1) := by decide +kernel
theorem dX5_mostWorn_34 : decode cX5_mostWorn 34 = .ok (.aload_n 0, 1) := by decide +kernel
theorem dX5_mostWorn_35 : decode cX5_mostWorn 35 = .ok (.getfield 13, 3) := by decide +kernel
theorem dX5_mostWorn_38 : decode cX5_mostWorn 38 = .ok (.iload_n 1, 1) := by decide +kernel
theorem dX5_mostWorn_39 : decode cX5_mostWorn 39 = .ok (.iaload, 1) := by decide +kernel
theorem dX5_mostWorn_40 : decode cX5_mostWorn 40 = .ok (.if_icmp .le 5, 3) := by decide +kernel
theorem dX5_mostWorn_43 : decode cX5_mostWorn 43 = .ok (.iload_n 2, 1) := by decide +kernel
theorem dX5_mostWorn_44 : decode cX5_mostWorn 44 = .ok (.istore_n 1, 1) := by decide +kernel
theorem dX5_mostWorn_45 : decode cX5_mostWorn 45 = .ok (.iinc 2 1, 3) := by decide +kernel
theorem dX5_mostWorn_48 : decode cX5_mostWorn 48 = .ok (.goto (-39), 3) := by decide +kernel
theorem dX5_mostWorn_51 : decode cX5_mostWorn 51 = .ok (.iload_n 1, 1) := by decide +kernel
theorem dX5_mostWorn_52 : decode cX5_mostWorn 52 = .ok (.ireturn, 1) := by decide +kernel
set_option maxRecDepth 20000 in
theorem ggX5_spareStrings_X5_ok : GoodIn wsX5_spareStrings wsX5_ok := goodIn_r _ [6, 7, 8, 9, 10, 11, 12, 13, 14, 15, 16, 17, 18, 19, 20, 21, 22] (by decide +kernel) (by decide +kernel)
set_option maxRecDepth 20000 in
theorem gX5_spareStrings_X5_ok : GoodIn wsX5_spareStrings (wsV RX5 143 RX5 yX5_ok wsX5_ok) := goodIn_app (goodIn_of _ (by decide +kernel)) ggX5_spareStrings_X5_ok
theorem dX5_spareStrings_0 : decode cX5_spareStrings 0 = .ok (.aload_n 0, 1) := by decide +kernel
theorem dX5_spareStrings_1 : decode cX5_spareStrings 1 = .ok (.aload_n 0, 1) := by decide +kernel
theorem dX5_spareStrings_2 : decode cX5_spareStrings 2 = .ok (.getfield 20, 3) := by decide +kernel
theorem dX5_spareStrings_5 : decode cX5_spareStrings 5 = .ok (.invokevirtual 143, 3) := by decide +kernel
theorem dX5_spareStrings_8 : decode cX5_spareStrings 8 = .ok (.ireturn, 1) := by decide +kernel
set_option maxRecDepth 20000 in
theorem ggX5_awayFor_X5_isIn : GoodIn wsX5_awayFor wsX5_isIn := goodIn_r _ [6] (by decide +kernel) (by decide +kernel)
set_option maxRecDepth 20000 in
theorem gX5_awayFor_X5_isIn : GoodIn wsX5_awayFor (va_wsS RX5 44 yX5_isIn wsX5_isIn) := goodIn_app (goodIn_of _ (by decide +kernel)) ggX5_awayFor_X5_isIn
set_option maxRecDepth 20000 in
theorem ggX5_awayFor_X5_no : GoodIn wsX5_awayFor wsX5_no := goodIn_r _ [10, 1, 11, 12, 13, 14, 15, 16, 17, 18, 19, 20, 21, 22, 23, 24, 25] (by decide +kernel) (by decide +kernel)
set_option maxRecDepth 20000 in
theorem gX5_awayFor_X5_no : GoodIn wsX5_awayFor (wsV RX5 79 RX5 yX5_no wsX5_no) := goodIn_app (goodIn_of _ (by decide +kernel)) ggX5_awayFor_X5_no
theorem dX5_awayFor_0 : decode cX5_awayFor 0 = .ok (.aload_n 0, 1) := by decide +kernel
theorem dX5_awayFor_1 : decode cX5_awayFor 1 = .ok (.iconst 0, 1) := by decide +kernel
theorem dX5_awayFor_2 : decode cX5_awayFor 2 = .ok (.putfield 41, 3) := by decide +kernel
theorem dX5_awayFor_5 : decode cX5_awayFor 5 = .ok (.iload_n 1, 1) := by decide +kernel
theorem dX5_awayFor_6 : decode cX5_awayFor 6 = .ok (.iconst 0, 1) := by decide +kernel
theorem dX5_awayFor_7 : decode cX5_awayFor 7 = .ok (.iconst 4, 1) := by decide +kernel
theorem dX5_awayFor_8 : decode cX5_awayFor 8 = .ok (.invokestatic 44, 3) := by decide +kernel
theorem dX5_awayFor_11 : decode cX5_awayFor 11 = .ok (.ifCond .eq 12, 3) := by decide +kernel
theorem dX5_awayFor_14 : decode cX5_awayFor 14 = .ok (.aload_n 0, 1) := by decide +kernel
theorem dX5_awayFor_15 : decode cX5_awayFor 15 = .ok (.getfield 17, 3) := by decide +kernel
theorem dX5_awayFor_18 : decode cX5_awayFor 18 = .ok (.iload_n 1, 1) := by decide +kernel
theorem dX5_awayFor_19 : decode cX5_awayFor 19 = .ok (.iaload, 1) := by decide +kernel
theorem dX5_awayFor_20 : decode cX5_awayFor 20 = .ok (.goto 8, 3) := by decide +kernel
theorem dX5_awayFor_23 : decode cX5_awayFor 23 = .ok (.aload_n 0, 1) := by decide +kernel
theorem dX5_awayFor_24 : decode cX5_awayFor 24 = .ok (.iconst 1, 1) := by decide +kernel
theorem dX5_awayFor_25 : decode cX5_awayFor 25 = .ok (.invokevirtual 79, 3) := by decide +kernel
theorem dX5_awayFor_28 : decode cX5_awayFor 28 = .ok (.ireturn, 1) := by decide +kernel
set_option maxRecDepth 20000 in
theorem ggX5_players_X5_ok : GoodIn wsX5_players wsX5_ok := goodIn_r _ [6, 7, 8, 9, 10, 11, 12, 13, 14, 15, 16, 17, 18, 19, 20, 21, 22] (by decide +kernel) (by decide +kernel)
set_option maxRecDepth 20000 in
theorem gX5_players_X5_ok : GoodIn wsX5_players (wsV RX5 143 RX5 yX5_ok wsX5_ok) := goodIn_app (goodIn_of _ (by decide +kernel)) ggX5_players_X5_ok
theorem dX5_players_0 : decode cX5_players 0 = .ok (.aload_n 0, 1) := by decide +kernel
theorem dX5_players_1 : decode cX5_players 1 = .ok (.aload_n 0, 1) := by decide +kernel
theorem dX5_players_2 : decode cX5_players 2 = .ok (.getfield 48, 3) := by decide +kernel
theorem dX5_players_5 : decode cX5_players 5 = .ok (.invokevirtual 143, 3) := by decide +kernel
theorem dX5_players_8 : decode cX5_players 8 = .ok (.ireturn, 1) := by decide +kernel
set_option maxRecDepth 20000 in
theorem ggX5_turnNow_X5_over : GoodIn wsX5_turnNow wsX5_over := goodIn_r _ [7, 8, 9, 10, 11, 12, 13, 14, 15, 16, 17, 18, 19, 20, 21, 22, 23] (by decide +kernel) (by decide +kernel)
set_option maxRecDepth 20000 in
theorem gX5_turnNow_X5_over : GoodIn wsX5_turnNow (wsV RX5 100 RX5 yX5_over wsX5_over) := goodIn_app (goodIn_of _ (by decide +kernel)) ggX5_turnNow_X5_over
theorem dX5_turnNow_0 : decode cX5_turnNow 0 = .ok (.aload_n 0, 1) := by decide +kernel
theorem dX5_turnNow_1 : decode cX5_turnNow 1 = .ok (.getfield 48, 3) := by decide +kernel
theorem dX5_turnNow_4 : decode cX5_turnNow 4 = .ok (.ifCond .eq 10, 3) := by decide +kernel
theorem dX5_turnNow_7 : decode cX5_turnNow 7 = .ok (.aload_n 0, 1) := by decide +kernel
theorem dX5_turnNow_8 : decode cX5_turnNow 8 = .ok (.invokevirtual 100, 3) := by decide +kernel
theorem dX5_turnNow_11 : decode cX5_turnNow 11 = .ok (.ifCond .eq 7, 3) := by decide +kernel
theorem dX5_turnNow_14 : decode cX5_turnNow 14 = .ok (.iconst (-1), 1) := by decide +kernel
theorem dX5_turnNow_15 : decode cX5_turnNow 15 = .ok (.goto 7, 3) := by decide +kernel
theorem dX5_turnNow_18 : decode cX5_turnNow 18 = .ok (.aload_n 0, 1) := by decide +kernel
theorem dX5_turnNow_19 : decode cX5_turnNow 19 = .ok (.getfield 88, 3) := by decide +kernel
theorem dX5_turnNow_22 : decode cX5_turnNow 22 = .ok (.ireturn, 1) := by decide +kernel
set_option maxRecDepth 20000 in
theorem ggX5_playerInTurn_X5_turnNow : GoodIn wsX5_playerInTurn wsX5_turnNow := goodIn_r _ [5, 6, 7, 8, 9, 10, 4, 11, 12, 18, 19, 20, 21, 22, 23, 24, 25, 26, 27, 28, 29, 30, 31, 32] (by decide +kernel) (by decide +kernel)
set_option maxRecDepth 20000 in
theorem gX5_playerInTurn_X5_turnNow : GoodIn wsX5_playerInTurn (wsV RX5 149 RX5 yX5_turnNow wsX5_turnNow) := goodIn_app (goodIn_of _ (by decide +kernel)) ggX5_playerInTurn_X5_turnNow
set_option maxRecDepth 20000 in
theorem ggX5_playerInTurn_X5_ok : GoodIn wsX5_playerInTurn wsX5_ok := goodIn_r _ [16, 17, 18, 19, 20, 21, 22, 23, 24, 25, 26, 27, 28, 29, 30, 31, 32] (by decide +kernel) (by decide +kernel)
set_option maxRecDepth 20000 in
theorem gX5_playerInTurn_X5_ok : GoodIn wsX5_playerInTurn (wsV RX5 143 RX5 yX5_ok wsX5_ok) := goodIn_app (goodIn_of _ (by decide +kernel)) ggX5_playerInTurn_X5_ok
theorem dX5_playerInTurn_0 : decode cX5_playerInTurn 0 = .ok (.aload_n 0, 1) := by decide +kernel
theorem dX5_playerInTurn_1 : decode cX5_playerInTurn 1 = .ok (.aload_n 0, 1) := by decide +kernel
theorem dX5_playerInTurn_2 : decode cX5_playerInTurn 2 = .ok (.invokevirtual 149, 3) := by decide +kernel
theorem dX5_playerInTurn_5 : decode cX5_playerInTurn 5 = .ok (.invokevirtual 143, 3) := by decide +kernel
theorem dX5_playerInTurn_8 : decode cX5_playerInTurn 8 = .ok (.ireturn, 1) := by decide +kernel
set_option maxRecDepth 20000 in
theorem ggX5_frame_X5_ok : GoodIn wsX5_frame wsX5_ok := goodIn_r _ [6, 7, 8, 9, 10, 11, 12, 13, 14, 15, 16, 17, 18, 19, 20, 21, 22] (by decide +kernel) (by decide +kernel)
set_option maxRecDepth 20000 in
theorem gX5_frame_X5_ok : GoodIn wsX5_frame (wsV RX5 143 RX5 yX5_ok wsX5_ok) := goodIn_app (goodIn_of _ (by decide +kernel)) ggX5_frame_X5_ok
theorem dX5_frame_0 : decode cX5_frame 0 = .ok (.aload_n 0, 1) := by decide +kernel
theorem dX5_frame_1 : decode cX5_frame 1 = .ok (.aload_n 0, 1) := by decide +kernel
theorem dX5_frame_2 : decode cX5_frame 2 = .ok (.getfield 72, 3) := by decide +kernel
theorem dX5_frame_5 : decode cX5_frame 5 = .ok (.invokevirtual 143, 3) := by decide +kernel
theorem dX5_frame_8 : decode cX5_frame 8 = .ok (.ireturn, 1) := by decide +kernel
set_option maxRecDepth 20000 in
theorem ggX5_throwsInFrame_X5_ok : GoodIn wsX5_throwsInFrame wsX5_ok := goodIn_r _ [6, 7, 8, 9, 10, 11, 12, 13, 14, 15, 16, 17, 18, 19, 20, 21, 22] (by decide +kernel) (by decide +kernel)
set_option maxRecDepth 20000 in
theorem gX5_throwsInFrame_X5_ok : GoodIn wsX5_throwsInFrame (wsV RX5 143 RX5 yX5_ok wsX5_ok) := goodIn_app (goodIn_of _ (by decide +kernel)) ggX5_throwsInFrame_X5_ok
theorem dX5_throwsInFrame_0 : decode cX5_throwsInFrame 0 = .ok (.aload_n 0, 1) := by decide +kernel
theorem dX5_throwsInFrame_1 : decode cX5_throwsInFrame 1 = .ok (.aload_n 0, 1) := by decide +kernel
theorem dX5_throwsInFrame_2 : decode cX5_throwsInFrame 2 = .ok (.getfield 97, 3) := by decide +kernel
theorem dX5_throwsInFrame_5 : decode cX5_throwsInFrame 5 = .ok (.invokevirtual 143, 3) := by decide +kernel
theorem dX5_throwsInFrame_8 : decode cX5_throwsInFrame 8 = .ok (.ireturn, 1) := by decide +kernel
set_option maxRecDepth 20000 in
theorem ggX5_isOver_X5_over : GoodIn wsX5_isOver wsX5_over := goodIn_r _ [6, 7, 8, 9, 10, 11, 12, 13, 14, 15, 16, 17, 18, 19, 20, 21, 22] (by decide +kernel) (by decide +kernel)
set_option maxRecDepth 20000 in
theorem gX5_isOver_X5_over : GoodIn wsX5_isOver (wsV RX5 100 RX5 yX5_over wsX5_over) := goodIn_app (goodIn_of _ (by decide +kernel)) ggX5_isOver_X5_over
theorem dX5_isOver_0 : decode cX5_isOver 0 = .ok (.aload_n 0, 1) := by decide +kernel
theorem dX5_isOver_1 : decode cX5_isOver 1 = .ok (.iconst 0, 1) := by decide +kernel
theorem dX5_isOver_2 : decode cX5_isOver 2 = .ok (.putfield 41, 3) := by decide +kernel
theorem dX5_isOver_5 : decode cX5_isOver 5 = .ok (.aload_n 0, 1) := by decide +kernel
theorem dX5_isOver_6 : decode cX5_isOver 6 = .ok (.invokevirtual 100, 3) := by decide +kernel
theorem dX5_isOver_9 : decode cX5_isOver 9 = .ok (.ireturn, 1) := by decide +kernel
set_option maxRecDepth 20000 in
theorem ggX5_of_X5_isPlayer : GoodIn wsX5_of wsX5_isPlayer := goodIn_r _ [6, 7, 8, 9, 5, 10, 15, 16, 17, 18, 19, 20, 21, 22, 23, 24, 25, 26, 27, 28, 29] (by decide +kernel) (by decide +kernel)
set_option maxRecDepth 20000 in
theorem gX5_of_X5_isPlayer : GoodIn wsX5_of (wsV RX5 152 RX5 yX5_isPlayer wsX5_isPlayer) := goodIn_app (goodIn_of _ (by decide +kernel)) ggX5_of_X5_isPlayer
set_option maxRecDepth 20000 in
theorem ggX5_of_X5_no : GoodIn wsX5_of wsX5_no := goodIn_r _ [14, 1, 15, 16, 17, 18, 19, 20, 21, 22, 23, 24, 25, 26, 27, 28, 29] (by decide +kernel) (by decide +kernel)
set_option maxRecDepth 20000 in
theorem gX5_of_X5_no : GoodIn wsX5_of (wsV RX5 79 RX5 yX5_no wsX5_no) := goodIn_app (goodIn_of _ (by decide +kernel)) ggX5_of_X5_no
theorem dX5_of_0 : decode cX5_of 0 = .ok (.aload_n 0, 1) := by decide +kernel
theorem dX5_of_1 : decode cX5_of 1 = .ok (.iconst 0, 1) := by decide +kernel
theorem dX5_of_2 : decode cX5_of 2 = .ok (.putfield 41, 3) := by decide +kernel
theorem dX5_of_5 : decode cX5_of 5 = .ok (.aload_n 0, 1) := by decide +kernel
theorem dX5_of_6 : decode cX5_of 6 = .ok (.iload_n 1, 1) := by decide +kernel
theorem dX5_of_7 : decode cX5_of 7 = .ok (.invokevirtual 152, 3) := by decide +kernel
theorem dX5_of_10 : decode cX5_of 10 = .ok (.ifCond .eq 9, 3) := by decide +kernel
theorem dX5_of_13 : decode cX5_of 13 = .ok (.aload_n 2, 1) := by decide +kernel
theorem dX5_of_14 : decode cX5_of 14 = .ok (.iload_n 1, 1) := by decide +kernel
theorem dX5_of_15 : decode cX5_of 15 = .ok (.iaload, 1) := by decide +kernel
theorem dX5_of_16 : decode cX5_of 16 = .ok (.goto 8, 3) := by decide +kernel
theorem dX5_of_19 : decode cX5_of 19 = .ok (.aload_n 0, 1) := by decide +kernel
theorem dX5_of_20 : decode cX5_of 20 = .ok (.iconst 1, 1) := by decide +kernel
theorem dX5_of_21 : decode cX5_of 21 = .ok (.invokevirtual 79, 3) := by decide +kernel
theorem dX5_of_24 : decode cX5_of 24 = .ok (.ireturn, 1) := by decide +kernel
set_option maxRecDepth 20000 in
theorem ggX5_throwsOf_X5_of : GoodIn wsX5_throwsOf wsX5_of := goodIn_r _ [6, 7, 8, 9, 10, 5, 11, 12, 13, 14, 15, 16, 17, 18, 19, 20, 21, 22, 23, 24, 25, 26, 27, 28, 29, 30, 31, 32, 33, 34] (by decide +kernel) (by decide +kernel)
set_option maxRecDepth 20000 in
theorem gX5_throwsOf_X5_of : GoodIn wsX5_throwsOf (wsV RX5 155 RX5 yX5_of wsX5_of) := goodIn_app (goodIn_of _ (by decide +kernel)) ggX5_throwsOf_X5_of
theorem dX5_throwsOf_0 : decode cX5_throwsOf 0 = .ok (.aload_n 0, 1) := by decide +kernel
theorem dX5_throwsOf_1 : decode cX5_throwsOf 1 = .ok (.iload_n 1, 1) := by decide +kernel
theorem dX5_throwsOf_2 : decode cX5_throwsOf 2 = .ok (.aload_n 0, 1) := by decide +kernel
theorem dX5_throwsOf_3 : decode cX5_throwsOf 3 = .ok (.getfield 23, 3) := by decide +kernel
theorem dX5_throwsOf_6 : decode cX5_throwsOf 6 = .ok (.invokevirtual 155, 3) := by decide +kernel
theorem dX5_throwsOf_9 : decode cX5_throwsOf 9 = .ok (.ireturn, 1) := by decide +kernel
set_option maxRecDepth 20000 in
theorem ggX5_scoreOf_X5_isPlayer : GoodIn wsX5_scoreOf wsX5_isPlayer := goodIn_r _ [6, 7, 8, 9, 5, 10, 41, 42, 43, 44, 45, 46, 47, 48, 49, 50, 51, 52, 53, 54, 55] (by decide +kernel) (by decide +kernel)
set_option maxRecDepth 20000 in
theorem gX5_scoreOf_X5_isPlayer : GoodIn wsX5_scoreOf (wsV RX5 152 RX5 yX5_isPlayer wsX5_isPlayer) := goodIn_app (goodIn_of _ (by decide +kernel)) ggX5_scoreOf_X5_isPlayer
set_option maxRecDepth 20000 in
theorem ggX5_scoreOf_X5_score : GoodIn wsX5_scoreOf wsX5_score := goodIn_r _ [14, 15, 16, 17, 5, 18, 19, 20, 21, 22, 23, 24, 25, 26, 27, 28, 29, 30, 31, 32, 33, 34, 35, 36, 41, 42, 43, 44, 45, 46, 47, 48, 49, 50, 51, 52, 53, 54, 55] (by decide +kernel) (by decide +kernel)
set_option maxRecDepth 20000 in
theorem gX5_scoreOf_X5_score : GoodIn wsX5_scoreOf (wsV RX5 134 RX5 yX5_score wsX5_score) := goodIn_app (goodIn_of _ (by decide +kernel)) ggX5_scoreOf_X5_score
set_option maxRecDepth 20000 in
theorem ggX5_scoreOf_X5_no : GoodIn wsX5_scoreOf wsX5_no := goodIn_r _ [40, 1, 41, 42, 43, 44, 45, 46, 47, 48, 49, 50, 51, 52, 53, 54, 55] (by decide +kernel) (by decide +kernel)
set_option maxRecDepth 20000 in
theorem gX5_scoreOf_X5_no : GoodIn wsX5_scoreOf (wsV RX5 79 RX5 yX5_no wsX5_no) := goodIn_app (goodIn_of _ (by decide +kernel)) ggX5_scoreOf_X5_no
theorem dX5_scoreOf_0 : decode cX5_scoreOf 0 = .ok (.aload_n 0, 1) := by decide +kernel
theorem dX5_scoreOf_1 : decode cX5_scoreOf 1 = .ok (.iconst 0, 1) := by decide +kernel
theorem dX5_scoreOf_2 : decode cX5_scoreOf 2 = .ok (.putfield 41, 3) := by decide +kernel
theorem dX5_scoreOf_5 : decode cX5_scoreOf 5 = .ok (.aload_n 0, 1) := by decide +kernel
theorem dX5_scoreOf_6 : decode cX5_scoreOf 6 = .ok (.iload_n 1, 1) := by decide +kernel
theorem dX5_scoreOf_7 : decode cX5_scoreOf 7 = .ok (.invokevirtual 152, 3) := by decide +kernel
theorem dX5_scoreOf_10 : decode cX5_scoreOf 10 = .ok (.ifCond .eq 11, 3) := by decide +kernel
theorem dX5_scoreOf_13 : decode cX5_scoreOf 13 = .ok (.aload_n 0, 1) := by decide +kernel
theorem dX5_scoreOf_14 : decode cX5_scoreOf 14 = .ok (.iload_n 1, 1) := by decide +kernel
theorem dX5_scoreOf_15 : decode cX5_scoreOf 15 = .ok (.invokevirtual 134, 3) := by decide +kernel
theorem dX5_scoreOf_18 : decode cX5_scoreOf 18 = .ok (.goto 8, 3) := by decide +kernel
theorem dX5_scoreOf_21 : decode cX5_scoreOf 21 = .ok (.aload_n 0, 1) := by decide +kernel
theorem dX5_scoreOf_22 : decode cX5_scoreOf 22 = .ok (.iconst 1, 1) := by decide +kernel
theorem dX5_scoreOf_23 : decode cX5_scoreOf 23 = .ok (.invokevirtual 79, 3) := by decide +kernel
theorem dX5_scoreOf_26 : decode cX5_scoreOf 26 = .ok (.ireturn, 1) := by decide +kernel
set_option maxRecDepth 20000 in
theorem ggX5_pointsOf_X5_isPlayer : GoodIn wsX5_pointsOf wsX5_isPlayer := goodIn_r _ [6, 7, 8, 9, 5, 10, 37, 38, 39, 40, 41, 42, 43, 44, 45, 46, 47, 48, 49, 50, 51] (by decide +kernel) (by decide +kernel)
set_option maxRecDepth 20000 in
theorem gX5_pointsOf_X5_isPlayer : GoodIn wsX5_pointsOf (wsV RX5 152 RX5 yX5_isPlayer wsX5_isPlayer) := goodIn_app (goodIn_of _ (by decide +kernel)) ggX5_pointsOf_X5_isPlayer
set_option maxRecDepth 20000 in
theorem ggX5_pointsOf_X5_isIn : GoodIn wsX5_pointsOf wsX5_isIn := goodIn_r _ [10] (by decide +kernel) (by decide +kernel)
set_option maxRecDepth 20000 in
theorem gX5_pointsOf_X5_isIn : GoodIn wsX5_pointsOf (va_wsS RX5 44 yX5_isIn wsX5_isIn) := goodIn_app (goodIn_of _ (by decide +kernel)) ggX5_pointsOf_X5_isIn
set_option maxRecDepth 20000 in
theorem ggX5_pointsOf_X5_points : GoodIn wsX5_pointsOf wsX5_points := goodIn_r _ [14, 15, 16, 17, 18, 19, 20, 21, 5, 22, 23, 24, 25, 26, 27, 28, 29, 30, 31, 32, 37, 38, 39, 40, 41, 42, 43, 44, 45, 46, 47, 48, 49, 50, 51] (by decide +kernel) (by decide +kernel)
set_option maxRecDepth 20000 in
theorem gX5_pointsOf_X5_points : GoodIn wsX5_pointsOf (wsV RX5 131 RX5 yX5_points wsX5_points) := goodIn_app (goodIn_of _ (by decide +kernel)) ggX5_pointsOf_X5_points
set_option maxRecDepth 20000 in
theorem ggX5_pointsOf_X5_no : GoodIn wsX5_pointsOf wsX5_no := goodIn_r _ [36, 1, 37, 38, 39, 40, 41, 42, 43, 44, 45, 46, 47, 48, 49, 50, 51] (by decide +kernel) (by decide +kernel)
set_option maxRecDepth 20000 in
theorem gX5_pointsOf_X5_no : GoodIn wsX5_pointsOf (wsV RX5 79 RX5 yX5_no wsX5_no) := goodIn_app (goodIn_of _ (by decide +kernel)) ggX5_pointsOf_X5_no
theorem dX5_pointsOf_0 : decode cX5_pointsOf 0 = .ok (.aload_n 0, 1) := by decide +kernel
theorem dX5_pointsOf_1 : decode cX5_pointsOf 1 = .ok (.iconst 0, 1) := by decide +kernel
theorem dX5_pointsOf_2 : decode cX5_pointsOf 2 = .ok (.putfield 41, 3) := by decide +kernel
theorem dX5_pointsOf_5 : decode cX5_pointsOf 5 = .ok (.aload_n 0, 1) := by decide +kernel
theorem dX5_pointsOf_6 : decode cX5_pointsOf 6 = .ok (.iload_n 1, 1) := by decide +kernel
theorem dX5_pointsOf_7 : decode cX5_pointsOf 7 = .ok (.invokevirtual 152, 3) := by decide +kernel
theorem dX5_pointsOf_10 : decode cX5_pointsOf 10 = .ok (.ifCond .eq 22, 3) := by decide +kernel
theorem dX5_pointsOf_13 : decode cX5_pointsOf 13 = .ok (.iload_n 2, 1) := by decide +kernel
theorem dX5_pointsOf_14 : decode cX5_pointsOf 14 = .ok (.iconst 0, 1) := by decide +kernel
theorem dX5_pointsOf_15 : decode cX5_pointsOf 15 = .ok (.bipush 9, 2) := by decide +kernel
theorem dX5_pointsOf_17 : decode cX5_pointsOf 17 = .ok (.invokestatic 44, 3) := by decide +kernel
theorem dX5_pointsOf_20 : decode cX5_pointsOf 20 = .ok (.ifCond .eq 12, 3) := by decide +kernel
theorem dX5_pointsOf_23 : decode cX5_pointsOf 23 = .ok (.aload_n 0, 1) := by decide +kernel
theorem dX5_pointsOf_24 : decode cX5_pointsOf 24 = .ok (.iload_n 1, 1) := by decide +kernel
theorem dX5_pointsOf_25 : decode cX5_pointsOf 25 = .ok (.iload_n 2, 1) := by decide +kernel
theorem dX5_pointsOf_26 : decode cX5_pointsOf 26 = .ok (.invokevirtual 131, 3) := by decide +kernel
theorem dX5_pointsOf_29 : decode cX5_pointsOf 29 = .ok (.goto 8, 3) := by decide +kernel
theorem dX5_pointsOf_32 : decode cX5_pointsOf 32 = .ok (.aload_n 0, 1) := by decide +kernel
theorem dX5_pointsOf_33 : decode cX5_pointsOf 33 = .ok (.iconst 1, 1) := by decide +kernel
theorem dX5_pointsOf_34 : decode cX5_pointsOf 34 = .ok (.invokevirtual 79, 3) := by decide +kernel
theorem dX5_pointsOf_37 : decode cX5_pointsOf 37 = .ok (.ireturn, 1) := by decide +kernel
set_option maxRecDepth 20000 in
theorem ggX5_strikesOf_X5_of : GoodIn wsX5_strikesOf wsX5_of := goodIn_r _ [6, 7, 8, 9, 10, 5, 11, 12, 13, 14, 15, 16, 17, 18, 19, 20, 21, 22, 23, 24, 25, 26, 27, 28, 29, 30, 31, 32, 33, 34] (by decide +kernel) (by decide +kernel)
