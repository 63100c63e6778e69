theorem dX6_goesAway_140 : decode cX6_goesAway 140 = .ok (.invokevirtual 115, 3) := by decide +kernel
theorem dX6_goesAway_143 : decode cX6_goesAway 143 = .ok (.invokevirtual 108, 3) := by decide +kernel
theorem dX6_goesAway_146 : decode cX6_goesAway 146 = .ok (.aload_n 0, 1) := by decide +kernel
theorem dX6_goesAway_147 : decode cX6_goesAway 147 = .ok (.bipush 8, 2) := by decide +kernel
theorem dX6_goesAway_149 : decode cX6_goesAway 149 = .ok (.iload_n 1, 1) := by decide +kernel
theorem dX6_goesAway_150 : decode cX6_goesAway 150 = .ok (.iload_n 2, 1) := by decide +kernel
theorem dX6_goesAway_151 : decode cX6_goesAway 151 = .ok (.invokevirtual 175, 3) := by decide +kernel
theorem dX6_goesAway_154 : decode cX6_goesAway 154 = .ok (.return_, 1) := by decide +kernel
theorem dX6_goesAway_155 : decode cX6_goesAway 155 = .ok (.aload_n 0, 1) := by decide +kernel
theorem dX6_goesAway_156 : decode cX6_goesAway 156 = .ok (.iload_n 1, 1) := by decide +kernel
theorem dX6_goesAway_157 : decode cX6_goesAway 157 = .ok (.iconst 0, 1) := by decide +kernel
theorem dX6_goesAway_158 : decode cX6_goesAway 158 = .ok (.iload_n 3, 1) := by decide +kernel
theorem dX6_goesAway_159 : decode cX6_goesAway 159 = .ok (.invokevirtual 108, 3) := by decide +kernel
theorem dX6_goesAway_162 : decode cX6_goesAway 162 = .ok (.aload_n 0, 1) := by decide +kernel
theorem dX6_goesAway_163 : decode cX6_goesAway 163 = .ok (.iload_n 1, 1) := by decide +kernel
theorem dX6_goesAway_164 : decode cX6_goesAway 164 = .ok (.iconst 4, 1) := by decide +kernel
theorem dX6_goesAway_165 : decode cX6_goesAway 165 = .ok (.aload_n 0, 1) := by decide +kernel
theorem dX6_goesAway_166 : decode cX6_goesAway 166 = .ok (.iload_n 1, 1) := by decide +kernel
theorem dX6_goesAway_167 : decode cX6_goesAway 167 = .ok (.iconst 4, 1) := by decide +kernel
theorem dX6_goesAway_168 : decode cX6_goesAway 168 = .ok (.invokevirtual 115, 3) := by decide +kernel
theorem dX6_goesAway_171 : decode cX6_goesAway 171 = .ok (.ifCond .ne 7, 3) := by decide +kernel
theorem dX6_goesAway_174 : decode cX6_goesAway 174 = .ok (.iconst 0, 1) := by decide +kernel
theorem dX6_goesAway_175 : decode cX6_goesAway 175 = .ok (.goto 4, 3) := by decide +kernel
theorem dX6_goesAway_178 : decode cX6_goesAway 178 = .ok (.iconst 1, 1) := by decide +kernel
theorem dX6_goesAway_179 : decode cX6_goesAway 179 = .ok (.invokevirtual 108, 3) := by decide +kernel
theorem dX6_goesAway_182 : decode cX6_goesAway 182 = .ok (.aload_n 0, 1) := by decide +kernel
theorem dX6_goesAway_183 : decode cX6_goesAway 183 = .ok (.iload_n 1, 1) := by decide +kernel
theorem dX6_goesAway_184 : decode cX6_goesAway 184 = .ok (.bipush 12, 2) := by decide +kernel
theorem dX6_goesAway_186 : decode cX6_goesAway 186 = .ok (.aload_n 0, 1) := by decide +kernel
theorem dX6_goesAway_187 : decode cX6_goesAway 187 = .ok (.iload_n 1, 1) := by decide +kernel
theorem dX6_goesAway_188 : decode cX6_goesAway 188 = .ok (.bipush 12, 2) := by decide +kernel
theorem dX6_goesAway_190 : decode cX6_goesAway 190 = .ok (.invokevirtual 115, 3) := by decide +kernel
theorem dX6_goesAway_193 : decode cX6_goesAway 193 = .ok (.iconst 1, 1) := by decide +kernel
theorem dX6_goesAway_194 : decode cX6_goesAway 194 = .ok (.iadd, 1) := by decide +kernel
theorem dX6_goesAway_195 : decode cX6_goesAway 195 = .ok (.invokevirtual 108, 3) := by decide +kernel
theorem dX6_goesAway_198 : decode cX6_goesAway 198 = .ok (.aload_n 0, 1) := by decide +kernel
theorem dX6_goesAway_199 : decode cX6_goesAway 199 = .ok (.bipush 7, 2) := by decide +kernel
theorem dX6_goesAway_201 : decode cX6_goesAway 201 = .ok (.iload_n 1, 1) := by decide +kernel
theorem dX6_goesAway_202 : decode cX6_goesAway 202 = .ok (.iload_n 2, 1) := by decide +kernel
theorem dX6_goesAway_203 : decode cX6_goesAway 203 = .ok (.invokevirtual 175, 3) := by decide +kernel
theorem dX6_goesAway_206 : decode cX6_goesAway 206 = .ok (.return_, 1) := by decide +kernel
set_option maxRecDepth 20000 in
theorem ggX6_settle_X6_isIn : GoodIn wsX6_settle wsX6_isIn := goodIn_r _ [5] (by decide +kernel) (by decide +kernel)
set_option maxRecDepth 20000 in
theorem gX6_settle_X6_isIn : GoodIn wsX6_settle (va_wsS RX6 84 yX6_isIn wsX6_isIn) := goodIn_app (goodIn_of _ (by decide +kernel)) ggX6_settle_X6_isIn
set_option maxRecDepth 20000 in
theorem ggX6_settle_X6_turn : GoodIn wsX6_settle wsX6_turn := goodIn_r _ [9, 10, 11, 12, 13, 14, 15, 16, 4, 17, 18, 19, 20, 21, 22, 23, 24, 25, 26, 27, 28, 29, 30, 31, 32, 33, 34, 35, 36, 37, 38, 39, 40, 41, 42, 43, 44, 45, 46, 47, 48, 49, 50, 51, 52, 53, 54, 55, 56, 57, 58, 59, 60, 61, 62, 63, 64, 65, 66, 67, 68, 69, 70, 71, 72, 73, 74, 75, 76, 77, 78, 79, 80, 81, 82, 83, 84, 85, 86, 87, 88, 89, 90, 91, 92, 93, 94, 95, 96, 97, 98, 99, 100, 101, 1, 102, 103, 104, 105, 106, 107, 108, 109, 110, 111, 112, 113, 114, 115, 116, 117, 118, 119, 120, 121, 122, 123, 124, 125, 126, 127, 128, 129, 130, 131, 132, 133, 134, 135, 136, 137, 138, 139, 140, 141, 142, 143, 144, 145] (by decide +kernel) (by decide +kernel)
set_option maxRecDepth 20000 in
theorem gX6_settle_X6_turn : GoodIn wsX6_settle (wsV RX6 194 RX6 yX6_turn wsX6_turn) := goodIn_app (goodIn_of _ (by decide +kernel)) ggX6_settle_X6_turn
theorem dX6_settle_0 : decode cX6_settle 0 = .ok (.iload_n 1, 1) := by decide +kernel
theorem dX6_settle_1 : decode cX6_settle 1 = .ok (.iconst 0, 1) := by decide +kernel
theorem dX6_settle_2 : decode cX6_settle 2 = .ok (.sipush 500, 3) := by decide +kernel
theorem dX6_settle_5 : decode cX6_settle 5 = .ok (.invokestatic 84, 3) := by decide +kernel
theorem dX6_settle_8 : decode cX6_settle 8 = .ok (.ifCond .ne 5, 3) := by decide +kernel
theorem dX6_settle_11 : decode cX6_settle 11 = .ok (.iconst (-1), 1) := by decide +kernel
theorem dX6_settle_12 : decode cX6_settle 12 = .ok (.ireturn, 1) := by decide +kernel
theorem dX6_settle_13 : decode cX6_settle 13 = .ok (.iconst 0, 1) := by decide +kernel
theorem dX6_settle_14 : decode cX6_settle 14 = .ok (.istore_n 2, 1) := by decide +kernel
theorem dX6_settle_15 : decode cX6_settle 15 = .ok (.iconst 1, 1) := by decide +kernel
theorem dX6_settle_16 : decode cX6_settle 16 = .ok (.istore_n 3, 1) := by decide +kernel
theorem dX6_settle_17 : decode cX6_settle 17 = .ok (.iload_n 3, 1) := by decide +kernel
theorem dX6_settle_18 : decode cX6_settle 18 = .ok (.ifCond .eq 49, 3) := by decide +kernel
theorem dX6_settle_21 : decode cX6_settle 21 = .ok (.iload_n 2, 1) := by decide +kernel
theorem dX6_settle_22 : decode cX6_settle 22 = .ok (.iload_n 1, 1) := by decide +kernel
theorem dX6_settle_23 : decode cX6_settle 23 = .ok (.if_icmp .ge 44, 3) := by decide +kernel
theorem dX6_settle_26 : decode cX6_settle 26 = .ok (.iconst 0, 1) := by decide +kernel
theorem dX6_settle_27 : decode cX6_settle 27 = .ok (.istore_n 3, 1) := by decide +kernel
theorem dX6_settle_28 : decode cX6_settle 28 = .ok (.iconst 0, 1) := by decide +kernel
theorem dX6_settle_29 : decode cX6_settle 29 = .ok (.istore 4, 2) := by decide +kernel
theorem dX6_settle_31 : decode cX6_settle 31 = .ok (.iload 4, 2) := by decide +kernel
theorem dX6_settle_33 : decode cX6_settle 33 = .ok (.aload_n 0, 1) := by decide +kernel
theorem dX6_settle_34 : decode cX6_settle 34 = .ok (.getfield 78, 3) := by decide +kernel
theorem dX6_settle_37 : decode cX6_settle 37 = .ok (.if_icmp .ge 20, 3) := by decide +kernel
theorem dX6_settle_40 : decode cX6_settle 40 = .ok (.iload_n 3, 1) := by decide +kernel
theorem dX6_settle_41 : decode cX6_settle 41 = .ok (.ifCond .ne 16, 3) := by decide +kernel
theorem dX6_settle_44 : decode cX6_settle 44 = .ok (.aload_n 0, 1) := by decide +kernel
theorem dX6_settle_45 : decode cX6_settle 45 = .ok (.iload 4, 2) := by decide +kernel
theorem dX6_settle_47 : decode cX6_settle 47 = .ok (.invokevirtual 194, 3) := by decide +kernel
theorem dX6_settle_50 : decode cX6_settle 50 = .ok (.istore_n 3, 1) := by decide +kernel
theorem dX6_settle_51 : decode cX6_settle 51 = .ok (.iinc 4 1, 3) := by decide +kernel
theorem dX6_settle_54 : decode cX6_settle 54 = .ok (.goto (-23), 3) := by decide +kernel
theorem dX6_settle_57 : decode cX6_settle 57 = .ok (.iload_n 3, 1) := by decide +kernel
theorem dX6_settle_58 : decode cX6_settle 58 = .ok (.ifCond .eq (-41), 3) := by decide +kernel
theorem dX6_settle_61 : decode cX6_settle 61 = .ok (.iinc 2 1, 3) := by decide +kernel
theorem dX6_settle_64 : decode cX6_settle 64 = .ok (.goto (-47), 3) := by decide +kernel
theorem dX6_settle_67 : decode cX6_settle 67 = .ok (.iload_n 2, 1) := by decide +kernel
theorem dX6_settle_68 : decode cX6_settle 68 = .ok (.ireturn, 1) := by decide +kernel
set_option maxRecDepth 20000 in
theorem ggX6_depart_X6_isSailing : GoodIn wsX6_depart wsX6_isSailing := goodIn_r _ [8, 9, 52, 53, 54, 55, 56, 57, 58, 59, 60, 61, 62, 63, 64, 65, 66, 67, 68, 69, 70, 71, 72, 73, 74, 75, 76, 77, 78, 79, 80, 81, 82] (by decide +kernel) (by decide +kernel)
set_option maxRecDepth 20000 in
theorem gX6_depart_X6_isSailing : GoodIn wsX6_depart (wsV RX6 102 RX6 yX6_isSailing wsX6_isSailing) := goodIn_app (goodIn_of _ (by decide +kernel)) ggX6_depart_X6_isSailing
set_option maxRecDepth 20000 in
theorem ggX6_depart_X6_hasTurn : GoodIn wsX6_depart wsX6_hasTurn := goodIn_r _ [13, 14, 15, 16, 7, 17, 18, 1, 19, 3, 20, 21, 22, 23, 24, 25, 26, 27, 28, 29, 30, 31, 32, 33, 34, 35, 36, 37, 38, 39, 40, 41, 42, 43, 52, 53, 54, 55, 56, 57, 58, 59, 60, 61, 62, 63, 64, 65, 66, 67, 68, 69, 70, 71, 72, 73, 74, 75, 76, 77, 78, 79, 80, 81, 82] (by decide +kernel) (by decide +kernel)
set_option maxRecDepth 20000 in
theorem gX6_depart_X6_hasTurn : GoodIn wsX6_depart (wsV RX6 127 RX6 yX6_hasTurn wsX6_hasTurn) := goodIn_app (goodIn_of _ (by decide +kernel)) ggX6_depart_X6_hasTurn
set_option maxRecDepth 20000 in
theorem ggX6_depart_X6_of : GoodIn wsX6_depart wsX6_of := goodIn_r _ [33, 34, 52, 53, 54, 55, 56, 57, 58, 59, 60, 61, 62, 63, 64, 65, 66, 67, 68, 69, 70, 71, 72, 73, 74, 75, 76, 77, 78, 79, 80, 81, 82] (by decide +kernel) (by decide +kernel)
set_option maxRecDepth 20000 in
theorem gX6_depart_X6_of : GoodIn wsX6_depart (wsV RX6 115 RX6 yX6_of wsX6_of) := goodIn_app (goodIn_of _ (by decide +kernel)) ggX6_depart_X6_of
set_option maxRecDepth 20000 in
theorem ggX6_depart_X6_comesOff : GoodIn wsX6_depart wsX6_comesOff := goodIn_r _ [47, 48, 49, 50, 7, 51, 34, 52, 53, 54, 55, 56, 57, 58, 59, 60, 61, 62, 63, 64, 65, 66, 67, 68, 69, 70, 71, 72, 73, 74, 75, 76, 77, 78, 79, 80, 81, 82] (by decide +kernel) (by decide +kernel)
set_option maxRecDepth 20000 in
theorem gX6_depart_X6_comesOff : GoodIn wsX6_depart (wsV RX6 185 RX6 yX6_comesOff wsX6_comesOff) := goodIn_app (goodIn_of _ (by decide +kernel)) ggX6_depart_X6_comesOff
set_option maxRecDepth 20000 in
theorem ggX6_depart_X6_put : GoodIn wsX6_depart wsX6_put := goodIn_r _ [51, 34, 52, 53, 54, 55, 56, 57, 58, 59, 60, 61, 62, 63, 64, 65, 66, 67, 68, 69, 70, 71, 72, 73, 74, 75, 76, 77, 78, 79, 80, 81, 82] (by decide +kernel) (by decide +kernel)
set_option maxRecDepth 20000 in
theorem gX6_depart_X6_put : GoodIn wsX6_depart (wsV RX6 108 RX6 yX6_put wsX6_put) := goodIn_app (goodIn_of _ (by decide +kernel)) ggX6_depart_X6_put
theorem dX6_depart_0 : decode cX6_depart 0 = .ok (.aload_n 0, 1) := by decide +kernel
theorem dX6_depart_1 : decode cX6_depart 1 = .ok (.iload_n 1, 1) := by decide +kernel
theorem dX6_depart_2 : decode cX6_depart 2 = .ok (.invokevirtual 102, 3) := by decide +kernel
theorem dX6_depart_5 : decode cX6_depart 5 = .ok (.ifCond .eq 31, 3) := by decide +kernel
theorem dX6_depart_8 : decode cX6_depart 8 = .ok (.aload_n 0, 1) := by decide +kernel
theorem dX6_depart_9 : decode cX6_depart 9 = .ok (.getfield 38, 3) := by decide +kernel
theorem dX6_depart_12 : decode cX6_depart 12 = .ok (.iload_n 1, 1) := by decide +kernel
theorem dX6_depart_13 : decode cX6_depart 13 = .ok (.iaload, 1) := by decide +kernel
theorem dX6_depart_14 : decode cX6_depart 14 = .ok (.iconst 1, 1) := by decide +kernel
theorem dX6_depart_15 : decode cX6_depart 15 = .ok (.if_icmp .ne 21, 3) := by decide +kernel
theorem dX6_depart_18 : decode cX6_depart 18 = .ok (.aload_n 0, 1) := by decide +kernel
theorem dX6_depart_19 : decode cX6_depart 19 = .ok (.getfield 44, 3) := by decide +kernel
theorem dX6_depart_22 : decode cX6_depart 22 = .ok (.iload_n 1, 1) := by decide +kernel
theorem dX6_depart_23 : decode cX6_depart 23 = .ok (.iaload, 1) := by decide +kernel
theorem dX6_depart_24 : decode cX6_depart 24 = .ok (.iconst (-1), 1) := by decide +kernel
theorem dX6_depart_25 : decode cX6_depart 25 = .ok (.if_icmp .ne 11, 3) := by decide +kernel
theorem dX6_depart_28 : decode cX6_depart 28 = .ok (.aload_n 0, 1) := by decide +kernel
theorem dX6_depart_29 : decode cX6_depart 29 = .ok (.iload_n 1, 1) := by decide +kernel
theorem dX6_depart_30 : decode cX6_depart 30 = .ok (.invokevirtual 127, 3) := by decide +kernel
theorem dX6_depart_33 : decode cX6_depart 33 = .ok (.ifCond .eq 5, 3) := by decide +kernel
theorem dX6_depart_36 : decode cX6_depart 36 = .ok (.iconst (-1), 1) := by decide +kernel
theorem dX6_depart_37 : decode cX6_depart 37 = .ok (.ireturn, 1) := by decide +kernel
theorem dX6_depart_38 : decode cX6_depart 38 = .ok (.aload_n 0, 1) := by decide +kernel
theorem dX6_depart_39 : decode cX6_depart 39 = .ok (.getfield 38, 3) := by decide +kernel
theorem dX6_depart_42 : decode cX6_depart 42 = .ok (.iload_n 1, 1) := by decide +kernel
theorem dX6_depart_43 : decode cX6_depart 43 = .ok (.iconst 2, 1) := by decide +kernel
theorem dX6_depart_44 : decode cX6_depart 44 = .ok (.iastore, 1) := by decide +kernel
theorem dX6_depart_45 : decode cX6_depart 45 = .ok (.iconst 0, 1) := by decide +kernel
theorem dX6_depart_46 : decode cX6_depart 46 = .ok (.istore_n 2, 1) := by decide +kernel
theorem dX6_depart_47 : decode cX6_depart 47 = .ok (.iconst 0, 1) := by decide +kernel
theorem dX6_depart_48 : decode cX6_depart 48 = .ok (.istore_n 3, 1) := by decide +kernel
theorem dX6_depart_49 : decode cX6_depart 49 = .ok (.iload_n 3, 1) := by decide +kernel
theorem dX6_depart_50 : decode cX6_depart 50 = .ok (.aload_n 0, 1) := by decide +kernel
theorem dX6_depart_51 : decode cX6_depart 51 = .ok (.getfield 74, 3) := by decide +kernel
theorem dX6_depart_54 : decode cX6_depart 54 = .ok (.if_icmp .ge 152, 3) := by decide +kernel
theorem dX6_depart_57 : decode cX6_depart 57 = .ok (.aload_n 0, 1) := by decide +kernel
theorem dX6_depart_58 : decode cX6_depart 58 = .ok (.iload_n 3, 1) := by decide +kernel
theorem dX6_depart_59 : decode cX6_depart 59 = .ok (.iconst 0, 1) := by decide +kernel
theorem dX6_depart_60 : decode cX6_depart 60 = .ok (.invokevirtual 115, 3) := by decide +kernel
theorem dX6_depart_63 : decode cX6_depart 63 = .ok (.iload_n 1, 1) := by decide +kernel
theorem dX6_depart_64 : decode cX6_depart 64 = .ok (.if_icmp .eq 6, 3) := by decide +kernel
theorem dX6_depart_67 : decode cX6_depart 67 = .ok (.goto 133, 3) := by decide +kernel
theorem dX6_depart_70 : decode cX6_depart 70 = .ok (.aload_n 0, 1) := by decide +kernel
theorem dX6_depart_71 : decode cX6_depart 71 = .ok (.iload_n 3, 1) := by decide +kernel
theorem dX6_depart_72 : decode cX6_depart 72 = .ok (.iconst 4, 1) := by decide +kernel
theorem dX6_depart_73 : decode cX6_depart 73 = .ok (.invokevirtual 115, 3) := by decide +kernel
theorem dX6_depart_76 : decode cX6_depart 76 = .ok (.tableswitch 124 0 4 #[97, 124, 124, 36, 73], 36) := by decide +kernel
theorem dX6_depart_112 : decode cX6_depart 112 = .ok (.aload_n 0, 1) := by decide +kernel
theorem dX6_depart_113 : decode cX6_depart 113 = .ok (.iload_n 3, 1) := by decide +kernel
theorem dX6_depart_114 : decode cX6_depart 114 = .ok (.bipush 9, 2) := by decide +kernel
theorem dX6_depart_116 : decode cX6_depart 116 = .ok (.invokevirtual 115, 3) := by decide +kernel
theorem dX6_depart_119 : decode cX6_depart 119 = .ok (.istore 4, 2) := by decide +kernel
theorem dX6_depart_121 : decode cX6_depart 121 = .ok (.aload_n 0, 1) := by decide +kernel
theorem dX6_depart_122 : decode cX6_depart 122 = .ok (.iload_n 3, 1) := by decide +kernel
theorem dX6_depart_123 : decode cX6_depart 123 = .ok (.invokevirtual 185, 3) := by decide +kernel
theorem dX6_depart_126 : decode cX6_depart 126 = .ok (.aload_n 0, 1) := by decide +kernel
theorem dX6_depart_127 : decode cX6_depart 127 = .ok (.iload_n 3, 1) := by decide +kernel
theorem dX6_depart_128 : decode cX6_depart 128 = .ok (.bipush 9, 2) := by decide +kernel
theorem dX6_depart_130 : decode cX6_depart 130 = .ok (.iload 4, 2) := by decide +kernel
theorem dX6_depart_132 : decode cX6_depart 132 = .ok (.invokevirtual 108, 3) := by decide +kernel
theorem dX6_depart_135 : decode cX6_depart 135 = .ok (.aload_n 0, 1) := by decide +kernel
theorem dX6_depart_136 : decode cX6_depart 136 = .ok (.iload_n 3, 1) := by decide +kernel
theorem dX6_depart_137 : decode cX6_depart 137 = .ok (.iconst 4, 1) := by decide +kernel
theorem dX6_depart_138 : decode cX6_depart 138 = .ok (.bipush 6, 2) := by decide +kernel
theorem dX6_depart_140 : decode cX6_depart 140 = .ok (.invokevirtual 108, 3) := by decide +kernel
theorem dX6_depart_143 : decode cX6_depart 143 = .ok (.iinc 2 1, 3) := by decide +kernel
theorem dX6_depart_146 : decode cX6_depart 146 = .ok (.goto 54, 3) := by decide +kernel
theorem dX6_depart_149 : decode cX6_depart 149 = .ok (.aload_n 0, 1) := by decide +kernel
theorem dX6_depart_150 : decode cX6_depart 150 = .ok (.iload_n 3, 1) := by decide +kernel
theorem dX6_depart_151 : decode cX6_depart 151 = .ok (.iconst 4, 1) := by decide +kernel
theorem dX6_depart_152 : decode cX6_depart 152 = .ok (.iconst 5, 1) := by decide +kernel
theorem dX6_depart_153 : decode cX6_depart 153 = .ok (.invokevirtual 108, 3) := by decide +kernel
theorem dX6_depart_156 : decode cX6_depart 156 = .ok (.aload_n 0, 1) := by decide +kernel
theorem dX6_depart_157 : decode cX6_depart 157 = .ok (.iload_n 3, 1) := by decide +kernel
theorem dX6_depart_158 : decode cX6_depart 158 = .ok (.bipush 11, 2) := by decide +kernel
theorem dX6_depart_160 : decode cX6_depart 160 = .ok (.aload_n 0, 1) := by decide +kernel
theorem dX6_depart_161 : decode cX6_depart 161 = .ok (.iload_n 3, 1) := by decide +kernel
theorem dX6_depart_162 : decode cX6_depart 162 = .ok (.bipush 10, 2) := by decide +kernel
theorem dX6_depart_164 : decode cX6_depart 164 = .ok (.invokevirtual 115, 3) := by decide +kernel
theorem dX6_depart_167 : decode cX6_depart 167 = .ok (.invokevirtual 108, 3) := by decide +kernel
theorem dX6_depart_170 : decode cX6_depart 170 = .ok (.goto 30, 3) := by decide +kernel
theorem dX6_depart_173 : decode cX6_depart 173 = .ok (.aload_n 0, 1) := by decide +kernel
theorem dX6_depart_174 : decode cX6_depart 174 = .ok (.iload_n 3, 1) := by decide +kernel
theorem dX6_depart_175 : decode cX6_depart 175 = .ok (.iconst 4, 1) := by decide +kernel
theorem dX6_depart_176 : decode cX6_depart 176 = .ok (.bipush 7, 2) := by decide +kernel
theorem dX6_depart_178 : decode cX6_depart 178 = .ok (.invokevirtual 108, 3) := by decide +kernel
theorem dX6_depart_181 : decode cX6_depart 181 = .ok (.aload_n 0, 1) := by decide +kernel
theorem dX6_depart_182 : decode cX6_depart 182 = .ok (.iload_n 3, 1) := by decide +kernel
theorem dX6_depart_183 : decode cX6_depart 183 = .ok (.bipush 11, 2) := by decide +kernel
theorem dX6_depart_185 : decode cX6_depart 185 = .ok (.aload_n 0, 1) := by decide +kernel
theorem dX6_depart_186 : decode cX6_depart 186 = .ok (.iload_n 3, 1) := by decide +kernel
theorem dX6_depart_187 : decode cX6_depart 187 = .ok (.bipush 10, 2) := by decide +kernel
theorem dX6_depart_189 : decode cX6_depart 189 = .ok (.invokevirtual 115, 3) := by decide +kernel
theorem dX6_depart_192 : decode cX6_depart 192 = .ok (.iconst 2, 1) := by decide +kernel
theorem dX6_depart_193 : decode cX6_depart 193 = .ok (.idiv, 1) := by decide +kernel
theorem dX6_depart_194 : decode cX6_depart 194 = .ok (.invokevirtual 108, 3) := by decide +kernel
theorem dX6_depart_197 : decode cX6_depart 197 = .ok (.goto 3, 3) := by decide +kernel
theorem dX6_depart_200 : decode cX6_depart 200 = .ok (.iinc 3 1, 3) := by decide +kernel
theorem dX6_depart_203 : decode cX6_depart 203 = .ok (.goto (-154), 3) := by decide +kernel
theorem dX6_depart_206 : decode cX6_depart 206 = .ok (.iload_n 2, 1) := by decide +kernel
theorem dX6_depart_207 : decode cX6_depart 207 = .ok (.ireturn, 1) := by decide +kernel
set_option maxRecDepth 20000 in
theorem ggX6_off_X6_isTicket : GoodIn wsX6_off wsX6_isTicket := goodIn_r _ [9, 4, 27, 28, 29, 30, 31, 32, 33, 34, 35, 36, 37, 38, 39, 40, 41, 42, 43, 44, 45, 46, 47, 48, 49, 50, 51, 52, 53, 54, 55, 56, 57] (by decide +kernel) (by decide +kernel)
set_option maxRecDepth 20000 in
theorem gX6_off_X6_isTicket : GoodIn wsX6_off (wsV RX6 112 RX6 yX6_isTicket wsX6_isTicket) := goodIn_app (goodIn_of _ (by decide +kernel)) ggX6_off_X6_isTicket
set_option maxRecDepth 20000 in
theorem ggX6_off_X6_of : GoodIn wsX6_off wsX6_of := goodIn_r _ [13, 14, 27, 28, 29, 30, 31, 32, 33, 34, 35, 36, 37, 38, 39, 40, 41, 42, 43, 44, 45, 46, 47, 48, 49, 50, 51, 52, 53, 54, 55, 56, 57] (by decide +kernel) (by decide +kernel)
set_option maxRecDepth 20000 in
theorem gX6_off_X6_of : GoodIn wsX6_off (wsV RX6 115 RX6 yX6_of wsX6_of) := goodIn_app (goodIn_of _ (by decide +kernel)) ggX6_off_X6_of
set_option maxRecDepth 20000 in
theorem ggX6_off_X6_isAboard : GoodIn wsX6_off wsX6_isAboard := goodIn_r _ [18, 10, 11, 12, 8, 13, 14, 27, 28, 29, 30, 31, 32, 33, 34, 35, 36, 37, 38, 39, 40, 41, 42, 43, 44, 45, 46, 47, 48, 49, 50, 51, 52, 53, 54, 55, 56, 57] (by decide +kernel) (by decide +kernel)
set_option maxRecDepth 20000 in
theorem gX6_off_X6_isAboard : GoodIn wsX6_off (wsV RX6 130 RX6 yX6_isAboard wsX6_isAboard) := goodIn_app (goodIn_of _ (by decide +kernel)) ggX6_off_X6_isAboard
set_option maxRecDepth 20000 in
theorem ggX6_off_X6_comesOff : GoodIn wsX6_off wsX6_comesOff := goodIn_r _ [22, 23, 24, 25, 8, 26, 14, 27, 28, 29, 30, 31, 32, 33, 34, 35, 36, 37, 38, 39, 40, 41, 42, 43, 44, 45, 46, 47, 48, 49, 50, 51, 52, 53, 54, 55, 56, 57] (by decide +kernel) (by decide +kernel)
set_option maxRecDepth 20000 in
theorem gX6_off_X6_comesOff : GoodIn wsX6_off (wsV RX6 185 RX6 yX6_comesOff wsX6_comesOff) := goodIn_app (goodIn_of _ (by decide +kernel)) ggX6_off_X6_comesOff
theorem dX6_off_0 : decode cX6_off 0 = .ok (.aload_n 0, 1) := by decide +kernel
theorem dX6_off_1 : decode cX6_off 1 = .ok (.iload_n 1, 1) := by decide +kernel
theorem dX6_off_2 : decode cX6_off 2 = .ok (.invokevirtual 112, 3) := by decide +kernel
theorem dX6_off_5 : decode cX6_off 5 = .ok (.ifCond .eq 13, 3) := by decide +kernel
theorem dX6_off_8 : decode cX6_off 8 = .ok (.aload_n 0, 1) := by decide +kernel
theorem dX6_off_9 : decode cX6_off 9 = .ok (.iload_n 1, 1) := by decide +kernel
theorem dX6_off_10 : decode cX6_off 10 = .ok (.iconst 4, 1) := by decide +kernel
theorem dX6_off_11 : decode cX6_off 11 = .ok (.invokevirtual 115, 3) := by decide +kernel
theorem dX6_off_14 : decode cX6_off 14 = .ok (.iconst 3, 1) := by decide +kernel
theorem dX6_off_15 : decode cX6_off 15 = .ok (.if_icmp .eq 5, 3) := by decide +kernel
theorem dX6_off_18 : decode cX6_off 18 = .ok (.iconst 0, 1) := by decide +kernel
theorem dX6_off_19 : decode cX6_off 19 = .ok (.ireturn, 1) := by decide +kernel
theorem dX6_off_20 : decode cX6_off 20 = .ok (.aload_n 0, 1) := by decide +kernel
theorem dX6_off_21 : decode cX6_off 21 = .ok (.iload_n 1, 1) := by decide +kernel
theorem dX6_off_22 : decode cX6_off 22 = .ok (.iconst 0, 1) := by decide +kernel
theorem dX6_off_23 : decode cX6_off 23 = .ok (.invokevirtual 115, 3) := by decide +kernel
theorem dX6_off_26 : decode cX6_off 26 = .ok (.istore_n 2, 1) := by decide +kernel
theorem dX6_off_27 : decode cX6_off 27 = .ok (.aload_n 0, 1) := by decide +kernel
theorem dX6_off_28 : decode cX6_off 28 = .ok (.getfield 38, 3) := by decide +kernel
theorem dX6_off_31 : decode cX6_off 31 = .ok (.iload_n 2, 1) := by decide +kernel
theorem dX6_off_32 : decode cX6_off 32 = .ok (.iaload, 1) := by decide +kernel
theorem dX6_off_33 : decode cX6_off 33 = .ok (.iconst 1, 1) := by decide +kernel
theorem dX6_off_34 : decode cX6_off 34 = .ok (.if_icmp .ne 23, 3) := by decide +kernel
theorem dX6_off_37 : decode cX6_off 37 = .ok (.aload_n 0, 1) := by decide +kernel
theorem dX6_off_38 : decode cX6_off 38 = .ok (.getfield 44, 3) := by decide +kernel
theorem dX6_off_41 : decode cX6_off 41 = .ok (.iload_n 2, 1) := by decide +kernel
theorem dX6_off_42 : decode cX6_off 42 = .ok (.iaload, 1) := by decide +kernel
theorem dX6_off_43 : decode cX6_off 43 = .ok (.iconst (-1), 1) := by decide +kernel
theorem dX6_off_44 : decode cX6_off 44 = .ok (.if_icmp .ne 13, 3) := by decide +kernel
theorem dX6_off_47 : decode cX6_off 47 = .ok (.aload_n 0, 1) := by decide +kernel
theorem dX6_off_48 : decode cX6_off 48 = .ok (.getfield 47, 3) := by decide +kernel
theorem dX6_off_51 : decode cX6_off 51 = .ok (.iload_n 2, 1) := by decide +kernel
theorem dX6_off_52 : decode cX6_off 52 = .ok (.iaload, 1) := by decide +kernel
theorem dX6_off_53 : decode cX6_off 53 = .ok (.iload_n 1, 1) := by decide +kernel
theorem dX6_off_54 : decode cX6_off 54 = .ok (.if_icmp .ne 5, 3) := by decide +kernel
theorem dX6_off_57 : decode cX6_off 57 = .ok (.iconst 0, 1) := by decide +kernel
theorem dX6_off_58 : decode cX6_off 58 = .ok (.ireturn, 1) := by decide +kernel
theorem dX6_off_59 : decode cX6_off 59 = .ok (.iconst 0, 1) := by decide +kernel
theorem dX6_off_60 : decode cX6_off 60 = .ok (.istore_n 3, 1) := by decide +kernel
theorem dX6_off_61 : decode cX6_off 61 = .ok (.iload_n 3, 1) := by decide +kernel
theorem dX6_off_62 : decode cX6_off 62 = .ok (.aload_n 0, 1) := by decide +kernel
theorem dX6_off_63 : decode cX6_off 63 = .ok (.getfield 74, 3) := by decide +kernel
theorem dX6_off_66 : decode cX6_off 66 = .ok (.if_icmp .ge 71, 3) := by decide +kernel
theorem dX6_off_69 : decode cX6_off 69 = .ok (.aload_n 0, 1) := by decide +kernel
theorem dX6_off_70 : decode cX6_off 70 = .ok (.iload_n 3, 1) := by decide +kernel
theorem dX6_off_71 : decode cX6_off 71 = .ok (.iload_n 2, 1) := by decide +kernel
theorem dX6_off_72 : decode cX6_off 72 = .ok (.invokevirtual 130, 3) := by decide +kernel
theorem dX6_off_75 : decode cX6_off 75 = .ok (.ifCond .eq 56, 3) := by decide +kernel
theorem dX6_off_78 : decode cX6_off 78 = .ok (.aload_n 0, 1) := by decide +kernel
theorem dX6_off_79 : decode cX6_off 79 = .ok (.iload_n 3, 1) := by decide +kernel
theorem dX6_off_80 : decode cX6_off 80 = .ok (.bipush 6, 2) := by decide +kernel
theorem dX6_off_82 : decode cX6_off 82 = .ok (.invokevirtual 115, 3) := by decide +kernel
theorem dX6_off_85 : decode cX6_off 85 = .ok (.aload_n 0, 1) := by decide +kernel
theorem dX6_off_86 : decode cX6_off 86 = .ok (.iload_n 1, 1) := by decide +kernel
theorem dX6_off_87 : decode cX6_off 87 = .ok (.bipush 6, 2) := by decide +kernel
theorem dX6_off_89 : decode cX6_off 89 = .ok (.invokevirtual 115, 3) := by decide +kernel
theorem dX6_off_92 : decode cX6_off 92 = .ok (.if_icmp .ne 39, 3) := by decide +kernel
theorem dX6_off_95 : decode cX6_off 95 = .ok (.aload_n 0, 1) := by decide +kernel
theorem dX6_off_96 : decode cX6_off 96 = .ok (.iload_n 3, 1) := by decide +kernel
theorem dX6_off_97 : decode cX6_off 97 = .ok (.bipush 7, 2) := by decide +kernel
theorem dX6_off_99 : decode cX6_off 99 = .ok (.invokevirtual 115, 3) := by decide +kernel
theorem dX6_off_102 : decode cX6_off 102 = .ok (.aload_n 0, 1) := by decide +kernel
theorem dX6_off_103 : decode cX6_off 103 = .ok (.iload_n 1, 1) := by decide +kernel
theorem dX6_off_104 : decode cX6_off 104 = .ok (.bipush 7, 2) := by decide +kernel
theorem dX6_off_106 : decode cX6_off 106 = .ok (.invokevirtual 115, 3) := by decide +kernel
theorem dX6_off_109 : decode cX6_off 109 = .ok (.if_icmp .ne 22, 3) := by decide +kernel
theorem dX6_off_112 : decode cX6_off 112 = .ok (.aload_n 0, 1) := by decide +kernel
theorem dX6_off_113 : decode cX6_off 113 = .ok (.iload_n 3, 1) := by decide +kernel
theorem dX6_off_114 : decode cX6_off 114 = .ok (.bipush 8, 2) := by decide +kernel
theorem dX6_off_116 : decode cX6_off 116 = .ok (.invokevirtual 115, 3) := by decide +kernel
theorem dX6_off_119 : decode cX6_off 119 = .ok (.aload_n 0, 1) := by decide +kernel
theorem dX6_off_120 : decode cX6_off 120 = .ok (.iload_n 1, 1) := by decide +kernel
theorem dX6_off_121 : decode cX6_off 121 = .ok (.bipush 8, 2) := by decide +kernel
theorem dX6_off_123 : decode cX6_off 123 = .ok (.invokevirtual 115, 3) := by decide +kernel
theorem dX6_off_126 : decode cX6_off 126 = .ok (.if_icmp .le 5, 3) := by decide +kernel
theorem dX6_off_129 : decode cX6_off 129 = .ok (.iconst 0, 1) := by decide +kernel
theorem dX6_off_130 : decode cX6_off 130 = .ok (.ireturn, 1) := by decide +kernel
theorem dX6_off_131 : decode cX6_off 131 = .ok (.iinc 3 1, 3) := by decide +kernel
theorem dX6_off_134 : decode cX6_off 134 = .ok (.goto (-73), 3) := by decide +kernel
theorem dX6_off_137 : decode cX6_off 137 = .ok (.aload_n 0, 1) := by decide +kernel
theorem dX6_off_138 : decode cX6_off 138 = .ok (.iload_n 1, 1) := by decide +kernel
theorem dX6_off_139 : decode cX6_off 139 = .ok (.invokevirtual 185, 3) := by decide +kernel
theorem dX6_off_142 : decode cX6_off 142 = .ok (.iconst 1, 1) := by decide +kernel
theorem dX6_off_143 : decode cX6_off 143 = .ok (.ireturn, 1) := by decide +kernel
set_option maxRecDepth 20000 in
theorem ggX6_shipOf_X6_isShip : GoodIn wsX6_shipOf wsX6_isShip := goodIn_r _ [12, 13, 30, 31, 32, 33, 34, 35, 36, 37, 38, 39, 40, 41, 42, 43, 44, 45, 46, 47, 48, 49, 50, 51, 52, 53, 54, 55, 56, 57, 58, 59, 60] (by decide +kernel) (by decide +kernel)
set_option maxRecDepth 20000 in
theorem gX6_shipOf_X6_isShip : GoodIn wsX6_shipOf (wsV RX6 88 RX6 yX6_isShip wsX6_isShip) := goodIn_app (goodIn_of _ (by decide +kernel)) ggX6_shipOf_X6_isShip
set_option maxRecDepth 20000 in
theorem ggX6_shipOf_X6_openOf : GoodIn wsX6_shipOf wsX6_openOf := goodIn_r _ [17, 18, 19, 20, 30, 31, 32, 33, 34, 35, 36, 37, 38, 39, 40, 41, 42, 43, 44, 45, 46, 47, 48, 49, 50, 51, 52, 53, 54, 55, 56, 57, 58, 59, 60] (by decide +kernel) (by decide +kernel)
set_option maxRecDepth 20000 in
theorem gX6_shipOf_X6_openOf : GoodIn wsX6_shipOf (wsV RX6 120 RX6 yX6_openOf wsX6_openOf) := goodIn_app (goodIn_of _ (by decide +kernel)) ggX6_shipOf_X6_openOf
set_option maxRecDepth 20000 in
theorem ggX6_shipOf_X6_isAboard : GoodIn wsX6_shipOf wsX6_isAboard := goodIn_r _ [24, 25, 26, 27, 11, 28, 29, 30, 31, 32, 33, 34, 35, 36, 37, 38, 39, 40, 41, 42, 43, 44, 45, 46, 47, 48, 49, 50, 51, 52, 53, 54, 55, 56, 57, 58, 59, 60] (by decide +kernel) (by decide +kernel)
set_option maxRecDepth 20000 in
theorem gX6_shipOf_X6_isAboard : GoodIn wsX6_shipOf (wsV RX6 130 RX6 yX6_isAboard wsX6_isAboard) := goodIn_app (goodIn_of _ (by decide +kernel)) ggX6_shipOf_X6_isAboard
theorem dX6_shipOf_0 : decode cX6_shipOf 0 = .ok (.aload_n 0, 1) := by decide +kernel
theorem dX6_shipOf_1 : decode cX6_shipOf 1 = .ok (.iload_n 1, 1) := by decide +kernel
theorem dX6_shipOf_2 : decode cX6_shipOf 2 = .ok (.invokevirtual 88, 3) := by decide +kernel
theorem dX6_shipOf_5 : decode cX6_shipOf 5 = .ok (.ifCond .ne 5, 3) := by decide +kernel
theorem dX6_shipOf_8 : decode cX6_shipOf 8 = .ok (.iconst (-1), 1) := by decide +kernel
theorem dX6_shipOf_9 : decode cX6_shipOf 9 = .ok (.ireturn, 1) := by decide +kernel
theorem dX6_shipOf_10 : decode cX6_shipOf 10 = .ok (.iconst 0, 1) := by decide +kernel
theorem dX6_shipOf_11 : decode cX6_shipOf 11 = .ok (.istore_n 3, 1) := by decide +kernel
theorem dX6_shipOf_12 : decode cX6_shipOf 12 = .ok (.iload_n 2, 1) := by decide +kernel
theorem dX6_shipOf_13 : decode cX6_shipOf 13 = .ok (.tableswitch 166 0 5 #[39, 46, 53, 60, 75, 114], 39) := by decide +kernel
theorem dX6_shipOf_52 : decode cX6_shipOf 52 = .ok (.aload_n 0, 1) := by decide +kernel
theorem dX6_shipOf_53 : decode cX6_shipOf 53 = .ok (.getfield 7, 3) := by decide +kernel
theorem dX6_shipOf_56 : decode cX6_shipOf 56 = .ok (.iload_n 1, 1) := by decide +kernel
theorem dX6_shipOf_57 : decode cX6_shipOf 57 = .ok (.iaload, 1) := by decide +kernel
theorem dX6_shipOf_58 : decode cX6_shipOf 58 = .ok (.ireturn, 1) := by decide +kernel
theorem dX6_shipOf_59 : decode cX6_shipOf 59 = .ok (.aload_n 0, 1) := by decide +kernel
theorem dX6_shipOf_60 : decode cX6_shipOf 60 = .ok (.getfield 13, 3) := by decide +kernel
theorem dX6_shipOf_63 : decode cX6_shipOf 63 = .ok (.iload_n 1, 1) := by decide +kernel
theorem dX6_shipOf_64 : decode cX6_shipOf 64 = .ok (.iaload, 1) := by decide +kernel
theorem dX6_shipOf_65 : decode cX6_shipOf 65 = .ok (.ireturn, 1) := by decide +kernel
theorem dX6_shipOf_66 : decode cX6_shipOf 66 = .ok (.aload_n 0, 1) := by decide +kernel
theorem dX6_shipOf_67 : decode cX6_shipOf 67 = .ok (.getfield 16, 3) := by decide +kernel
theorem dX6_shipOf_70 : decode cX6_shipOf 70 = .ok (.iload_n 1, 1) := by decide +kernel
theorem dX6_shipOf_71 : decode cX6_shipOf 71 = .ok (.iaload, 1) := by decide +kernel
theorem dX6_shipOf_72 : decode cX6_shipOf 72 = .ok (.ireturn, 1) := by decide +kernel
theorem dX6_shipOf_73 : decode cX6_shipOf 73 = .ok (.aload_n 0, 1) := by decide +kernel
theorem dX6_shipOf_74 : decode cX6_shipOf 74 = .ok (.getfield 19, 3) := by decide +kernel
theorem dX6_shipOf_77 : decode cX6_shipOf 77 = .ok (.iload_n 1, 1) := by decide +kernel
theorem dX6_shipOf_78 : decode cX6_shipOf 78 = .ok (.baload, 1) := by decide +kernel
theorem dX6_shipOf_79 : decode cX6_shipOf 79 = .ok (.ifCond .eq 7, 3) := by decide +kernel
theorem dX6_shipOf_82 : decode cX6_shipOf 82 = .ok (.iconst 1, 1) := by decide +kernel
theorem dX6_shipOf_83 : decode cX6_shipOf 83 = .ok (.goto 4, 3) := by decide +kernel
theorem dX6_shipOf_86 : decode cX6_shipOf 86 = .ok (.iconst 0, 1) := by decide +kernel
theorem dX6_shipOf_87 : decode cX6_shipOf 87 = .ok (.ireturn, 1) := by decide +kernel
theorem dX6_shipOf_88 : decode cX6_shipOf 88 = .ok (.iconst 0, 1) := by decide +kernel
theorem dX6_shipOf_89 : decode cX6_shipOf 89 = .ok (.istore 4, 2) := by decide +kernel
theorem dX6_shipOf_91 : decode cX6_shipOf 91 = .ok (.iload 4, 2) := by decide +kernel
theorem dX6_shipOf_93 : decode cX6_shipOf 93 = .ok (.aload_n 0, 1) := by decide +kernel
theorem dX6_shipOf_94 : decode cX6_shipOf 94 = .ok (.getfield 92, 3) := by decide +kernel
theorem dX6_shipOf_97 : decode cX6_shipOf 97 = .ok (.if_icmp .ge 28, 3) := by decide +kernel
theorem dX6_shipOf_100 : decode cX6_shipOf 100 = .ok (.iload_n 3, 1) := by decide +kernel
theorem dX6_shipOf_101 : decode cX6_shipOf 101 = .ok (.aload_n 0, 1) := by decide +kernel
theorem dX6_shipOf_102 : decode cX6_shipOf 102 = .ok (.getfield 23, 3) := by decide +kernel
theorem dX6_shipOf_105 : decode cX6_shipOf 105 = .ok (.iload 4, 2) := by decide +kernel
theorem dX6_shipOf_107 : decode cX6_shipOf 107 = .ok (.iaload, 1) := by decide +kernel
theorem dX6_shipOf_108 : decode cX6_shipOf 108 = .ok (.iload_n 1, 1) := by decide +kernel
theorem dX6_shipOf_109 : decode cX6_shipOf 109 = .ok (.if_icmp .ne 7, 3) := by decide +kernel
theorem dX6_shipOf_112 : decode cX6_shipOf 112 = .ok (.iconst 1, 1) := by decide +kernel
theorem dX6_shipOf_113 : decode cX6_shipOf 113 = .ok (.goto 4, 3) := by decide +kernel
theorem dX6_shipOf_116 : decode cX6_shipOf 116 = .ok (.iconst 0, 1) := by decide +kernel
theorem dX6_shipOf_117 : decode cX6_shipOf 117 = .ok (.iadd, 1) := by decide +kernel
theorem dX6_shipOf_118 : decode cX6_shipOf 118 = .ok (.istore_n 3, 1) := by decide +kernel
theorem dX6_shipOf_119 : decode cX6_shipOf 119 = .ok (.iinc 4 1, 3) := by decide +kernel
theorem dX6_shipOf_122 : decode cX6_shipOf 122 = .ok (.goto (-31), 3) := by decide +kernel
theorem dX6_shipOf_125 : decode cX6_shipOf 125 = .ok (.iload_n 3, 1) := by decide +kernel
theorem dX6_shipOf_126 : decode cX6_shipOf 126 = .ok (.ireturn, 1) := by decide +kernel
theorem dX6_shipOf_127 : decode cX6_shipOf 127 = .ok (.aload_n 0, 1) := by decide +kernel
theorem dX6_shipOf_128 : decode cX6_shipOf 128 = .ok (.iload_n 1, 1) := by decide +kernel
theorem dX6_shipOf_129 : decode cX6_shipOf 129 = .ok (.invokevirtual 120, 3) := by decide +kernel
theorem dX6_shipOf_132 : decode cX6_shipOf 132 = .ok (.istore 4, 2) := by decide +kernel
theorem dX6_shipOf_134 : decode cX6_shipOf 134 = .ok (.iconst 0, 1) := by decide +kernel
theorem dX6_shipOf_135 : decode cX6_shipOf 135 = .ok (.istore 5, 2) := by decide +kernel
theorem dX6_shipOf_137 : decode cX6_shipOf 137 = .ok (.iload 5, 2) := by decide +kernel
theorem dX6_shipOf_139 : decode cX6_shipOf 139 = .ok (.aload_n 0, 1) := by decide +kernel
theorem dX6_shipOf_140 : decode cX6_shipOf 140 = .ok (.getfield 74, 3) := by decide +kernel
theorem dX6_shipOf_143 : decode cX6_shipOf 143 = .ok (.if_icmp .ge 34, 3) := by decide +kernel
theorem dX6_shipOf_146 : decode cX6_shipOf 146 = .ok (.iload 4, 2) := by decide +kernel
theorem dX6_shipOf_148 : decode cX6_shipOf 148 = .ok (.iconst (-1), 1) := by decide +kernel
theorem dX6_shipOf_149 : decode cX6_shipOf 149 = .ok (.if_icmp .eq 28, 3) := by decide +kernel
theorem dX6_shipOf_152 : decode cX6_shipOf 152 = .ok (.iload_n 3, 1) := by decide +kernel
theorem dX6_shipOf_153 : decode cX6_shipOf 153 = .ok (.aload_n 0, 1) := by decide +kernel
theorem dX6_shipOf_154 : decode cX6_shipOf 154 = .ok (.iload 5, 2) := by decide +kernel
theorem dX6_shipOf_156 : decode cX6_shipOf 156 = .ok (.iload 4, 2) := by decide +kernel
theorem dX6_shipOf_158 : decode cX6_shipOf 158 = .ok (.invokevirtual 130, 3) := by decide +kernel
theorem dX6_shipOf_161 : decode cX6_shipOf 161 = .ok (.ifCond .eq 7, 3) := by decide +kernel
theorem dX6_shipOf_164 : decode cX6_shipOf 164 = .ok (.iconst 1, 1) := by decide +kernel
theorem dX6_shipOf_165 : decode cX6_shipOf 165 = .ok (.goto 4, 3) := by decide +kernel
theorem dX6_shipOf_168 : decode cX6_shipOf 168 = .ok (.iconst 0, 1) := by decide +kernel
theorem dX6_shipOf_169 : decode cX6_shipOf 169 = .ok (.iadd, 1) := by decide +kernel
theorem dX6_shipOf_170 : decode cX6_shipOf 170 = .ok (.istore_n 3, 1) := by decide +kernel
theorem dX6_shipOf_171 : decode cX6_shipOf 171 = .ok (.iinc 5 1, 3) := by decide +kernel
theorem dX6_shipOf_174 : decode cX6_shipOf 174 = .ok (.goto (-37), 3) := by decide +kernel
theorem dX6_shipOf_177 : decode cX6_shipOf 177 = .ok (.iload_n 3, 1) := by decide +kernel
theorem dX6_shipOf_178 : decode cX6_shipOf 178 = .ok (.ireturn, 1) := by decide +kernel
theorem dX6_shipOf_179 : decode cX6_shipOf 179 = .ok (.iconst (-1), 1) := by decide +kernel
theorem dX6_shipOf_180 : decode cX6_shipOf 180 = .ok (.ireturn, 1) := by decide +kernel
set_option maxRecDepth 20000 in
theorem ggX6_sailingOf_X6_isSailing : GoodIn wsX6_sailingOf wsX6_isSailing := goodIn_r _ [12, 13, 19, 20, 21, 22, 23, 24, 25, 26, 27, 28, 29, 30, 31, 32, 33, 34, 35, 36, 37, 38, 39, 40, 41, 42, 43, 44, 45, 46, 47, 48, 49] (by decide +kernel) (by decide +kernel)
set_option maxRecDepth 20000 in
theorem gX6_sailingOf_X6_isSailing : GoodIn wsX6_sailingOf (wsV RX6 102 RX6 yX6_isSailing wsX6_isSailing) := goodIn_app (goodIn_of _ (by decide +kernel)) ggX6_sailingOf_X6_isSailing
set_option maxRecDepth 20000 in
theorem ggX6_sailingOf_X6_of : GoodIn wsX6_sailingOf wsX6_of := goodIn_r _ [17, 18, 19, 20, 21, 22, 23, 24, 25, 26, 27, 28, 29, 30, 31, 32, 33, 34, 35, 36, 37, 38, 39, 40, 41, 42, 43, 44, 45, 46, 47, 48, 49] (by decide +kernel) (by decide +kernel)
set_option maxRecDepth 20000 in
theorem gX6_sailingOf_X6_of : GoodIn wsX6_sailingOf (wsV RX6 115 RX6 yX6_of wsX6_of) := goodIn_app (goodIn_of _ (by decide +kernel)) ggX6_sailingOf_X6_of
theorem dX6_sailingOf_0 : decode cX6_sailingOf 0 = .ok (.aload_n 0, 1) := by decide +kernel
theorem dX6_sailingOf_1 : decode cX6_sailingOf 1 = .ok (.iload_n 1, 1) := by decide +kernel
theorem dX6_sailingOf_2 : decode cX6_sailingOf 2 = .ok (.invokevirtual 102, 3) := by decide +kernel
theorem dX6_sailingOf_5 : decode cX6_sailingOf 5 = .ok (.ifCond .ne 5, 3) := by decide +kernel
theorem dX6_sailingOf_8 : decode cX6_sailingOf 8 = .ok (.iconst (-1), 1) := by decide +kernel
theorem dX6_sailingOf_9 : decode cX6_sailingOf 9 = .ok (.ireturn, 1) := by decide +kernel
theorem dX6_sailingOf_10 : decode cX6_sailingOf 10 = .ok (.iload_n 2, 1) := by decide +kernel
theorem dX6_sailingOf_11 : decode cX6_sailingOf 11 = .ok (.tableswitch 124 0 6 #[41, 48, 55, 62, 69, 76, 83], 41) := by decide +kernel
theorem dX6_sailingOf_52 : decode cX6_sailingOf 52 = .ok (.aload_n 0, 1) := by decide +kernel
theorem dX6_sailingOf_53 : decode cX6_sailingOf 53 = .ok (.getfield 29, 3) := by decide +kernel
theorem dX6_sailingOf_56 : decode cX6_sailingOf 56 = .ok (.iload_n 1, 1) := by decide +kernel
theorem dX6_sailingOf_57 : decode cX6_sailingOf 57 = .ok (.iaload, 1) := by decide +kernel
theorem dX6_sailingOf_58 : decode cX6_sailingOf 58 = .ok (.ireturn, 1) := by decide +kernel
theorem dX6_sailingOf_59 : decode cX6_sailingOf 59 = .ok (.aload_n 0, 1) := by decide +kernel
theorem dX6_sailingOf_60 : decode cX6_sailingOf 60 = .ok (.getfield 32, 3) := by decide +kernel
theorem dX6_sailingOf_63 : decode cX6_sailingOf 63 = .ok (.iload_n 1, 1) := by decide +kernel
theorem dX6_sailingOf_64 : decode cX6_sailingOf 64 = .ok (.iaload, 1) := by decide +kernel
theorem dX6_sailingOf_65 : decode cX6_sailingOf 65 = .ok (.ireturn, 1) := by decide +kernel
theorem dX6_sailingOf_66 : decode cX6_sailingOf 66 = .ok (.aload_n 0, 1) := by decide +kernel
theorem dX6_sailingOf_67 : decode cX6_sailingOf 67 = .ok (.getfield 35, 3) := by decide +kernel
theorem dX6_sailingOf_70 : decode cX6_sailingOf 70 = .ok (.iload_n 1, 1) := by decide +kernel
theorem dX6_sailingOf_71 : decode cX6_sailingOf 71 = .ok (.iaload, 1) := by decide +kernel
theorem dX6_sailingOf_72 : decode cX6_sailingOf 72 = .ok (.ireturn, 1) := by decide +kernel
theorem dX6_sailingOf_73 : decode cX6_sailingOf 73 = .ok (.aload_n 0, 1) := by decide +kernel
theorem dX6_sailingOf_74 : decode cX6_sailingOf 74 = .ok (.getfield 38, 3) := by decide +kernel
theorem dX6_sailingOf_77 : decode cX6_sailingOf 77 = .ok (.iload_n 1, 1) := by decide +kernel
theorem dX6_sailingOf_78 : decode cX6_sailingOf 78 = .ok (.iaload, 1) := by decide +kernel
theorem dX6_sailingOf_79 : decode cX6_sailingOf 79 = .ok (.ireturn, 1) := by decide +kernel
theorem dX6_sailingOf_80 : decode cX6_sailingOf 80 = .ok (.aload_n 0, 1) := by decide +kernel
theorem dX6_sailingOf_81 : decode cX6_sailingOf 81 = .ok (.getfield 41, 3) := by decide +kernel
theorem dX6_sailingOf_84 : decode cX6_sailingOf 84 = .ok (.iload_n 1, 1) := by decide +kernel
theorem dX6_sailingOf_85 : decode cX6_sailingOf 85 = .ok (.iaload, 1) := by decide +kernel
theorem dX6_sailingOf_86 : decode cX6_sailingOf 86 = .ok (.ireturn, 1) := by decide +kernel
theorem dX6_sailingOf_87 : decode cX6_sailingOf 87 = .ok (.aload_n 0, 1) := by decide +kernel
theorem dX6_sailingOf_88 : decode cX6_sailingOf 88 = .ok (.getfield 44, 3) := by decide +kernel
theorem dX6_sailingOf_91 : decode cX6_sailingOf 91 = .ok (.iload_n 1, 1) := by decide +kernel
theorem dX6_sailingOf_92 : decode cX6_sailingOf 92 = .ok (.iaload, 1) := by decide +kernel
theorem dX6_sailingOf_93 : decode cX6_sailingOf 93 = .ok (.ireturn, 1) := by decide +kernel
theorem dX6_sailingOf_94 : decode cX6_sailingOf 94 = .ok (.iconst 0, 1) := by decide +kernel
theorem dX6_sailingOf_95 : decode cX6_sailingOf 95 = .ok (.istore_n 3, 1) := by decide +kernel
theorem dX6_sailingOf_96 : decode cX6_sailingOf 96 = .ok (.iconst 0, 1) := by decide +kernel
theorem dX6_sailingOf_97 : decode cX6_sailingOf 97 = .ok (.istore 4, 2) := by decide +kernel
theorem dX6_sailingOf_99 : decode cX6_sailingOf 99 = .ok (.iload 4, 2) := by decide +kernel
theorem dX6_sailingOf_101 : decode cX6_sailingOf 101 = .ok (.aload_n 0, 1) := by decide +kernel
theorem dX6_sailingOf_102 : decode cX6_sailingOf 102 = .ok (.getfield 74, 3) := by decide +kernel
theorem dX6_sailingOf_105 : decode cX6_sailingOf 105 = .ok (.if_icmp .ge 28, 3) := by decide +kernel
theorem dX6_sailingOf_108 : decode cX6_sailingOf 108 = .ok (.iload_n 3, 1) := by decide +kernel
theorem dX6_sailingOf_109 : decode cX6_sailingOf 109 = .ok (.aload_n 0, 1) := by decide +kernel
theorem dX6_sailingOf_110 : decode cX6_sailingOf 110 = .ok (.iload 4, 2) := by decide +kernel
theorem dX6_sailingOf_112 : decode cX6_sailingOf 112 = .ok (.iconst 0, 1) := by decide +kernel
theorem dX6_sailingOf_113 : decode cX6_sailingOf 113 = .ok (.invokevirtual 115, 3) := by decide +kernel
theorem dX6_sailingOf_116 : decode cX6_sailingOf 116 = .ok (.iload_n 1, 1) := by decide +kernel
theorem dX6_sailingOf_117 : decode cX6_sailingOf 117 = .ok (.if_icmp .ne 7, 3) := by decide +kernel
theorem dX6_sailingOf_120 : decode cX6_sailingOf 120 = .ok (.iconst 1, 1) := by decide +kernel
theorem dX6_sailingOf_121 : decode cX6_sailingOf 121 = .ok (.goto 4, 3) := by decide +kernel
theorem dX6_sailingOf_124 : decode cX6_sailingOf 124 = .ok (.iconst 0, 1) := by decide +kernel
theorem dX6_sailingOf_125 : decode cX6_sailingOf 125 = .ok (.iadd, 1) := by decide +kernel
theorem dX6_sailingOf_126 : decode cX6_sailingOf 126 = .ok (.istore_n 3, 1) := by decide +kernel
theorem dX6_sailingOf_127 : decode cX6_sailingOf 127 = .ok (.iinc 4 1, 3) := by decide +kernel
theorem dX6_sailingOf_130 : decode cX6_sailingOf 130 = .ok (.goto (-31), 3) := by decide +kernel
theorem dX6_sailingOf_133 : decode cX6_sailingOf 133 = .ok (.iload_n 3, 1) := by decide +kernel
theorem dX6_sailingOf_134 : decode cX6_sailingOf 134 = .ok (.ireturn, 1) := by decide +kernel
theorem dX6_sailingOf_135 : decode cX6_sailingOf 135 = .ok (.iconst (-1), 1) := by decide +kernel
theorem dX6_sailingOf_136 : decode cX6_sailingOf 136 = .ok (.ireturn, 1) := by decide +kernel
set_option maxRecDepth 20000 in
theorem ggX6_ticketOf_X6_isTicket : GoodIn wsX6_ticketOf wsX6_isTicket := goodIn_r _ [5, 6, 15, 16, 17, 18, 19, 20, 21, 22, 23, 24, 25, 26, 27, 28, 29, 30, 31, 32, 33, 34, 35, 36, 37, 38, 39, 40, 41, 42, 43, 44, 45] (by decide +kernel) (by decide +kernel)
set_option maxRecDepth 20000 in
theorem gX6_ticketOf_X6_isTicket : GoodIn wsX6_ticketOf (wsV RX6 112 RX6 yX6_isTicket wsX6_isTicket) := goodIn_app (goodIn_of _ (by decide +kernel)) ggX6_ticketOf_X6_isTicket
set_option maxRecDepth 20000 in
theorem ggX6_ticketOf_X6_isIn : GoodIn wsX6_ticketOf wsX6_isIn := goodIn_r _ [9] (by decide +kernel) (by decide +kernel)
set_option maxRecDepth 20000 in
theorem gX6_ticketOf_X6_isIn : GoodIn wsX6_ticketOf (va_wsS RX6 84 yX6_isIn wsX6_isIn) := goodIn_app (goodIn_of _ (by decide +kernel)) ggX6_ticketOf_X6_isIn
set_option maxRecDepth 20000 in
theorem ggX6_ticketOf_X6_of : GoodIn wsX6_ticketOf wsX6_of := goodIn_r _ [13, 14, 15, 16, 17, 18, 19, 20, 21, 22, 23, 24, 25, 26, 27, 28, 29, 30, 31, 32, 33, 34, 35, 36, 37, 38, 39, 40, 41, 42, 43, 44, 45] (by decide +kernel) (by decide +kernel)
set_option maxRecDepth 20000 in
theorem gX6_ticketOf_X6_of : GoodIn wsX6_ticketOf (wsV RX6 115 RX6 yX6_of wsX6_of) := goodIn_app (goodIn_of _ (by decide +kernel)) ggX6_ticketOf_X6_of
theorem dX6_ticketOf_0 : decode cX6_ticketOf 0 = .ok (.aload_n 0, 1) := by decide +kernel
theorem dX6_ticketOf_1 : decode cX6_ticketOf 1 = .ok (.iload_n 1, 1) := by decide +kernel
theorem dX6_ticketOf_2 : decode cX6_ticketOf 2 = .ok (.invokevirtual 112, 3) := by decide +kernel
theorem dX6_ticketOf_5 : decode cX6_ticketOf 5 = .ok (.ifCond .eq 22, 3) := by decide +kernel
theorem dX6_ticketOf_8 : decode cX6_ticketOf 8 = .ok (.iload_n 2, 1) := by decide +kernel
theorem dX6_ticketOf_9 : decode cX6_ticketOf 9 = .ok (.iconst 0, 1) := by decide +kernel
theorem dX6_ticketOf_10 : decode cX6_ticketOf 10 = .ok (.bipush 12, 2) := by decide +kernel
theorem dX6_ticketOf_12 : decode cX6_ticketOf 12 = .ok (.invokestatic 84, 3) := by decide +kernel
theorem dX6_ticketOf_15 : decode cX6_ticketOf 15 = .ok (.ifCond .eq 12, 3) := by decide +kernel
theorem dX6_ticketOf_18 : decode cX6_ticketOf 18 = .ok (.aload_n 0, 1) := by decide +kernel
theorem dX6_ticketOf_19 : decode cX6_ticketOf 19 = .ok (.iload_n 1, 1) := by decide +kernel
theorem dX6_ticketOf_20 : decode cX6_ticketOf 20 = .ok (.iload_n 2, 1) := by decide +kernel
theorem dX6_ticketOf_21 : decode cX6_ticketOf 21 = .ok (.invokevirtual 115, 3) := by decide +kernel
theorem dX6_ticketOf_24 : decode cX6_ticketOf 24 = .ok (.goto 4, 3) := by decide +kernel
theorem dX6_ticketOf_27 : decode cX6_ticketOf 27 = .ok (.iconst (-1), 1) := by decide +kernel
theorem dX6_ticketOf_28 : decode cX6_ticketOf 28 = .ok (.ireturn, 1) := by decide +kernel
set_option maxRecDepth 20000 in
theorem ggX6_isLane_X6_isShip : GoodIn wsX6_isLane wsX6_isShip := goodIn_r _ [7, 8, 12, 13, 14, 15, 16, 17, 18, 19, 20, 21, 22, 23, 24, 25, 26, 27, 28, 29, 30, 31, 32, 33, 34, 35, 36, 37, 38, 39, 40, 41, 42] (by decide +kernel) (by decide +kernel)
set_option maxRecDepth 20000 in
theorem gX6_isLane_X6_isShip : GoodIn wsX6_isLane (wsV RX6 88 RX6 yX6_isShip wsX6_isShip) := goodIn_app (goodIn_of _ (by decide +kernel)) ggX6_isLane_X6_isShip
set_option maxRecDepth 20000 in
theorem ggX6_isLane_X6_isIn : GoodIn wsX6_isLane wsX6_isIn := goodIn_r _ [11] (by decide +kernel) (by decide +kernel)
set_option maxRecDepth 20000 in
theorem gX6_isLane_X6_isIn : GoodIn wsX6_isLane (va_wsS RX6 84 yX6_isIn wsX6_isIn) := goodIn_app (goodIn_of _ (by decide +kernel)) ggX6_isLane_X6_isIn
theorem dX6_isLane_0 : decode cX6_isLane 0 = .ok (.aload_n 0, 1) := by decide +kernel
theorem dX6_isLane_1 : decode cX6_isLane 1 = .ok (.iload_n 1, 1) := by decide +kernel
theorem dX6_isLane_2 : decode cX6_isLane 2 = .ok (.invokevirtual 88, 3) := by decide +kernel
theorem dX6_isLane_5 : decode cX6_isLane 5 = .ok (.ifCond .eq 39, 3) := by decide +kernel
theorem dX6_isLane_8 : decode cX6_isLane 8 = .ok (.iload_n 2, 1) := by decide +kernel
theorem dX6_isLane_9 : decode cX6_isLane 9 = .ok (.iconst 0, 1) := by decide +kernel
theorem dX6_isLane_10 : decode cX6_isLane 10 = .ok (.aload_n 0, 1) := by decide +kernel
theorem dX6_isLane_11 : decode cX6_isLane 11 = .ok (.getfield 7, 3) := by decide +kernel
theorem dX6_isLane_14 : decode cX6_isLane 14 = .ok (.iload_n 1, 1) := by decide +kernel
theorem dX6_isLane_15 : decode cX6_isLane 15 = .ok (.iaload, 1) := by decide +kernel
theorem dX6_isLane_16 : decode cX6_isLane 16 = .ok (.iconst 1, 1) := by decide +kernel
theorem dX6_isLane_17 : decode cX6_isLane 17 = .ok (.isub, 1) := by decide +kernel
theorem dX6_isLane_18 : decode cX6_isLane 18 = .ok (.invokestatic 84, 3) := by decide +kernel
theorem dX6_isLane_21 : decode cX6_isLane 21 = .ok (.ifCond .eq 23, 3) := by decide +kernel
theorem dX6_isLane_24 : decode cX6_isLane 24 = .ok (.iload_n 3, 1) := by decide +kernel
theorem dX6_isLane_25 : decode cX6_isLane 25 = .ok (.iconst 0, 1) := by decide +kernel
theorem dX6_isLane_26 : decode cX6_isLane 26 = .ok (.aload_n 0, 1) := by decide +kernel
theorem dX6_isLane_27 : decode cX6_isLane 27 = .ok (.getfield 13, 3) := by decide +kernel
theorem dX6_isLane_30 : decode cX6_isLane 30 = .ok (.iload_n 1, 1) := by decide +kernel
theorem dX6_isLane_31 : decode cX6_isLane 31 = .ok (.iaload, 1) := by decide +kernel
theorem dX6_isLane_32 : decode cX6_isLane 32 = .ok (.iconst 1, 1) := by decide +kernel
theorem dX6_isLane_33 : decode cX6_isLane 33 = .ok (.isub, 1) := by decide +kernel
theorem dX6_isLane_34 : decode cX6_isLane 34 = .ok (.invokestatic 84, 3) := by decide +kernel
theorem dX6_isLane_37 : decode cX6_isLane 37 = .ok (.ifCond .eq 7, 3) := by decide +kernel
theorem dX6_isLane_40 : decode cX6_isLane 40 = .ok (.iconst 1, 1) := by decide +kernel
theorem dX6_isLane_41 : decode cX6_isLane 41 = .ok (.goto 4, 3) := by decide +kernel
theorem dX6_isLane_44 : decode cX6_isLane 44 = .ok (.iconst 0, 1) := by decide +kernel
theorem dX6_isLane_45 : decode cX6_isLane 45 = .ok (.ireturn, 1) := by decide +kernel
set_option maxRecDepth 20000 in
theorem ggX6_at_X6_isLane : GoodIn wsX6_at wsX6_isLane := goodIn_r _ [6, 7, 8, 9, 10, 11, 5, 12, 13, 14, 15, 16, 38, 39, 40, 41, 42, 43, 44, 45, 46, 47, 48, 49, 50, 51, 52, 53, 54, 55, 56, 57, 58, 59, 60, 61, 62, 63, 64, 65, 66, 67, 68] (by decide +kernel) (by decide +kernel)
set_option maxRecDepth 20000 in
theorem gX6_at_X6_isLane : GoodIn wsX6_at (wsV RX6 197 RX6 yX6_isLane wsX6_isLane) := goodIn_app (goodIn_of _ (by decide +kernel)) ggX6_at_X6_isLane
set_option maxRecDepth 20000 in
theorem ggX6_at_X6_isIn : GoodIn wsX6_at wsX6_isIn := goodIn_r _ [16] (by decide +kernel) (by decide +kernel)
set_option maxRecDepth 20000 in
theorem gX6_at_X6_isIn : GoodIn wsX6_at (va_wsS RX6 84 yX6_isIn wsX6_isIn) := goodIn_app (goodIn_of _ (by decide +kernel)) ggX6_at_X6_isIn
set_option maxRecDepth 20000 in
theorem ggX6_at_X6_openOf : GoodIn wsX6_at wsX6_openOf := goodIn_r _ [20, 21, 22, 23, 38, 39, 40, 41, 42, 43, 44, 45, 46, 47, 48, 49, 50, 51, 52, 53, 54, 55, 56, 57, 58, 59, 60, 61, 62, 63, 64, 65, 66, 67, 68] (by decide +kernel) (by decide +kernel)
set_option maxRecDepth 20000 in
theorem gX6_at_X6_openOf : GoodIn wsX6_at (wsV RX6 120 RX6 yX6_openOf wsX6_openOf) := goodIn_app (goodIn_of _ (by decide +kernel)) ggX6_at_X6_openOf
set_option maxRecDepth 20000 in
theorem ggX6_at_X6_covers : GoodIn wsX6_at wsX6_covers := goodIn_r _ [27, 28, 29, 30, 31, 5, 32, 33, 34, 35, 36, 37, 38, 39, 40, 41, 42, 43, 44, 45, 46, 47, 48, 49, 50, 51, 52, 53, 54, 55, 56, 57, 58, 59, 60, 61, 62, 63, 64, 65, 66, 67, 68] (by decide +kernel) (by decide +kernel)
set_option maxRecDepth 20000 in
theorem gX6_at_X6_covers : GoodIn wsX6_at (wsV RX6 200 RX6 yX6_covers wsX6_covers) := goodIn_app (goodIn_of _ (by decide +kernel)) ggX6_at_X6_covers
theorem dX6_at_0 : decode cX6_at 0 = .ok (.aload_n 0, 1) := by decide +kernel
theorem dX6_at_1 : decode cX6_at 1 = .ok (.iload_n 1, 1) := by decide +kernel
theorem dX6_at_2 : decode cX6_at 2 = .ok (.iload_n 2, 1) := by decide +kernel
theorem dX6_at_3 : decode cX6_at 3 = .ok (.iload_n 3, 1) := by decide +kernel
theorem dX6_at_4 : decode cX6_at 4 = .ok (.invokevirtual 197, 3) := by decide +kernel
theorem dX6_at_7 : decode cX6_at 7 = .ok (.ifCond .eq 29, 3) := by decide +kernel
theorem dX6_at_10 : decode cX6_at 10 = .ok (.iload 4, 2) := by decide +kernel
theorem dX6_at_12 : decode cX6_at 12 = .ok (.iconst 0, 1) := by decide +kernel
theorem dX6_at_13 : decode cX6_at 13 = .ok (.aload_n 0, 1) := by decide +kernel
theorem dX6_at_14 : decode cX6_at 14 = .ok (.getfield 16, 3) := by decide +kernel
theorem dX6_at_17 : decode cX6_at 17 = .ok (.iload_n 1, 1) := by decide +kernel
theorem dX6_at_18 : decode cX6_at 18 = .ok (.iaload, 1) := by decide +kernel
theorem dX6_at_19 : decode cX6_at 19 = .ok (.iconst 1, 1) := by decide +kernel
theorem dX6_at_20 : decode cX6_at 20 = .ok (.isub, 1) := by decide +kernel
theorem dX6_at_21 : decode cX6_at 21 = .ok (.invokestatic 84, 3) := by decide +kernel
theorem dX6_at_24 : decode cX6_at 24 = .ok (.ifCond .eq 12, 3) := by decide +kernel
theorem dX6_at_27 : decode cX6_at 27 = .ok (.aload_n 0, 1) := by decide +kernel
theorem dX6_at_28 : decode cX6_at 28 = .ok (.iload_n 1, 1) := by decide +kernel
theorem dX6_at_29 : decode cX6_at 29 = .ok (.invokevirtual 120, 3) := by decide +kernel
theorem dX6_at_32 : decode cX6_at 32 = .ok (.iconst (-1), 1) := by decide +kernel
theorem dX6_at_33 : decode cX6_at 33 = .ok (.if_icmp .ne 5, 3) := by decide +kernel
theorem dX6_at_36 : decode cX6_at 36 = .ok (.iconst (-1), 1) := by decide +kernel
theorem dX6_at_37 : decode cX6_at 37 = .ok (.ireturn, 1) := by decide +kernel
theorem dX6_at_38 : decode cX6_at 38 = .ok (.aload_n 0, 1) := by decide +kernel
theorem dX6_at_39 : decode cX6_at 39 = .ok (.aload_n 0, 1) := by decide +kernel
theorem dX6_at_40 : decode cX6_at 40 = .ok (.iload_n 1, 1) := by decide +kernel
theorem dX6_at_41 : decode cX6_at 41 = .ok (.invokevirtual 120, 3) := by decide +kernel
theorem dX6_at_44 : decode cX6_at 44 = .ok (.iload_n 2, 1) := by decide +kernel
theorem dX6_at_45 : decode cX6_at 45 = .ok (.iload_n 3, 1) := by decide +kernel
theorem dX6_at_46 : decode cX6_at 46 = .ok (.iload 4, 2) := by decide +kernel
theorem dX6_at_48 : decode cX6_at 48 = .ok (.invokevirtual 200, 3) := by decide +kernel
theorem dX6_at_51 : decode cX6_at 51 = .ok (.ireturn, 1) := by decide +kernel
set_option maxRecDepth 20000 in
theorem ggX6_lane_X6_isLane : GoodIn wsX6_lane wsX6_isLane := goodIn_r _ [7, 8, 9, 10, 11, 12, 6, 13, 14, 15, 16, 17, 51, 52, 53, 54, 55, 56, 57, 58, 59, 60, 61, 62, 63, 64, 65, 66, 67, 68, 69, 70, 71, 72, 73, 74, 75, 76, 77, 78, 79, 80, 81] (by decide +kernel) (by decide +kernel)
set_option maxRecDepth 20000 in
theorem gX6_lane_X6_isLane : GoodIn wsX6_lane (wsV RX6 197 RX6 yX6_isLane wsX6_isLane) := goodIn_app (goodIn_of _ (by decide +kernel)) ggX6_lane_X6_isLane
set_option maxRecDepth 20000 in
theorem ggX6_lane_X6_isIn : GoodIn wsX6_lane wsX6_isIn := goodIn_r _ [17] (by decide +kernel) (by decide +kernel)
set_option maxRecDepth 20000 in
theorem gX6_lane_X6_isIn : GoodIn wsX6_lane (va_wsS RX6 84 yX6_isIn wsX6_isIn) := goodIn_app (goodIn_of _ (by decide +kernel)) ggX6_lane_X6_isIn
set_option maxRecDepth 20000 in
theorem ggX6_lane_X6_openOf : GoodIn wsX6_lane wsX6_openOf := goodIn_r _ [21, 22, 23, 24, 51, 52, 53, 54, 55, 56, 57, 58, 59, 60, 61, 62, 63, 64, 65, 66, 67, 68, 69, 70, 71, 72, 73, 74, 75, 76, 77, 78, 79, 80, 81] (by decide +kernel) (by decide +kernel)
set_option maxRecDepth 20000 in
theorem gX6_lane_X6_openOf : GoodIn wsX6_lane (wsV RX6 120 RX6 yX6_openOf wsX6_openOf) := goodIn_app (goodIn_of _ (by decide +kernel)) ggX6_lane_X6_openOf
set_option maxRecDepth 20000 in
theorem ggX6_lane_X6_mayStand : GoodIn wsX6_lane wsX6_mayStand := goodIn_r _ [28, 29, 30, 31, 32, 33, 6, 34, 35, 36, 37, 38, 39, 51, 52, 53, 54, 55, 56, 57, 58, 59, 60, 61, 62, 63, 64, 65, 66, 67, 68, 69, 70, 71, 72, 73, 74, 75, 76, 77, 78, 79, 80, 81] (by decide +kernel) (by decide +kernel)
set_option maxRecDepth 20000 in
theorem gX6_lane_X6_mayStand : GoodIn wsX6_lane (wsV RX6 146 RX6 yX6_mayStand wsX6_mayStand) := goodIn_app (goodIn_of _ (by decide +kernel)) ggX6_lane_X6_mayStand
set_option maxRecDepth 20000 in
theorem ggX6_lane_X6_measure : GoodIn wsX6_lane wsX6_measure := goodIn_r _ [43, 44, 45, 30, 1, 2, 46, 47, 48, 49, 50, 31, 32, 33, 6, 34, 35, 36, 37, 38, 39, 51, 52, 53, 54, 55, 56, 57, 58, 59, 60, 61, 62, 63, 64, 65, 66, 67, 68, 69, 70, 71, 72, 73, 74, 75, 76, 77, 78, 79, 80, 81] (by decide +kernel) (by decide +kernel)
set_option maxRecDepth 20000 in
theorem gX6_lane_X6_measure : GoodIn wsX6_lane (wsV RX6 150 RX6 yX6_measure wsX6_measure) := goodIn_app (goodIn_of _ (by decide +kernel)) ggX6_lane_X6_measure
theorem dX6_lane_0 : decode cX6_lane 0 = .ok (.aload_n 0, 1) := by decide +kernel
theorem dX6_lane_1 : decode cX6_lane 1 = .ok (.iload_n 1, 1) := by decide +kernel
theorem dX6_lane_2 : decode cX6_lane 2 = .ok (.iload_n 2, 1) := by decide +kernel
theorem dX6_lane_3 : decode cX6_lane 3 = .ok (.iload_n 3, 1) := by decide +kernel
theorem dX6_lane_4 : decode cX6_lane 4 = .ok (.invokevirtual 197, 3) := by decide +kernel
theorem dX6_lane_7 : decode cX6_lane 7 = .ok (.ifCond .eq 13, 3) := by decide +kernel
theorem dX6_lane_10 : decode cX6_lane 10 = .ok (.iload 4, 2) := by decide +kernel
theorem dX6_lane_12 : decode cX6_lane 12 = .ok (.iconst 0, 1) := by decide +kernel
theorem dX6_lane_13 : decode cX6_lane 13 = .ok (.iconst 4, 1) := by decide +kernel
theorem dX6_lane_14 : decode cX6_lane 14 = .ok (.invokestatic 84, 3) := by decide +kernel
theorem dX6_lane_17 : decode cX6_lane 17 = .ok (.ifCond .ne 5, 3) := by decide +kernel
theorem dX6_lane_20 : decode cX6_lane 20 = .ok (.iconst (-1), 1) := by decide +kernel
theorem dX6_lane_21 : decode cX6_lane 21 = .ok (.ireturn, 1) := by decide +kernel
theorem dX6_lane_22 : decode cX6_lane 22 = .ok (.aload_n 0, 1) := by decide +kernel
theorem dX6_lane_23 : decode cX6_lane 23 = .ok (.iload_n 1, 1) := by decide +kernel
theorem dX6_lane_24 : decode cX6_lane 24 = .ok (.invokevirtual 120, 3) := by decide +kernel
theorem dX6_lane_27 : decode cX6_lane 27 = .ok (.istore 5, 2) := by decide +kernel
theorem dX6_lane_29 : decode cX6_lane 29 = .ok (.iload 4, 2) := by decide +kernel
theorem dX6_lane_31 : decode cX6_lane 31 = .ok (.iconst 1, 1) := by decide +kernel
theorem dX6_lane_32 : decode cX6_lane 32 = .ok (.if_icmp .le 25, 3) := by decide +kernel
theorem dX6_lane_35 : decode cX6_lane 35 = .ok (.aload_n 0, 1) := by decide +kernel
theorem dX6_lane_36 : decode cX6_lane 36 = .ok (.iload 5, 2) := by decide +kernel
theorem dX6_lane_38 : decode cX6_lane 38 = .ok (.iload_n 1, 1) := by decide +kernel
theorem dX6_lane_39 : decode cX6_lane 39 = .ok (.iload_n 2, 1) := by decide +kernel
theorem dX6_lane_40 : decode cX6_lane 40 = .ok (.iload_n 3, 1) := by decide +kernel
theorem dX6_lane_41 : decode cX6_lane 41 = .ok (.iload 4, 2) := by decide +kernel
theorem dX6_lane_43 : decode cX6_lane 43 = .ok (.iconst 2, 1) := by decide +kernel
theorem dX6_lane_44 : decode cX6_lane 44 = .ok (.isub, 1) := by decide +kernel
theorem dX6_lane_45 : decode cX6_lane 45 = .ok (.invokevirtual 146, 3) := by decide +kernel
theorem dX6_lane_48 : decode cX6_lane 48 = .ok (.ifCond .eq 7, 3) := by decide +kernel
theorem dX6_lane_51 : decode cX6_lane 51 = .ok (.iconst 1, 1) := by decide +kernel
theorem dX6_lane_52 : decode cX6_lane 52 = .ok (.goto 4, 3) := by decide +kernel
theorem dX6_lane_55 : decode cX6_lane 55 = .ok (.iconst 0, 1) := by decide +kernel
theorem dX6_lane_56 : decode cX6_lane 56 = .ok (.ireturn, 1) := by decide +kernel
theorem dX6_lane_57 : decode cX6_lane 57 = .ok (.aload_n 0, 1) := by decide +kernel
theorem dX6_lane_58 : decode cX6_lane 58 = .ok (.iload 5, 2) := by decide +kernel
theorem dX6_lane_60 : decode cX6_lane 60 = .ok (.iload_n 1, 1) := by decide +kernel
theorem dX6_lane_61 : decode cX6_lane 61 = .ok (.iload_n 2, 1) := by decide +kernel
theorem dX6_lane_62 : decode cX6_lane 62 = .ok (.iload_n 3, 1) := by decide +kernel
theorem dX6_lane_63 : decode cX6_lane 63 = .ok (.iconst 1, 1) := by decide +kernel
theorem dX6_lane_64 : decode cX6_lane 64 = .ok (.invokevirtual 150, 3) := by decide +kernel
theorem dX6_lane_67 : decode cX6_lane 67 = .ok (.iload 4, 2) := by decide +kernel
theorem dX6_lane_69 : decode cX6_lane 69 = .ok (.ifCond .ne 10, 3) := by decide +kernel
theorem dX6_lane_72 : decode cX6_lane 72 = .ok (.aload_n 0, 1) := by decide +kernel
theorem dX6_lane_73 : decode cX6_lane 73 = .ok (.getfield 134, 3) := by decide +kernel
theorem dX6_lane_76 : decode cX6_lane 76 = .ok (.goto 7, 3) := by decide +kernel
theorem dX6_lane_79 : decode cX6_lane 79 = .ok (.aload_n 0, 1) := by decide +kernel
theorem dX6_lane_80 : decode cX6_lane 80 = .ok (.getfield 137, 3) := by decide +kernel
theorem dX6_lane_83 : decode cX6_lane 83 = .ok (.ireturn, 1) := by decide +kernel
theorem dX6_log_0 : decode cX6_log 0 = .ok (.iload_n 1, 1) := by decide +kernel
theorem dX6_log_1 : decode cX6_log 1 = .ok (.ifCond .lt 18, 3) := by decide +kernel
theorem dX6_log_4 : decode cX6_log 4 = .ok (.iload_n 1, 1) := by decide +kernel
theorem dX6_log_5 : decode cX6_log 5 = .ok (.aload_n 0, 1) := by decide +kernel
theorem dX6_log_6 : decode cX6_log 6 = .ok (.getfield 172, 3) := by decide +kernel
theorem dX6_log_9 : decode cX6_log 9 = .ok (.if_icmp .ge 10, 3) := by decide +kernel
theorem dX6_log_12 : decode cX6_log 12 = .ok (.iload_n 1, 1) := by decide +kernel
theorem dX6_log_13 : decode cX6_log 13 = .ok (.sipush 3000, 3) := by decide +kernel
theorem dX6_log_16 : decode cX6_log 16 = .ok (.if_icmp .lt 5, 3) := by decide +kernel
theorem dX6_log_19 : decode cX6_log 19 = .ok (.iconst (-1), 1) := by decide +kernel
theorem dX6_log_20 : decode cX6_log 20 = .ok (.ireturn, 1) := by decide +kernel
theorem dX6_log_21 : decode cX6_log 21 = .ok (.iload_n 2, 1) := by decide +kernel
theorem dX6_log_22 : decode cX6_log 22 = .ok (.ifCond .ne 12, 3) := by decide +kernel
theorem dX6_log_25 : decode cX6_log 25 = .ok (.aload_n 0, 1) := by decide +kernel
theorem dX6_log_26 : decode cX6_log 26 = .ok (.getfield 62, 3) := by decide +kernel
theorem dX6_log_29 : decode cX6_log 29 = .ok (.iload_n 1, 1) := by decide +kernel
theorem dX6_log_30 : decode cX6_log 30 = .ok (.iaload, 1) := by decide +kernel
theorem dX6_log_31 : decode cX6_log 31 = .ok (.goto 32, 3) := by decide +kernel
theorem dX6_log_34 : decode cX6_log 34 = .ok (.iload_n 2, 1) := by decide +kernel
theorem dX6_log_35 : decode cX6_log 35 = .ok (.iconst 1, 1) := by decide +kernel
theorem dX6_log_36 : decode cX6_log 36 = .ok (.if_icmp .ne 12, 3) := by decide +kernel
theorem dX6_log_39 : decode cX6_log 39 = .ok (.aload_n 0, 1) := by decide +kernel
theorem dX6_log_40 : decode cX6_log 40 = .ok (.getfield 65, 3) := by decide +kernel
theorem dX6_log_43 : decode cX6_log 43 = .ok (.iload_n 1, 1) := by decide +kernel
theorem dX6_log_44 : decode cX6_log 44 = .ok (.iaload, 1) := by decide +kernel
theorem dX6_log_45 : decode cX6_log 45 = .ok (.goto 18, 3) := by decide +kernel
theorem dX6_log_48 : decode cX6_log 48 = .ok (.iload_n 2, 1) := by decide +kernel
theorem dX6_log_49 : decode cX6_log 49 = .ok (.iconst 2, 1) := by decide +kernel
theorem dX6_log_50 : decode cX6_log 50 = .ok (.if_icmp .ne 12, 3) := by decide +kernel
theorem dX6_log_53 : decode cX6_log 53 = .ok (.aload_n 0, 1) := by decide +kernel
theorem dX6_log_54 : decode cX6_log 54 = .ok (.getfield 68, 3) := by decide +kernel
theorem dX6_log_57 : decode cX6_log 57 = .ok (.iload_n 1, 1) := by decide +kernel
theorem dX6_log_58 : decode cX6_log 58 = .ok (.iaload, 1) := by decide +kernel
theorem dX6_log_59 : decode cX6_log 59 = .ok (.goto 4, 3) := by decide +kernel
theorem dX6_log_62 : decode cX6_log 62 = .ok (.iconst (-1), 1) := by decide +kernel
theorem dX6_log_63 : decode cX6_log 63 = .ok (.ireturn, 1) := by decide +kernel
theorem dX6_count_0 : decode cX6_count 0 = .ok (.iload_n 1, 1) := by decide +kernel
theorem dX6_count_1 : decode cX6_count 1 = .ok (.tableswitch 60 0 4 #[35, 40, 45, 50, 55], 35) := by decide +kernel
theorem dX6_count_36 : decode cX6_count 36 = .ok (.aload_n 0, 1) := by decide +kernel
theorem dX6_count_37 : decode cX6_count 37 = .ok (.getfield 81, 3) := by decide +kernel
theorem dX6_count_40 : decode cX6_count 40 = .ok (.ireturn, 1) := by decide +kernel
