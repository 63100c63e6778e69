theorem dX6_book_185 : decode cX6_book 185 = .ok (.iload_n 3, 1) := by decide +kernel
theorem dX6_book_186 : decode cX6_book 186 = .ok (.invokevirtual 108, 3) := by decide +kernel
theorem dX6_book_189 : decode cX6_book 189 = .ok (.aload_n 0, 1) := by decide +kernel
theorem dX6_book_190 : decode cX6_book 190 = .ok (.iload 5, 2) := by decide +kernel
theorem dX6_book_192 : decode cX6_book 192 = .ok (.iconst 3, 1) := by decide +kernel
theorem dX6_book_193 : decode cX6_book 193 = .ok (.iload 4, 2) := by decide +kernel
theorem dX6_book_195 : decode cX6_book 195 = .ok (.invokevirtual 108, 3) := by decide +kernel
theorem dX6_book_198 : decode cX6_book 198 = .ok (.aload_n 0, 1) := by decide +kernel
theorem dX6_book_199 : decode cX6_book 199 = .ok (.iload 5, 2) := by decide +kernel
theorem dX6_book_201 : decode cX6_book 201 = .ok (.bipush 10, 2) := by decide +kernel
theorem dX6_book_203 : decode cX6_book 203 = .ok (.iload 6, 2) := by decide +kernel
theorem dX6_book_205 : decode cX6_book 205 = .ok (.bipush 100, 2) := by decide +kernel
theorem dX6_book_207 : decode cX6_book 207 = .ok (.iconst 5, 1) := by decide +kernel
theorem dX6_book_208 : decode cX6_book 208 = .ok (.aload_n 0, 1) := by decide +kernel
theorem dX6_book_209 : decode cX6_book 209 = .ok (.getfield 35, 3) := by decide +kernel
theorem dX6_book_212 : decode cX6_book 212 = .ok (.iload_n 1, 1) := by decide +kernel
theorem dX6_book_213 : decode cX6_book 213 = .ok (.iaload, 1) := by decide +kernel
theorem dX6_book_214 : decode cX6_book 214 = .ok (.imul, 1) := by decide +kernel
theorem dX6_book_215 : decode cX6_book 215 = .ok (.iadd, 1) := by decide +kernel
theorem dX6_book_216 : decode cX6_book 216 = .ok (.imul, 1) := by decide +kernel
theorem dX6_book_217 : decode cX6_book 217 = .ok (.bipush 50, 2) := by decide +kernel
theorem dX6_book_219 : decode cX6_book 219 = .ok (.iadd, 1) := by decide +kernel
theorem dX6_book_220 : decode cX6_book 220 = .ok (.bipush 100, 2) := by decide +kernel
theorem dX6_book_222 : decode cX6_book 222 = .ok (.idiv, 1) := by decide +kernel
theorem dX6_book_223 : decode cX6_book 223 = .ok (.invokevirtual 108, 3) := by decide +kernel
theorem dX6_book_226 : decode cX6_book 226 = .ok (.iload 5, 2) := by decide +kernel
theorem dX6_book_228 : decode cX6_book 228 = .ok (.ireturn, 1) := by decide +kernel
set_option maxRecDepth 20000 in
theorem ggX6_arrive_X6_isTicket : GoodIn wsX6_arrive wsX6_isTicket := goodIn_r _ [6, 7, 25, 26, 27, 28, 29, 30, 31, 32, 33, 34, 35, 36, 37, 38, 39, 40, 41, 42, 43, 44, 45, 46, 47, 48, 49, 50, 51, 52, 53, 54, 55] (by decide +kernel) (by decide +kernel)
set_option maxRecDepth 20000 in
theorem gX6_arrive_X6_isTicket : GoodIn wsX6_arrive (wsV RX6 112 RX6 yX6_isTicket wsX6_isTicket) := goodIn_app (goodIn_of _ (by decide +kernel)) ggX6_arrive_X6_isTicket
set_option maxRecDepth 20000 in
theorem ggX6_arrive_X6_of : GoodIn wsX6_arrive wsX6_of := goodIn_r _ [11, 12, 25, 26, 27, 28, 29, 30, 31, 32, 33, 34, 35, 36, 37, 38, 39, 40, 41, 42, 43, 44, 45, 46, 47, 48, 49, 50, 51, 52, 53, 54, 55] (by decide +kernel) (by decide +kernel)
set_option maxRecDepth 20000 in
theorem gX6_arrive_X6_of : GoodIn wsX6_arrive (wsV RX6 115 RX6 yX6_of wsX6_of) := goodIn_app (goodIn_of _ (by decide +kernel)) ggX6_arrive_X6_of
set_option maxRecDepth 20000 in
theorem ggX6_arrive_X6_isIn : GoodIn wsX6_arrive wsX6_isIn := goodIn_r _ [15] (by decide +kernel) (by decide +kernel)
set_option maxRecDepth 20000 in
theorem gX6_arrive_X6_isIn : GoodIn wsX6_arrive (va_wsS RX6 84 yX6_isIn wsX6_isIn) := goodIn_app (goodIn_of _ (by decide +kernel)) ggX6_arrive_X6_isIn
set_option maxRecDepth 20000 in
theorem ggX6_arrive_X6_isToGo : GoodIn wsX6_arrive wsX6_isToGo := goodIn_r _ [19, 20, 25, 26, 27, 28, 29, 30, 31, 32, 33, 34, 35, 36, 37, 38, 39, 40, 41, 42, 43, 44, 45, 46, 47, 48, 49, 50, 51, 52, 53, 54, 55] (by decide +kernel) (by decide +kernel)
set_option maxRecDepth 20000 in
theorem gX6_arrive_X6_isToGo : GoodIn wsX6_arrive (wsV RX6 105 RX6 yX6_isToGo wsX6_isToGo) := goodIn_app (goodIn_of _ (by decide +kernel)) ggX6_arrive_X6_isToGo
set_option maxRecDepth 20000 in
theorem ggX6_arrive_X6_put : GoodIn wsX6_arrive wsX6_put := goodIn_r _ [24, 12, 25, 26, 27, 28, 29, 30, 31, 32, 33, 34, 35, 36, 37, 38, 39, 40, 41, 42, 43, 44, 45, 46, 47, 48, 49, 50, 51, 52, 53, 54, 55] (by decide +kernel) (by decide +kernel)
set_option maxRecDepth 20000 in
theorem gX6_arrive_X6_put : GoodIn wsX6_arrive (wsV RX6 108 RX6 yX6_put wsX6_put) := goodIn_app (goodIn_of _ (by decide +kernel)) ggX6_arrive_X6_put
theorem dX6_arrive_0 : decode cX6_arrive 0 = .ok (.aload_n 0, 1) := by decide +kernel
theorem dX6_arrive_1 : decode cX6_arrive 1 = .ok (.iload_n 1, 1) := by decide +kernel
theorem dX6_arrive_2 : decode cX6_arrive 2 = .ok (.invokevirtual 112, 3) := by decide +kernel
theorem dX6_arrive_5 : decode cX6_arrive 5 = .ok (.ifCond .eq 35, 3) := by decide +kernel
theorem dX6_arrive_8 : decode cX6_arrive 8 = .ok (.aload_n 0, 1) := by decide +kernel
theorem dX6_arrive_9 : decode cX6_arrive 9 = .ok (.iload_n 1, 1) := by decide +kernel
theorem dX6_arrive_10 : decode cX6_arrive 10 = .ok (.iconst 4, 1) := by decide +kernel
theorem dX6_arrive_11 : decode cX6_arrive 11 = .ok (.invokevirtual 115, 3) := by decide +kernel
theorem dX6_arrive_14 : decode cX6_arrive 14 = .ok (.ifCond .ne 26, 3) := by decide +kernel
theorem dX6_arrive_17 : decode cX6_arrive 17 = .ok (.iload_n 2, 1) := by decide +kernel
theorem dX6_arrive_18 : decode cX6_arrive 18 = .ok (.iconst 0, 1) := by decide +kernel
theorem dX6_arrive_19 : decode cX6_arrive 19 = .ok (.ldc 119, 2) := by decide +kernel
theorem dX6_arrive_21 : decode cX6_arrive 21 = .ok (.invokestatic 84, 3) := by decide +kernel
theorem dX6_arrive_24 : decode cX6_arrive 24 = .ok (.ifCond .eq 16, 3) := by decide +kernel
theorem dX6_arrive_27 : decode cX6_arrive 27 = .ok (.aload_n 0, 1) := by decide +kernel
theorem dX6_arrive_28 : decode cX6_arrive 28 = .ok (.aload_n 0, 1) := by decide +kernel
theorem dX6_arrive_29 : decode cX6_arrive 29 = .ok (.iload_n 1, 1) := by decide +kernel
theorem dX6_arrive_30 : decode cX6_arrive 30 = .ok (.iconst 0, 1) := by decide +kernel
theorem dX6_arrive_31 : decode cX6_arrive 31 = .ok (.invokevirtual 115, 3) := by decide +kernel
theorem dX6_arrive_34 : decode cX6_arrive 34 = .ok (.invokevirtual 105, 3) := by decide +kernel
theorem dX6_arrive_37 : decode cX6_arrive 37 = .ok (.ifCond .ne 5, 3) := by decide +kernel
theorem dX6_arrive_40 : decode cX6_arrive 40 = .ok (.iconst 0, 1) := by decide +kernel
theorem dX6_arrive_41 : decode cX6_arrive 41 = .ok (.ireturn, 1) := by decide +kernel
theorem dX6_arrive_42 : decode cX6_arrive 42 = .ok (.aload_n 0, 1) := by decide +kernel
theorem dX6_arrive_43 : decode cX6_arrive 43 = .ok (.iload_n 1, 1) := by decide +kernel
theorem dX6_arrive_44 : decode cX6_arrive 44 = .ok (.iconst 4, 1) := by decide +kernel
theorem dX6_arrive_45 : decode cX6_arrive 45 = .ok (.iconst 1, 1) := by decide +kernel
theorem dX6_arrive_46 : decode cX6_arrive 46 = .ok (.invokevirtual 108, 3) := by decide +kernel
theorem dX6_arrive_49 : decode cX6_arrive 49 = .ok (.aload_n 0, 1) := by decide +kernel
theorem dX6_arrive_50 : decode cX6_arrive 50 = .ok (.iload_n 1, 1) := by decide +kernel
theorem dX6_arrive_51 : decode cX6_arrive 51 = .ok (.iconst 5, 1) := by decide +kernel
theorem dX6_arrive_52 : decode cX6_arrive 52 = .ok (.iload_n 2, 1) := by decide +kernel
theorem dX6_arrive_53 : decode cX6_arrive 53 = .ok (.invokevirtual 108, 3) := by decide +kernel
theorem dX6_arrive_56 : decode cX6_arrive 56 = .ok (.iconst 1, 1) := by decide +kernel
theorem dX6_arrive_57 : decode cX6_arrive 57 = .ok (.ireturn, 1) := by decide +kernel
theorem dX6_openOf_0 : decode cX6_openOf 0 = .ok (.iconst 0, 1) := by decide +kernel
theorem dX6_openOf_1 : decode cX6_openOf 1 = .ok (.istore_n 2, 1) := by decide +kernel
theorem dX6_openOf_2 : decode cX6_openOf 2 = .ok (.iload_n 2, 1) := by decide +kernel
theorem dX6_openOf_3 : decode cX6_openOf 3 = .ok (.aload_n 0, 1) := by decide +kernel
theorem dX6_openOf_4 : decode cX6_openOf 4 = .ok (.getfield 78, 3) := by decide +kernel
theorem dX6_openOf_7 : decode cX6_openOf 7 = .ok (.if_icmp .ge 31, 3) := by decide +kernel
theorem dX6_openOf_10 : decode cX6_openOf 10 = .ok (.aload_n 0, 1) := by decide +kernel
theorem dX6_openOf_11 : decode cX6_openOf 11 = .ok (.getfield 29, 3) := by decide +kernel
theorem dX6_openOf_14 : decode cX6_openOf 14 = .ok (.iload_n 2, 1) := by decide +kernel
theorem dX6_openOf_15 : decode cX6_openOf 15 = .ok (.iaload, 1) := by decide +kernel
theorem dX6_openOf_16 : decode cX6_openOf 16 = .ok (.iload_n 1, 1) := by decide +kernel
theorem dX6_openOf_17 : decode cX6_openOf 17 = .ok (.if_icmp .ne 15, 3) := by decide +kernel
theorem dX6_openOf_20 : decode cX6_openOf 20 = .ok (.aload_n 0, 1) := by decide +kernel
theorem dX6_openOf_21 : decode cX6_openOf 21 = .ok (.getfield 38, 3) := by decide +kernel
theorem dX6_openOf_24 : decode cX6_openOf 24 = .ok (.iload_n 2, 1) := by decide +kernel
theorem dX6_openOf_25 : decode cX6_openOf 25 = .ok (.iaload, 1) := by decide +kernel
theorem dX6_openOf_26 : decode cX6_openOf 26 = .ok (.iconst 1, 1) := by decide +kernel
theorem dX6_openOf_27 : decode cX6_openOf 27 = .ok (.if_icmp .ne 5, 3) := by decide +kernel
theorem dX6_openOf_30 : decode cX6_openOf 30 = .ok (.iload_n 2, 1) := by decide +kernel
theorem dX6_openOf_31 : decode cX6_openOf 31 = .ok (.ireturn, 1) := by decide +kernel
theorem dX6_openOf_32 : decode cX6_openOf 32 = .ok (.iinc 2 1, 3) := by decide +kernel
theorem dX6_openOf_35 : decode cX6_openOf 35 = .ok (.goto (-33), 3) := by decide +kernel
theorem dX6_openOf_38 : decode cX6_openOf 38 = .ok (.iconst (-1), 1) := by decide +kernel
theorem dX6_openOf_39 : decode cX6_openOf 39 = .ok (.ireturn, 1) := by decide +kernel
set_option maxRecDepth 20000 in
theorem ggX6_open_X6_isSailing : GoodIn wsX6_open wsX6_isSailing := goodIn_r _ [7, 8, 13, 14, 15, 16, 17, 18, 19, 20, 21, 22, 23, 24, 25, 26, 27, 28, 29, 30, 31, 32, 33, 34, 35, 36, 37, 38, 39, 40, 41, 42, 43] (by decide +kernel) (by decide +kernel)
set_option maxRecDepth 20000 in
theorem gX6_open_X6_isSailing : GoodIn wsX6_open (wsV RX6 102 RX6 yX6_isSailing wsX6_isSailing) := goodIn_app (goodIn_of _ (by decide +kernel)) ggX6_open_X6_isSailing
set_option maxRecDepth 20000 in
theorem ggX6_open_X6_openOf : GoodIn wsX6_open wsX6_openOf := goodIn_r _ [12, 8, 2, 1, 13, 14, 15, 16, 17, 18, 19, 20, 21, 22, 23, 24, 25, 26, 27, 28, 29, 30, 31, 32, 33, 34, 35, 36, 37, 38, 39, 40, 41, 42, 43] (by decide +kernel) (by decide +kernel)
set_option maxRecDepth 20000 in
theorem gX6_open_X6_openOf : GoodIn wsX6_open (wsV RX6 120 RX6 yX6_openOf wsX6_openOf) := goodIn_app (goodIn_of _ (by decide +kernel)) ggX6_open_X6_openOf
theorem dX6_open_0 : decode cX6_open 0 = .ok (.aload_n 0, 1) := by decide +kernel
theorem dX6_open_1 : decode cX6_open 1 = .ok (.iload_n 1, 1) := by decide +kernel
theorem dX6_open_2 : decode cX6_open 2 = .ok (.invokevirtual 102, 3) := by decide +kernel
theorem dX6_open_5 : decode cX6_open 5 = .ok (.ifCond .eq 26, 3) := by decide +kernel
theorem dX6_open_8 : decode cX6_open 8 = .ok (.aload_n 0, 1) := by decide +kernel
theorem dX6_open_9 : decode cX6_open 9 = .ok (.getfield 38, 3) := by decide +kernel
theorem dX6_open_12 : decode cX6_open 12 = .ok (.iload_n 1, 1) := by decide +kernel
theorem dX6_open_13 : decode cX6_open 13 = .ok (.iaload, 1) := by decide +kernel
theorem dX6_open_14 : decode cX6_open 14 = .ok (.ifCond .ne 17, 3) := by decide +kernel
theorem dX6_open_17 : decode cX6_open 17 = .ok (.aload_n 0, 1) := by decide +kernel
theorem dX6_open_18 : decode cX6_open 18 = .ok (.aload_n 0, 1) := by decide +kernel
theorem dX6_open_19 : decode cX6_open 19 = .ok (.getfield 29, 3) := by decide +kernel
theorem dX6_open_22 : decode cX6_open 22 = .ok (.iload_n 1, 1) := by decide +kernel
theorem dX6_open_23 : decode cX6_open 23 = .ok (.iaload, 1) := by decide +kernel
theorem dX6_open_24 : decode cX6_open 24 = .ok (.invokevirtual 120, 3) := by decide +kernel
theorem dX6_open_27 : decode cX6_open 27 = .ok (.iconst (-1), 1) := by decide +kernel
theorem dX6_open_28 : decode cX6_open 28 = .ok (.if_icmp .eq 5, 3) := by decide +kernel
theorem dX6_open_31 : decode cX6_open 31 = .ok (.iconst 0, 1) := by decide +kernel
theorem dX6_open_32 : decode cX6_open 32 = .ok (.ireturn, 1) := by decide +kernel
theorem dX6_open_33 : decode cX6_open 33 = .ok (.aload_n 0, 1) := by decide +kernel
theorem dX6_open_34 : decode cX6_open 34 = .ok (.getfield 38, 3) := by decide +kernel
theorem dX6_open_37 : decode cX6_open 37 = .ok (.iload_n 1, 1) := by decide +kernel
theorem dX6_open_38 : decode cX6_open 38 = .ok (.iconst 1, 1) := by decide +kernel
theorem dX6_open_39 : decode cX6_open 39 = .ok (.iastore, 1) := by decide +kernel
theorem dX6_open_40 : decode cX6_open 40 = .ok (.iconst 1, 1) := by decide +kernel
theorem dX6_open_41 : decode cX6_open 41 = .ok (.ireturn, 1) := by decide +kernel
set_option maxRecDepth 20000 in
theorem ggX6_recall_X6_isSailing : GoodIn wsX6_recall wsX6_isSailing := goodIn_r _ [7, 8, 51, 52, 53, 54, 55, 56, 57, 58, 59, 60, 61, 62, 63, 64, 65, 66, 67, 68, 69, 70, 71, 72, 73, 74, 75, 76, 77, 78, 79, 80, 81] (by decide +kernel) (by decide +kernel)
set_option maxRecDepth 20000 in
theorem gX6_recall_X6_isSailing : GoodIn wsX6_recall (wsV RX6 102 RX6 yX6_isSailing wsX6_isSailing) := goodIn_app (goodIn_of _ (by decide +kernel)) ggX6_recall_X6_isSailing
set_option maxRecDepth 20000 in
theorem ggX6_recall_X6_isIn : GoodIn wsX6_recall wsX6_isIn := goodIn_r _ [11] (by decide +kernel) (by decide +kernel)
set_option maxRecDepth 20000 in
theorem gX6_recall_X6_isIn : GoodIn wsX6_recall (va_wsS RX6 84 yX6_isIn wsX6_isIn) := goodIn_app (goodIn_of _ (by decide +kernel)) ggX6_recall_X6_isIn
set_option maxRecDepth 20000 in
theorem ggX6_recall_X6_lookAtRecall : GoodIn wsX6_recall wsX6_lookAtRecall := goodIn_r _ [15, 2, 16, 17, 1, 18, 19, 20, 6, 21, 22, 23, 24, 25, 26, 27, 28, 29, 30, 31, 32, 33, 34, 35, 36, 37, 38, 39, 40, 41, 42, 43, 44, 45, 46, 47, 48, 49, 50, 51, 52, 53, 54, 55, 56, 57, 58, 59, 60, 61, 62, 63, 64, 65, 66, 67, 68, 69, 70, 71, 72, 73, 74, 75, 76, 77, 78, 79, 80, 81] (by decide +kernel) (by decide +kernel)
set_option maxRecDepth 20000 in
theorem gX6_recall_X6_lookAtRecall : GoodIn wsX6_recall (wsV RX6 123 RX6 yX6_lookAtRecall wsX6_lookAtRecall) := goodIn_app (goodIn_of _ (by decide +kernel)) ggX6_recall_X6_lookAtRecall
theorem dX6_recall_0 : decode cX6_recall 0 = .ok (.aload_n 0, 1) := by decide +kernel
theorem dX6_recall_1 : decode cX6_recall 1 = .ok (.iload_n 1, 1) := by decide +kernel
theorem dX6_recall_2 : decode cX6_recall 2 = .ok (.invokevirtual 102, 3) := by decide +kernel
theorem dX6_recall_5 : decode cX6_recall 5 = .ok (.ifCond .eq 34, 3) := by decide +kernel
theorem dX6_recall_8 : decode cX6_recall 8 = .ok (.aload_n 0, 1) := by decide +kernel
theorem dX6_recall_9 : decode cX6_recall 9 = .ok (.getfield 38, 3) := by decide +kernel
theorem dX6_recall_12 : decode cX6_recall 12 = .ok (.iload_n 1, 1) := by decide +kernel
theorem dX6_recall_13 : decode cX6_recall 13 = .ok (.iaload, 1) := by decide +kernel
theorem dX6_recall_14 : decode cX6_recall 14 = .ok (.iconst 1, 1) := by decide +kernel
theorem dX6_recall_15 : decode cX6_recall 15 = .ok (.if_icmp .ne 24, 3) := by decide +kernel
theorem dX6_recall_18 : decode cX6_recall 18 = .ok (.aload_n 0, 1) := by decide +kernel
theorem dX6_recall_19 : decode cX6_recall 19 = .ok (.getfield 44, 3) := by decide +kernel
theorem dX6_recall_22 : decode cX6_recall 22 = .ok (.iload_n 1, 1) := by decide +kernel
theorem dX6_recall_23 : decode cX6_recall 23 = .ok (.iaload, 1) := by decide +kernel
theorem dX6_recall_24 : decode cX6_recall 24 = .ok (.iconst (-1), 1) := by decide +kernel
theorem dX6_recall_25 : decode cX6_recall 25 = .ok (.if_icmp .ne 14, 3) := by decide +kernel
theorem dX6_recall_28 : decode cX6_recall 28 = .ok (.iload_n 2, 1) := by decide +kernel
theorem dX6_recall_29 : decode cX6_recall 29 = .ok (.iconst 0, 1) := by decide +kernel
theorem dX6_recall_30 : decode cX6_recall 30 = .ok (.sipush 1000, 3) := by decide +kernel
theorem dX6_recall_33 : decode cX6_recall 33 = .ok (.invokestatic 84, 3) := by decide +kernel
theorem dX6_recall_36 : decode cX6_recall 36 = .ok (.ifCond .ne 5, 3) := by decide +kernel
theorem dX6_recall_39 : decode cX6_recall 39 = .ok (.iconst 0, 1) := by decide +kernel
theorem dX6_recall_40 : decode cX6_recall 40 = .ok (.ireturn, 1) := by decide +kernel
theorem dX6_recall_41 : decode cX6_recall 41 = .ok (.aload_n 0, 1) := by decide +kernel
theorem dX6_recall_42 : decode cX6_recall 42 = .ok (.getfield 44, 3) := by decide +kernel
theorem dX6_recall_45 : decode cX6_recall 45 = .ok (.iload_n 1, 1) := by decide +kernel
theorem dX6_recall_46 : decode cX6_recall 46 = .ok (.iload_n 2, 1) := by decide +kernel
theorem dX6_recall_47 : decode cX6_recall 47 = .ok (.iastore, 1) := by decide +kernel
theorem dX6_recall_48 : decode cX6_recall 48 = .ok (.aload_n 0, 1) := by decide +kernel
theorem dX6_recall_49 : decode cX6_recall 49 = .ok (.iload_n 1, 1) := by decide +kernel
theorem dX6_recall_50 : decode cX6_recall 50 = .ok (.invokevirtual 123, 3) := by decide +kernel
theorem dX6_recall_53 : decode cX6_recall 53 = .ok (.iconst 1, 1) := by decide +kernel
theorem dX6_recall_54 : decode cX6_recall 54 = .ok (.ireturn, 1) := by decide +kernel
set_option maxRecDepth 20000 in
theorem ggX6_lookAtRecall_X6_hasTurn : GoodIn wsX6_lookAtRecall wsX6_hasTurn := goodIn_r _ [9, 10, 11, 12, 8, 13, 14, 4, 2, 15, 3, 16, 17, 18, 19, 20, 21, 22, 23, 24, 25, 26, 27, 28, 29, 30, 31, 32, 33, 34, 35, 36, 37, 38, 39, 40, 41, 42, 43, 44, 45, 46, 47, 48, 49, 50, 51, 52, 53, 54, 55, 56, 57, 58, 59, 60, 61, 62, 63, 64, 65, 66, 67, 68, 69] (by decide +kernel) (by decide +kernel)
set_option maxRecDepth 20000 in
theorem gX6_lookAtRecall_X6_hasTurn : GoodIn wsX6_lookAtRecall (wsV RX6 127 RX6 yX6_hasTurn wsX6_hasTurn) := goodIn_app (goodIn_of _ (by decide +kernel)) ggX6_lookAtRecall_X6_hasTurn
theorem dX6_lookAtRecall_0 : decode cX6_lookAtRecall 0 = .ok (.aload_n 0, 1) := by decide +kernel
theorem dX6_lookAtRecall_1 : decode cX6_lookAtRecall 1 = .ok (.getfield 44, 3) := by decide +kernel
theorem dX6_lookAtRecall_4 : decode cX6_lookAtRecall 4 = .ok (.iload_n 1, 1) := by decide +kernel
theorem dX6_lookAtRecall_5 : decode cX6_lookAtRecall 5 = .ok (.iaload, 1) := by decide +kernel
theorem dX6_lookAtRecall_6 : decode cX6_lookAtRecall 6 = .ok (.iconst (-1), 1) := by decide +kernel
theorem dX6_lookAtRecall_7 : decode cX6_lookAtRecall 7 = .ok (.if_icmp .ne 4, 3) := by decide +kernel
theorem dX6_lookAtRecall_10 : decode cX6_lookAtRecall 10 = .ok (.return_, 1) := by decide +kernel
theorem dX6_lookAtRecall_11 : decode cX6_lookAtRecall 11 = .ok (.aload_n 0, 1) := by decide +kernel
theorem dX6_lookAtRecall_12 : decode cX6_lookAtRecall 12 = .ok (.getfield 53, 3) := by decide +kernel
theorem dX6_lookAtRecall_15 : decode cX6_lookAtRecall 15 = .ok (.iload_n 1, 1) := by decide +kernel
theorem dX6_lookAtRecall_16 : decode cX6_lookAtRecall 16 = .ok (.baload, 1) := by decide +kernel
theorem dX6_lookAtRecall_17 : decode cX6_lookAtRecall 17 = .ok (.ifCond .ne 41, 3) := by decide +kernel
theorem dX6_lookAtRecall_20 : decode cX6_lookAtRecall 20 = .ok (.aload_n 0, 1) := by decide +kernel
theorem dX6_lookAtRecall_21 : decode cX6_lookAtRecall 21 = .ok (.getfield 44, 3) := by decide +kernel
theorem dX6_lookAtRecall_24 : decode cX6_lookAtRecall 24 = .ok (.iload_n 1, 1) := by decide +kernel
theorem dX6_lookAtRecall_25 : decode cX6_lookAtRecall 25 = .ok (.iaload, 1) := by decide +kernel
theorem dX6_lookAtRecall_26 : decode cX6_lookAtRecall 26 = .ok (.ifCond .eq 11, 3) := by decide +kernel
theorem dX6_lookAtRecall_29 : decode cX6_lookAtRecall 29 = .ok (.aload_n 0, 1) := by decide +kernel
theorem dX6_lookAtRecall_30 : decode cX6_lookAtRecall 30 = .ok (.iload_n 1, 1) := by decide +kernel
theorem dX6_lookAtRecall_31 : decode cX6_lookAtRecall 31 = .ok (.invokevirtual 127, 3) := by decide +kernel
theorem dX6_lookAtRecall_34 : decode cX6_lookAtRecall 34 = .ok (.ifCond .ne 24, 3) := by decide +kernel
theorem dX6_lookAtRecall_37 : decode cX6_lookAtRecall 37 = .ok (.aload_n 0, 1) := by decide +kernel
theorem dX6_lookAtRecall_38 : decode cX6_lookAtRecall 38 = .ok (.getfield 53, 3) := by decide +kernel
theorem dX6_lookAtRecall_41 : decode cX6_lookAtRecall 41 = .ok (.iload_n 1, 1) := by decide +kernel
theorem dX6_lookAtRecall_42 : decode cX6_lookAtRecall 42 = .ok (.iconst 1, 1) := by decide +kernel
theorem dX6_lookAtRecall_43 : decode cX6_lookAtRecall 43 = .ok (.bastore, 1) := by decide +kernel
theorem dX6_lookAtRecall_44 : decode cX6_lookAtRecall 44 = .ok (.aload_n 0, 1) := by decide +kernel
theorem dX6_lookAtRecall_45 : decode cX6_lookAtRecall 45 = .ok (.getfield 44, 3) := by decide +kernel
theorem dX6_lookAtRecall_48 : decode cX6_lookAtRecall 48 = .ok (.iload_n 1, 1) := by decide +kernel
theorem dX6_lookAtRecall_49 : decode cX6_lookAtRecall 49 = .ok (.iconst 0, 1) := by decide +kernel
theorem dX6_lookAtRecall_50 : decode cX6_lookAtRecall 50 = .ok (.iastore, 1) := by decide +kernel
theorem dX6_lookAtRecall_51 : decode cX6_lookAtRecall 51 = .ok (.aload_n 0, 1) := by decide +kernel
theorem dX6_lookAtRecall_52 : decode cX6_lookAtRecall 52 = .ok (.getfield 47, 3) := by decide +kernel
theorem dX6_lookAtRecall_55 : decode cX6_lookAtRecall 55 = .ok (.iload_n 1, 1) := by decide +kernel
theorem dX6_lookAtRecall_56 : decode cX6_lookAtRecall 56 = .ok (.iconst (-1), 1) := by decide +kernel
theorem dX6_lookAtRecall_57 : decode cX6_lookAtRecall 57 = .ok (.iastore, 1) := by decide +kernel
theorem dX6_lookAtRecall_58 : decode cX6_lookAtRecall 58 = .ok (.aload_n 0, 1) := by decide +kernel
theorem dX6_lookAtRecall_59 : decode cX6_lookAtRecall 59 = .ok (.getfield 53, 3) := by decide +kernel
theorem dX6_lookAtRecall_62 : decode cX6_lookAtRecall 62 = .ok (.iload_n 1, 1) := by decide +kernel
theorem dX6_lookAtRecall_63 : decode cX6_lookAtRecall 63 = .ok (.baload, 1) := by decide +kernel
theorem dX6_lookAtRecall_64 : decode cX6_lookAtRecall 64 = .ok (.ifCond .eq 18, 3) := by decide +kernel
theorem dX6_lookAtRecall_67 : decode cX6_lookAtRecall 67 = .ok (.aload_n 0, 1) := by decide +kernel
theorem dX6_lookAtRecall_68 : decode cX6_lookAtRecall 68 = .ok (.iload_n 1, 1) := by decide +kernel
theorem dX6_lookAtRecall_69 : decode cX6_lookAtRecall 69 = .ok (.invokevirtual 127, 3) := by decide +kernel
theorem dX6_lookAtRecall_72 : decode cX6_lookAtRecall 72 = .ok (.ifCond .ne 10, 3) := by decide +kernel
theorem dX6_lookAtRecall_75 : decode cX6_lookAtRecall 75 = .ok (.aload_n 0, 1) := by decide +kernel
theorem dX6_lookAtRecall_76 : decode cX6_lookAtRecall 76 = .ok (.getfield 38, 3) := by decide +kernel
theorem dX6_lookAtRecall_79 : decode cX6_lookAtRecall 79 = .ok (.iload_n 1, 1) := by decide +kernel
theorem dX6_lookAtRecall_80 : decode cX6_lookAtRecall 80 = .ok (.iconst 3, 1) := by decide +kernel
theorem dX6_lookAtRecall_81 : decode cX6_lookAtRecall 81 = .ok (.iastore, 1) := by decide +kernel
theorem dX6_lookAtRecall_82 : decode cX6_lookAtRecall 82 = .ok (.return_, 1) := by decide +kernel
set_option maxRecDepth 20000 in
theorem ggX6_isAboard_X6_of : GoodIn wsX6_isAboard wsX6_of := goodIn_r _ [5, 6, 7, 8, 9, 10, 11, 12, 13, 14, 15, 16, 17, 18, 19, 20, 21, 22, 23, 24, 25, 26, 27, 28, 29, 30, 31, 32, 33, 34, 35, 36, 37] (by decide +kernel) (by decide +kernel)
set_option maxRecDepth 20000 in
theorem gX6_isAboard_X6_of : GoodIn wsX6_isAboard (wsV RX6 115 RX6 yX6_of wsX6_of) := goodIn_app (goodIn_of _ (by decide +kernel)) ggX6_isAboard_X6_of
theorem dX6_isAboard_0 : decode cX6_isAboard 0 = .ok (.aload_n 0, 1) := by decide +kernel
theorem dX6_isAboard_1 : decode cX6_isAboard 1 = .ok (.iload_n 1, 1) := by decide +kernel
theorem dX6_isAboard_2 : decode cX6_isAboard 2 = .ok (.iconst 0, 1) := by decide +kernel
theorem dX6_isAboard_3 : decode cX6_isAboard 3 = .ok (.invokevirtual 115, 3) := by decide +kernel
theorem dX6_isAboard_6 : decode cX6_isAboard 6 = .ok (.iload_n 2, 1) := by decide +kernel
theorem dX6_isAboard_7 : decode cX6_isAboard 7 = .ok (.if_icmp .ne 17, 3) := by decide +kernel
theorem dX6_isAboard_10 : decode cX6_isAboard 10 = .ok (.aload_n 0, 1) := by decide +kernel
theorem dX6_isAboard_11 : decode cX6_isAboard 11 = .ok (.iload_n 1, 1) := by decide +kernel
theorem dX6_isAboard_12 : decode cX6_isAboard 12 = .ok (.iconst 4, 1) := by decide +kernel
theorem dX6_isAboard_13 : decode cX6_isAboard 13 = .ok (.invokevirtual 115, 3) := by decide +kernel
theorem dX6_isAboard_16 : decode cX6_isAboard 16 = .ok (.iconst 3, 1) := by decide +kernel
theorem dX6_isAboard_17 : decode cX6_isAboard 17 = .ok (.if_icmp .ne 7, 3) := by decide +kernel
theorem dX6_isAboard_20 : decode cX6_isAboard 20 = .ok (.iconst 1, 1) := by decide +kernel
theorem dX6_isAboard_21 : decode cX6_isAboard 21 = .ok (.goto 4, 3) := by decide +kernel
theorem dX6_isAboard_24 : decode cX6_isAboard 24 = .ok (.iconst 0, 1) := by decide +kernel
theorem dX6_isAboard_25 : decode cX6_isAboard 25 = .ok (.ireturn, 1) := by decide +kernel
set_option maxRecDepth 20000 in
theorem ggX6_covers_X6_isAboard : GoodIn wsX6_covers wsX6_isAboard := goodIn_r _ [6, 7, 8, 9, 5, 10, 11, 12, 13, 14, 15, 16, 17, 18, 19, 20, 21, 22, 23, 24, 25, 26, 27, 28, 29, 30, 31, 32, 33, 34, 35, 36, 37, 38, 39, 40, 41, 42] (by decide +kernel) (by decide +kernel)
set_option maxRecDepth 20000 in
theorem gX6_covers_X6_isAboard : GoodIn wsX6_covers (wsV RX6 130 RX6 yX6_isAboard wsX6_isAboard) := goodIn_app (goodIn_of _ (by decide +kernel)) ggX6_covers_X6_isAboard
set_option maxRecDepth 20000 in
theorem ggX6_covers_X6_of : GoodIn wsX6_covers wsX6_of := goodIn_r _ [10, 11, 12, 13, 14, 15, 16, 17, 18, 19, 20, 21, 22, 23, 24, 25, 26, 27, 28, 29, 30, 31, 32, 33, 34, 35, 36, 37, 38, 39, 40, 41, 42] (by decide +kernel) (by decide +kernel)
set_option maxRecDepth 20000 in
theorem gX6_covers_X6_of : GoodIn wsX6_covers (wsV RX6 115 RX6 yX6_of wsX6_of) := goodIn_app (goodIn_of _ (by decide +kernel)) ggX6_covers_X6_of
theorem dX6_covers_0 : decode cX6_covers 0 = .ok (.iconst 0, 1) := by decide +kernel
theorem dX6_covers_1 : decode cX6_covers 1 = .ok (.istore 5, 2) := by decide +kernel
theorem dX6_covers_3 : decode cX6_covers 3 = .ok (.iload 5, 2) := by decide +kernel
theorem dX6_covers_5 : decode cX6_covers 5 = .ok (.aload_n 0, 1) := by decide +kernel
theorem dX6_covers_6 : decode cX6_covers 6 = .ok (.getfield 74, 3) := by decide +kernel
theorem dX6_covers_9 : decode cX6_covers 9 = .ok (.if_icmp .ge 80, 3) := by decide +kernel
theorem dX6_covers_12 : decode cX6_covers 12 = .ok (.aload_n 0, 1) := by decide +kernel
theorem dX6_covers_13 : decode cX6_covers 13 = .ok (.iload 5, 2) := by decide +kernel
theorem dX6_covers_15 : decode cX6_covers 15 = .ok (.iload_n 1, 1) := by decide +kernel
theorem dX6_covers_16 : decode cX6_covers 16 = .ok (.invokevirtual 130, 3) := by decide +kernel
theorem dX6_covers_19 : decode cX6_covers 19 = .ok (.ifCond .eq 64, 3) := by decide +kernel
theorem dX6_covers_22 : decode cX6_covers 22 = .ok (.aload_n 0, 1) := by decide +kernel
theorem dX6_covers_23 : decode cX6_covers 23 = .ok (.iload 5, 2) := by decide +kernel
theorem dX6_covers_25 : decode cX6_covers 25 = .ok (.bipush 6, 2) := by decide +kernel
theorem dX6_covers_27 : decode cX6_covers 27 = .ok (.invokevirtual 115, 3) := by decide +kernel
theorem dX6_covers_30 : decode cX6_covers 30 = .ok (.iload_n 2, 1) := by decide +kernel
theorem dX6_covers_31 : decode cX6_covers 31 = .ok (.if_icmp .ne 52, 3) := by decide +kernel
theorem dX6_covers_34 : decode cX6_covers 34 = .ok (.aload_n 0, 1) := by decide +kernel
theorem dX6_covers_35 : decode cX6_covers 35 = .ok (.iload 5, 2) := by decide +kernel
theorem dX6_covers_37 : decode cX6_covers 37 = .ok (.bipush 7, 2) := by decide +kernel
theorem dX6_covers_39 : decode cX6_covers 39 = .ok (.invokevirtual 115, 3) := by decide +kernel
theorem dX6_covers_42 : decode cX6_covers 42 = .ok (.iload_n 3, 1) := by decide +kernel
theorem dX6_covers_43 : decode cX6_covers 43 = .ok (.if_icmp .ne 40, 3) := by decide +kernel
theorem dX6_covers_46 : decode cX6_covers 46 = .ok (.iload 4, 2) := by decide +kernel
theorem dX6_covers_48 : decode cX6_covers 48 = .ok (.aload_n 0, 1) := by decide +kernel
theorem dX6_covers_49 : decode cX6_covers 49 = .ok (.iload 5, 2) := by decide +kernel
theorem dX6_covers_51 : decode cX6_covers 51 = .ok (.bipush 8, 2) := by decide +kernel
theorem dX6_covers_53 : decode cX6_covers 53 = .ok (.invokevirtual 115, 3) := by decide +kernel
theorem dX6_covers_56 : decode cX6_covers 56 = .ok (.if_icmp .lt 27, 3) := by decide +kernel
theorem dX6_covers_59 : decode cX6_covers 59 = .ok (.iload 4, 2) := by decide +kernel
theorem dX6_covers_61 : decode cX6_covers 61 = .ok (.aload_n 0, 1) := by decide +kernel
theorem dX6_covers_62 : decode cX6_covers 62 = .ok (.iload 5, 2) := by decide +kernel
theorem dX6_covers_64 : decode cX6_covers 64 = .ok (.bipush 8, 2) := by decide +kernel
theorem dX6_covers_66 : decode cX6_covers 66 = .ok (.invokevirtual 115, 3) := by decide +kernel
theorem dX6_covers_69 : decode cX6_covers 69 = .ok (.aload_n 0, 1) := by decide +kernel
theorem dX6_covers_70 : decode cX6_covers 70 = .ok (.iload 5, 2) := by decide +kernel
theorem dX6_covers_72 : decode cX6_covers 72 = .ok (.iconst 1, 1) := by decide +kernel
theorem dX6_covers_73 : decode cX6_covers 73 = .ok (.invokevirtual 115, 3) := by decide +kernel
theorem dX6_covers_76 : decode cX6_covers 76 = .ok (.iadd, 1) := by decide +kernel
theorem dX6_covers_77 : decode cX6_covers 77 = .ok (.if_icmp .ge 6, 3) := by decide +kernel
theorem dX6_covers_80 : decode cX6_covers 80 = .ok (.iload 5, 2) := by decide +kernel
theorem dX6_covers_82 : decode cX6_covers 82 = .ok (.ireturn, 1) := by decide +kernel
theorem dX6_covers_83 : decode cX6_covers 83 = .ok (.iinc 5 1, 3) := by decide +kernel
theorem dX6_covers_86 : decode cX6_covers 86 = .ok (.goto (-83), 3) := by decide +kernel
theorem dX6_covers_89 : decode cX6_covers 89 = .ok (.iconst (-1), 1) := by decide +kernel
theorem dX6_covers_90 : decode cX6_covers 90 = .ok (.ireturn, 1) := by decide +kernel
set_option maxRecDepth 20000 in
theorem ggX6_measure_X6_isAboard : GoodIn wsX6_measure wsX6_isAboard := goodIn_r _ [15, 16, 17, 18, 14, 19, 20, 21, 22, 23, 24, 25, 26, 27, 28, 29, 30, 31, 32, 33, 34, 35, 36, 37, 38, 39, 40, 41, 42, 43, 44, 45, 46, 47, 48, 49, 50, 51] (by decide +kernel) (by decide +kernel)
set_option maxRecDepth 20000 in
theorem gX6_measure_X6_isAboard : GoodIn wsX6_measure (wsV RX6 130 RX6 yX6_isAboard wsX6_isAboard) := goodIn_app (goodIn_of _ (by decide +kernel)) ggX6_measure_X6_isAboard
set_option maxRecDepth 20000 in
theorem ggX6_measure_X6_of : GoodIn wsX6_measure wsX6_of := goodIn_r _ [19, 20, 21, 22, 23, 24, 25, 26, 27, 28, 29, 30, 31, 32, 33, 34, 35, 36, 37, 38, 39, 40, 41, 42, 43, 44, 45, 46, 47, 48, 49, 50, 51] (by decide +kernel) (by decide +kernel)
set_option maxRecDepth 20000 in
theorem gX6_measure_X6_of : GoodIn wsX6_measure (wsV RX6 115 RX6 yX6_of wsX6_of) := goodIn_app (goodIn_of _ (by decide +kernel)) ggX6_measure_X6_of
theorem dX6_measure_0 : decode cX6_measure 0 = .ok (.aload_n 0, 1) := by decide +kernel
theorem dX6_measure_1 : decode cX6_measure 1 = .ok (.getfield 16, 3) := by decide +kernel
theorem dX6_measure_4 : decode cX6_measure 4 = .ok (.iload_n 2, 1) := by decide +kernel
theorem dX6_measure_5 : decode cX6_measure 5 = .ok (.iaload, 1) := by decide +kernel
theorem dX6_measure_6 : decode cX6_measure 6 = .ok (.istore 6, 2) := by decide +kernel
theorem dX6_measure_8 : decode cX6_measure 8 = .ok (.iconst 0, 1) := by decide +kernel
theorem dX6_measure_9 : decode cX6_measure 9 = .ok (.istore 7, 2) := by decide +kernel
theorem dX6_measure_11 : decode cX6_measure 11 = .ok (.iload 7, 2) := by decide +kernel
theorem dX6_measure_13 : decode cX6_measure 13 = .ok (.iload 6, 2) := by decide +kernel
theorem dX6_measure_15 : decode cX6_measure 15 = .ok (.if_icmp .ge 17, 3) := by decide +kernel
theorem dX6_measure_18 : decode cX6_measure 18 = .ok (.aload_n 0, 1) := by decide +kernel
theorem dX6_measure_19 : decode cX6_measure 19 = .ok (.getfield 71, 3) := by decide +kernel
theorem dX6_measure_22 : decode cX6_measure 22 = .ok (.iload 7, 2) := by decide +kernel
theorem dX6_measure_24 : decode cX6_measure 24 = .ok (.iconst 0, 1) := by decide +kernel
theorem dX6_measure_25 : decode cX6_measure 25 = .ok (.bastore, 1) := by decide +kernel
theorem dX6_measure_26 : decode cX6_measure 26 = .ok (.iinc 7 1, 3) := by decide +kernel
theorem dX6_measure_29 : decode cX6_measure 29 = .ok (.goto (-18), 3) := by decide +kernel
theorem dX6_measure_32 : decode cX6_measure 32 = .ok (.iconst 0, 1) := by decide +kernel
theorem dX6_measure_33 : decode cX6_measure 33 = .ok (.istore 7, 2) := by decide +kernel
theorem dX6_measure_35 : decode cX6_measure 35 = .ok (.iload 7, 2) := by decide +kernel
theorem dX6_measure_37 : decode cX6_measure 37 = .ok (.aload_n 0, 1) := by decide +kernel
theorem dX6_measure_38 : decode cX6_measure 38 = .ok (.getfield 74, 3) := by decide +kernel
theorem dX6_measure_41 : decode cX6_measure 41 = .ok (.if_icmp .ge 101, 3) := by decide +kernel
theorem dX6_measure_44 : decode cX6_measure 44 = .ok (.iload_n 1, 1) := by decide +kernel
theorem dX6_measure_45 : decode cX6_measure 45 = .ok (.iconst (-1), 1) := by decide +kernel
theorem dX6_measure_46 : decode cX6_measure 46 = .ok (.if_icmp .eq 96, 3) := by decide +kernel
theorem dX6_measure_49 : decode cX6_measure 49 = .ok (.aload_n 0, 1) := by decide +kernel
theorem dX6_measure_50 : decode cX6_measure 50 = .ok (.iload 7, 2) := by decide +kernel
theorem dX6_measure_52 : decode cX6_measure 52 = .ok (.iload_n 1, 1) := by decide +kernel
theorem dX6_measure_53 : decode cX6_measure 53 = .ok (.invokevirtual 130, 3) := by decide +kernel
theorem dX6_measure_56 : decode cX6_measure 56 = .ok (.ifCond .eq 80, 3) := by decide +kernel
theorem dX6_measure_59 : decode cX6_measure 59 = .ok (.aload_n 0, 1) := by decide +kernel
theorem dX6_measure_60 : decode cX6_measure 60 = .ok (.iload 7, 2) := by decide +kernel
theorem dX6_measure_62 : decode cX6_measure 62 = .ok (.bipush 6, 2) := by decide +kernel
theorem dX6_measure_64 : decode cX6_measure 64 = .ok (.invokevirtual 115, 3) := by decide +kernel
theorem dX6_measure_67 : decode cX6_measure 67 = .ok (.iload_n 3, 1) := by decide +kernel
theorem dX6_measure_68 : decode cX6_measure 68 = .ok (.if_icmp .ne 68, 3) := by decide +kernel
theorem dX6_measure_71 : decode cX6_measure 71 = .ok (.aload_n 0, 1) := by decide +kernel
theorem dX6_measure_72 : decode cX6_measure 72 = .ok (.iload 7, 2) := by decide +kernel
theorem dX6_measure_74 : decode cX6_measure 74 = .ok (.bipush 7, 2) := by decide +kernel
theorem dX6_measure_76 : decode cX6_measure 76 = .ok (.invokevirtual 115, 3) := by decide +kernel
theorem dX6_measure_79 : decode cX6_measure 79 = .ok (.iload 4, 2) := by decide +kernel
theorem dX6_measure_81 : decode cX6_measure 81 = .ok (.if_icmp .eq 6, 3) := by decide +kernel
theorem dX6_measure_84 : decode cX6_measure 84 = .ok (.goto 52, 3) := by decide +kernel
theorem dX6_measure_87 : decode cX6_measure 87 = .ok (.aload_n 0, 1) := by decide +kernel
theorem dX6_measure_88 : decode cX6_measure 88 = .ok (.iload 7, 2) := by decide +kernel
theorem dX6_measure_90 : decode cX6_measure 90 = .ok (.bipush 8, 2) := by decide +kernel
theorem dX6_measure_92 : decode cX6_measure 92 = .ok (.invokevirtual 115, 3) := by decide +kernel
theorem dX6_measure_95 : decode cX6_measure 95 = .ok (.aload_n 0, 1) := by decide +kernel
theorem dX6_measure_96 : decode cX6_measure 96 = .ok (.iload 7, 2) := by decide +kernel
theorem dX6_measure_98 : decode cX6_measure 98 = .ok (.iconst 1, 1) := by decide +kernel
theorem dX6_measure_99 : decode cX6_measure 99 = .ok (.invokevirtual 115, 3) := by decide +kernel
theorem dX6_measure_102 : decode cX6_measure 102 = .ok (.iadd, 1) := by decide +kernel
theorem dX6_measure_103 : decode cX6_measure 103 = .ok (.istore 8, 2) := by decide +kernel
theorem dX6_measure_105 : decode cX6_measure 105 = .ok (.aload_n 0, 1) := by decide +kernel
theorem dX6_measure_106 : decode cX6_measure 106 = .ok (.iload 7, 2) := by decide +kernel
theorem dX6_measure_108 : decode cX6_measure 108 = .ok (.bipush 8, 2) := by decide +kernel
theorem dX6_measure_110 : decode cX6_measure 110 = .ok (.invokevirtual 115, 3) := by decide +kernel
theorem dX6_measure_113 : decode cX6_measure 113 = .ok (.istore 9, 2) := by decide +kernel
theorem dX6_measure_115 : decode cX6_measure 115 = .ok (.iload 9, 2) := by decide +kernel
theorem dX6_measure_117 : decode cX6_measure 117 = .ok (.iload 8, 2) := by decide +kernel
theorem dX6_measure_119 : decode cX6_measure 119 = .ok (.if_icmp .ge 17, 3) := by decide +kernel
theorem dX6_measure_122 : decode cX6_measure 122 = .ok (.aload_n 0, 1) := by decide +kernel
theorem dX6_measure_123 : decode cX6_measure 123 = .ok (.getfield 71, 3) := by decide +kernel
theorem dX6_measure_126 : decode cX6_measure 126 = .ok (.iload 9, 2) := by decide +kernel
theorem dX6_measure_128 : decode cX6_measure 128 = .ok (.iconst 1, 1) := by decide +kernel
theorem dX6_measure_129 : decode cX6_measure 129 = .ok (.bastore, 1) := by decide +kernel
theorem dX6_measure_130 : decode cX6_measure 130 = .ok (.iinc 9 1, 3) := by decide +kernel
theorem dX6_measure_133 : decode cX6_measure 133 = .ok (.goto (-18), 3) := by decide +kernel
theorem dX6_measure_136 : decode cX6_measure 136 = .ok (.iinc 7 1, 3) := by decide +kernel
theorem dX6_measure_139 : decode cX6_measure 139 = .ok (.goto (-104), 3) := by decide +kernel
theorem dX6_measure_142 : decode cX6_measure 142 = .ok (.aload_n 0, 1) := by decide +kernel
theorem dX6_measure_143 : decode cX6_measure 143 = .ok (.iconst 0, 1) := by decide +kernel
theorem dX6_measure_144 : decode cX6_measure 144 = .ok (.putfield 134, 3) := by decide +kernel
theorem dX6_measure_147 : decode cX6_measure 147 = .ok (.aload_n 0, 1) := by decide +kernel
theorem dX6_measure_148 : decode cX6_measure 148 = .ok (.iconst 0, 1) := by decide +kernel
theorem dX6_measure_149 : decode cX6_measure 149 = .ok (.putfield 137, 3) := by decide +kernel
theorem dX6_measure_152 : decode cX6_measure 152 = .ok (.aload_n 0, 1) := by decide +kernel
theorem dX6_measure_153 : decode cX6_measure 153 = .ok (.iconst (-1), 1) := by decide +kernel
theorem dX6_measure_154 : decode cX6_measure 154 = .ok (.putfield 140, 3) := by decide +kernel
theorem dX6_measure_157 : decode cX6_measure 157 = .ok (.iconst 0, 1) := by decide +kernel
theorem dX6_measure_158 : decode cX6_measure 158 = .ok (.istore 7, 2) := by decide +kernel
theorem dX6_measure_160 : decode cX6_measure 160 = .ok (.iconst 0, 1) := by decide +kernel
theorem dX6_measure_161 : decode cX6_measure 161 = .ok (.istore 8, 2) := by decide +kernel
theorem dX6_measure_163 : decode cX6_measure 163 = .ok (.iload 8, 2) := by decide +kernel
theorem dX6_measure_165 : decode cX6_measure 165 = .ok (.iload 6, 2) := by decide +kernel
theorem dX6_measure_167 : decode cX6_measure 167 = .ok (.if_icmp .ge 92, 3) := by decide +kernel
theorem dX6_measure_170 : decode cX6_measure 170 = .ok (.aload_n 0, 1) := by decide +kernel
theorem dX6_measure_171 : decode cX6_measure 171 = .ok (.getfield 71, 3) := by decide +kernel
theorem dX6_measure_174 : decode cX6_measure 174 = .ok (.iload 8, 2) := by decide +kernel
theorem dX6_measure_176 : decode cX6_measure 176 = .ok (.baload, 1) := by decide +kernel
theorem dX6_measure_177 : decode cX6_measure 177 = .ok (.ifCond .eq 7, 3) := by decide +kernel
theorem dX6_measure_180 : decode cX6_measure 180 = .ok (.iconst 0, 1) := by decide +kernel
theorem dX6_measure_181 : decode cX6_measure 181 = .ok (.goto 7, 3) := by decide +kernel
theorem dX6_measure_184 : decode cX6_measure 184 = .ok (.iload 7, 2) := by decide +kernel
theorem dX6_measure_186 : decode cX6_measure 186 = .ok (.iconst 1, 1) := by decide +kernel
theorem dX6_measure_187 : decode cX6_measure 187 = .ok (.iadd, 1) := by decide +kernel
theorem dX6_measure_188 : decode cX6_measure 188 = .ok (.istore 7, 2) := by decide +kernel
theorem dX6_measure_190 : decode cX6_measure 190 = .ok (.aload_n 0, 1) := by decide +kernel
theorem dX6_measure_191 : decode cX6_measure 191 = .ok (.dup, 1) := by decide +kernel
theorem dX6_measure_192 : decode cX6_measure 192 = .ok (.getfield 134, 3) := by decide +kernel
theorem dX6_measure_195 : decode cX6_measure 195 = .ok (.aload_n 0, 1) := by decide +kernel
theorem dX6_measure_196 : decode cX6_measure 196 = .ok (.getfield 71, 3) := by decide +kernel
theorem dX6_measure_199 : decode cX6_measure 199 = .ok (.iload 8, 2) := by decide +kernel
theorem dX6_measure_201 : decode cX6_measure 201 = .ok (.baload, 1) := by decide +kernel
theorem dX6_measure_202 : decode cX6_measure 202 = .ok (.ifCond .eq 7, 3) := by decide +kernel
theorem dX6_measure_205 : decode cX6_measure 205 = .ok (.iconst 0, 1) := by decide +kernel
theorem dX6_measure_206 : decode cX6_measure 206 = .ok (.goto 4, 3) := by decide +kernel
theorem dX6_measure_209 : decode cX6_measure 209 = .ok (.iconst 1, 1) := by decide +kernel
theorem dX6_measure_210 : decode cX6_measure 210 = .ok (.iadd, 1) := by decide +kernel
theorem dX6_measure_211 : decode cX6_measure 211 = .ok (.putfield 134, 3) := by decide +kernel
theorem dX6_measure_214 : decode cX6_measure 214 = .ok (.aload_n 0, 1) := by decide +kernel
theorem dX6_measure_215 : decode cX6_measure 215 = .ok (.aload_n 0, 1) := by decide +kernel
theorem dX6_measure_216 : decode cX6_measure 216 = .ok (.getfield 137, 3) := by decide +kernel
theorem dX6_measure_219 : decode cX6_measure 219 = .ok (.iload 7, 2) := by decide +kernel
theorem dX6_measure_221 : decode cX6_measure 221 = .ok (.invokestatic 143, 3) := by decide +kernel
theorem dX6_measure_224 : decode cX6_measure 224 = .ok (.putfield 137, 3) := by decide +kernel
theorem dX6_measure_227 : decode cX6_measure 227 = .ok (.iload 7, 2) := by decide +kernel
theorem dX6_measure_229 : decode cX6_measure 229 = .ok (.iload 5, 2) := by decide +kernel
theorem dX6_measure_231 : decode cX6_measure 231 = .ok (.if_icmp .ne 22, 3) := by decide +kernel
theorem dX6_measure_234 : decode cX6_measure 234 = .ok (.aload_n 0, 1) := by decide +kernel
theorem dX6_measure_235 : decode cX6_measure 235 = .ok (.getfield 140, 3) := by decide +kernel
theorem dX6_measure_238 : decode cX6_measure 238 = .ok (.iconst (-1), 1) := by decide +kernel
theorem dX6_measure_239 : decode cX6_measure 239 = .ok (.if_icmp .ne 14, 3) := by decide +kernel
theorem dX6_measure_242 : decode cX6_measure 242 = .ok (.aload_n 0, 1) := by decide +kernel
theorem dX6_measure_243 : decode cX6_measure 243 = .ok (.iload 8, 2) := by decide +kernel
theorem dX6_measure_245 : decode cX6_measure 245 = .ok (.iload 5, 2) := by decide +kernel
theorem dX6_measure_247 : decode cX6_measure 247 = .ok (.isub, 1) := by decide +kernel
theorem dX6_measure_248 : decode cX6_measure 248 = .ok (.iconst 1, 1) := by decide +kernel
theorem dX6_measure_249 : decode cX6_measure 249 = .ok (.iadd, 1) := by decide +kernel
theorem dX6_measure_250 : decode cX6_measure 250 = .ok (.putfield 140, 3) := by decide +kernel
theorem dX6_measure_253 : decode cX6_measure 253 = .ok (.iinc 8 1, 3) := by decide +kernel
theorem dX6_measure_256 : decode cX6_measure 256 = .ok (.goto (-93), 3) := by decide +kernel
theorem dX6_measure_259 : decode cX6_measure 259 = .ok (.return_, 1) := by decide +kernel
set_option maxRecDepth 20000 in
theorem ggX6_mayStand_X6_isAboard : GoodIn wsX6_mayStand wsX6_isAboard := goodIn_r _ [7, 8, 9, 10, 6, 11, 12, 13, 14, 15, 16, 17, 18, 19, 20, 21, 22, 23, 24, 25, 26, 27, 28, 29, 30, 31, 32, 33, 34, 35, 36, 37, 38, 39, 40, 41, 42, 43] (by decide +kernel) (by decide +kernel)
set_option maxRecDepth 20000 in
theorem gX6_mayStand_X6_isAboard : GoodIn wsX6_mayStand (wsV RX6 130 RX6 yX6_isAboard wsX6_isAboard) := goodIn_app (goodIn_of _ (by decide +kernel)) ggX6_mayStand_X6_isAboard
set_option maxRecDepth 20000 in
theorem ggX6_mayStand_X6_of : GoodIn wsX6_mayStand wsX6_of := goodIn_r _ [11, 12, 13, 14, 15, 16, 17, 18, 19, 20, 21, 22, 23, 24, 25, 26, 27, 28, 29, 30, 31, 32, 33, 34, 35, 36, 37, 38, 39, 40, 41, 42, 43] (by decide +kernel) (by decide +kernel)
set_option maxRecDepth 20000 in
theorem gX6_mayStand_X6_of : GoodIn wsX6_mayStand (wsV RX6 115 RX6 yX6_of wsX6_of) := goodIn_app (goodIn_of _ (by decide +kernel)) ggX6_mayStand_X6_of
theorem dX6_mayStand_0 : decode cX6_mayStand 0 = .ok (.iload 5, 2) := by decide +kernel
theorem dX6_mayStand_2 : decode cX6_mayStand 2 = .ok (.iconst 2, 1) := by decide +kernel
theorem dX6_mayStand_3 : decode cX6_mayStand 3 = .ok (.if_icmp .ne 7, 3) := by decide +kernel
theorem dX6_mayStand_6 : decode cX6_mayStand 6 = .ok (.iload_n 3, 1) := by decide +kernel
theorem dX6_mayStand_7 : decode cX6_mayStand 7 = .ok (.ifCond .gt 14, 3) := by decide +kernel
theorem dX6_mayStand_10 : decode cX6_mayStand 10 = .ok (.iload 5, 2) := by decide +kernel
theorem dX6_mayStand_12 : decode cX6_mayStand 12 = .ok (.iconst 1, 1) := by decide +kernel
theorem dX6_mayStand_13 : decode cX6_mayStand 13 = .ok (.if_icmp .ne 10, 3) := by decide +kernel
theorem dX6_mayStand_16 : decode cX6_mayStand 16 = .ok (.iload_n 3, 1) := by decide +kernel
theorem dX6_mayStand_17 : decode cX6_mayStand 17 = .ok (.iconst 1, 1) := by decide +kernel
theorem dX6_mayStand_18 : decode cX6_mayStand 18 = .ok (.if_icmp .le 5, 3) := by decide +kernel
theorem dX6_mayStand_21 : decode cX6_mayStand 21 = .ok (.iconst 0, 1) := by decide +kernel
theorem dX6_mayStand_22 : decode cX6_mayStand 22 = .ok (.ireturn, 1) := by decide +kernel
theorem dX6_mayStand_23 : decode cX6_mayStand 23 = .ok (.aload_n 0, 1) := by decide +kernel
theorem dX6_mayStand_24 : decode cX6_mayStand 24 = .ok (.getfield 19, 3) := by decide +kernel
theorem dX6_mayStand_27 : decode cX6_mayStand 27 = .ok (.iload_n 2, 1) := by decide +kernel
theorem dX6_mayStand_28 : decode cX6_mayStand 28 = .ok (.baload, 1) := by decide +kernel
theorem dX6_mayStand_29 : decode cX6_mayStand 29 = .ok (.ifCond .eq 8, 3) := by decide +kernel
theorem dX6_mayStand_32 : decode cX6_mayStand 32 = .ok (.iload_n 1, 1) := by decide +kernel
theorem dX6_mayStand_33 : decode cX6_mayStand 33 = .ok (.iconst (-1), 1) := by decide +kernel
theorem dX6_mayStand_34 : decode cX6_mayStand 34 = .ok (.if_icmp .ne 5, 3) := by decide +kernel
theorem dX6_mayStand_37 : decode cX6_mayStand 37 = .ok (.iconst 1, 1) := by decide +kernel
theorem dX6_mayStand_38 : decode cX6_mayStand 38 = .ok (.ireturn, 1) := by decide +kernel
theorem dX6_mayStand_39 : decode cX6_mayStand 39 = .ok (.iload 5, 2) := by decide +kernel
theorem dX6_mayStand_41 : decode cX6_mayStand 41 = .ok (.iconst 2, 1) := by decide +kernel
theorem dX6_mayStand_42 : decode cX6_mayStand 42 = .ok (.if_icmp .ne 13, 3) := by decide +kernel
theorem dX6_mayStand_45 : decode cX6_mayStand 45 = .ok (.iload 4, 2) := by decide +kernel
theorem dX6_mayStand_47 : decode cX6_mayStand 47 = .ok (.iconst 2, 1) := by decide +kernel
theorem dX6_mayStand_48 : decode cX6_mayStand 48 = .ok (.if_icmp .ge 7, 3) := by decide +kernel
theorem dX6_mayStand_51 : decode cX6_mayStand 51 = .ok (.iconst 1, 1) := by decide +kernel
theorem dX6_mayStand_52 : decode cX6_mayStand 52 = .ok (.goto 4, 3) := by decide +kernel
theorem dX6_mayStand_55 : decode cX6_mayStand 55 = .ok (.iconst 0, 1) := by decide +kernel
theorem dX6_mayStand_56 : decode cX6_mayStand 56 = .ok (.istore 6, 2) := by decide +kernel
theorem dX6_mayStand_58 : decode cX6_mayStand 58 = .ok (.iload 6, 2) := by decide +kernel
theorem dX6_mayStand_60 : decode cX6_mayStand 60 = .ok (.ifCond .ne 10, 3) := by decide +kernel
theorem dX6_mayStand_63 : decode cX6_mayStand 63 = .ok (.iload_n 3, 1) := by decide +kernel
theorem dX6_mayStand_64 : decode cX6_mayStand 64 = .ok (.iconst 1, 1) := by decide +kernel
theorem dX6_mayStand_65 : decode cX6_mayStand 65 = .ok (.if_icmp .eq 5, 3) := by decide +kernel
theorem dX6_mayStand_68 : decode cX6_mayStand 68 = .ok (.iconst 1, 1) := by decide +kernel
theorem dX6_mayStand_69 : decode cX6_mayStand 69 = .ok (.ireturn, 1) := by decide +kernel
theorem dX6_mayStand_70 : decode cX6_mayStand 70 = .ok (.iconst 0, 1) := by decide +kernel
theorem dX6_mayStand_71 : decode cX6_mayStand 71 = .ok (.istore 7, 2) := by decide +kernel
theorem dX6_mayStand_73 : decode cX6_mayStand 73 = .ok (.iload 7, 2) := by decide +kernel
theorem dX6_mayStand_75 : decode cX6_mayStand 75 = .ok (.aload_n 0, 1) := by decide +kernel
theorem dX6_mayStand_76 : decode cX6_mayStand 76 = .ok (.getfield 74, 3) := by decide +kernel
theorem dX6_mayStand_79 : decode cX6_mayStand 79 = .ok (.if_icmp .ge 82, 3) := by decide +kernel
theorem dX6_mayStand_82 : decode cX6_mayStand 82 = .ok (.aload_n 0, 1) := by decide +kernel
theorem dX6_mayStand_83 : decode cX6_mayStand 83 = .ok (.iload 7, 2) := by decide +kernel
theorem dX6_mayStand_85 : decode cX6_mayStand 85 = .ok (.iload_n 1, 1) := by decide +kernel
theorem dX6_mayStand_86 : decode cX6_mayStand 86 = .ok (.invokevirtual 130, 3) := by decide +kernel
theorem dX6_mayStand_89 : decode cX6_mayStand 89 = .ok (.ifCond .ne 6, 3) := by decide +kernel
theorem dX6_mayStand_92 : decode cX6_mayStand 92 = .ok (.goto 63, 3) := by decide +kernel
theorem dX6_mayStand_95 : decode cX6_mayStand 95 = .ok (.iload 6, 2) := by decide +kernel
theorem dX6_mayStand_97 : decode cX6_mayStand 97 = .ok (.ifCond .eq 17, 3) := by decide +kernel
theorem dX6_mayStand_100 : decode cX6_mayStand 100 = .ok (.aload_n 0, 1) := by decide +kernel
theorem dX6_mayStand_101 : decode cX6_mayStand 101 = .ok (.iload 7, 2) := by decide +kernel
theorem dX6_mayStand_103 : decode cX6_mayStand 103 = .ok (.bipush 6, 2) := by decide +kernel
theorem dX6_mayStand_105 : decode cX6_mayStand 105 = .ok (.invokevirtual 115, 3) := by decide +kernel
theorem dX6_mayStand_108 : decode cX6_mayStand 108 = .ok (.iconst 1, 1) := by decide +kernel
theorem dX6_mayStand_109 : decode cX6_mayStand 109 = .ok (.if_icmp .ne 5, 3) := by decide +kernel
theorem dX6_mayStand_112 : decode cX6_mayStand 112 = .ok (.iconst 0, 1) := by decide +kernel
theorem dX6_mayStand_113 : decode cX6_mayStand 113 = .ok (.ireturn, 1) := by decide +kernel
theorem dX6_mayStand_114 : decode cX6_mayStand 114 = .ok (.iload_n 3, 1) := by decide +kernel
theorem dX6_mayStand_115 : decode cX6_mayStand 115 = .ok (.iconst 1, 1) := by decide +kernel
theorem dX6_mayStand_116 : decode cX6_mayStand 116 = .ok (.if_icmp .ne 39, 3) := by decide +kernel
theorem dX6_mayStand_119 : decode cX6_mayStand 119 = .ok (.aload_n 0, 1) := by decide +kernel
theorem dX6_mayStand_120 : decode cX6_mayStand 120 = .ok (.iload 7, 2) := by decide +kernel
theorem dX6_mayStand_122 : decode cX6_mayStand 122 = .ok (.bipush 6, 2) := by decide +kernel
theorem dX6_mayStand_124 : decode cX6_mayStand 124 = .ok (.invokevirtual 115, 3) := by decide +kernel
theorem dX6_mayStand_127 : decode cX6_mayStand 127 = .ok (.ifCond .ne 28, 3) := by decide +kernel
theorem dX6_mayStand_130 : decode cX6_mayStand 130 = .ok (.aload_n 0, 1) := by decide +kernel
theorem dX6_mayStand_131 : decode cX6_mayStand 131 = .ok (.iload 7, 2) := by decide +kernel
theorem dX6_mayStand_133 : decode cX6_mayStand 133 = .ok (.bipush 7, 2) := by decide +kernel
theorem dX6_mayStand_135 : decode cX6_mayStand 135 = .ok (.invokevirtual 115, 3) := by decide +kernel
theorem dX6_mayStand_138 : decode cX6_mayStand 138 = .ok (.iconst 2, 1) := by decide +kernel
theorem dX6_mayStand_139 : decode cX6_mayStand 139 = .ok (.if_icmp .ge 16, 3) := by decide +kernel
theorem dX6_mayStand_142 : decode cX6_mayStand 142 = .ok (.aload_n 0, 1) := by decide +kernel
theorem dX6_mayStand_143 : decode cX6_mayStand 143 = .ok (.iload 7, 2) := by decide +kernel
theorem dX6_mayStand_145 : decode cX6_mayStand 145 = .ok (.iconst 2, 1) := by decide +kernel
theorem dX6_mayStand_146 : decode cX6_mayStand 146 = .ok (.invokevirtual 115, 3) := by decide +kernel
theorem dX6_mayStand_149 : decode cX6_mayStand 149 = .ok (.iconst 2, 1) := by decide +kernel
theorem dX6_mayStand_150 : decode cX6_mayStand 150 = .ok (.if_icmp .ne 5, 3) := by decide +kernel
theorem dX6_mayStand_153 : decode cX6_mayStand 153 = .ok (.iconst 0, 1) := by decide +kernel
theorem dX6_mayStand_154 : decode cX6_mayStand 154 = .ok (.ireturn, 1) := by decide +kernel
theorem dX6_mayStand_155 : decode cX6_mayStand 155 = .ok (.iinc 7 1, 3) := by decide +kernel
theorem dX6_mayStand_158 : decode cX6_mayStand 158 = .ok (.goto (-85), 3) := by decide +kernel
theorem dX6_mayStand_161 : decode cX6_mayStand 161 = .ok (.iconst 1, 1) := by decide +kernel
theorem dX6_mayStand_162 : decode cX6_mayStand 162 = .ok (.ireturn, 1) := by decide +kernel
set_option maxRecDepth 20000 in
theorem ggX6_boards_X6_of : GoodIn wsX6_boards wsX6_of := goodIn_r _ [12, 13, 39, 40, 41, 42, 43, 44, 45, 46, 47, 48, 49, 50, 51, 52, 53, 54, 55, 56, 57, 58, 59, 60, 61, 62, 63, 64, 65, 66, 67, 68, 69] (by decide +kernel) (by decide +kernel)
set_option maxRecDepth 20000 in
theorem gX6_boards_X6_of : GoodIn wsX6_boards (wsV RX6 115 RX6 yX6_of wsX6_of) := goodIn_app (goodIn_of _ (by decide +kernel)) ggX6_boards_X6_of
set_option maxRecDepth 20000 in
theorem ggX6_boards_X6_mayStand : GoodIn wsX6_boards wsX6_mayStand := goodIn_r _ [17, 18, 19, 20, 21, 22, 11, 23, 8, 9, 10, 12, 13, 39, 40, 41, 42, 43, 44, 45, 46, 47, 48, 49, 50, 51, 52, 53, 54, 55, 56, 57, 58, 59, 60, 61, 62, 63, 64, 65, 66, 67, 68, 69] (by decide +kernel) (by decide +kernel)
set_option maxRecDepth 20000 in
theorem gX6_boards_X6_mayStand : GoodIn wsX6_boards (wsV RX6 146 RX6 yX6_mayStand wsX6_mayStand) := goodIn_app (goodIn_of _ (by decide +kernel)) ggX6_boards_X6_mayStand
set_option maxRecDepth 20000 in
theorem ggX6_boards_X6_measure : GoodIn wsX6_boards wsX6_measure := goodIn_r _ [27, 28, 29, 19, 5, 30, 4, 31, 32, 33, 34, 20, 21, 22, 11, 23, 8, 9, 10, 12, 13, 39, 40, 41, 42, 43, 44, 45, 46, 47, 48, 49, 50, 51, 52, 53, 54, 55, 56, 57, 58, 59, 60, 61, 62, 63, 64, 65, 66, 67, 68, 69] (by decide +kernel) (by decide +kernel)
set_option maxRecDepth 20000 in
theorem gX6_boards_X6_measure : GoodIn wsX6_boards (wsV RX6 150 RX6 yX6_measure wsX6_measure) := goodIn_app (goodIn_of _ (by decide +kernel)) ggX6_boards_X6_measure
set_option maxRecDepth 20000 in
theorem ggX6_boards_X6_put : GoodIn wsX6_boards wsX6_put := goodIn_r _ [38, 13, 39, 40, 41, 42, 43, 44, 45, 46, 47, 48, 49, 50, 51, 52, 53, 54, 55, 56, 57, 58, 59, 60, 61, 62, 63, 64, 65, 66, 67, 68, 69] (by decide +kernel) (by decide +kernel)
set_option maxRecDepth 20000 in
theorem gX6_boards_X6_put : GoodIn wsX6_boards (wsV RX6 108 RX6 yX6_put wsX6_put) := goodIn_app (goodIn_of _ (by decide +kernel)) ggX6_boards_X6_put
theorem dX6_boards_0 : decode cX6_boards 0 = .ok (.aload_n 0, 1) := by decide +kernel
theorem dX6_boards_1 : decode cX6_boards 1 = .ok (.getfield 29, 3) := by decide +kernel
theorem dX6_boards_4 : decode cX6_boards 4 = .ok (.iload_n 2, 1) := by decide +kernel
theorem dX6_boards_5 : decode cX6_boards 5 = .ok (.iaload, 1) := by decide +kernel
theorem dX6_boards_6 : decode cX6_boards 6 = .ok (.istore_n 3, 1) := by decide +kernel
theorem dX6_boards_7 : decode cX6_boards 7 = .ok (.iconst (-1), 1) := by decide +kernel
theorem dX6_boards_8 : decode cX6_boards 8 = .ok (.istore 4, 2) := by decide +kernel
theorem dX6_boards_10 : decode cX6_boards 10 = .ok (.iconst 0, 1) := by decide +kernel
theorem dX6_boards_11 : decode cX6_boards 11 = .ok (.istore 5, 2) := by decide +kernel
theorem dX6_boards_13 : decode cX6_boards 13 = .ok (.iconst 0, 1) := by decide +kernel
theorem dX6_boards_14 : decode cX6_boards 14 = .ok (.istore 6, 2) := by decide +kernel
theorem dX6_boards_16 : decode cX6_boards 16 = .ok (.iconst 0, 1) := by decide +kernel
theorem dX6_boards_17 : decode cX6_boards 17 = .ok (.istore 7, 2) := by decide +kernel
theorem dX6_boards_19 : decode cX6_boards 19 = .ok (.iload 7, 2) := by decide +kernel
theorem dX6_boards_21 : decode cX6_boards 21 = .ok (.aload_n 0, 1) := by decide +kernel
theorem dX6_boards_22 : decode cX6_boards 22 = .ok (.getfield 7, 3) := by decide +kernel
theorem dX6_boards_25 : decode cX6_boards 25 = .ok (.iload_n 3, 1) := by decide +kernel
theorem dX6_boards_26 : decode cX6_boards 26 = .ok (.iaload, 1) := by decide +kernel
theorem dX6_boards_27 : decode cX6_boards 27 = .ok (.aload_n 0, 1) := by decide +kernel
theorem dX6_boards_28 : decode cX6_boards 28 = .ok (.getfield 13, 3) := by decide +kernel
theorem dX6_boards_31 : decode cX6_boards 31 = .ok (.iload_n 3, 1) := by decide +kernel
theorem dX6_boards_32 : decode cX6_boards 32 = .ok (.iaload, 1) := by decide +kernel
theorem dX6_boards_33 : decode cX6_boards 33 = .ok (.imul, 1) := by decide +kernel
theorem dX6_boards_34 : decode cX6_boards 34 = .ok (.if_icmp .ge 111, 3) := by decide +kernel
theorem dX6_boards_37 : decode cX6_boards 37 = .ok (.iload 7, 2) := by decide +kernel
theorem dX6_boards_39 : decode cX6_boards 39 = .ok (.aload_n 0, 1) := by decide +kernel
theorem dX6_boards_40 : decode cX6_boards 40 = .ok (.getfield 13, 3) := by decide +kernel
theorem dX6_boards_43 : decode cX6_boards 43 = .ok (.iload_n 3, 1) := by decide +kernel
theorem dX6_boards_44 : decode cX6_boards 44 = .ok (.iaload, 1) := by decide +kernel
theorem dX6_boards_45 : decode cX6_boards 45 = .ok (.idiv, 1) := by decide +kernel
theorem dX6_boards_46 : decode cX6_boards 46 = .ok (.istore 8, 2) := by decide +kernel
theorem dX6_boards_48 : decode cX6_boards 48 = .ok (.iload 7, 2) := by decide +kernel
theorem dX6_boards_50 : decode cX6_boards 50 = .ok (.aload_n 0, 1) := by decide +kernel
theorem dX6_boards_51 : decode cX6_boards 51 = .ok (.getfield 13, 3) := by decide +kernel
theorem dX6_boards_54 : decode cX6_boards 54 = .ok (.iload_n 3, 1) := by decide +kernel
theorem dX6_boards_55 : decode cX6_boards 55 = .ok (.iaload, 1) := by decide +kernel
theorem dX6_boards_56 : decode cX6_boards 56 = .ok (.irem, 1) := by decide +kernel
theorem dX6_boards_57 : decode cX6_boards 57 = .ok (.istore 9, 2) := by decide +kernel
theorem dX6_boards_59 : decode cX6_boards 59 = .ok (.aload_n 0, 1) := by decide +kernel
theorem dX6_boards_60 : decode cX6_boards 60 = .ok (.iload_n 2, 1) := by decide +kernel
theorem dX6_boards_61 : decode cX6_boards 61 = .ok (.iload_n 3, 1) := by decide +kernel
theorem dX6_boards_62 : decode cX6_boards 62 = .ok (.iload 8, 2) := by decide +kernel
theorem dX6_boards_64 : decode cX6_boards 64 = .ok (.iload 9, 2) := by decide +kernel
theorem dX6_boards_66 : decode cX6_boards 66 = .ok (.aload_n 0, 1) := by decide +kernel
theorem dX6_boards_67 : decode cX6_boards 67 = .ok (.iload_n 1, 1) := by decide +kernel
theorem dX6_boards_68 : decode cX6_boards 68 = .ok (.iconst 2, 1) := by decide +kernel
theorem dX6_boards_69 : decode cX6_boards 69 = .ok (.invokevirtual 115, 3) := by decide +kernel
theorem dX6_boards_72 : decode cX6_boards 72 = .ok (.invokevirtual 146, 3) := by decide +kernel
theorem dX6_boards_75 : decode cX6_boards 75 = .ok (.ifCond .ne 6, 3) := by decide +kernel
theorem dX6_boards_78 : decode cX6_boards 78 = .ok (.goto 61, 3) := by decide +kernel
theorem dX6_boards_81 : decode cX6_boards 81 = .ok (.aload_n 0, 1) := by decide +kernel
theorem dX6_boards_82 : decode cX6_boards 82 = .ok (.iload_n 2, 1) := by decide +kernel
theorem dX6_boards_83 : decode cX6_boards 83 = .ok (.iload_n 3, 1) := by decide +kernel
theorem dX6_boards_84 : decode cX6_boards 84 = .ok (.iload 8, 2) := by decide +kernel
theorem dX6_boards_86 : decode cX6_boards 86 = .ok (.iload 9, 2) := by decide +kernel
theorem dX6_boards_88 : decode cX6_boards 88 = .ok (.aload_n 0, 1) := by decide +kernel
theorem dX6_boards_89 : decode cX6_boards 89 = .ok (.iload_n 1, 1) := by decide +kernel
theorem dX6_boards_90 : decode cX6_boards 90 = .ok (.iconst 1, 1) := by decide +kernel
theorem dX6_boards_91 : decode cX6_boards 91 = .ok (.invokevirtual 115, 3) := by decide +kernel
theorem dX6_boards_94 : decode cX6_boards 94 = .ok (.invokevirtual 150, 3) := by decide +kernel
theorem dX6_boards_97 : decode cX6_boards 97 = .ok (.aload_n 0, 1) := by decide +kernel
theorem dX6_boards_98 : decode cX6_boards 98 = .ok (.getfield 140, 3) := by decide +kernel
theorem dX6_boards_101 : decode cX6_boards 101 = .ok (.iconst (-1), 1) := by decide +kernel
theorem dX6_boards_102 : decode cX6_boards 102 = .ok (.if_icmp .eq 37, 3) := by decide +kernel
theorem dX6_boards_105 : decode cX6_boards 105 = .ok (.iload 4, 2) := by decide +kernel
theorem dX6_boards_107 : decode cX6_boards 107 = .ok (.iconst (-1), 1) := by decide +kernel
theorem dX6_boards_108 : decode cX6_boards 108 = .ok (.if_icmp .eq 15, 3) := by decide +kernel
theorem dX6_boards_111 : decode cX6_boards 111 = .ok (.aload_n 0, 1) := by decide +kernel
theorem dX6_boards_112 : decode cX6_boards 112 = .ok (.getfield 134, 3) := by decide +kernel
theorem dX6_boards_115 : decode cX6_boards 115 = .ok (.iload 5, 2) := by decide +kernel
theorem dX6_boards_117 : decode cX6_boards 117 = .ok (.if_icmp .lt 6, 3) := by decide +kernel
theorem dX6_boards_120 : decode cX6_boards 120 = .ok (.goto 19, 3) := by decide +kernel
theorem dX6_boards_123 : decode cX6_boards 123 = .ok (.iload 7, 2) := by decide +kernel
theorem dX6_boards_125 : decode cX6_boards 125 = .ok (.istore 4, 2) := by decide +kernel
theorem dX6_boards_127 : decode cX6_boards 127 = .ok (.aload_n 0, 1) := by decide +kernel
theorem dX6_boards_128 : decode cX6_boards 128 = .ok (.getfield 134, 3) := by decide +kernel
theorem dX6_boards_131 : decode cX6_boards 131 = .ok (.istore 5, 2) := by decide +kernel
theorem dX6_boards_133 : decode cX6_boards 133 = .ok (.aload_n 0, 1) := by decide +kernel
theorem dX6_boards_134 : decode cX6_boards 134 = .ok (.getfield 140, 3) := by decide +kernel
theorem dX6_boards_137 : decode cX6_boards 137 = .ok (.istore 6, 2) := by decide +kernel
theorem dX6_boards_139 : decode cX6_boards 139 = .ok (.iinc 7 1, 3) := by decide +kernel
theorem dX6_boards_142 : decode cX6_boards 142 = .ok (.goto (-123), 3) := by decide +kernel
theorem dX6_boards_145 : decode cX6_boards 145 = .ok (.iload 4, 2) := by decide +kernel
theorem dX6_boards_147 : decode cX6_boards 147 = .ok (.iconst (-1), 1) := by decide +kernel
theorem dX6_boards_148 : decode cX6_boards 148 = .ok (.if_icmp .ne 5, 3) := by decide +kernel
theorem dX6_boards_151 : decode cX6_boards 151 = .ok (.iconst 0, 1) := by decide +kernel
theorem dX6_boards_152 : decode cX6_boards 152 = .ok (.ireturn, 1) := by decide +kernel
theorem dX6_boards_153 : decode cX6_boards 153 = .ok (.aload_n 0, 1) := by decide +kernel
theorem dX6_boards_154 : decode cX6_boards 154 = .ok (.iload_n 1, 1) := by decide +kernel
theorem dX6_boards_155 : decode cX6_boards 155 = .ok (.iconst 4, 1) := by decide +kernel
theorem dX6_boards_156 : decode cX6_boards 156 = .ok (.iconst 3, 1) := by decide +kernel
theorem dX6_boards_157 : decode cX6_boards 157 = .ok (.invokevirtual 108, 3) := by decide +kernel
theorem dX6_boards_160 : decode cX6_boards 160 = .ok (.aload_n 0, 1) := by decide +kernel
theorem dX6_boards_161 : decode cX6_boards 161 = .ok (.iload_n 1, 1) := by decide +kernel
theorem dX6_boards_162 : decode cX6_boards 162 = .ok (.bipush 6, 2) := by decide +kernel
theorem dX6_boards_164 : decode cX6_boards 164 = .ok (.iload 4, 2) := by decide +kernel
theorem dX6_boards_166 : decode cX6_boards 166 = .ok (.aload_n 0, 1) := by decide +kernel
theorem dX6_boards_167 : decode cX6_boards 167 = .ok (.getfield 13, 3) := by decide +kernel
theorem dX6_boards_170 : decode cX6_boards 170 = .ok (.iload_n 3, 1) := by decide +kernel
theorem dX6_boards_171 : decode cX6_boards 171 = .ok (.iaload, 1) := by decide +kernel
theorem dX6_boards_172 : decode cX6_boards 172 = .ok (.idiv, 1) := by decide +kernel
theorem dX6_boards_173 : decode cX6_boards 173 = .ok (.invokevirtual 108, 3) := by decide +kernel
theorem dX6_boards_176 : decode cX6_boards 176 = .ok (.aload_n 0, 1) := by decide +kernel
theorem dX6_boards_177 : decode cX6_boards 177 = .ok (.iload_n 1, 1) := by decide +kernel
theorem dX6_boards_178 : decode cX6_boards 178 = .ok (.bipush 7, 2) := by decide +kernel
theorem dX6_boards_180 : decode cX6_boards 180 = .ok (.iload 4, 2) := by decide +kernel
theorem dX6_boards_182 : decode cX6_boards 182 = .ok (.aload_n 0, 1) := by decide +kernel
theorem dX6_boards_183 : decode cX6_boards 183 = .ok (.getfield 13, 3) := by decide +kernel
theorem dX6_boards_186 : decode cX6_boards 186 = .ok (.iload_n 3, 1) := by decide +kernel
theorem dX6_boards_187 : decode cX6_boards 187 = .ok (.iaload, 1) := by decide +kernel
theorem dX6_boards_188 : decode cX6_boards 188 = .ok (.irem, 1) := by decide +kernel
theorem dX6_boards_189 : decode cX6_boards 189 = .ok (.invokevirtual 108, 3) := by decide +kernel
theorem dX6_boards_192 : decode cX6_boards 192 = .ok (.aload_n 0, 1) := by decide +kernel
theorem dX6_boards_193 : decode cX6_boards 193 = .ok (.iload_n 1, 1) := by decide +kernel
theorem dX6_boards_194 : decode cX6_boards 194 = .ok (.bipush 8, 2) := by decide +kernel
theorem dX6_boards_196 : decode cX6_boards 196 = .ok (.iload 6, 2) := by decide +kernel
theorem dX6_boards_198 : decode cX6_boards 198 = .ok (.invokevirtual 108, 3) := by decide +kernel
theorem dX6_boards_201 : decode cX6_boards 201 = .ok (.aload_n 0, 1) := by decide +kernel
theorem dX6_boards_202 : decode cX6_boards 202 = .ok (.getfield 59, 3) := by decide +kernel
theorem dX6_boards_205 : decode cX6_boards 205 = .ok (.iload_n 1, 1) := by decide +kernel
theorem dX6_boards_206 : decode cX6_boards 206 = .ok (.aload_n 0, 1) := by decide +kernel
theorem dX6_boards_207 : decode cX6_boards 207 = .ok (.getfield 154, 3) := by decide +kernel
theorem dX6_boards_210 : decode cX6_boards 210 = .ok (.iastore, 1) := by decide +kernel
theorem dX6_boards_211 : decode cX6_boards 211 = .ok (.aload_n 0, 1) := by decide +kernel
theorem dX6_boards_212 : decode cX6_boards 212 = .ok (.dup, 1) := by decide +kernel
theorem dX6_boards_213 : decode cX6_boards 213 = .ok (.getfield 154, 3) := by decide +kernel
theorem dX6_boards_216 : decode cX6_boards 216 = .ok (.iconst 1, 1) := by decide +kernel
theorem dX6_boards_217 : decode cX6_boards 217 = .ok (.iadd, 1) := by decide +kernel
theorem dX6_boards_218 : decode cX6_boards 218 = .ok (.putfield 154, 3) := by decide +kernel
theorem dX6_boards_221 : decode cX6_boards 221 = .ok (.iconst 1, 1) := by decide +kernel
theorem dX6_boards_222 : decode cX6_boards 222 = .ok (.ireturn, 1) := by decide +kernel
set_option maxRecDepth 20000 in
theorem ggX6_comesOff_X6_put : GoodIn wsX6_comesOff wsX6_put := goodIn_r _ [5, 6, 7, 8, 9, 10, 11, 12, 13, 14, 15, 16, 17, 18, 19, 20, 21, 22, 23, 24, 25, 26, 27, 28, 29, 30, 31, 32, 33, 34, 35, 36, 37] (by decide +kernel) (by decide +kernel)
