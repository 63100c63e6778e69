theorem dX6_count_41 : decode cX6_count 41 = .ok (.aload_n 0, 1) := by decide +kernel
theorem dX6_count_42 : decode cX6_count 42 = .ok (.getfield 92, 3) := by decide +kernel
theorem dX6_count_45 : decode cX6_count 45 = .ok (.ireturn, 1) := by decide +kernel
theorem dX6_count_46 : decode cX6_count 46 = .ok (.aload_n 0, 1) := by decide +kernel
theorem dX6_count_47 : decode cX6_count 47 = .ok (.getfield 78, 3) := by decide +kernel
theorem dX6_count_50 : decode cX6_count 50 = .ok (.ireturn, 1) := by decide +kernel
theorem dX6_count_51 : decode cX6_count 51 = .ok (.aload_n 0, 1) := by decide +kernel
theorem dX6_count_52 : decode cX6_count 52 = .ok (.getfield 74, 3) := by decide +kernel
theorem dX6_count_55 : decode cX6_count 55 = .ok (.ireturn, 1) := by decide +kernel
theorem dX6_count_56 : decode cX6_count 56 = .ok (.aload_n 0, 1) := by decide +kernel
theorem dX6_count_57 : decode cX6_count 57 = .ok (.getfield 172, 3) := by decide +kernel
theorem dX6_count_60 : decode cX6_count 60 = .ok (.ireturn, 1) := by decide +kernel
theorem dX6_count_61 : decode cX6_count 61 = .ok (.iconst (-1), 1) := by decide +kernel
theorem dX6_count_62 : decode cX6_count 62 = .ok (.ireturn, 1) := by decide +kernel
set_option maxRecDepth 20000 in
theorem ggX6_total_X6_isSailing : GoodIn wsX6_total wsX6_isSailing := goodIn_r _ [6, 7, 16, 17, 18, 19, 20, 21, 22, 23, 24, 25, 26, 27, 28, 29, 30, 31, 32, 33, 34, 35, 36, 37, 38, 39, 40, 41, 42, 43, 44, 45, 46] (by decide +kernel) (by decide +kernel)
set_option maxRecDepth 20000 in
theorem gX6_total_X6_isSailing : GoodIn wsX6_total (wsV RX6 102 RX6 yX6_isSailing wsX6_isSailing) := goodIn_app (goodIn_of _ (by decide +kernel)) ggX6_total_X6_isSailing
set_option maxRecDepth 20000 in
theorem ggX6_total_X6_isIn : GoodIn wsX6_total wsX6_isIn := goodIn_r _ [10] (by decide +kernel) (by decide +kernel)
set_option maxRecDepth 20000 in
theorem gX6_total_X6_isIn : GoodIn wsX6_total (va_wsS RX6 84 yX6_isIn wsX6_isIn) := goodIn_app (goodIn_of _ (by decide +kernel)) ggX6_total_X6_isIn
set_option maxRecDepth 20000 in
theorem ggX6_total_X6_of : GoodIn wsX6_total wsX6_of := goodIn_r _ [14, 15, 16, 17, 18, 19, 20, 21, 22, 23, 24, 25, 26, 27, 28, 29, 30, 31, 32, 33, 34, 35, 36, 37, 38, 39, 40, 41, 42, 43, 44, 45, 46] (by decide +kernel) (by decide +kernel)
set_option maxRecDepth 20000 in
theorem gX6_total_X6_of : GoodIn wsX6_total (wsV RX6 115 RX6 yX6_of wsX6_of) := goodIn_app (goodIn_of _ (by decide +kernel)) ggX6_total_X6_of
theorem dX6_total_0 : decode cX6_total 0 = .ok (.aload_n 0, 1) := by decide +kernel
theorem dX6_total_1 : decode cX6_total 1 = .ok (.iload_n 1, 1) := by decide +kernel
theorem dX6_total_2 : decode cX6_total 2 = .ok (.invokevirtual 102, 3) := by decide +kernel
theorem dX6_total_5 : decode cX6_total 5 = .ok (.ifCond .eq 12, 3) := by decide +kernel
theorem dX6_total_8 : decode cX6_total 8 = .ok (.iload_n 2, 1) := by decide +kernel
theorem dX6_total_9 : decode cX6_total 9 = .ok (.iconst 0, 1) := by decide +kernel
theorem dX6_total_10 : decode cX6_total 10 = .ok (.iconst 3, 1) := by decide +kernel
theorem dX6_total_11 : decode cX6_total 11 = .ok (.invokestatic 84, 3) := by decide +kernel
theorem dX6_total_14 : decode cX6_total 14 = .ok (.ifCond .ne 5, 3) := by decide +kernel
theorem dX6_total_17 : decode cX6_total 17 = .ok (.iconst (-1), 1) := by decide +kernel
theorem dX6_total_18 : decode cX6_total 18 = .ok (.ireturn, 1) := by decide +kernel
theorem dX6_total_19 : decode cX6_total 19 = .ok (.iconst 0, 1) := by decide +kernel
theorem dX6_total_20 : decode cX6_total 20 = .ok (.istore_n 3, 1) := by decide +kernel
theorem dX6_total_21 : decode cX6_total 21 = .ok (.iconst 0, 1) := by decide +kernel
theorem dX6_total_22 : decode cX6_total 22 = .ok (.istore 4, 2) := by decide +kernel
theorem dX6_total_24 : decode cX6_total 24 = .ok (.iload 4, 2) := by decide +kernel
theorem dX6_total_26 : decode cX6_total 26 = .ok (.aload_n 0, 1) := by decide +kernel
theorem dX6_total_27 : decode cX6_total 27 = .ok (.getfield 74, 3) := by decide +kernel
theorem dX6_total_30 : decode cX6_total 30 = .ok (.if_icmp .ge 111, 3) := by decide +kernel
theorem dX6_total_33 : decode cX6_total 33 = .ok (.aload_n 0, 1) := by decide +kernel
theorem dX6_total_34 : decode cX6_total 34 = .ok (.iload 4, 2) := by decide +kernel
theorem dX6_total_36 : decode cX6_total 36 = .ok (.iconst 0, 1) := by decide +kernel
theorem dX6_total_37 : decode cX6_total 37 = .ok (.invokevirtual 115, 3) := by decide +kernel
theorem dX6_total_40 : decode cX6_total 40 = .ok (.iload_n 1, 1) := by decide +kernel
theorem dX6_total_41 : decode cX6_total 41 = .ok (.if_icmp .ne 94, 3) := by decide +kernel
theorem dX6_total_44 : decode cX6_total 44 = .ok (.aload_n 0, 1) := by decide +kernel
theorem dX6_total_45 : decode cX6_total 45 = .ok (.iload 4, 2) := by decide +kernel
theorem dX6_total_47 : decode cX6_total 47 = .ok (.iconst 4, 1) := by decide +kernel
theorem dX6_total_48 : decode cX6_total 48 = .ok (.invokevirtual 115, 3) := by decide +kernel
theorem dX6_total_51 : decode cX6_total 51 = .ok (.iconst 3, 1) := by decide +kernel
theorem dX6_total_52 : decode cX6_total 52 = .ok (.if_icmp .eq 18, 3) := by decide +kernel
theorem dX6_total_55 : decode cX6_total 55 = .ok (.aload_n 0, 1) := by decide +kernel
theorem dX6_total_56 : decode cX6_total 56 = .ok (.iload 4, 2) := by decide +kernel
theorem dX6_total_58 : decode cX6_total 58 = .ok (.iconst 4, 1) := by decide +kernel
theorem dX6_total_59 : decode cX6_total 59 = .ok (.invokevirtual 115, 3) := by decide +kernel
theorem dX6_total_62 : decode cX6_total 62 = .ok (.bipush 6, 2) := by decide +kernel
theorem dX6_total_64 : decode cX6_total 64 = .ok (.if_icmp .eq 6, 3) := by decide +kernel
theorem dX6_total_67 : decode cX6_total 67 = .ok (.goto 68, 3) := by decide +kernel
theorem dX6_total_70 : decode cX6_total 70 = .ok (.iload_n 3, 1) := by decide +kernel
theorem dX6_total_71 : decode cX6_total 71 = .ok (.iload_n 2, 1) := by decide +kernel
theorem dX6_total_72 : decode cX6_total 72 = .ok (.ifCond .ne 7, 3) := by decide +kernel
theorem dX6_total_75 : decode cX6_total 75 = .ok (.iconst 1, 1) := by decide +kernel
theorem dX6_total_76 : decode cX6_total 76 = .ok (.goto 57, 3) := by decide +kernel
theorem dX6_total_79 : decode cX6_total 79 = .ok (.iload_n 2, 1) := by decide +kernel
theorem dX6_total_80 : decode cX6_total 80 = .ok (.iconst 1, 1) := by decide +kernel
theorem dX6_total_81 : decode cX6_total 81 = .ok (.if_icmp .ne 13, 3) := by decide +kernel
theorem dX6_total_84 : decode cX6_total 84 = .ok (.aload_n 0, 1) := by decide +kernel
theorem dX6_total_85 : decode cX6_total 85 = .ok (.iload 4, 2) := by decide +kernel
theorem dX6_total_87 : decode cX6_total 87 = .ok (.iconst 1, 1) := by decide +kernel
theorem dX6_total_88 : decode cX6_total 88 = .ok (.invokevirtual 115, 3) := by decide +kernel
theorem dX6_total_91 : decode cX6_total 91 = .ok (.goto 42, 3) := by decide +kernel
theorem dX6_total_94 : decode cX6_total 94 = .ok (.iload_n 2, 1) := by decide +kernel
theorem dX6_total_95 : decode cX6_total 95 = .ok (.iconst 3, 1) := by decide +kernel
theorem dX6_total_96 : decode cX6_total 96 = .ok (.if_icmp .ne 14, 3) := by decide +kernel
theorem dX6_total_99 : decode cX6_total 99 = .ok (.aload_n 0, 1) := by decide +kernel
theorem dX6_total_100 : decode cX6_total 100 = .ok (.iload 4, 2) := by decide +kernel
theorem dX6_total_102 : decode cX6_total 102 = .ok (.bipush 10, 2) := by decide +kernel
theorem dX6_total_104 : decode cX6_total 104 = .ok (.invokevirtual 115, 3) := by decide +kernel
theorem dX6_total_107 : decode cX6_total 107 = .ok (.goto 26, 3) := by decide +kernel
theorem dX6_total_110 : decode cX6_total 110 = .ok (.aload_n 0, 1) := by decide +kernel
theorem dX6_total_111 : decode cX6_total 111 = .ok (.iload 4, 2) := by decide +kernel
theorem dX6_total_113 : decode cX6_total 113 = .ok (.bipush 9, 2) := by decide +kernel
theorem dX6_total_115 : decode cX6_total 115 = .ok (.invokevirtual 115, 3) := by decide +kernel
theorem dX6_total_118 : decode cX6_total 118 = .ok (.iconst (-1), 1) := by decide +kernel
theorem dX6_total_119 : decode cX6_total 119 = .ok (.if_icmp .ne 7, 3) := by decide +kernel
theorem dX6_total_122 : decode cX6_total 122 = .ok (.iconst 0, 1) := by decide +kernel
theorem dX6_total_123 : decode cX6_total 123 = .ok (.goto 10, 3) := by decide +kernel
theorem dX6_total_126 : decode cX6_total 126 = .ok (.aload_n 0, 1) := by decide +kernel
theorem dX6_total_127 : decode cX6_total 127 = .ok (.iload 4, 2) := by decide +kernel
theorem dX6_total_129 : decode cX6_total 129 = .ok (.iconst 3, 1) := by decide +kernel
theorem dX6_total_130 : decode cX6_total 130 = .ok (.invokevirtual 115, 3) := by decide +kernel
theorem dX6_total_133 : decode cX6_total 133 = .ok (.iadd, 1) := by decide +kernel
theorem dX6_total_134 : decode cX6_total 134 = .ok (.istore_n 3, 1) := by decide +kernel
theorem dX6_total_135 : decode cX6_total 135 = .ok (.iinc 4 1, 3) := by decide +kernel
theorem dX6_total_138 : decode cX6_total 138 = .ok (.goto (-114), 3) := by decide +kernel
theorem dX6_total_141 : decode cX6_total 141 = .ok (.iload_n 3, 1) := by decide +kernel
theorem dX6_total_142 : decode cX6_total 142 = .ok (.ireturn, 1) := by decide +kernel
set_option maxRecDepth 20000 in
theorem ggX6_kept_X6_of : GoodIn wsX6_kept wsX6_of := goodIn_r _ [6, 7, 8, 9, 10, 11, 12, 13, 14, 15, 16, 17, 18, 19, 20, 21, 22, 23, 24, 25, 26, 27, 28, 29, 30, 31, 32, 33, 34, 35, 36, 37, 38] (by decide +kernel) (by decide +kernel)
set_option maxRecDepth 20000 in
theorem gX6_kept_X6_of : GoodIn wsX6_kept (wsV RX6 115 RX6 yX6_of wsX6_of) := goodIn_app (goodIn_of _ (by decide +kernel)) ggX6_kept_X6_of
theorem dX6_kept_0 : decode cX6_kept 0 = .ok (.lconst 0, 1) := by decide +kernel
theorem dX6_kept_1 : decode cX6_kept 1 = .ok (.lstore_n 1, 1) := by decide +kernel
theorem dX6_kept_2 : decode cX6_kept 2 = .ok (.iconst 0, 1) := by decide +kernel
theorem dX6_kept_3 : decode cX6_kept 3 = .ok (.istore_n 3, 1) := by decide +kernel
theorem dX6_kept_4 : decode cX6_kept 4 = .ok (.iload_n 3, 1) := by decide +kernel
theorem dX6_kept_5 : decode cX6_kept 5 = .ok (.aload_n 0, 1) := by decide +kernel
theorem dX6_kept_6 : decode cX6_kept 6 = .ok (.getfield 74, 3) := by decide +kernel
theorem dX6_kept_9 : decode cX6_kept 9 = .ok (.if_icmp .ge 28, 3) := by decide +kernel
theorem dX6_kept_12 : decode cX6_kept 12 = .ok (.lload_n 1, 1) := by decide +kernel
theorem dX6_kept_13 : decode cX6_kept 13 = .ok (.aload_n 0, 1) := by decide +kernel
theorem dX6_kept_14 : decode cX6_kept 14 = .ok (.iload_n 3, 1) := by decide +kernel
theorem dX6_kept_15 : decode cX6_kept 15 = .ok (.bipush 10, 2) := by decide +kernel
theorem dX6_kept_17 : decode cX6_kept 17 = .ok (.invokevirtual 115, 3) := by decide +kernel
theorem dX6_kept_20 : decode cX6_kept 20 = .ok (.aload_n 0, 1) := by decide +kernel
theorem dX6_kept_21 : decode cX6_kept 21 = .ok (.iload_n 3, 1) := by decide +kernel
theorem dX6_kept_22 : decode cX6_kept 22 = .ok (.bipush 11, 2) := by decide +kernel
theorem dX6_kept_24 : decode cX6_kept 24 = .ok (.invokevirtual 115, 3) := by decide +kernel
theorem dX6_kept_27 : decode cX6_kept 27 = .ok (.isub, 1) := by decide +kernel
theorem dX6_kept_28 : decode cX6_kept 28 = .ok (.i2l, 1) := by decide +kernel
theorem dX6_kept_29 : decode cX6_kept 29 = .ok (.ladd, 1) := by decide +kernel
theorem dX6_kept_30 : decode cX6_kept 30 = .ok (.lstore_n 1, 1) := by decide +kernel
theorem dX6_kept_31 : decode cX6_kept 31 = .ok (.iinc 3 1, 3) := by decide +kernel
theorem dX6_kept_34 : decode cX6_kept 34 = .ok (.goto (-30), 3) := by decide +kernel
theorem dX6_kept_37 : decode cX6_kept 37 = .ok (.lload_n 1, 1) := by decide +kernel
theorem dX6_kept_38 : decode cX6_kept 38 = .ok (.lreturn, 1) := by decide +kernel
set_option maxRecDepth 20000 in
theorem ggX6_audit_X6_isIn : GoodIn wsX6_audit wsX6_isIn := goodIn_r _ [5] (by decide +kernel) (by decide +kernel)
set_option maxRecDepth 20000 in
theorem gX6_audit_X6_isIn : GoodIn wsX6_audit (va_wsS RX6 84 yX6_isIn wsX6_isIn) := goodIn_app (goodIn_of _ (by decide +kernel)) ggX6_audit_X6_isIn
set_option maxRecDepth 20000 in
theorem ggX6_audit_X6_isTicket : GoodIn wsX6_audit wsX6_isTicket := goodIn_r _ [9, 1, 43, 44, 45, 46, 47, 48, 49, 50, 51, 52, 53, 54, 55, 56, 57, 58, 59, 60, 61, 62, 63, 64, 65, 66, 67, 68, 69, 70, 71, 72, 73] (by decide +kernel) (by decide +kernel)
set_option maxRecDepth 20000 in
theorem gX6_audit_X6_isTicket : GoodIn wsX6_audit (wsV RX6 112 RX6 yX6_isTicket wsX6_isTicket) := goodIn_app (goodIn_of _ (by decide +kernel)) ggX6_audit_X6_isTicket
set_option maxRecDepth 20000 in
theorem ggX6_audit_X6_of : GoodIn wsX6_audit wsX6_of := goodIn_r _ [13, 14, 43, 44, 45, 46, 47, 48, 49, 50, 51, 52, 53, 54, 55, 56, 57, 58, 59, 60, 61, 62, 63, 64, 65, 66, 67, 68, 69, 70, 71, 72, 73] (by decide +kernel) (by decide +kernel)
set_option maxRecDepth 20000 in
theorem gX6_audit_X6_of : GoodIn wsX6_audit (wsV RX6 115 RX6 yX6_of wsX6_of) := goodIn_app (goodIn_of _ (by decide +kernel)) ggX6_audit_X6_of
set_option maxRecDepth 20000 in
theorem ggX6_audit_X6_put : GoodIn wsX6_audit wsX6_put := goodIn_r _ [18, 14, 43, 44, 45, 46, 47, 48, 49, 50, 51, 52, 53, 54, 55, 56, 57, 58, 59, 60, 61, 62, 63, 64, 65, 66, 67, 68, 69, 70, 71, 72, 73] (by decide +kernel) (by decide +kernel)
set_option maxRecDepth 20000 in
theorem gX6_audit_X6_put : GoodIn wsX6_audit (wsV RX6 108 RX6 yX6_put wsX6_put) := goodIn_app (goodIn_of _ (by decide +kernel)) ggX6_audit_X6_put
set_option maxRecDepth 20000 in
theorem ggX6_audit_X6_agrees : GoodIn wsX6_audit wsX6_agrees := goodIn_r _ [22, 23, 10, 11, 12, 4, 13, 14, 2, 3, 5, 24, 25, 26, 27, 28, 29, 30, 31, 1, 32, 33, 34, 35, 36, 37, 38, 39, 40, 41, 42, 43, 44, 45, 46, 47, 48, 49, 50, 51, 52, 53, 54, 55, 56, 57, 58, 59, 60, 61, 62, 63, 64, 65, 66, 67, 68, 69, 70, 71, 72, 73] (by decide +kernel) (by decide +kernel)
set_option maxRecDepth 20000 in
theorem gX6_audit_X6_agrees : GoodIn wsX6_audit (wsV RX6 204 RX6 yX6_agrees wsX6_agrees) := goodIn_app (goodIn_of _ (by decide +kernel)) ggX6_audit_X6_agrees
theorem dX6_audit_0 : decode cX6_audit 0 = .ok (.iload_n 2, 1) := by decide +kernel
theorem dX6_audit_1 : decode cX6_audit 1 = .ok (.ifCond .eq 24, 3) := by decide +kernel
theorem dX6_audit_4 : decode cX6_audit 4 = .ok (.iload_n 2, 1) := by decide +kernel
theorem dX6_audit_5 : decode cX6_audit 5 = .ok (.iconst 4, 1) := by decide +kernel
theorem dX6_audit_6 : decode cX6_audit 6 = .ok (.bipush 11, 2) := by decide +kernel
theorem dX6_audit_8 : decode cX6_audit 8 = .ok (.invokestatic 84, 3) := by decide +kernel
theorem dX6_audit_11 : decode cX6_audit 11 = .ok (.ifCond .eq 11, 3) := by decide +kernel
theorem dX6_audit_14 : decode cX6_audit 14 = .ok (.aload_n 0, 1) := by decide +kernel
theorem dX6_audit_15 : decode cX6_audit 15 = .ok (.iload_n 1, 1) := by decide +kernel
theorem dX6_audit_16 : decode cX6_audit 16 = .ok (.invokevirtual 112, 3) := by decide +kernel
theorem dX6_audit_19 : decode cX6_audit 19 = .ok (.ifCond .ne 6, 3) := by decide +kernel
theorem dX6_audit_22 : decode cX6_audit 22 = .ok (.bipush (-2), 2) := by decide +kernel
theorem dX6_audit_24 : decode cX6_audit 24 = .ok (.ireturn, 1) := by decide +kernel
theorem dX6_audit_25 : decode cX6_audit 25 = .ok (.iload_n 2, 1) := by decide +kernel
theorem dX6_audit_26 : decode cX6_audit 26 = .ok (.ifCond .eq 17, 3) := by decide +kernel
theorem dX6_audit_29 : decode cX6_audit 29 = .ok (.aload_n 0, 1) := by decide +kernel
theorem dX6_audit_30 : decode cX6_audit 30 = .ok (.iload_n 1, 1) := by decide +kernel
theorem dX6_audit_31 : decode cX6_audit 31 = .ok (.iload_n 2, 1) := by decide +kernel
theorem dX6_audit_32 : decode cX6_audit 32 = .ok (.aload_n 0, 1) := by decide +kernel
theorem dX6_audit_33 : decode cX6_audit 33 = .ok (.iload_n 1, 1) := by decide +kernel
theorem dX6_audit_34 : decode cX6_audit 34 = .ok (.iload_n 2, 1) := by decide +kernel
theorem dX6_audit_35 : decode cX6_audit 35 = .ok (.invokevirtual 115, 3) := by decide +kernel
theorem dX6_audit_38 : decode cX6_audit 38 = .ok (.iload_n 3, 1) := by decide +kernel
theorem dX6_audit_39 : decode cX6_audit 39 = .ok (.ixor, 1) := by decide +kernel
theorem dX6_audit_40 : decode cX6_audit 40 = .ok (.invokevirtual 108, 3) := by decide +kernel
theorem dX6_audit_43 : decode cX6_audit 43 = .ok (.iconst (-1), 1) := by decide +kernel
theorem dX6_audit_44 : decode cX6_audit 44 = .ok (.istore 4, 2) := by decide +kernel
theorem dX6_audit_46 : decode cX6_audit 46 = .ok (.aload_n 0, 1) := by decide +kernel
theorem dX6_audit_47 : decode cX6_audit 47 = .ok (.getfield 74, 3) := by decide +kernel
theorem dX6_audit_50 : decode cX6_audit 50 = .ok (.iconst 1, 1) := by decide +kernel
theorem dX6_audit_51 : decode cX6_audit 51 = .ok (.isub, 1) := by decide +kernel
theorem dX6_audit_52 : decode cX6_audit 52 = .ok (.istore 5, 2) := by decide +kernel
theorem dX6_audit_54 : decode cX6_audit 54 = .ok (.iload 5, 2) := by decide +kernel
theorem dX6_audit_56 : decode cX6_audit 56 = .ok (.ifCond .lt 22, 3) := by decide +kernel
theorem dX6_audit_59 : decode cX6_audit 59 = .ok (.aload_n 0, 1) := by decide +kernel
theorem dX6_audit_60 : decode cX6_audit 60 = .ok (.iload 5, 2) := by decide +kernel
theorem dX6_audit_62 : decode cX6_audit 62 = .ok (.invokevirtual 204, 3) := by decide +kernel
theorem dX6_audit_65 : decode cX6_audit 65 = .ok (.ifCond .ne 7, 3) := by decide +kernel
theorem dX6_audit_68 : decode cX6_audit 68 = .ok (.iload 5, 2) := by decide +kernel
theorem dX6_audit_70 : decode cX6_audit 70 = .ok (.istore 4, 2) := by decide +kernel
theorem dX6_audit_72 : decode cX6_audit 72 = .ok (.iinc 5 (-1), 3) := by decide +kernel
theorem dX6_audit_75 : decode cX6_audit 75 = .ok (.goto (-21), 3) := by decide +kernel
theorem dX6_audit_78 : decode cX6_audit 78 = .ok (.iload_n 2, 1) := by decide +kernel
theorem dX6_audit_79 : decode cX6_audit 79 = .ok (.ifCond .eq 17, 3) := by decide +kernel
theorem dX6_audit_82 : decode cX6_audit 82 = .ok (.aload_n 0, 1) := by decide +kernel
theorem dX6_audit_83 : decode cX6_audit 83 = .ok (.iload_n 1, 1) := by decide +kernel
theorem dX6_audit_84 : decode cX6_audit 84 = .ok (.iload_n 2, 1) := by decide +kernel
theorem dX6_audit_85 : decode cX6_audit 85 = .ok (.aload_n 0, 1) := by decide +kernel
theorem dX6_audit_86 : decode cX6_audit 86 = .ok (.iload_n 1, 1) := by decide +kernel
theorem dX6_audit_87 : decode cX6_audit 87 = .ok (.iload_n 2, 1) := by decide +kernel
theorem dX6_audit_88 : decode cX6_audit 88 = .ok (.invokevirtual 115, 3) := by decide +kernel
theorem dX6_audit_91 : decode cX6_audit 91 = .ok (.iload_n 3, 1) := by decide +kernel
theorem dX6_audit_92 : decode cX6_audit 92 = .ok (.ixor, 1) := by decide +kernel
theorem dX6_audit_93 : decode cX6_audit 93 = .ok (.invokevirtual 108, 3) := by decide +kernel
theorem dX6_audit_96 : decode cX6_audit 96 = .ok (.iload 4, 2) := by decide +kernel
theorem dX6_audit_98 : decode cX6_audit 98 = .ok (.ireturn, 1) := by decide +kernel
set_option maxRecDepth 20000 in
theorem ggX6_agrees_X6_of : GoodIn wsX6_agrees wsX6_of := goodIn_r _ [6, 7, 31, 32, 33, 34, 35, 36, 37, 38, 39, 40, 41, 42, 43, 44, 45, 46, 47, 48, 49, 50, 51, 52, 53, 54, 55, 56, 57, 58, 59, 60, 61] (by decide +kernel) (by decide +kernel)
set_option maxRecDepth 20000 in
theorem gX6_agrees_X6_of : GoodIn wsX6_agrees (wsV RX6 115 RX6 yX6_of wsX6_of) := goodIn_app (goodIn_of _ (by decide +kernel)) ggX6_agrees_X6_of
set_option maxRecDepth 20000 in
theorem ggX6_agrees_X6_isIn : GoodIn wsX6_agrees wsX6_isIn := goodIn_r _ [10] (by decide +kernel) (by decide +kernel)
set_option maxRecDepth 20000 in
theorem gX6_agrees_X6_isIn : GoodIn wsX6_agrees (va_wsS RX6 84 yX6_isIn wsX6_isIn) := goodIn_app (goodIn_of _ (by decide +kernel)) ggX6_agrees_X6_isIn
set_option maxRecDepth 20000 in
theorem ggX6_agrees_X6_isPlaceRight : GoodIn wsX6_agrees wsX6_isPlaceRight := goodIn_r _ [14, 15, 16, 17, 18, 19, 2, 3, 4, 5, 6, 7, 8, 9, 10, 20, 21, 22, 23, 31, 32, 33, 34, 35, 36, 37, 38, 39, 40, 41, 42, 43, 44, 45, 46, 47, 48, 49, 50, 51, 52, 53, 54, 55, 56, 57, 58, 59, 60, 61] (by decide +kernel) (by decide +kernel)
set_option maxRecDepth 20000 in
theorem gX6_agrees_X6_isPlaceRight : GoodIn wsX6_agrees (wsV RX6 207 RX6 yX6_isPlaceRight wsX6_isPlaceRight) := goodIn_app (goodIn_of _ (by decide +kernel)) ggX6_agrees_X6_isPlaceRight
set_option maxRecDepth 20000 in
theorem ggX6_agrees_X6_isCabinRight : GoodIn wsX6_agrees wsX6_isCabinRight := goodIn_r _ [27, 28, 29, 15, 30, 19, 2, 3, 4, 5, 6, 7, 8, 9, 10, 31, 32, 33, 34, 35, 36, 37, 38, 39, 40, 41, 42, 43, 44, 45, 46, 47, 48, 49, 50, 51, 52, 53, 54, 55, 56, 57, 58, 59, 60, 61] (by decide +kernel) (by decide +kernel)
set_option maxRecDepth 20000 in
theorem gX6_agrees_X6_isCabinRight : GoodIn wsX6_agrees (wsV RX6 210 RX6 yX6_isCabinRight wsX6_isCabinRight) := goodIn_app (goodIn_of _ (by decide +kernel)) ggX6_agrees_X6_isCabinRight
theorem dX6_agrees_0 : decode cX6_agrees 0 = .ok (.aload_n 0, 1) := by decide +kernel
theorem dX6_agrees_1 : decode cX6_agrees 1 = .ok (.iload_n 1, 1) := by decide +kernel
theorem dX6_agrees_2 : decode cX6_agrees 2 = .ok (.iconst 4, 1) := by decide +kernel
theorem dX6_agrees_3 : decode cX6_agrees 3 = .ok (.invokevirtual 115, 3) := by decide +kernel
theorem dX6_agrees_6 : decode cX6_agrees 6 = .ok (.istore_n 2, 1) := by decide +kernel
theorem dX6_agrees_7 : decode cX6_agrees 7 = .ok (.aload_n 0, 1) := by decide +kernel
theorem dX6_agrees_8 : decode cX6_agrees 8 = .ok (.iload_n 1, 1) := by decide +kernel
theorem dX6_agrees_9 : decode cX6_agrees 9 = .ok (.iconst 0, 1) := by decide +kernel
theorem dX6_agrees_10 : decode cX6_agrees 10 = .ok (.invokevirtual 115, 3) := by decide +kernel
theorem dX6_agrees_13 : decode cX6_agrees 13 = .ok (.istore_n 3, 1) := by decide +kernel
theorem dX6_agrees_14 : decode cX6_agrees 14 = .ok (.iload_n 2, 1) := by decide +kernel
theorem dX6_agrees_15 : decode cX6_agrees 15 = .ok (.iconst 0, 1) := by decide +kernel
theorem dX6_agrees_16 : decode cX6_agrees 16 = .ok (.bipush 7, 2) := by decide +kernel
theorem dX6_agrees_18 : decode cX6_agrees 18 = .ok (.invokestatic 84, 3) := by decide +kernel
theorem dX6_agrees_21 : decode cX6_agrees 21 = .ok (.ifCond .eq 23, 3) := by decide +kernel
theorem dX6_agrees_24 : decode cX6_agrees 24 = .ok (.aload_n 0, 1) := by decide +kernel
theorem dX6_agrees_25 : decode cX6_agrees 25 = .ok (.iload_n 1, 1) := by decide +kernel
theorem dX6_agrees_26 : decode cX6_agrees 26 = .ok (.iload_n 3, 1) := by decide +kernel
theorem dX6_agrees_27 : decode cX6_agrees 27 = .ok (.iload_n 2, 1) := by decide +kernel
theorem dX6_agrees_28 : decode cX6_agrees 28 = .ok (.invokevirtual 207, 3) := by decide +kernel
theorem dX6_agrees_31 : decode cX6_agrees 31 = .ok (.ifCond .eq 13, 3) := by decide +kernel
theorem dX6_agrees_34 : decode cX6_agrees 34 = .ok (.aload_n 0, 1) := by decide +kernel
theorem dX6_agrees_35 : decode cX6_agrees 35 = .ok (.iload_n 1, 1) := by decide +kernel
theorem dX6_agrees_36 : decode cX6_agrees 36 = .ok (.iload_n 3, 1) := by decide +kernel
theorem dX6_agrees_37 : decode cX6_agrees 37 = .ok (.iload_n 2, 1) := by decide +kernel
theorem dX6_agrees_38 : decode cX6_agrees 38 = .ok (.invokevirtual 210, 3) := by decide +kernel
theorem dX6_agrees_41 : decode cX6_agrees 41 = .ok (.ifCond .ne 5, 3) := by decide +kernel
theorem dX6_agrees_44 : decode cX6_agrees 44 = .ok (.iconst 0, 1) := by decide +kernel
theorem dX6_agrees_45 : decode cX6_agrees 45 = .ok (.ireturn, 1) := by decide +kernel
theorem dX6_agrees_46 : decode cX6_agrees 46 = .ok (.iload_n 2, 1) := by decide +kernel
theorem dX6_agrees_47 : decode cX6_agrees 47 = .ok (.iconst 1, 1) := by decide +kernel
theorem dX6_agrees_48 : decode cX6_agrees 48 = .ok (.if_icmp .eq 24, 3) := by decide +kernel
theorem dX6_agrees_51 : decode cX6_agrees 51 = .ok (.iload_n 2, 1) := by decide +kernel
theorem dX6_agrees_52 : decode cX6_agrees 52 = .ok (.iconst 2, 1) := by decide +kernel
theorem dX6_agrees_53 : decode cX6_agrees 53 = .ok (.if_icmp .eq 19, 3) := by decide +kernel
theorem dX6_agrees_56 : decode cX6_agrees 56 = .ok (.iload_n 2, 1) := by decide +kernel
theorem dX6_agrees_57 : decode cX6_agrees 57 = .ok (.iconst 3, 1) := by decide +kernel
theorem dX6_agrees_58 : decode cX6_agrees 58 = .ok (.if_icmp .eq 14, 3) := by decide +kernel
theorem dX6_agrees_61 : decode cX6_agrees 61 = .ok (.iload_n 2, 1) := by decide +kernel
theorem dX6_agrees_62 : decode cX6_agrees 62 = .ok (.iconst 4, 1) := by decide +kernel
theorem dX6_agrees_63 : decode cX6_agrees 63 = .ok (.if_icmp .eq 9, 3) := by decide +kernel
theorem dX6_agrees_66 : decode cX6_agrees 66 = .ok (.iload_n 2, 1) := by decide +kernel
theorem dX6_agrees_67 : decode cX6_agrees 67 = .ok (.bipush 6, 2) := by decide +kernel
theorem dX6_agrees_69 : decode cX6_agrees 69 = .ok (.if_icmp .ne 7, 3) := by decide +kernel
theorem dX6_agrees_72 : decode cX6_agrees 72 = .ok (.iconst 1, 1) := by decide +kernel
theorem dX6_agrees_73 : decode cX6_agrees 73 = .ok (.goto 4, 3) := by decide +kernel
theorem dX6_agrees_76 : decode cX6_agrees 76 = .ok (.iconst 0, 1) := by decide +kernel
theorem dX6_agrees_77 : decode cX6_agrees 77 = .ok (.istore 4, 2) := by decide +kernel
theorem dX6_agrees_79 : decode cX6_agrees 79 = .ok (.iload 4, 2) := by decide +kernel
theorem dX6_agrees_81 : decode cX6_agrees 81 = .ok (.ifCond .eq 18, 3) := by decide +kernel
theorem dX6_agrees_84 : decode cX6_agrees 84 = .ok (.aload_n 0, 1) := by decide +kernel
theorem dX6_agrees_85 : decode cX6_agrees 85 = .ok (.iload_n 1, 1) := by decide +kernel
theorem dX6_agrees_86 : decode cX6_agrees 86 = .ok (.iconst 5, 1) := by decide +kernel
theorem dX6_agrees_87 : decode cX6_agrees 87 = .ok (.invokevirtual 115, 3) := by decide +kernel
theorem dX6_agrees_90 : decode cX6_agrees 90 = .ok (.iconst 0, 1) := by decide +kernel
theorem dX6_agrees_91 : decode cX6_agrees 91 = .ok (.ldc 119, 2) := by decide +kernel
theorem dX6_agrees_93 : decode cX6_agrees 93 = .ok (.invokestatic 84, 3) := by decide +kernel
theorem dX6_agrees_96 : decode cX6_agrees 96 = .ok (.ifCond .eq 23, 3) := by decide +kernel
theorem dX6_agrees_99 : decode cX6_agrees 99 = .ok (.iload_n 2, 1) := by decide +kernel
theorem dX6_agrees_100 : decode cX6_agrees 100 = .ok (.ifCond .eq 9, 3) := by decide +kernel
theorem dX6_agrees_103 : decode cX6_agrees 103 = .ok (.iload_n 2, 1) := by decide +kernel
theorem dX6_agrees_104 : decode cX6_agrees 104 = .ok (.bipush 7, 2) := by decide +kernel
theorem dX6_agrees_106 : decode cX6_agrees 106 = .ok (.if_icmp .ne 15, 3) := by decide +kernel
theorem dX6_agrees_109 : decode cX6_agrees 109 = .ok (.aload_n 0, 1) := by decide +kernel
theorem dX6_agrees_110 : decode cX6_agrees 110 = .ok (.iload_n 1, 1) := by decide +kernel
theorem dX6_agrees_111 : decode cX6_agrees 111 = .ok (.iconst 5, 1) := by decide +kernel
theorem dX6_agrees_112 : decode cX6_agrees 112 = .ok (.invokevirtual 115, 3) := by decide +kernel
theorem dX6_agrees_115 : decode cX6_agrees 115 = .ok (.iconst (-1), 1) := by decide +kernel
theorem dX6_agrees_116 : decode cX6_agrees 116 = .ok (.if_icmp .eq 5, 3) := by decide +kernel
theorem dX6_agrees_119 : decode cX6_agrees 119 = .ok (.iconst 0, 1) := by decide +kernel
theorem dX6_agrees_120 : decode cX6_agrees 120 = .ok (.ireturn, 1) := by decide +kernel
theorem dX6_agrees_121 : decode cX6_agrees 121 = .ok (.iload_n 2, 1) := by decide +kernel
theorem dX6_agrees_122 : decode cX6_agrees 122 = .ok (.iconst 5, 1) := by decide +kernel
theorem dX6_agrees_123 : decode cX6_agrees 123 = .ok (.if_icmp .ne 13, 3) := by decide +kernel
theorem dX6_agrees_126 : decode cX6_agrees 126 = .ok (.aload_n 0, 1) := by decide +kernel
theorem dX6_agrees_127 : decode cX6_agrees 127 = .ok (.iload_n 1, 1) := by decide +kernel
theorem dX6_agrees_128 : decode cX6_agrees 128 = .ok (.bipush 10, 2) := by decide +kernel
theorem dX6_agrees_130 : decode cX6_agrees 130 = .ok (.invokevirtual 115, 3) := by decide +kernel
theorem dX6_agrees_133 : decode cX6_agrees 133 = .ok (.goto 22, 3) := by decide +kernel
theorem dX6_agrees_136 : decode cX6_agrees 136 = .ok (.iload_n 2, 1) := by decide +kernel
theorem dX6_agrees_137 : decode cX6_agrees 137 = .ok (.bipush 7, 2) := by decide +kernel
theorem dX6_agrees_139 : decode cX6_agrees 139 = .ok (.if_icmp .ne 15, 3) := by decide +kernel
theorem dX6_agrees_142 : decode cX6_agrees 142 = .ok (.aload_n 0, 1) := by decide +kernel
theorem dX6_agrees_143 : decode cX6_agrees 143 = .ok (.iload_n 1, 1) := by decide +kernel
theorem dX6_agrees_144 : decode cX6_agrees 144 = .ok (.bipush 10, 2) := by decide +kernel
theorem dX6_agrees_146 : decode cX6_agrees 146 = .ok (.invokevirtual 115, 3) := by decide +kernel
theorem dX6_agrees_149 : decode cX6_agrees 149 = .ok (.iconst 2, 1) := by decide +kernel
theorem dX6_agrees_150 : decode cX6_agrees 150 = .ok (.idiv, 1) := by decide +kernel
theorem dX6_agrees_151 : decode cX6_agrees 151 = .ok (.goto 4, 3) := by decide +kernel
theorem dX6_agrees_154 : decode cX6_agrees 154 = .ok (.iconst 0, 1) := by decide +kernel
theorem dX6_agrees_155 : decode cX6_agrees 155 = .ok (.istore 5, 2) := by decide +kernel
theorem dX6_agrees_157 : decode cX6_agrees 157 = .ok (.aload_n 0, 1) := by decide +kernel
theorem dX6_agrees_158 : decode cX6_agrees 158 = .ok (.iload_n 1, 1) := by decide +kernel
theorem dX6_agrees_159 : decode cX6_agrees 159 = .ok (.bipush 11, 2) := by decide +kernel
theorem dX6_agrees_161 : decode cX6_agrees 161 = .ok (.invokevirtual 115, 3) := by decide +kernel
theorem dX6_agrees_164 : decode cX6_agrees 164 = .ok (.iload 5, 2) := by decide +kernel
theorem dX6_agrees_166 : decode cX6_agrees 166 = .ok (.if_icmp .ne 20, 3) := by decide +kernel
theorem dX6_agrees_169 : decode cX6_agrees 169 = .ok (.aload_n 0, 1) := by decide +kernel
theorem dX6_agrees_170 : decode cX6_agrees 170 = .ok (.iload_n 1, 1) := by decide +kernel
theorem dX6_agrees_171 : decode cX6_agrees 171 = .ok (.bipush 10, 2) := by decide +kernel
theorem dX6_agrees_173 : decode cX6_agrees 173 = .ok (.invokevirtual 115, 3) := by decide +kernel
theorem dX6_agrees_176 : decode cX6_agrees 176 = .ok (.sipush 500, 3) := by decide +kernel
theorem dX6_agrees_179 : decode cX6_agrees 179 = .ok (.if_icmp .lt 7, 3) := by decide +kernel
theorem dX6_agrees_182 : decode cX6_agrees 182 = .ok (.iconst 1, 1) := by decide +kernel
theorem dX6_agrees_183 : decode cX6_agrees 183 = .ok (.goto 4, 3) := by decide +kernel
theorem dX6_agrees_186 : decode cX6_agrees 186 = .ok (.iconst 0, 1) := by decide +kernel
theorem dX6_agrees_187 : decode cX6_agrees 187 = .ok (.ireturn, 1) := by decide +kernel
set_option maxRecDepth 20000 in
theorem ggX6_isPlaceRight_X6_of : GoodIn wsX6_isPlaceRight wsX6_of := goodIn_r _ [10, 11, 19, 20, 21, 22, 23, 24, 25, 26, 27, 28, 29, 30, 31, 32, 33, 34, 35, 36, 37, 38, 39, 40, 41, 42, 43, 44, 45, 46, 47, 48, 49] (by decide +kernel) (by decide +kernel)
set_option maxRecDepth 20000 in
theorem gX6_isPlaceRight_X6_of : GoodIn wsX6_isPlaceRight (wsV RX6 115 RX6 yX6_of wsX6_of) := goodIn_app (goodIn_of _ (by decide +kernel)) ggX6_isPlaceRight_X6_of
set_option maxRecDepth 20000 in
theorem ggX6_isPlaceRight_X6_isIn : GoodIn wsX6_isPlaceRight wsX6_isIn := goodIn_r _ [14] (by decide +kernel) (by decide +kernel)
set_option maxRecDepth 20000 in
theorem gX6_isPlaceRight_X6_isIn : GoodIn wsX6_isPlaceRight (va_wsS RX6 84 yX6_isIn wsX6_isIn) := goodIn_app (goodIn_of _ (by decide +kernel)) ggX6_isPlaceRight_X6_isIn
set_option maxRecDepth 20000 in
theorem ggX6_isPlaceRight_X6_isAboard : GoodIn wsX6_isPlaceRight wsX6_isAboard := goodIn_r _ [18, 6, 7, 8, 9, 10, 11, 19, 20, 21, 22, 23, 24, 25, 26, 27, 28, 29, 30, 31, 32, 33, 34, 35, 36, 37, 38, 39, 40, 41, 42, 43, 44, 45, 46, 47, 48, 49] (by decide +kernel) (by decide +kernel)
set_option maxRecDepth 20000 in
theorem gX6_isPlaceRight_X6_isAboard : GoodIn wsX6_isPlaceRight (wsV RX6 130 RX6 yX6_isAboard wsX6_isAboard) := goodIn_app (goodIn_of _ (by decide +kernel)) ggX6_isPlaceRight_X6_isAboard
theorem dX6_isPlaceRight_0 : decode cX6_isPlaceRight 0 = .ok (.iload_n 3, 1) := by decide +kernel
theorem dX6_isPlaceRight_1 : decode cX6_isPlaceRight 1 = .ok (.iconst 3, 1) := by decide +kernel
theorem dX6_isPlaceRight_2 : decode cX6_isPlaceRight 2 = .ok (.if_icmp .eq 42, 3) := by decide +kernel
theorem dX6_isPlaceRight_5 : decode cX6_isPlaceRight 5 = .ok (.aload_n 0, 1) := by decide +kernel
theorem dX6_isPlaceRight_6 : decode cX6_isPlaceRight 6 = .ok (.iload_n 1, 1) := by decide +kernel
theorem dX6_isPlaceRight_7 : decode cX6_isPlaceRight 7 = .ok (.bipush 6, 2) := by decide +kernel
theorem dX6_isPlaceRight_9 : decode cX6_isPlaceRight 9 = .ok (.invokevirtual 115, 3) := by decide +kernel
theorem dX6_isPlaceRight_12 : decode cX6_isPlaceRight 12 = .ok (.iconst (-1), 1) := by decide +kernel
theorem dX6_isPlaceRight_13 : decode cX6_isPlaceRight 13 = .ok (.if_icmp .ne 29, 3) := by decide +kernel
theorem dX6_isPlaceRight_16 : decode cX6_isPlaceRight 16 = .ok (.aload_n 0, 1) := by decide +kernel
theorem dX6_isPlaceRight_17 : decode cX6_isPlaceRight 17 = .ok (.iload_n 1, 1) := by decide +kernel
theorem dX6_isPlaceRight_18 : decode cX6_isPlaceRight 18 = .ok (.bipush 7, 2) := by decide +kernel
theorem dX6_isPlaceRight_20 : decode cX6_isPlaceRight 20 = .ok (.invokevirtual 115, 3) := by decide +kernel
theorem dX6_isPlaceRight_23 : decode cX6_isPlaceRight 23 = .ok (.iconst (-1), 1) := by decide +kernel
theorem dX6_isPlaceRight_24 : decode cX6_isPlaceRight 24 = .ok (.if_icmp .ne 18, 3) := by decide +kernel
theorem dX6_isPlaceRight_27 : decode cX6_isPlaceRight 27 = .ok (.aload_n 0, 1) := by decide +kernel
theorem dX6_isPlaceRight_28 : decode cX6_isPlaceRight 28 = .ok (.iload_n 1, 1) := by decide +kernel
theorem dX6_isPlaceRight_29 : decode cX6_isPlaceRight 29 = .ok (.bipush 8, 2) := by decide +kernel
theorem dX6_isPlaceRight_31 : decode cX6_isPlaceRight 31 = .ok (.invokevirtual 115, 3) := by decide +kernel
theorem dX6_isPlaceRight_34 : decode cX6_isPlaceRight 34 = .ok (.iconst (-1), 1) := by decide +kernel
theorem dX6_isPlaceRight_35 : decode cX6_isPlaceRight 35 = .ok (.if_icmp .ne 7, 3) := by decide +kernel
theorem dX6_isPlaceRight_38 : decode cX6_isPlaceRight 38 = .ok (.iconst 1, 1) := by decide +kernel
theorem dX6_isPlaceRight_39 : decode cX6_isPlaceRight 39 = .ok (.goto 4, 3) := by decide +kernel
theorem dX6_isPlaceRight_42 : decode cX6_isPlaceRight 42 = .ok (.iconst 0, 1) := by decide +kernel
theorem dX6_isPlaceRight_43 : decode cX6_isPlaceRight 43 = .ok (.ireturn, 1) := by decide +kernel
theorem dX6_isPlaceRight_44 : decode cX6_isPlaceRight 44 = .ok (.aload_n 0, 1) := by decide +kernel
theorem dX6_isPlaceRight_45 : decode cX6_isPlaceRight 45 = .ok (.getfield 29, 3) := by decide +kernel
theorem dX6_isPlaceRight_48 : decode cX6_isPlaceRight 48 = .ok (.iload_n 2, 1) := by decide +kernel
theorem dX6_isPlaceRight_49 : decode cX6_isPlaceRight 49 = .ok (.iaload, 1) := by decide +kernel
theorem dX6_isPlaceRight_50 : decode cX6_isPlaceRight 50 = .ok (.istore 4, 2) := by decide +kernel
theorem dX6_isPlaceRight_52 : decode cX6_isPlaceRight 52 = .ok (.aload_n 0, 1) := by decide +kernel
theorem dX6_isPlaceRight_53 : decode cX6_isPlaceRight 53 = .ok (.iload_n 1, 1) := by decide +kernel
theorem dX6_isPlaceRight_54 : decode cX6_isPlaceRight 54 = .ok (.bipush 6, 2) := by decide +kernel
theorem dX6_isPlaceRight_56 : decode cX6_isPlaceRight 56 = .ok (.invokevirtual 115, 3) := by decide +kernel
theorem dX6_isPlaceRight_59 : decode cX6_isPlaceRight 59 = .ok (.iconst 0, 1) := by decide +kernel
theorem dX6_isPlaceRight_60 : decode cX6_isPlaceRight 60 = .ok (.aload_n 0, 1) := by decide +kernel
theorem dX6_isPlaceRight_61 : decode cX6_isPlaceRight 61 = .ok (.getfield 7, 3) := by decide +kernel
theorem dX6_isPlaceRight_64 : decode cX6_isPlaceRight 64 = .ok (.iload 4, 2) := by decide +kernel
theorem dX6_isPlaceRight_66 : decode cX6_isPlaceRight 66 = .ok (.iaload, 1) := by decide +kernel
theorem dX6_isPlaceRight_67 : decode cX6_isPlaceRight 67 = .ok (.iconst 1, 1) := by decide +kernel
theorem dX6_isPlaceRight_68 : decode cX6_isPlaceRight 68 = .ok (.isub, 1) := by decide +kernel
theorem dX6_isPlaceRight_69 : decode cX6_isPlaceRight 69 = .ok (.invokestatic 84, 3) := by decide +kernel
theorem dX6_isPlaceRight_72 : decode cX6_isPlaceRight 72 = .ok (.ifCond .eq 54, 3) := by decide +kernel
theorem dX6_isPlaceRight_75 : decode cX6_isPlaceRight 75 = .ok (.aload_n 0, 1) := by decide +kernel
theorem dX6_isPlaceRight_76 : decode cX6_isPlaceRight 76 = .ok (.iload_n 1, 1) := by decide +kernel
theorem dX6_isPlaceRight_77 : decode cX6_isPlaceRight 77 = .ok (.bipush 7, 2) := by decide +kernel
theorem dX6_isPlaceRight_79 : decode cX6_isPlaceRight 79 = .ok (.invokevirtual 115, 3) := by decide +kernel
theorem dX6_isPlaceRight_82 : decode cX6_isPlaceRight 82 = .ok (.iconst 0, 1) := by decide +kernel
theorem dX6_isPlaceRight_83 : decode cX6_isPlaceRight 83 = .ok (.aload_n 0, 1) := by decide +kernel
theorem dX6_isPlaceRight_84 : decode cX6_isPlaceRight 84 = .ok (.getfield 13, 3) := by decide +kernel
theorem dX6_isPlaceRight_87 : decode cX6_isPlaceRight 87 = .ok (.iload 4, 2) := by decide +kernel
theorem dX6_isPlaceRight_89 : decode cX6_isPlaceRight 89 = .ok (.iaload, 1) := by decide +kernel
theorem dX6_isPlaceRight_90 : decode cX6_isPlaceRight 90 = .ok (.iconst 1, 1) := by decide +kernel
theorem dX6_isPlaceRight_91 : decode cX6_isPlaceRight 91 = .ok (.isub, 1) := by decide +kernel
theorem dX6_isPlaceRight_92 : decode cX6_isPlaceRight 92 = .ok (.invokestatic 84, 3) := by decide +kernel
theorem dX6_isPlaceRight_95 : decode cX6_isPlaceRight 95 = .ok (.ifCond .eq 31, 3) := by decide +kernel
theorem dX6_isPlaceRight_98 : decode cX6_isPlaceRight 98 = .ok (.aload_n 0, 1) := by decide +kernel
theorem dX6_isPlaceRight_99 : decode cX6_isPlaceRight 99 = .ok (.iload_n 1, 1) := by decide +kernel
theorem dX6_isPlaceRight_100 : decode cX6_isPlaceRight 100 = .ok (.bipush 8, 2) := by decide +kernel
theorem dX6_isPlaceRight_102 : decode cX6_isPlaceRight 102 = .ok (.invokevirtual 115, 3) := by decide +kernel
theorem dX6_isPlaceRight_105 : decode cX6_isPlaceRight 105 = .ok (.iconst 0, 1) := by decide +kernel
theorem dX6_isPlaceRight_106 : decode cX6_isPlaceRight 106 = .ok (.aload_n 0, 1) := by decide +kernel
theorem dX6_isPlaceRight_107 : decode cX6_isPlaceRight 107 = .ok (.getfield 16, 3) := by decide +kernel
theorem dX6_isPlaceRight_110 : decode cX6_isPlaceRight 110 = .ok (.iload 4, 2) := by decide +kernel
theorem dX6_isPlaceRight_112 : decode cX6_isPlaceRight 112 = .ok (.iaload, 1) := by decide +kernel
theorem dX6_isPlaceRight_113 : decode cX6_isPlaceRight 113 = .ok (.aload_n 0, 1) := by decide +kernel
theorem dX6_isPlaceRight_114 : decode cX6_isPlaceRight 114 = .ok (.iload_n 1, 1) := by decide +kernel
theorem dX6_isPlaceRight_115 : decode cX6_isPlaceRight 115 = .ok (.iconst 1, 1) := by decide +kernel
theorem dX6_isPlaceRight_116 : decode cX6_isPlaceRight 116 = .ok (.invokevirtual 115, 3) := by decide +kernel
theorem dX6_isPlaceRight_119 : decode cX6_isPlaceRight 119 = .ok (.isub, 1) := by decide +kernel
theorem dX6_isPlaceRight_120 : decode cX6_isPlaceRight 120 = .ok (.invokestatic 84, 3) := by decide +kernel
theorem dX6_isPlaceRight_123 : decode cX6_isPlaceRight 123 = .ok (.ifCond .ne 5, 3) := by decide +kernel
theorem dX6_isPlaceRight_126 : decode cX6_isPlaceRight 126 = .ok (.iconst 0, 1) := by decide +kernel
theorem dX6_isPlaceRight_127 : decode cX6_isPlaceRight 127 = .ok (.ireturn, 1) := by decide +kernel
theorem dX6_isPlaceRight_128 : decode cX6_isPlaceRight 128 = .ok (.iconst 0, 1) := by decide +kernel
theorem dX6_isPlaceRight_129 : decode cX6_isPlaceRight 129 = .ok (.istore 5, 2) := by decide +kernel
theorem dX6_isPlaceRight_131 : decode cX6_isPlaceRight 131 = .ok (.iload 5, 2) := by decide +kernel
theorem dX6_isPlaceRight_133 : decode cX6_isPlaceRight 133 = .ok (.aload_n 0, 1) := by decide +kernel
theorem dX6_isPlaceRight_134 : decode cX6_isPlaceRight 134 = .ok (.getfield 74, 3) := by decide +kernel
theorem dX6_isPlaceRight_137 : decode cX6_isPlaceRight 137 = .ok (.if_icmp .ge 121, 3) := by decide +kernel
theorem dX6_isPlaceRight_140 : decode cX6_isPlaceRight 140 = .ok (.iload 5, 2) := by decide +kernel
theorem dX6_isPlaceRight_142 : decode cX6_isPlaceRight 142 = .ok (.iload_n 1, 1) := by decide +kernel
theorem dX6_isPlaceRight_143 : decode cX6_isPlaceRight 143 = .ok (.if_icmp .eq 109, 3) := by decide +kernel
theorem dX6_isPlaceRight_146 : decode cX6_isPlaceRight 146 = .ok (.aload_n 0, 1) := by decide +kernel
theorem dX6_isPlaceRight_147 : decode cX6_isPlaceRight 147 = .ok (.iload 5, 2) := by decide +kernel
theorem dX6_isPlaceRight_149 : decode cX6_isPlaceRight 149 = .ok (.iload_n 2, 1) := by decide +kernel
theorem dX6_isPlaceRight_150 : decode cX6_isPlaceRight 150 = .ok (.invokevirtual 130, 3) := by decide +kernel
theorem dX6_isPlaceRight_153 : decode cX6_isPlaceRight 153 = .ok (.ifCond .eq 99, 3) := by decide +kernel
theorem dX6_isPlaceRight_156 : decode cX6_isPlaceRight 156 = .ok (.aload_n 0, 1) := by decide +kernel
theorem dX6_isPlaceRight_157 : decode cX6_isPlaceRight 157 = .ok (.iload 5, 2) := by decide +kernel
theorem dX6_isPlaceRight_159 : decode cX6_isPlaceRight 159 = .ok (.bipush 6, 2) := by decide +kernel
theorem dX6_isPlaceRight_161 : decode cX6_isPlaceRight 161 = .ok (.invokevirtual 115, 3) := by decide +kernel
theorem dX6_isPlaceRight_164 : decode cX6_isPlaceRight 164 = .ok (.aload_n 0, 1) := by decide +kernel
theorem dX6_isPlaceRight_165 : decode cX6_isPlaceRight 165 = .ok (.iload_n 1, 1) := by decide +kernel
theorem dX6_isPlaceRight_166 : decode cX6_isPlaceRight 166 = .ok (.bipush 6, 2) := by decide +kernel
theorem dX6_isPlaceRight_168 : decode cX6_isPlaceRight 168 = .ok (.invokevirtual 115, 3) := by decide +kernel
theorem dX6_isPlaceRight_171 : decode cX6_isPlaceRight 171 = .ok (.if_icmp .ne 81, 3) := by decide +kernel
theorem dX6_isPlaceRight_174 : decode cX6_isPlaceRight 174 = .ok (.aload_n 0, 1) := by decide +kernel
theorem dX6_isPlaceRight_175 : decode cX6_isPlaceRight 175 = .ok (.iload 5, 2) := by decide +kernel
theorem dX6_isPlaceRight_177 : decode cX6_isPlaceRight 177 = .ok (.bipush 7, 2) := by decide +kernel
theorem dX6_isPlaceRight_179 : decode cX6_isPlaceRight 179 = .ok (.invokevirtual 115, 3) := by decide +kernel
theorem dX6_isPlaceRight_182 : decode cX6_isPlaceRight 182 = .ok (.aload_n 0, 1) := by decide +kernel
theorem dX6_isPlaceRight_183 : decode cX6_isPlaceRight 183 = .ok (.iload_n 1, 1) := by decide +kernel
theorem dX6_isPlaceRight_184 : decode cX6_isPlaceRight 184 = .ok (.bipush 7, 2) := by decide +kernel
theorem dX6_isPlaceRight_186 : decode cX6_isPlaceRight 186 = .ok (.invokevirtual 115, 3) := by decide +kernel
theorem dX6_isPlaceRight_189 : decode cX6_isPlaceRight 189 = .ok (.if_icmp .eq 6, 3) := by decide +kernel
theorem dX6_isPlaceRight_192 : decode cX6_isPlaceRight 192 = .ok (.goto 60, 3) := by decide +kernel
theorem dX6_isPlaceRight_195 : decode cX6_isPlaceRight 195 = .ok (.aload_n 0, 1) := by decide +kernel
theorem dX6_isPlaceRight_196 : decode cX6_isPlaceRight 196 = .ok (.iload 5, 2) := by decide +kernel
theorem dX6_isPlaceRight_198 : decode cX6_isPlaceRight 198 = .ok (.bipush 8, 2) := by decide +kernel
theorem dX6_isPlaceRight_200 : decode cX6_isPlaceRight 200 = .ok (.invokevirtual 115, 3) := by decide +kernel
theorem dX6_isPlaceRight_203 : decode cX6_isPlaceRight 203 = .ok (.i2l, 1) := by decide +kernel
theorem dX6_isPlaceRight_204 : decode cX6_isPlaceRight 204 = .ok (.lstore 6, 2) := by decide +kernel
theorem dX6_isPlaceRight_206 : decode cX6_isPlaceRight 206 = .ok (.lload 6, 2) := by decide +kernel
theorem dX6_isPlaceRight_208 : decode cX6_isPlaceRight 208 = .ok (.aload_n 0, 1) := by decide +kernel
theorem dX6_isPlaceRight_209 : decode cX6_isPlaceRight 209 = .ok (.iload_n 1, 1) := by decide +kernel
theorem dX6_isPlaceRight_210 : decode cX6_isPlaceRight 210 = .ok (.bipush 8, 2) := by decide +kernel
theorem dX6_isPlaceRight_212 : decode cX6_isPlaceRight 212 = .ok (.invokevirtual 115, 3) := by decide +kernel
theorem dX6_isPlaceRight_215 : decode cX6_isPlaceRight 215 = .ok (.aload_n 0, 1) := by decide +kernel
theorem dX6_isPlaceRight_216 : decode cX6_isPlaceRight 216 = .ok (.iload_n 1, 1) := by decide +kernel
theorem dX6_isPlaceRight_217 : decode cX6_isPlaceRight 217 = .ok (.iconst 1, 1) := by decide +kernel
theorem dX6_isPlaceRight_218 : decode cX6_isPlaceRight 218 = .ok (.invokevirtual 115, 3) := by decide +kernel
theorem dX6_isPlaceRight_221 : decode cX6_isPlaceRight 221 = .ok (.iadd, 1) := by decide +kernel
theorem dX6_isPlaceRight_222 : decode cX6_isPlaceRight 222 = .ok (.i2l, 1) := by decide +kernel
theorem dX6_isPlaceRight_223 : decode cX6_isPlaceRight 223 = .ok (.lcmp, 1) := by decide +kernel
theorem dX6_isPlaceRight_224 : decode cX6_isPlaceRight 224 = .ok (.ifCond .ge 28, 3) := by decide +kernel
theorem dX6_isPlaceRight_227 : decode cX6_isPlaceRight 227 = .ok (.lload 6, 2) := by decide +kernel
theorem dX6_isPlaceRight_229 : decode cX6_isPlaceRight 229 = .ok (.aload_n 0, 1) := by decide +kernel
theorem dX6_isPlaceRight_230 : decode cX6_isPlaceRight 230 = .ok (.iload 5, 2) := by decide +kernel
theorem dX6_isPlaceRight_232 : decode cX6_isPlaceRight 232 = .ok (.iconst 1, 1) := by decide +kernel
theorem dX6_isPlaceRight_233 : decode cX6_isPlaceRight 233 = .ok (.invokevirtual 115, 3) := by decide +kernel
theorem dX6_isPlaceRight_236 : decode cX6_isPlaceRight 236 = .ok (.i2l, 1) := by decide +kernel
theorem dX6_isPlaceRight_237 : decode cX6_isPlaceRight 237 = .ok (.ladd, 1) := by decide +kernel
theorem dX6_isPlaceRight_238 : decode cX6_isPlaceRight 238 = .ok (.aload_n 0, 1) := by decide +kernel
theorem dX6_isPlaceRight_239 : decode cX6_isPlaceRight 239 = .ok (.iload_n 1, 1) := by decide +kernel
theorem dX6_isPlaceRight_240 : decode cX6_isPlaceRight 240 = .ok (.bipush 8, 2) := by decide +kernel
theorem dX6_isPlaceRight_242 : decode cX6_isPlaceRight 242 = .ok (.invokevirtual 115, 3) := by decide +kernel
theorem dX6_isPlaceRight_245 : decode cX6_isPlaceRight 245 = .ok (.i2l, 1) := by decide +kernel
theorem dX6_isPlaceRight_246 : decode cX6_isPlaceRight 246 = .ok (.lcmp, 1) := by decide +kernel
theorem dX6_isPlaceRight_247 : decode cX6_isPlaceRight 247 = .ok (.ifCond .le 5, 3) := by decide +kernel
theorem dX6_isPlaceRight_250 : decode cX6_isPlaceRight 250 = .ok (.iconst 0, 1) := by decide +kernel
theorem dX6_isPlaceRight_251 : decode cX6_isPlaceRight 251 = .ok (.ireturn, 1) := by decide +kernel
theorem dX6_isPlaceRight_252 : decode cX6_isPlaceRight 252 = .ok (.iinc 5 1, 3) := by decide +kernel
theorem dX6_isPlaceRight_255 : decode cX6_isPlaceRight 255 = .ok (.goto (-124), 3) := by decide +kernel
theorem dX6_isPlaceRight_258 : decode cX6_isPlaceRight 258 = .ok (.iconst 1, 1) := by decide +kernel
theorem dX6_isPlaceRight_259 : decode cX6_isPlaceRight 259 = .ok (.ireturn, 1) := by decide +kernel
set_option maxRecDepth 20000 in
theorem ggX6_isCabinRight_X6_of : GoodIn wsX6_isCabinRight wsX6_of := goodIn_r _ [10, 11, 15, 16, 17, 18, 19, 20, 21, 22, 23, 24, 25, 26, 27, 28, 29, 30, 31, 32, 33, 34, 35, 36, 37, 38, 39, 40, 41, 42, 43, 44, 45] (by decide +kernel) (by decide +kernel)
set_option maxRecDepth 20000 in
theorem gX6_isCabinRight_X6_of : GoodIn wsX6_isCabinRight (wsV RX6 115 RX6 yX6_of wsX6_of) := goodIn_app (goodIn_of _ (by decide +kernel)) ggX6_isCabinRight_X6_of
set_option maxRecDepth 20000 in
theorem ggX6_isCabinRight_X6_isIn : GoodIn wsX6_isCabinRight wsX6_isIn := goodIn_r _ [14] (by decide +kernel) (by decide +kernel)
set_option maxRecDepth 20000 in
theorem gX6_isCabinRight_X6_isIn : GoodIn wsX6_isCabinRight (va_wsS RX6 84 yX6_isIn wsX6_isIn) := goodIn_app (goodIn_of _ (by decide +kernel)) ggX6_isCabinRight_X6_isIn
theorem dX6_isCabinRight_0 : decode cX6_isCabinRight 0 = .ok (.aload_n 0, 1) := by decide +kernel
theorem dX6_isCabinRight_1 : decode cX6_isCabinRight 1 = .ok (.iload_n 1, 1) := by decide +kernel
theorem dX6_isCabinRight_2 : decode cX6_isCabinRight 2 = .ok (.bipush 9, 2) := by decide +kernel
theorem dX6_isCabinRight_4 : decode cX6_isCabinRight 4 = .ok (.invokevirtual 115, 3) := by decide +kernel
theorem dX6_isCabinRight_7 : decode cX6_isCabinRight 7 = .ok (.istore 4, 2) := by decide +kernel
theorem dX6_isCabinRight_9 : decode cX6_isCabinRight 9 = .ok (.iload 4, 2) := by decide +kernel
theorem dX6_isCabinRight_11 : decode cX6_isCabinRight 11 = .ok (.iconst (-1), 1) := by decide +kernel
theorem dX6_isCabinRight_12 : decode cX6_isCabinRight 12 = .ok (.if_icmp .ne 5, 3) := by decide +kernel
theorem dX6_isCabinRight_15 : decode cX6_isCabinRight 15 = .ok (.iconst 1, 1) := by decide +kernel
theorem dX6_isCabinRight_16 : decode cX6_isCabinRight 16 = .ok (.ireturn, 1) := by decide +kernel
theorem dX6_isCabinRight_17 : decode cX6_isCabinRight 17 = .ok (.iload_n 3, 1) := by decide +kernel
theorem dX6_isCabinRight_18 : decode cX6_isCabinRight 18 = .ok (.iconst 3, 1) := by decide +kernel
theorem dX6_isCabinRight_19 : decode cX6_isCabinRight 19 = .ok (.if_icmp .eq 9, 3) := by decide +kernel
theorem dX6_isCabinRight_22 : decode cX6_isCabinRight 22 = .ok (.iload_n 3, 1) := by decide +kernel
theorem dX6_isCabinRight_23 : decode cX6_isCabinRight 23 = .ok (.bipush 6, 2) := by decide +kernel
theorem dX6_isCabinRight_25 : decode cX6_isCabinRight 25 = .ok (.if_icmp .ne 59, 3) := by decide +kernel
theorem dX6_isCabinRight_28 : decode cX6_isCabinRight 28 = .ok (.aload_n 0, 1) := by decide +kernel
theorem dX6_isCabinRight_29 : decode cX6_isCabinRight 29 = .ok (.iload_n 1, 1) := by decide +kernel
theorem dX6_isCabinRight_30 : decode cX6_isCabinRight 30 = .ok (.iconst 3, 1) := by decide +kernel
theorem dX6_isCabinRight_31 : decode cX6_isCabinRight 31 = .ok (.invokevirtual 115, 3) := by decide +kernel
theorem dX6_isCabinRight_34 : decode cX6_isCabinRight 34 = .ok (.ifCond .eq 50, 3) := by decide +kernel
theorem dX6_isCabinRight_37 : decode cX6_isCabinRight 37 = .ok (.iload 4, 2) := by decide +kernel
theorem dX6_isCabinRight_39 : decode cX6_isCabinRight 39 = .ok (.iconst 0, 1) := by decide +kernel
theorem dX6_isCabinRight_40 : decode cX6_isCabinRight 40 = .ok (.aload_n 0, 1) := by decide +kernel
theorem dX6_isCabinRight_41 : decode cX6_isCabinRight 41 = .ok (.getfield 92, 3) := by decide +kernel
theorem dX6_isCabinRight_44 : decode cX6_isCabinRight 44 = .ok (.iconst 1, 1) := by decide +kernel
theorem dX6_isCabinRight_45 : decode cX6_isCabinRight 45 = .ok (.isub, 1) := by decide +kernel
theorem dX6_isCabinRight_46 : decode cX6_isCabinRight 46 = .ok (.invokestatic 84, 3) := by decide +kernel
theorem dX6_isCabinRight_49 : decode cX6_isCabinRight 49 = .ok (.ifCond .eq 35, 3) := by decide +kernel
theorem dX6_isCabinRight_52 : decode cX6_isCabinRight 52 = .ok (.aload_n 0, 1) := by decide +kernel
theorem dX6_isCabinRight_53 : decode cX6_isCabinRight 53 = .ok (.getfield 23, 3) := by decide +kernel
theorem dX6_isCabinRight_56 : decode cX6_isCabinRight 56 = .ok (.iload 4, 2) := by decide +kernel
theorem dX6_isCabinRight_58 : decode cX6_isCabinRight 58 = .ok (.iaload, 1) := by decide +kernel
theorem dX6_isCabinRight_59 : decode cX6_isCabinRight 59 = .ok (.aload_n 0, 1) := by decide +kernel
theorem dX6_isCabinRight_60 : decode cX6_isCabinRight 60 = .ok (.getfield 29, 3) := by decide +kernel
theorem dX6_isCabinRight_63 : decode cX6_isCabinRight 63 = .ok (.iload_n 2, 1) := by decide +kernel
theorem dX6_isCabinRight_64 : decode cX6_isCabinRight 64 = .ok (.iaload, 1) := by decide +kernel
theorem dX6_isCabinRight_65 : decode cX6_isCabinRight 65 = .ok (.if_icmp .ne 19, 3) := by decide +kernel
theorem dX6_isCabinRight_68 : decode cX6_isCabinRight 68 = .ok (.aload_n 0, 1) := by decide +kernel
theorem dX6_isCabinRight_69 : decode cX6_isCabinRight 69 = .ok (.getfield 26, 3) := by decide +kernel
theorem dX6_isCabinRight_72 : decode cX6_isCabinRight 72 = .ok (.iload 4, 2) := by decide +kernel
theorem dX6_isCabinRight_74 : decode cX6_isCabinRight 74 = .ok (.iaload, 1) := by decide +kernel
theorem dX6_isCabinRight_75 : decode cX6_isCabinRight 75 = .ok (.aload_n 0, 1) := by decide +kernel
theorem dX6_isCabinRight_76 : decode cX6_isCabinRight 76 = .ok (.iload_n 1, 1) := by decide +kernel
theorem dX6_isCabinRight_77 : decode cX6_isCabinRight 77 = .ok (.iconst 3, 1) := by decide +kernel
theorem dX6_isCabinRight_78 : decode cX6_isCabinRight 78 = .ok (.invokevirtual 115, 3) := by decide +kernel
theorem dX6_isCabinRight_81 : decode cX6_isCabinRight 81 = .ok (.if_icmp .ge 5, 3) := by decide +kernel
theorem dX6_isCabinRight_84 : decode cX6_isCabinRight 84 = .ok (.iconst 0, 1) := by decide +kernel
theorem dX6_isCabinRight_85 : decode cX6_isCabinRight 85 = .ok (.ireturn, 1) := by decide +kernel
theorem dX6_isCabinRight_86 : decode cX6_isCabinRight 86 = .ok (.iconst 0, 1) := by decide +kernel
theorem dX6_isCabinRight_87 : decode cX6_isCabinRight 87 = .ok (.istore 5, 2) := by decide +kernel
theorem dX6_isCabinRight_89 : decode cX6_isCabinRight 89 = .ok (.iload 5, 2) := by decide +kernel
theorem dX6_isCabinRight_91 : decode cX6_isCabinRight 91 = .ok (.aload_n 0, 1) := by decide +kernel
theorem dX6_isCabinRight_92 : decode cX6_isCabinRight 92 = .ok (.getfield 74, 3) := by decide +kernel
theorem dX6_isCabinRight_95 : decode cX6_isCabinRight 95 = .ok (.if_icmp .ge 64, 3) := by decide +kernel
theorem dX6_isCabinRight_98 : decode cX6_isCabinRight 98 = .ok (.iload 5, 2) := by decide +kernel
theorem dX6_isCabinRight_100 : decode cX6_isCabinRight 100 = .ok (.iload_n 1, 1) := by decide +kernel
theorem dX6_isCabinRight_101 : decode cX6_isCabinRight 101 = .ok (.if_icmp .eq 52, 3) := by decide +kernel
theorem dX6_isCabinRight_104 : decode cX6_isCabinRight 104 = .ok (.aload_n 0, 1) := by decide +kernel
theorem dX6_isCabinRight_105 : decode cX6_isCabinRight 105 = .ok (.iload 5, 2) := by decide +kernel
theorem dX6_isCabinRight_107 : decode cX6_isCabinRight 107 = .ok (.iconst 0, 1) := by decide +kernel
theorem dX6_isCabinRight_108 : decode cX6_isCabinRight 108 = .ok (.invokevirtual 115, 3) := by decide +kernel
theorem dX6_isCabinRight_111 : decode cX6_isCabinRight 111 = .ok (.iload_n 2, 1) := by decide +kernel
theorem dX6_isCabinRight_112 : decode cX6_isCabinRight 112 = .ok (.if_icmp .ne 41, 3) := by decide +kernel
theorem dX6_isCabinRight_115 : decode cX6_isCabinRight 115 = .ok (.aload_n 0, 1) := by decide +kernel
theorem dX6_isCabinRight_116 : decode cX6_isCabinRight 116 = .ok (.iload 5, 2) := by decide +kernel
theorem dX6_isCabinRight_118 : decode cX6_isCabinRight 118 = .ok (.iconst 4, 1) := by decide +kernel
theorem dX6_isCabinRight_119 : decode cX6_isCabinRight 119 = .ok (.invokevirtual 115, 3) := by decide +kernel
theorem dX6_isCabinRight_122 : decode cX6_isCabinRight 122 = .ok (.iconst 3, 1) := by decide +kernel
theorem dX6_isCabinRight_123 : decode cX6_isCabinRight 123 = .ok (.if_icmp .eq 15, 3) := by decide +kernel
theorem dX6_isCabinRight_126 : decode cX6_isCabinRight 126 = .ok (.aload_n 0, 1) := by decide +kernel
theorem dX6_isCabinRight_127 : decode cX6_isCabinRight 127 = .ok (.iload 5, 2) := by decide +kernel
theorem dX6_isCabinRight_129 : decode cX6_isCabinRight 129 = .ok (.iconst 4, 1) := by decide +kernel
theorem dX6_isCabinRight_130 : decode cX6_isCabinRight 130 = .ok (.invokevirtual 115, 3) := by decide +kernel
theorem dX6_isCabinRight_133 : decode cX6_isCabinRight 133 = .ok (.bipush 6, 2) := by decide +kernel
theorem dX6_isCabinRight_135 : decode cX6_isCabinRight 135 = .ok (.if_icmp .ne 18, 3) := by decide +kernel
theorem dX6_isCabinRight_138 : decode cX6_isCabinRight 138 = .ok (.aload_n 0, 1) := by decide +kernel
theorem dX6_isCabinRight_139 : decode cX6_isCabinRight 139 = .ok (.iload 5, 2) := by decide +kernel
theorem dX6_isCabinRight_141 : decode cX6_isCabinRight 141 = .ok (.bipush 9, 2) := by decide +kernel
theorem dX6_isCabinRight_143 : decode cX6_isCabinRight 143 = .ok (.invokevirtual 115, 3) := by decide +kernel
theorem dX6_isCabinRight_146 : decode cX6_isCabinRight 146 = .ok (.iload 4, 2) := by decide +kernel
theorem dX6_isCabinRight_148 : decode cX6_isCabinRight 148 = .ok (.if_icmp .ne 5, 3) := by decide +kernel
theorem dX6_isCabinRight_151 : decode cX6_isCabinRight 151 = .ok (.iconst 0, 1) := by decide +kernel
theorem dX6_isCabinRight_152 : decode cX6_isCabinRight 152 = .ok (.ireturn, 1) := by decide +kernel
theorem dX6_isCabinRight_153 : decode cX6_isCabinRight 153 = .ok (.iinc 5 1, 3) := by decide +kernel
theorem dX6_isCabinRight_156 : decode cX6_isCabinRight 156 = .ok (.goto (-67), 3) := by decide +kernel
theorem dX6_isCabinRight_159 : decode cX6_isCabinRight 159 = .ok (.iconst 1, 1) := by decide +kernel
theorem dX6_isCabinRight_160 : decode cX6_isCabinRight 160 = .ok (.ireturn, 1) := by decide +kernel
theorem dJ9_abs_0f7a4_0 : decode cJ9_abs_0f7a4 0 = .ok (.iload_n 0, 1) := by decide +kernel
theorem dJ9_abs_0f7a4_1 : decode cJ9_abs_0f7a4 1 = .ok (.ifCond .ge 8, 3) := by decide +kernel
theorem dJ9_abs_0f7a4_4 : decode cJ9_abs_0f7a4 4 = .ok (.iload_n 0, 1) := by decide +kernel
theorem dJ9_abs_0f7a4_5 : decode cJ9_abs_0f7a4 5 = .ok (.ineg, 1) := by decide +kernel
theorem dJ9_abs_0f7a4_6 : decode cJ9_abs_0f7a4 6 = .ok (.goto 4, 3) := by decide +kernel
theorem dJ9_abs_0f7a4_9 : decode cJ9_abs_0f7a4 9 = .ok (.iload_n 0, 1) := by decide +kernel
theorem dJ9_abs_0f7a4_10 : decode cJ9_abs_0f7a4 10 = .ok (.ireturn, 1) := by decide +kernel
theorem dJ9_max_7cf53_0 : decode cJ9_max_7cf53 0 = .ok (.iload_n 0, 1) := by decide +kernel
theorem dJ9_max_7cf53_1 : decode cJ9_max_7cf53 1 = .ok (.iload_n 1, 1) := by decide +kernel
theorem dJ9_max_7cf53_2 : decode cJ9_max_7cf53 2 = .ok (.if_icmp .lt 7, 3) := by decide +kernel
theorem dJ9_max_7cf53_5 : decode cJ9_max_7cf53 5 = .ok (.iload_n 0, 1) := by decide +kernel
theorem dJ9_max_7cf53_6 : decode cJ9_max_7cf53 6 = .ok (.goto 4, 3) := by decide +kernel
theorem dJ9_max_7cf53_9 : decode cJ9_max_7cf53 9 = .ok (.iload_n 1, 1) := by decide +kernel
theorem dJ9_max_7cf53_10 : decode cJ9_max_7cf53 10 = .ok (.ireturn, 1) := by decide +kernel
theorem dJ9_min_7cf53_0 : decode cJ9_min_7cf53 0 = .ok (.iload_n 0, 1) := by decide +kernel
theorem dJ9_min_7cf53_1 : decode cJ9_min_7cf53 1 = .ok (.iload_n 1, 1) := by decide +kernel
theorem dJ9_min_7cf53_2 : decode cJ9_min_7cf53 2 = .ok (.if_icmp .gt 7, 3) := by decide +kernel
theorem dJ9_min_7cf53_5 : decode cJ9_min_7cf53 5 = .ok (.iload_n 0, 1) := by decide +kernel
theorem dJ9_min_7cf53_6 : decode cJ9_min_7cf53 6 = .ok (.goto 4, 3) := by decide +kernel
theorem dJ9_min_7cf53_9 : decode cJ9_min_7cf53 9 = .ok (.iload_n 1, 1) := by decide +kernel
theorem dJ9_min_7cf53_10 : decode cJ9_min_7cf53 10 = .ok (.ireturn, 1) := by decide +kernel
set_option maxRecDepth 20000 in
theorem ggL_law_X5_init : GoodIn wsL_law wsX5_init := goodIn_r _ [8, 9, 10, 11, 12, 13, 14, 15, 16, 17, 18, 19, 20, 21, 22, 23, 610, 611, 612, 613, 614, 615, 616, 617, 618, 619, 620, 621] (by decide +kernel) (by decide +kernel)
set_option maxRecDepth 20000 in
theorem gL_law_X5_init : GoodIn wsL_law (wsX5_init) := ggL_law_X5_init
set_option maxRecDepth 20000 in
theorem ggL_law_X6_init : GoodIn wsL_law wsX6_init := goodIn_r _ [26, 27, 10, 11, 20, 28, 29, 30, 31, 32, 33, 34, 35, 36, 37, 38, 39, 40, 41, 42, 43, 44, 45, 46, 47, 48, 49, 622, 623, 624, 625, 626, 627, 628, 629, 630, 631, 632, 633, 634, 635, 636, 637, 638, 639, 640, 641, 642, 643, 644, 645, 646, 647, 648, 649, 650, 651, 652] (by decide +kernel) (by decide +kernel)
set_option maxRecDepth 20000 in
theorem gL_law_X6_init : GoodIn wsL_law (wsX6_init) := ggL_law_X6_init
set_option maxRecDepth 20000 in
theorem ggL_law_X5_ship : GoodIn wsL_law wsX5_ship := goodIn_r _ [53, 54, 13, 12, 55, 56, 57, 58, 2, 59, 60, 61, 62, 10, 11, 63, 64, 65, 66, 67, 68, 69, 610, 611, 612, 613, 614, 615, 616, 617, 618, 619, 620, 621, 653, 654, 655, 656, 657, 658, 659, 660] (by decide +kernel) (by decide +kernel)
set_option maxRecDepth 20000 in
theorem gL_law_X5_ship : GoodIn wsL_law (wsV RL 13 RX5 yX5_ship wsX5_ship) := goodIn_app (goodIn_of _ (by decide +kernel)) ggL_law_X5_ship
set_option maxRecDepth 20000 in
theorem ggL_law_X6_ship : GoodIn wsL_law wsX6_ship := goodIn_r _ [73, 74, 28, 29, 30, 32, 75, 76, 5, 77, 622, 623, 624, 625, 626, 627, 628, 629, 630, 631, 632, 633, 634, 635, 636, 637, 638, 639, 640, 641, 642, 643, 644, 645, 646, 647, 648, 649, 650, 651, 652] (by decide +kernel) (by decide +kernel)
set_option maxRecDepth 20000 in
theorem gL_law_X6_ship : GoodIn wsL_law (wsV RL 17 RX6 yX6_ship wsX6_ship) := goodIn_app (goodIn_of _ (by decide +kernel)) ggL_law_X6_ship
set_option maxRecDepth 20000 in
theorem ggL_law_X5_cabin : GoodIn wsL_law wsX5_cabin := goodIn_r _ [81, 82, 15, 14, 83, 84, 85, 86, 87, 2, 88, 54, 13, 57, 58, 59, 89, 90, 91, 10, 11, 92, 93, 610, 611, 612, 613, 614, 615, 616, 617, 618, 619, 620, 621, 661, 662, 663, 653, 654, 655, 656, 657, 658, 659, 660] (by decide +kernel) (by decide +kernel)
set_option maxRecDepth 20000 in
theorem gL_law_X5_cabin : GoodIn wsL_law (wsV RL 18 RX5 yX5_cabin wsX5_cabin) := goodIn_app (goodIn_of _ (by decide +kernel)) ggL_law_X5_cabin
set_option maxRecDepth 20000 in
theorem ggL_law_X6_cabin : GoodIn wsL_law wsX6_cabin := goodIn_r _ [97, 98, 33, 34, 99, 100, 101, 5, 102, 74, 75, 76, 77, 622, 623, 624, 625, 626, 627, 628, 629, 630, 631, 632, 633, 634, 635, 636, 637, 638, 639, 640, 641, 642, 643, 644, 645, 646, 647, 648, 649, 650, 651, 652] (by decide +kernel) (by decide +kernel)
set_option maxRecDepth 20000 in
theorem gL_law_X6_cabin : GoodIn wsL_law (wsV RL 22 RX6 yX6_cabin wsX6_cabin) := goodIn_app (goodIn_of _ (by decide +kernel)) ggL_law_X6_cabin
set_option maxRecDepth 20000 in
theorem ggL_law_X5_sailing : GoodIn wsL_law wsX5_sailing := goodIn_r _ [106, 107, 17, 108, 16, 109, 110, 85, 86, 87, 2, 88, 54, 13, 57, 58, 59, 111, 112, 113, 114, 115, 116, 117, 118, 119, 120, 121, 10, 11, 122, 123, 124, 125, 126, 127, 610, 611, 612, 613, 614, 615, 616, 617, 618, 619, 620, 621, 664, 665, 666, 667, 668, 669, 670, 671, 672] (by decide +kernel) (by decide +kernel)
set_option maxRecDepth 20000 in
theorem gL_law_X5_sailing : GoodIn wsL_law (wsV RL 23 RX5 yX5_sailing wsX5_sailing) := goodIn_app (goodIn_of _ (by decide +kernel)) ggL_law_X5_sailing
set_option maxRecDepth 20000 in
theorem ggL_law_X6_sailing : GoodIn wsL_law wsX6_sailing := goodIn_r _ [131, 132, 133, 35, 38, 36, 134, 116, 117, 118, 37, 40, 41, 99, 100, 101, 5, 102, 74, 75, 76, 77, 622, 623, 624, 625, 626, 627, 628, 629, 630, 631, 632, 633, 634, 635, 636, 637, 638, 639, 640, 641, 642, 643, 644, 645, 646, 647, 648, 649, 650, 651, 652] (by decide +kernel) (by decide +kernel)
set_option maxRecDepth 20000 in
theorem gL_law_X6_sailing : GoodIn wsL_law (wsV RL 27 RX6 yX6_sailing wsX6_sailing) := goodIn_app (goodIn_of _ (by decide +kernel)) ggL_law_X6_sailing
set_option maxRecDepth 20000 in
theorem ggL_law_X5_book : GoodIn wsL_law wsX5_book := goodIn_r _ [138, 139, 19, 18, 140, 141, 142, 143, 144, 2, 145, 107, 17, 57, 58, 59, 146, 110, 147, 148, 123, 149, 150, 151, 152, 122, 153, 154, 155, 156, 157, 158, 10, 11, 159, 160, 161, 162, 163, 164, 165, 166, 167, 168, 169, 170, 610, 611, 612, 613, 614, 615, 616, 617, 618, 619, 620, 621, 664, 665, 666, 667, 668, 669, 670, 671, 672, 653, 654, 655, 656, 657, 658, 659, 660, 673, 674, 675, 676, 677, 678, 679, 680, 681, 682, 683, 684, 685, 686, 687, 688] (by decide +kernel) (by decide +kernel)
set_option maxRecDepth 20000 in
theorem gL_law_X5_book : GoodIn wsL_law (wsV RL 28 RX5 yX5_book wsX5_book) := goodIn_app (goodIn_of _ (by decide +kernel)) ggL_law_X5_book
set_option maxRecDepth 20000 in
theorem ggL_law_X6_book : GoodIn wsL_law wsX6_book := goodIn_r _ [174, 40, 30, 35, 175, 37, 176, 177, 178, 5, 179, 133, 75, 76, 77, 180, 181, 182, 183, 38, 184, 185, 186, 187, 44, 622, 623, 624, 625, 626, 627, 628, 629, 630, 631, 632, 633, 634, 635, 636, 637, 638, 639, 640, 641, 642, 643, 644, 645, 646, 647, 648, 649, 650, 651, 652] (by decide +kernel) (by decide +kernel)
set_option maxRecDepth 20000 in
theorem gL_law_X6_book : GoodIn wsL_law (wsV RL 32 RX6 yX6_book wsX6_book) := goodIn_app (goodIn_of _ (by decide +kernel)) ggL_law_X6_book
set_option maxRecDepth 20000 in
theorem ggL_law_X5_arrive : GoodIn wsL_law wsX5_arrive := goodIn_r _ [191, 192, 193, 194, 195, 2, 196, 139, 19, 57, 58, 59, 150, 110, 151, 152, 122, 673, 674, 675, 676, 677, 678, 679, 680, 681, 682, 683, 684, 685, 686, 687, 688, 610, 611, 612, 613, 614, 615, 616, 617, 618, 619, 620, 621, 664, 665, 666, 667, 668, 669, 670, 671, 672] (by decide +kernel) (by decide +kernel)
set_option maxRecDepth 20000 in
theorem gL_law_X5_arrive : GoodIn wsL_law (wsV RL 33 RX5 yX5_arrive wsX5_arrive) := goodIn_app (goodIn_of _ (by decide +kernel)) ggL_law_X5_arrive
set_option maxRecDepth 20000 in
theorem ggL_law_X6_arrive : GoodIn wsL_law wsX6_arrive := goodIn_r _ [200, 201, 202, 203, 204, 5, 205, 175, 206, 207, 208, 209, 44, 75, 76, 77, 180, 181, 182, 183, 38, 184, 185, 186, 187, 622, 623, 624, 625, 626, 627, 628, 629, 630, 631, 632, 633, 634, 635, 636, 637, 638, 639, 640, 641, 642, 643, 644, 645, 646, 647, 648, 649, 650, 651, 652] (by decide +kernel) (by decide +kernel)
set_option maxRecDepth 20000 in
theorem gL_law_X6_arrive : GoodIn wsL_law (wsV RL 37 RX6 yX6_arrive wsX6_arrive) := goodIn_app (goodIn_of _ (by decide +kernel)) ggL_law_X6_arrive
set_option maxRecDepth 20000 in
theorem ggL_law_X5_open : GoodIn wsL_law wsX5_open := goodIn_r _ [213, 142, 143, 144, 2, 145, 107, 17, 57, 58, 59, 214, 215, 216, 217, 664, 665, 666, 667, 668, 669, 670, 671, 672, 610, 611, 612, 613, 614, 615, 616, 617, 618, 619, 620, 621] (by decide +kernel) (by decide +kernel)
set_option maxRecDepth 20000 in
theorem gL_law_X5_open : GoodIn wsL_law (wsV RL 38 RX5 yX5_open wsX5_open) := goodIn_app (goodIn_of _ (by decide +kernel)) ggL_law_X5_open
set_option maxRecDepth 20000 in
theorem ggL_law_X6_open : GoodIn wsL_law wsX6_open := goodIn_r _ [221, 38, 35, 176, 177, 178, 5, 179, 133, 222, 223, 224, 225, 622, 623, 624, 625, 626, 627, 628, 629, 630, 631, 632, 633, 634, 635, 636, 637, 638, 639, 640, 641, 642, 643, 644, 645, 646, 647, 648, 649, 650, 651, 652] (by decide +kernel) (by decide +kernel)
set_option maxRecDepth 20000 in
theorem gL_law_X6_open : GoodIn wsL_law (wsV RL 42 RX6 yX6_open wsX6_open) := goodIn_app (goodIn_of _ (by decide +kernel)) ggL_law_X6_open
set_option maxRecDepth 20000 in
theorem ggL_law_X5_recall : GoodIn wsL_law wsX5_recall := goodIn_r _ [229, 142, 143, 144, 2, 145, 107, 17, 57, 58, 59, 230, 231, 232, 233, 234, 235, 236, 237, 139, 19, 238, 239, 240, 241, 242, 243, 244, 245, 664, 665, 666, 667, 668, 669, 670, 671, 672, 610, 611, 612, 613, 614, 615, 616, 617, 618, 619, 620, 621, 673, 674, 675, 676, 677, 678, 679, 680, 681, 682, 683, 684, 685, 686, 687, 688] (by decide +kernel) (by decide +kernel)
set_option maxRecDepth 20000 in
theorem gL_law_X5_recall : GoodIn wsL_law (wsV RL 43 RX5 yX5_recall wsX5_recall) := goodIn_app (goodIn_of _ (by decide +kernel)) ggL_law_X5_recall
set_option maxRecDepth 20000 in
theorem ggL_law_X6_recall : GoodIn wsL_law wsX6_recall := goodIn_r _ [249, 38, 40, 176, 177, 178, 5, 179, 133, 75, 76, 77, 250, 251, 252, 253, 43, 41, 254, 255, 256, 257, 258, 259, 260, 261, 262, 175, 263, 264, 265, 266, 45, 267, 268, 269, 270, 206, 207, 208, 209, 44, 271, 272, 273, 274, 275, 276, 277, 278, 36, 622, 623, 624, 625, 626, 627, 628, 629, 630, 631, 632, 633, 634, 635, 636, 637, 638, 639, 640, 641, 642, 643, 644, 645, 646, 647, 648, 649, 650, 651, 652] (by decide +kernel) (by decide +kernel)
set_option maxRecDepth 20000 in
theorem gL_law_X6_recall : GoodIn wsL_law (wsV RL 46 RX6 yX6_recall wsX6_recall) := goodIn_app (goodIn_of _ (by decide +kernel)) ggL_law_X6_recall
set_option maxRecDepth 20000 in
theorem ggL_law_X5_settle : GoodIn wsL_law wsX5_settle := goodIn_r _ [282, 57, 58, 2, 59, 283, 284, 285, 286, 107, 17, 234, 235, 236, 237, 139, 19, 287, 288, 289, 290, 238, 239, 240, 241, 291, 292, 293, 294, 295, 56, 296, 297, 298, 299, 300, 301, 302, 303, 304, 305, 306, 69, 65, 307, 308, 309, 310, 64, 311, 312, 313, 314, 315, 316, 317, 318, 82, 15, 319, 320, 321, 322, 323, 21, 22, 23, 242, 243, 244, 245, 324, 325, 326, 327, 146, 110, 147, 148, 123, 149, 150, 151, 152, 122, 328, 329, 330, 331, 332, 333, 334, 335, 336, 337, 338, 339, 340, 341, 342, 343, 344, 345, 346, 347, 348, 141, 349, 350, 168, 165, 351, 352, 353, 354, 160, 166, 355, 356, 357, 358, 359, 360, 361, 362, 363, 364, 365, 66, 366, 367, 368, 369, 67, 370, 371, 372, 373, 374, 375, 376, 377, 378, 379, 380, 381, 382, 383, 384, 385, 230, 231, 232, 233, 664, 665, 666, 667, 668, 669, 670, 671, 672, 610, 611, 612, 613, 614, 615, 616, 617, 618, 619, 620, 621, 673, 674, 675, 676, 677, 678, 679, 680, 681, 682, 683, 684, 685, 686, 687, 688, 653, 654, 655, 656, 657, 658, 659, 660, 661, 662, 663] (by decide +kernel) (by decide +kernel)
set_option maxRecDepth 20000 in
theorem gL_law_X5_settle : GoodIn wsL_law (wsV RL 47 RX5 yX5_settle wsX5_settle) := goodIn_app (goodIn_of _ (by decide +kernel)) ggL_law_X5_settle
set_option maxRecDepth 20000 in
theorem ggL_law_X6_settle : GoodIn wsL_law wsX6_settle := goodIn_r _ [389, 133, 75, 76, 5, 77, 390, 391, 392, 393, 262, 41, 42, 40, 258, 259, 260, 261, 38, 43, 175, 263, 264, 265, 266, 45, 267, 268, 269, 270, 206, 207, 208, 209, 44, 271, 272, 273, 274, 275, 276, 277, 278, 36, 184, 185, 186, 187, 394, 395, 396, 397, 398, 46, 47, 48, 39, 399, 400, 401, 402, 403, 404, 405, 406, 98, 33, 35, 34, 407, 408, 409, 410, 28, 29, 411, 412, 413, 414, 415, 416, 417, 32, 418, 419, 420, 421, 30, 49, 422, 423, 424, 117, 425, 426, 427, 428, 429, 430, 431, 432, 433, 37, 180, 181, 182, 183, 250, 251, 252, 253, 254, 255, 256, 257, 622, 623, 624, 625, 626, 627, 628, 629, 630, 631, 632, 633, 634, 635, 636, 637, 638, 639, 640, 641, 642, 643, 644, 645, 646, 647, 648, 649, 650, 651, 652] (by decide +kernel) (by decide +kernel)
set_option maxRecDepth 20000 in
theorem gL_law_X6_settle : GoodIn wsL_law (wsV RL 51 RX6 yX6_settle wsX6_settle) := goodIn_app (goodIn_of _ (by decide +kernel)) ggL_law_X6_settle
set_option maxRecDepth 20000 in
theorem ggL_law_X5_depart : GoodIn wsL_law wsX5_depart := goodIn_r _ [437, 139, 19, 142, 143, 144, 2, 145, 107, 17, 57, 58, 59, 234, 235, 236, 237, 438, 439, 440, 441, 295, 56, 296, 297, 298, 299, 300, 301, 302, 303, 304, 305, 306, 69, 65, 307, 308, 309, 310, 64, 311, 312, 313, 314, 315, 316, 317, 318, 82, 15, 664, 665, 666, 667, 668, 669, 670, 671, 672, 610, 611, 612, 613, 614, 615, 616, 617, 618, 619, 620, 621, 673, 674, 675, 676, 677, 678, 679, 680, 681, 682, 683, 684, 685, 686, 687, 688, 653, 654, 655, 656, 657, 658, 659, 660, 661, 662, 663] (by decide +kernel) (by decide +kernel)
set_option maxRecDepth 20000 in
theorem gL_law_X5_depart : GoodIn wsL_law (wsV RL 52 RX5 yX5_depart wsX5_depart) := goodIn_app (goodIn_of _ (by decide +kernel)) ggL_law_X5_depart
set_option maxRecDepth 20000 in
theorem ggL_law_X6_depart : GoodIn wsL_law wsX6_depart := goodIn_r _ [445, 38, 40, 175, 176, 177, 178, 5, 179, 133, 254, 255, 256, 257, 258, 259, 260, 261, 262, 43, 41, 263, 264, 265, 266, 45, 267, 268, 269, 270, 206, 207, 208, 209, 44, 271, 272, 273, 274, 275, 276, 277, 278, 36, 426, 427, 428, 429, 184, 185, 186, 187, 622, 623, 624, 625, 626, 627, 628, 629, 630, 631, 632, 633, 634, 635, 636, 637, 638, 639, 640, 641, 642, 643, 644, 645, 646, 647, 648, 649, 650, 651, 652] (by decide +kernel) (by decide +kernel)
set_option maxRecDepth 20000 in
theorem gL_law_X6_depart : GoodIn wsL_law (wsV RL 55 RX6 yX6_depart wsX6_depart) := goodIn_app (goodIn_of _ (by decide +kernel)) ggL_law_X6_depart
set_option maxRecDepth 20000 in
theorem ggL_law_X5_off : GoodIn wsL_law wsX5_off := goodIn_r _ [449, 193, 194, 195, 2, 196, 139, 19, 57, 58, 59, 291, 292, 293, 294, 295, 56, 296, 297, 298, 299, 300, 301, 302, 303, 304, 305, 306, 69, 65, 307, 308, 309, 310, 64, 311, 312, 313, 314, 315, 316, 317, 318, 82, 15, 673, 674, 675, 676, 677, 678, 679, 680, 681, 682, 683, 684, 685, 686, 687, 688, 664, 665, 666, 667, 668, 669, 670, 671, 672, 610, 611, 612, 613, 614, 615, 616, 617, 618, 619, 620, 621, 653, 654, 655, 656, 657, 658, 659, 660, 661, 662, 663] (by decide +kernel) (by decide +kernel)
set_option maxRecDepth 20000 in
theorem gL_law_X5_off : GoodIn wsL_law (wsV RL 56 RX5 yX5_off wsX5_off) := goodIn_app (goodIn_of _ (by decide +kernel)) ggL_law_X5_off
set_option maxRecDepth 20000 in
theorem ggL_law_X6_off : GoodIn wsL_law wsX6_off := goodIn_r _ [453, 38, 40, 41, 175, 202, 203, 204, 5, 205, 206, 207, 208, 209, 44, 267, 268, 269, 270, 426, 427, 428, 429, 184, 185, 186, 187, 622, 623, 624, 625, 626, 627, 628, 629, 630, 631, 632, 633, 634, 635, 636, 637, 638, 639, 640, 641, 642, 643, 644, 645, 646, 647, 648, 649, 650, 651, 652] (by decide +kernel) (by decide +kernel)
set_option maxRecDepth 20000 in
theorem gL_law_X6_off : GoodIn wsL_law (wsV RL 59 RX6 yX6_off wsX6_off) := goodIn_app (goodIn_of _ (by decide +kernel)) ggL_law_X6_off
set_option maxRecDepth 20000 in
theorem ggL_law_X5_shipOf : GoodIn wsL_law wsX5_shipOf := goodIn_r _ [457, 85, 86, 87, 2, 88, 54, 13, 57, 58, 59, 653, 654, 655, 656, 657, 658, 659, 660, 610, 611, 612, 613, 614, 615, 616, 617, 618, 619, 620, 621] (by decide +kernel) (by decide +kernel)
set_option maxRecDepth 20000 in
theorem gL_law_X5_shipOf : GoodIn wsL_law (wsV RL 60 RX5 yX5_shipOf wsX5_shipOf) := goodIn_app (goodIn_of _ (by decide +kernel)) ggL_law_X5_shipOf
set_option maxRecDepth 20000 in
theorem ggL_law_X6_shipOf : GoodIn wsL_law wsX6_shipOf := goodIn_r _ [461, 28, 29, 30, 32, 98, 33, 175, 99, 100, 101, 5, 102, 74, 222, 223, 224, 225, 133, 35, 38, 267, 268, 269, 270, 206, 207, 208, 209, 44, 622, 623, 624, 625, 626, 627, 628, 629, 630, 631, 632, 633, 634, 635, 636, 637, 638, 639, 640, 641, 642, 643, 644, 645, 646, 647, 648, 649, 650, 651, 652] (by decide +kernel) (by decide +kernel)
