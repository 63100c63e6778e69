theorem dX5_cabinAgrees_27 : decode cX5_cabinAgrees 27 = .ok (.ifCond .eq 17, 3) := by decide +kernel
theorem dX5_cabinAgrees_30 : decode cX5_cabinAgrees 30 = .ok (.iload_n 3, 1) := by decide +kernel
theorem dX5_cabinAgrees_31 : decode cX5_cabinAgrees 31 = .ok (.iconst 0, 1) := by decide +kernel
theorem dX5_cabinAgrees_32 : decode cX5_cabinAgrees 32 = .ok (.aload_n 0, 1) := by decide +kernel
theorem dX5_cabinAgrees_33 : decode cX5_cabinAgrees 33 = .ok (.getfield 58, 3) := by decide +kernel
theorem dX5_cabinAgrees_36 : decode cX5_cabinAgrees 36 = .ok (.iconst 1, 1) := by decide +kernel
theorem dX5_cabinAgrees_37 : decode cX5_cabinAgrees 37 = .ok (.isub, 1) := by decide +kernel
theorem dX5_cabinAgrees_38 : decode cX5_cabinAgrees 38 = .ok (.invokestatic 47, 3) := by decide +kernel
theorem dX5_cabinAgrees_41 : decode cX5_cabinAgrees 41 = .ok (.ifCond .ne 5, 3) := by decide +kernel
theorem dX5_cabinAgrees_44 : decode cX5_cabinAgrees 44 = .ok (.iconst 0, 1) := by decide +kernel
theorem dX5_cabinAgrees_45 : decode cX5_cabinAgrees 45 = .ok (.ireturn, 1) := by decide +kernel
theorem dX5_cabinAgrees_46 : decode cX5_cabinAgrees 46 = .ok (.aload_n 0, 1) := by decide +kernel
theorem dX5_cabinAgrees_47 : decode cX5_cabinAgrees 47 = .ok (.getfield 17, 3) := by decide +kernel
theorem dX5_cabinAgrees_50 : decode cX5_cabinAgrees 50 = .ok (.iload_n 3, 1) := by decide +kernel
theorem dX5_cabinAgrees_51 : decode cX5_cabinAgrees 51 = .ok (.aaload, 1) := by decide +kernel
theorem dX5_cabinAgrees_52 : decode cX5_cabinAgrees 52 = .ok (.astore 4, 2) := by decide +kernel
theorem dX5_cabinAgrees_54 : decode cX5_cabinAgrees 54 = .ok (.aload 4, 2) := by decide +kernel
theorem dX5_cabinAgrees_56 : decode cX5_cabinAgrees 56 = .ok (.getfield 211, 3) := by decide +kernel
theorem dX5_cabinAgrees_59 : decode cX5_cabinAgrees 59 = .ok (.aload_n 2, 1) := by decide +kernel
theorem dX5_cabinAgrees_60 : decode cX5_cabinAgrees 60 = .ok (.getfield 122, 3) := by decide +kernel
theorem dX5_cabinAgrees_63 : decode cX5_cabinAgrees 63 = .ok (.getfield 76, 3) := by decide +kernel
theorem dX5_cabinAgrees_66 : decode cX5_cabinAgrees 66 = .ok (.if_acmp .ne 15, 3) := by decide +kernel
theorem dX5_cabinAgrees_69 : decode cX5_cabinAgrees 69 = .ok (.aload 4, 2) := by decide +kernel
theorem dX5_cabinAgrees_71 : decode cX5_cabinAgrees 71 = .ok (.getfield 215, 3) := by decide +kernel
theorem dX5_cabinAgrees_74 : decode cX5_cabinAgrees 74 = .ok (.aload_n 2, 1) := by decide +kernel
theorem dX5_cabinAgrees_75 : decode cX5_cabinAgrees 75 = .ok (.getfield 197, 3) := by decide +kernel
theorem dX5_cabinAgrees_78 : decode cX5_cabinAgrees 78 = .ok (.if_icmp .ge 5, 3) := by decide +kernel
theorem dX5_cabinAgrees_81 : decode cX5_cabinAgrees 81 = .ok (.iconst 0, 1) := by decide +kernel
theorem dX5_cabinAgrees_82 : decode cX5_cabinAgrees 82 = .ok (.ireturn, 1) := by decide +kernel
theorem dX5_cabinAgrees_83 : decode cX5_cabinAgrees 83 = .ok (.iconst 0, 1) := by decide +kernel
theorem dX5_cabinAgrees_84 : decode cX5_cabinAgrees 84 = .ok (.istore 5, 2) := by decide +kernel
theorem dX5_cabinAgrees_86 : decode cX5_cabinAgrees 86 = .ok (.iload 5, 2) := by decide +kernel
theorem dX5_cabinAgrees_88 : decode cX5_cabinAgrees 88 = .ok (.aload_n 0, 1) := by decide +kernel
theorem dX5_cabinAgrees_89 : decode cX5_cabinAgrees 89 = .ok (.getfield 100, 3) := by decide +kernel
theorem dX5_cabinAgrees_92 : decode cX5_cabinAgrees 92 = .ok (.if_icmp .ge 59, 3) := by decide +kernel
theorem dX5_cabinAgrees_95 : decode cX5_cabinAgrees 95 = .ok (.aload_n 0, 1) := by decide +kernel
theorem dX5_cabinAgrees_96 : decode cX5_cabinAgrees 96 = .ok (.getfield 29, 3) := by decide +kernel
theorem dX5_cabinAgrees_99 : decode cX5_cabinAgrees 99 = .ok (.iload 5, 2) := by decide +kernel
theorem dX5_cabinAgrees_101 : decode cX5_cabinAgrees 101 = .ok (.aaload, 1) := by decide +kernel
theorem dX5_cabinAgrees_102 : decode cX5_cabinAgrees 102 = .ok (.astore 6, 2) := by decide +kernel
theorem dX5_cabinAgrees_104 : decode cX5_cabinAgrees 104 = .ok (.aload 6, 2) := by decide +kernel
theorem dX5_cabinAgrees_106 : decode cX5_cabinAgrees 106 = .ok (.aload_n 2, 1) := by decide +kernel
theorem dX5_cabinAgrees_107 : decode cX5_cabinAgrees 107 = .ok (.if_acmp .eq 38, 3) := by decide +kernel
theorem dX5_cabinAgrees_110 : decode cX5_cabinAgrees 110 = .ok (.aload 6, 2) := by decide +kernel
theorem dX5_cabinAgrees_112 : decode cX5_cabinAgrees 112 = .ok (.getfield 122, 3) := by decide +kernel
theorem dX5_cabinAgrees_115 : decode cX5_cabinAgrees 115 = .ok (.aload_n 2, 1) := by decide +kernel
theorem dX5_cabinAgrees_116 : decode cX5_cabinAgrees 116 = .ok (.getfield 122, 3) := by decide +kernel
theorem dX5_cabinAgrees_119 : decode cX5_cabinAgrees 119 = .ok (.if_acmp .ne 26, 3) := by decide +kernel
theorem dX5_cabinAgrees_122 : decode cX5_cabinAgrees 122 = .ok (.aload_n 1, 1) := by decide +kernel
theorem dX5_cabinAgrees_123 : decode cX5_cabinAgrees 123 = .ok (.aload 6, 2) := by decide +kernel
theorem dX5_cabinAgrees_125 : decode cX5_cabinAgrees 125 = .ok (.invokevirtual 330, 3) := by decide +kernel
theorem dX5_cabinAgrees_128 : decode cX5_cabinAgrees 128 = .ok (.ifCond .eq 17, 3) := by decide +kernel
theorem dX5_cabinAgrees_131 : decode cX5_cabinAgrees 131 = .ok (.aload_n 1, 1) := by decide +kernel
theorem dX5_cabinAgrees_132 : decode cX5_cabinAgrees 132 = .ok (.aload 6, 2) := by decide +kernel
theorem dX5_cabinAgrees_134 : decode cX5_cabinAgrees 134 = .ok (.bipush 9, 2) := by decide +kernel
theorem dX5_cabinAgrees_136 : decode cX5_cabinAgrees 136 = .ok (.invokevirtual 324, 3) := by decide +kernel
theorem dX5_cabinAgrees_139 : decode cX5_cabinAgrees 139 = .ok (.iload_n 3, 1) := by decide +kernel
theorem dX5_cabinAgrees_140 : decode cX5_cabinAgrees 140 = .ok (.if_icmp .ne 5, 3) := by decide +kernel
theorem dX5_cabinAgrees_143 : decode cX5_cabinAgrees 143 = .ok (.iconst 0, 1) := by decide +kernel
theorem dX5_cabinAgrees_144 : decode cX5_cabinAgrees 144 = .ok (.ireturn, 1) := by decide +kernel
theorem dX5_cabinAgrees_145 : decode cX5_cabinAgrees 145 = .ok (.iinc 5 1, 3) := by decide +kernel
theorem dX5_cabinAgrees_148 : decode cX5_cabinAgrees 148 = .ok (.goto (-62), 3) := by decide +kernel
theorem dX5_cabinAgrees_151 : decode cX5_cabinAgrees 151 = .ok (.iconst 1, 1) := by decide +kernel
theorem dX5_cabinAgrees_152 : decode cX5_cabinAgrees 152 = .ok (.ireturn, 1) := by decide +kernel
set_option maxRecDepth 20000 in
theorem ggX5_minuteAgrees_X0_number : GoodIn wsX5_minuteAgrees wsX0_number := goodIn_r _ [5, 6, 7, 8, 9, 10, 11, 12, 13, 14, 15, 16, 17, 18, 19, 20, 21, 22, 23, 24, 25, 30, 31, 32, 33, 34, 35, 36, 37, 38, 39, 40, 41, 42, 43, 44, 45, 46, 47, 48, 49, 50, 51, 52, 53, 54, 55, 56, 57] (by decide +kernel) (by decide +kernel)
set_option maxRecDepth 20000 in
theorem gX5_minuteAgrees_X0_number_n324 : GoodIn wsX5_minuteAgrees (wsX0_number) := ggX5_minuteAgrees_X0_number
set_option maxRecDepth 20000 in
theorem ggX5_minuteAgrees_X5_within : GoodIn wsX5_minuteAgrees wsX5_within := goodIn_r _ [29] (by decide +kernel) (by decide +kernel)
set_option maxRecDepth 20000 in
theorem gX5_minuteAgrees_X5_within : GoodIn wsX5_minuteAgrees (va_wsS RX5 47 yX5_within wsX5_within) := goodIn_app (goodIn_of _ (by decide +kernel)) ggX5_minuteAgrees_X5_within
theorem dX5_minuteAgrees_0 : decode cX5_minuteAgrees 0 = .ok (.aload_n 0, 1) := by decide +kernel
theorem dX5_minuteAgrees_1 : decode cX5_minuteAgrees 1 = .ok (.aload_n 1, 1) := by decide +kernel
theorem dX5_minuteAgrees_2 : decode cX5_minuteAgrees 2 = .ok (.iconst 5, 1) := by decide +kernel
theorem dX5_minuteAgrees_3 : decode cX5_minuteAgrees 3 = .ok (.invokevirtual 324, 3) := by decide +kernel
theorem dX5_minuteAgrees_6 : decode cX5_minuteAgrees 6 = .ok (.istore_n 2, 1) := by decide +kernel
theorem dX5_minuteAgrees_7 : decode cX5_minuteAgrees 7 = .ok (.aload_n 0, 1) := by decide +kernel
theorem dX5_minuteAgrees_8 : decode cX5_minuteAgrees 8 = .ok (.aload_n 1, 1) := by decide +kernel
theorem dX5_minuteAgrees_9 : decode cX5_minuteAgrees 9 = .ok (.iconst 4, 1) := by decide +kernel
theorem dX5_minuteAgrees_10 : decode cX5_minuteAgrees 10 = .ok (.invokevirtual 324, 3) := by decide +kernel
theorem dX5_minuteAgrees_13 : decode cX5_minuteAgrees 13 = .ok (.tableswitch 66 0 7 #[55, 47, 47, 47, 47, 66, 47, 55], 47) := by decide +kernel
theorem dX5_minuteAgrees_60 : decode cX5_minuteAgrees 60 = .ok (.iload_n 2, 1) := by decide +kernel
theorem dX5_minuteAgrees_61 : decode cX5_minuteAgrees 61 = .ok (.iconst 0, 1) := by decide +kernel
theorem dX5_minuteAgrees_62 : decode cX5_minuteAgrees 62 = .ok (.ldc 121, 2) := by decide +kernel
theorem dX5_minuteAgrees_64 : decode cX5_minuteAgrees 64 = .ok (.invokestatic 47, 3) := by decide +kernel
theorem dX5_minuteAgrees_67 : decode cX5_minuteAgrees 67 = .ok (.ireturn, 1) := by decide +kernel
theorem dX5_minuteAgrees_68 : decode cX5_minuteAgrees 68 = .ok (.iload_n 2, 1) := by decide +kernel
theorem dX5_minuteAgrees_69 : decode cX5_minuteAgrees 69 = .ok (.iconst (-1), 1) := by decide +kernel
theorem dX5_minuteAgrees_70 : decode cX5_minuteAgrees 70 = .ok (.if_icmp .ne 7, 3) := by decide +kernel
theorem dX5_minuteAgrees_73 : decode cX5_minuteAgrees 73 = .ok (.iconst 1, 1) := by decide +kernel
theorem dX5_minuteAgrees_74 : decode cX5_minuteAgrees 74 = .ok (.goto 4, 3) := by decide +kernel
theorem dX5_minuteAgrees_77 : decode cX5_minuteAgrees 77 = .ok (.iconst 0, 1) := by decide +kernel
theorem dX5_minuteAgrees_78 : decode cX5_minuteAgrees 78 = .ok (.ireturn, 1) := by decide +kernel
theorem dX5_minuteAgrees_79 : decode cX5_minuteAgrees 79 = .ok (.iconst 1, 1) := by decide +kernel
theorem dX5_minuteAgrees_80 : decode cX5_minuteAgrees 80 = .ok (.ireturn, 1) := by decide +kernel
set_option maxRecDepth 20000 in
theorem ggX5_moneyAgrees_X0_number : GoodIn wsX5_moneyAgrees wsX0_number := goodIn_r _ [4, 5, 6, 7, 8, 9, 10, 11, 12, 13, 14, 15, 16, 17, 18, 19, 20, 21, 22, 23, 24, 29, 30, 31, 32, 33, 34, 35, 36, 37, 38, 39, 40, 41, 42, 43, 44, 45, 46, 47, 48, 49, 50, 51, 52, 53, 54, 55, 56] (by decide +kernel) (by decide +kernel)
set_option maxRecDepth 20000 in
theorem gX5_moneyAgrees_X0_number_n324 : GoodIn wsX5_moneyAgrees (wsX0_number) := ggX5_moneyAgrees_X0_number
set_option maxRecDepth 20000 in
theorem ggX5_moneyAgrees_X5_within : GoodIn wsX5_moneyAgrees wsX5_within := goodIn_r _ [28] (by decide +kernel) (by decide +kernel)
set_option maxRecDepth 20000 in
theorem gX5_moneyAgrees_X5_within : GoodIn wsX5_moneyAgrees (va_wsS RX5 47 yX5_within wsX5_within) := goodIn_app (goodIn_of _ (by decide +kernel)) ggX5_moneyAgrees_X5_within
theorem dX5_moneyAgrees_0 : decode cX5_moneyAgrees 0 = .ok (.aload_n 0, 1) := by decide +kernel
theorem dX5_moneyAgrees_1 : decode cX5_moneyAgrees 1 = .ok (.aload_n 1, 1) := by decide +kernel
theorem dX5_moneyAgrees_2 : decode cX5_moneyAgrees 2 = .ok (.iconst 4, 1) := by decide +kernel
theorem dX5_moneyAgrees_3 : decode cX5_moneyAgrees 3 = .ok (.invokevirtual 324, 3) := by decide +kernel
theorem dX5_moneyAgrees_6 : decode cX5_moneyAgrees 6 = .ok (.istore_n 2, 1) := by decide +kernel
theorem dX5_moneyAgrees_7 : decode cX5_moneyAgrees 7 = .ok (.aload_n 0, 1) := by decide +kernel
theorem dX5_moneyAgrees_8 : decode cX5_moneyAgrees 8 = .ok (.aload_n 1, 1) := by decide +kernel
theorem dX5_moneyAgrees_9 : decode cX5_moneyAgrees 9 = .ok (.bipush 10, 2) := by decide +kernel
theorem dX5_moneyAgrees_11 : decode cX5_moneyAgrees 11 = .ok (.invokevirtual 324, 3) := by decide +kernel
theorem dX5_moneyAgrees_14 : decode cX5_moneyAgrees 14 = .ok (.istore_n 3, 1) := by decide +kernel
theorem dX5_moneyAgrees_15 : decode cX5_moneyAgrees 15 = .ok (.iconst 0, 1) := by decide +kernel
theorem dX5_moneyAgrees_16 : decode cX5_moneyAgrees 16 = .ok (.istore 4, 2) := by decide +kernel
theorem dX5_moneyAgrees_18 : decode cX5_moneyAgrees 18 = .ok (.iload_n 2, 1) := by decide +kernel
theorem dX5_moneyAgrees_19 : decode cX5_moneyAgrees 19 = .ok (.iconst 5, 1) := by decide +kernel
theorem dX5_moneyAgrees_20 : decode cX5_moneyAgrees 20 = .ok (.if_icmp .ne 9, 3) := by decide +kernel
theorem dX5_moneyAgrees_23 : decode cX5_moneyAgrees 23 = .ok (.iload_n 3, 1) := by decide +kernel
theorem dX5_moneyAgrees_24 : decode cX5_moneyAgrees 24 = .ok (.istore 4, 2) := by decide +kernel
theorem dX5_moneyAgrees_26 : decode cX5_moneyAgrees 26 = .ok (.goto 14, 3) := by decide +kernel
theorem dX5_moneyAgrees_29 : decode cX5_moneyAgrees 29 = .ok (.iload_n 2, 1) := by decide +kernel
theorem dX5_moneyAgrees_30 : decode cX5_moneyAgrees 30 = .ok (.bipush 7, 2) := by decide +kernel
theorem dX5_moneyAgrees_32 : decode cX5_moneyAgrees 32 = .ok (.if_icmp .ne 8, 3) := by decide +kernel
theorem dX5_moneyAgrees_35 : decode cX5_moneyAgrees 35 = .ok (.iload_n 3, 1) := by decide +kernel
theorem dX5_moneyAgrees_36 : decode cX5_moneyAgrees 36 = .ok (.iconst 2, 1) := by decide +kernel
theorem dX5_moneyAgrees_37 : decode cX5_moneyAgrees 37 = .ok (.idiv, 1) := by decide +kernel
theorem dX5_moneyAgrees_38 : decode cX5_moneyAgrees 38 = .ok (.istore 4, 2) := by decide +kernel
theorem dX5_moneyAgrees_40 : decode cX5_moneyAgrees 40 = .ok (.iload_n 2, 1) := by decide +kernel
theorem dX5_moneyAgrees_41 : decode cX5_moneyAgrees 41 = .ok (.iconst 0, 1) := by decide +kernel
theorem dX5_moneyAgrees_42 : decode cX5_moneyAgrees 42 = .ok (.bipush 7, 2) := by decide +kernel
theorem dX5_moneyAgrees_44 : decode cX5_moneyAgrees 44 = .ok (.invokestatic 47, 3) := by decide +kernel
theorem dX5_moneyAgrees_47 : decode cX5_moneyAgrees 47 = .ok (.ifCond .eq 26, 3) := by decide +kernel
theorem dX5_moneyAgrees_50 : decode cX5_moneyAgrees 50 = .ok (.iload_n 3, 1) := by decide +kernel
theorem dX5_moneyAgrees_51 : decode cX5_moneyAgrees 51 = .ok (.sipush 500, 3) := by decide +kernel
theorem dX5_moneyAgrees_54 : decode cX5_moneyAgrees 54 = .ok (.if_icmp .lt 19, 3) := by decide +kernel
theorem dX5_moneyAgrees_57 : decode cX5_moneyAgrees 57 = .ok (.aload_n 0, 1) := by decide +kernel
theorem dX5_moneyAgrees_58 : decode cX5_moneyAgrees 58 = .ok (.aload_n 1, 1) := by decide +kernel
theorem dX5_moneyAgrees_59 : decode cX5_moneyAgrees 59 = .ok (.bipush 11, 2) := by decide +kernel
theorem dX5_moneyAgrees_61 : decode cX5_moneyAgrees 61 = .ok (.invokevirtual 324, 3) := by decide +kernel
theorem dX5_moneyAgrees_64 : decode cX5_moneyAgrees 64 = .ok (.iload 4, 2) := by decide +kernel
theorem dX5_moneyAgrees_66 : decode cX5_moneyAgrees 66 = .ok (.if_icmp .ne 7, 3) := by decide +kernel
theorem dX5_moneyAgrees_69 : decode cX5_moneyAgrees 69 = .ok (.iconst 1, 1) := by decide +kernel
theorem dX5_moneyAgrees_70 : decode cX5_moneyAgrees 70 = .ok (.goto 4, 3) := by decide +kernel
theorem dX5_moneyAgrees_73 : decode cX5_moneyAgrees 73 = .ok (.iconst 0, 1) := by decide +kernel
theorem dX5_moneyAgrees_74 : decode cX5_moneyAgrees 74 = .ok (.ireturn, 1) := by decide +kernel
theorem dX5_within_0 : decode cX5_within 0 = .ok (.iload_n 0, 1) := by decide +kernel
theorem dX5_within_1 : decode cX5_within 1 = .ok (.iload_n 1, 1) := by decide +kernel
theorem dX5_within_2 : decode cX5_within 2 = .ok (.if_icmp .lt 12, 3) := by decide +kernel
theorem dX5_within_5 : decode cX5_within 5 = .ok (.iload_n 0, 1) := by decide +kernel
theorem dX5_within_6 : decode cX5_within 6 = .ok (.iload_n 2, 1) := by decide +kernel
theorem dX5_within_7 : decode cX5_within 7 = .ok (.if_icmp .gt 7, 3) := by decide +kernel
theorem dX5_within_10 : decode cX5_within 10 = .ok (.iconst 1, 1) := by decide +kernel
theorem dX5_within_11 : decode cX5_within 11 = .ok (.goto 4, 3) := by decide +kernel
theorem dX5_within_14 : decode cX5_within 14 = .ok (.iconst 0, 1) := by decide +kernel
theorem dX5_within_15 : decode cX5_within 15 = .ok (.ireturn, 1) := by decide +kernel
set_option maxRecDepth 20000 in
theorem ggX5_shipNumbered_X5_within : GoodIn wsX5_shipNumbered wsX5_within := goodIn_r _ [6] (by decide +kernel) (by decide +kernel)
set_option maxRecDepth 20000 in
theorem gX5_shipNumbered_X5_within : GoodIn wsX5_shipNumbered (va_wsS RX5 47 yX5_within wsX5_within) := goodIn_app (goodIn_of _ (by decide +kernel)) ggX5_shipNumbered_X5_within
theorem dX5_shipNumbered_0 : decode cX5_shipNumbered 0 = .ok (.iload_n 1, 1) := by decide +kernel
theorem dX5_shipNumbered_1 : decode cX5_shipNumbered 1 = .ok (.iconst 0, 1) := by decide +kernel
theorem dX5_shipNumbered_2 : decode cX5_shipNumbered 2 = .ok (.aload_n 0, 1) := by decide +kernel
theorem dX5_shipNumbered_3 : decode cX5_shipNumbered 3 = .ok (.getfield 43, 3) := by decide +kernel
theorem dX5_shipNumbered_6 : decode cX5_shipNumbered 6 = .ok (.iconst 1, 1) := by decide +kernel
theorem dX5_shipNumbered_7 : decode cX5_shipNumbered 7 = .ok (.isub, 1) := by decide +kernel
theorem dX5_shipNumbered_8 : decode cX5_shipNumbered 8 = .ok (.invokestatic 47, 3) := by decide +kernel
theorem dX5_shipNumbered_11 : decode cX5_shipNumbered 11 = .ok (.ifCond .eq 12, 3) := by decide +kernel
theorem dX5_shipNumbered_14 : decode cX5_shipNumbered 14 = .ok (.aload_n 0, 1) := by decide +kernel
theorem dX5_shipNumbered_15 : decode cX5_shipNumbered 15 = .ok (.getfield 11, 3) := by decide +kernel
theorem dX5_shipNumbered_18 : decode cX5_shipNumbered 18 = .ok (.iload_n 1, 1) := by decide +kernel
theorem dX5_shipNumbered_19 : decode cX5_shipNumbered 19 = .ok (.aaload, 1) := by decide +kernel
theorem dX5_shipNumbered_20 : decode cX5_shipNumbered 20 = .ok (.goto 4, 3) := by decide +kernel
theorem dX5_shipNumbered_23 : decode cX5_shipNumbered 23 = .ok (.aconst_null, 1) := by decide +kernel
theorem dX5_shipNumbered_24 : decode cX5_shipNumbered 24 = .ok (.areturn, 1) := by decide +kernel
set_option maxRecDepth 20000 in
theorem ggX5_sailingNumbered_X5_within : GoodIn wsX5_sailingNumbered wsX5_within := goodIn_r _ [6] (by decide +kernel) (by decide +kernel)
set_option maxRecDepth 20000 in
theorem gX5_sailingNumbered_X5_within : GoodIn wsX5_sailingNumbered (va_wsS RX5 47 yX5_within wsX5_within) := goodIn_app (goodIn_of _ (by decide +kernel)) ggX5_sailingNumbered_X5_within
theorem dX5_sailingNumbered_0 : decode cX5_sailingNumbered 0 = .ok (.iload_n 1, 1) := by decide +kernel
theorem dX5_sailingNumbered_1 : decode cX5_sailingNumbered 1 = .ok (.iconst 0, 1) := by decide +kernel
theorem dX5_sailingNumbered_2 : decode cX5_sailingNumbered 2 = .ok (.aload_n 0, 1) := by decide +kernel
theorem dX5_sailingNumbered_3 : decode cX5_sailingNumbered 3 = .ok (.getfield 65, 3) := by decide +kernel
theorem dX5_sailingNumbered_6 : decode cX5_sailingNumbered 6 = .ok (.iconst 1, 1) := by decide +kernel
theorem dX5_sailingNumbered_7 : decode cX5_sailingNumbered 7 = .ok (.isub, 1) := by decide +kernel
theorem dX5_sailingNumbered_8 : decode cX5_sailingNumbered 8 = .ok (.invokestatic 47, 3) := by decide +kernel
theorem dX5_sailingNumbered_11 : decode cX5_sailingNumbered 11 = .ok (.ifCond .eq 12, 3) := by decide +kernel
theorem dX5_sailingNumbered_14 : decode cX5_sailingNumbered 14 = .ok (.aload_n 0, 1) := by decide +kernel
theorem dX5_sailingNumbered_15 : decode cX5_sailingNumbered 15 = .ok (.getfield 23, 3) := by decide +kernel
theorem dX5_sailingNumbered_18 : decode cX5_sailingNumbered 18 = .ok (.iload_n 1, 1) := by decide +kernel
theorem dX5_sailingNumbered_19 : decode cX5_sailingNumbered 19 = .ok (.aaload, 1) := by decide +kernel
theorem dX5_sailingNumbered_20 : decode cX5_sailingNumbered 20 = .ok (.goto 4, 3) := by decide +kernel
theorem dX5_sailingNumbered_23 : decode cX5_sailingNumbered 23 = .ok (.aconst_null, 1) := by decide +kernel
theorem dX5_sailingNumbered_24 : decode cX5_sailingNumbered 24 = .ok (.areturn, 1) := by decide +kernel
set_option maxRecDepth 20000 in
theorem ggX5_ticketNumbered_X5_within : GoodIn wsX5_ticketNumbered wsX5_within := goodIn_r _ [6] (by decide +kernel) (by decide +kernel)
set_option maxRecDepth 20000 in
theorem gX5_ticketNumbered_X5_within : GoodIn wsX5_ticketNumbered (va_wsS RX5 47 yX5_within wsX5_within) := goodIn_app (goodIn_of _ (by decide +kernel)) ggX5_ticketNumbered_X5_within
theorem dX5_ticketNumbered_0 : decode cX5_ticketNumbered 0 = .ok (.iload_n 1, 1) := by decide +kernel
theorem dX5_ticketNumbered_1 : decode cX5_ticketNumbered 1 = .ok (.iconst 0, 1) := by decide +kernel
theorem dX5_ticketNumbered_2 : decode cX5_ticketNumbered 2 = .ok (.aload_n 0, 1) := by decide +kernel
theorem dX5_ticketNumbered_3 : decode cX5_ticketNumbered 3 = .ok (.getfield 100, 3) := by decide +kernel
theorem dX5_ticketNumbered_6 : decode cX5_ticketNumbered 6 = .ok (.iconst 1, 1) := by decide +kernel
theorem dX5_ticketNumbered_7 : decode cX5_ticketNumbered 7 = .ok (.isub, 1) := by decide +kernel
theorem dX5_ticketNumbered_8 : decode cX5_ticketNumbered 8 = .ok (.invokestatic 47, 3) := by decide +kernel
theorem dX5_ticketNumbered_11 : decode cX5_ticketNumbered 11 = .ok (.ifCond .eq 12, 3) := by decide +kernel
theorem dX5_ticketNumbered_14 : decode cX5_ticketNumbered 14 = .ok (.aload_n 0, 1) := by decide +kernel
theorem dX5_ticketNumbered_15 : decode cX5_ticketNumbered 15 = .ok (.getfield 29, 3) := by decide +kernel
theorem dX5_ticketNumbered_18 : decode cX5_ticketNumbered 18 = .ok (.iload_n 1, 1) := by decide +kernel
theorem dX5_ticketNumbered_19 : decode cX5_ticketNumbered 19 = .ok (.aaload, 1) := by decide +kernel
theorem dX5_ticketNumbered_20 : decode cX5_ticketNumbered 20 = .ok (.goto 4, 3) := by decide +kernel
theorem dX5_ticketNumbered_23 : decode cX5_ticketNumbered 23 = .ok (.aconst_null, 1) := by decide +kernel
theorem dX5_ticketNumbered_24 : decode cX5_ticketNumbered 24 = .ok (.areturn, 1) := by decide +kernel
theorem dX6_init_0 : decode cX6_init 0 = .ok (.aload_n 0, 1) := by decide +kernel
theorem dX6_init_1 : decode cX6_init 1 = .ok (.invokespecial 1, 3) := by decide +kernel
theorem dX6_init_4 : decode cX6_init 4 = .ok (.aload_n 0, 1) := by decide +kernel
theorem dX6_init_5 : decode cX6_init 5 = .ok (.bipush 12, 2) := by decide +kernel
theorem dX6_init_7 : decode cX6_init 7 = .ok (.newarray .int, 2) := by decide +kernel
theorem dX6_init_9 : decode cX6_init 9 = .ok (.putfield 7, 3) := by decide +kernel
theorem dX6_init_12 : decode cX6_init 12 = .ok (.aload_n 0, 1) := by decide +kernel
theorem dX6_init_13 : decode cX6_init 13 = .ok (.bipush 12, 2) := by decide +kernel
theorem dX6_init_15 : decode cX6_init 15 = .ok (.newarray .int, 2) := by decide +kernel
theorem dX6_init_17 : decode cX6_init 17 = .ok (.putfield 13, 3) := by decide +kernel
theorem dX6_init_20 : decode cX6_init 20 = .ok (.aload_n 0, 1) := by decide +kernel
theorem dX6_init_21 : decode cX6_init 21 = .ok (.bipush 12, 2) := by decide +kernel
theorem dX6_init_23 : decode cX6_init 23 = .ok (.newarray .int, 2) := by decide +kernel
theorem dX6_init_25 : decode cX6_init 25 = .ok (.putfield 16, 3) := by decide +kernel
theorem dX6_init_28 : decode cX6_init 28 = .ok (.aload_n 0, 1) := by decide +kernel
theorem dX6_init_29 : decode cX6_init 29 = .ok (.bipush 12, 2) := by decide +kernel
theorem dX6_init_31 : decode cX6_init 31 = .ok (.newarray .boolean, 2) := by decide +kernel
theorem dX6_init_33 : decode cX6_init 33 = .ok (.putfield 19, 3) := by decide +kernel
theorem dX6_init_36 : decode cX6_init 36 = .ok (.aload_n 0, 1) := by decide +kernel
theorem dX6_init_37 : decode cX6_init 37 = .ok (.bipush 120, 2) := by decide +kernel
theorem dX6_init_39 : decode cX6_init 39 = .ok (.newarray .int, 2) := by decide +kernel
theorem dX6_init_41 : decode cX6_init 41 = .ok (.putfield 23, 3) := by decide +kernel
theorem dX6_init_44 : decode cX6_init 44 = .ok (.aload_n 0, 1) := by decide +kernel
theorem dX6_init_45 : decode cX6_init 45 = .ok (.bipush 120, 2) := by decide +kernel
theorem dX6_init_47 : decode cX6_init 47 = .ok (.newarray .int, 2) := by decide +kernel
theorem dX6_init_49 : decode cX6_init 49 = .ok (.putfield 26, 3) := by decide +kernel
theorem dX6_init_52 : decode cX6_init 52 = .ok (.aload_n 0, 1) := by decide +kernel
theorem dX6_init_53 : decode cX6_init 53 = .ok (.bipush 60, 2) := by decide +kernel
theorem dX6_init_55 : decode cX6_init 55 = .ok (.newarray .int, 2) := by decide +kernel
theorem dX6_init_57 : decode cX6_init 57 = .ok (.putfield 29, 3) := by decide +kernel
theorem dX6_init_60 : decode cX6_init 60 = .ok (.aload_n 0, 1) := by decide +kernel
theorem dX6_init_61 : decode cX6_init 61 = .ok (.bipush 60, 2) := by decide +kernel
theorem dX6_init_63 : decode cX6_init 63 = .ok (.newarray .int, 2) := by decide +kernel
theorem dX6_init_65 : decode cX6_init 65 = .ok (.putfield 32, 3) := by decide +kernel
theorem dX6_init_68 : decode cX6_init 68 = .ok (.aload_n 0, 1) := by decide +kernel
theorem dX6_init_69 : decode cX6_init 69 = .ok (.bipush 60, 2) := by decide +kernel
theorem dX6_init_71 : decode cX6_init 71 = .ok (.newarray .int, 2) := by decide +kernel
theorem dX6_init_73 : decode cX6_init 73 = .ok (.putfield 35, 3) := by decide +kernel
theorem dX6_init_76 : decode cX6_init 76 = .ok (.aload_n 0, 1) := by decide +kernel
theorem dX6_init_77 : decode cX6_init 77 = .ok (.bipush 60, 2) := by decide +kernel
theorem dX6_init_79 : decode cX6_init 79 = .ok (.newarray .int, 2) := by decide +kernel
theorem dX6_init_81 : decode cX6_init 81 = .ok (.putfield 38, 3) := by decide +kernel
theorem dX6_init_84 : decode cX6_init 84 = .ok (.aload_n 0, 1) := by decide +kernel
theorem dX6_init_85 : decode cX6_init 85 = .ok (.bipush 60, 2) := by decide +kernel
theorem dX6_init_87 : decode cX6_init 87 = .ok (.newarray .int, 2) := by decide +kernel
theorem dX6_init_89 : decode cX6_init 89 = .ok (.putfield 41, 3) := by decide +kernel
theorem dX6_init_92 : decode cX6_init 92 = .ok (.aload_n 0, 1) := by decide +kernel
theorem dX6_init_93 : decode cX6_init 93 = .ok (.bipush 60, 2) := by decide +kernel
theorem dX6_init_95 : decode cX6_init 95 = .ok (.newarray .int, 2) := by decide +kernel
theorem dX6_init_97 : decode cX6_init 97 = .ok (.putfield 44, 3) := by decide +kernel
theorem dX6_init_100 : decode cX6_init 100 = .ok (.aload_n 0, 1) := by decide +kernel
theorem dX6_init_101 : decode cX6_init 101 = .ok (.bipush 60, 2) := by decide +kernel
theorem dX6_init_103 : decode cX6_init 103 = .ok (.newarray .int, 2) := by decide +kernel
theorem dX6_init_105 : decode cX6_init 105 = .ok (.putfield 47, 3) := by decide +kernel
theorem dX6_init_108 : decode cX6_init 108 = .ok (.aload_n 0, 1) := by decide +kernel
theorem dX6_init_109 : decode cX6_init 109 = .ok (.bipush 60, 2) := by decide +kernel
theorem dX6_init_111 : decode cX6_init 111 = .ok (.newarray .int, 2) := by decide +kernel
theorem dX6_init_113 : decode cX6_init 113 = .ok (.putfield 50, 3) := by decide +kernel
theorem dX6_init_116 : decode cX6_init 116 = .ok (.aload_n 0, 1) := by decide +kernel
theorem dX6_init_117 : decode cX6_init 117 = .ok (.bipush 60, 2) := by decide +kernel
theorem dX6_init_119 : decode cX6_init 119 = .ok (.newarray .boolean, 2) := by decide +kernel
theorem dX6_init_121 : decode cX6_init 121 = .ok (.putfield 53, 3) := by decide +kernel
theorem dX6_init_124 : decode cX6_init 124 = .ok (.aload_n 0, 1) := by decide +kernel
theorem dX6_init_125 : decode cX6_init 125 = .ok (.sipush 5200, 3) := by decide +kernel
theorem dX6_init_128 : decode cX6_init 128 = .ok (.newarray .int, 2) := by decide +kernel
theorem dX6_init_130 : decode cX6_init 130 = .ok (.putfield 56, 3) := by decide +kernel
theorem dX6_init_133 : decode cX6_init 133 = .ok (.aload_n 0, 1) := by decide +kernel
theorem dX6_init_134 : decode cX6_init 134 = .ok (.sipush 400, 3) := by decide +kernel
theorem dX6_init_137 : decode cX6_init 137 = .ok (.newarray .int, 2) := by decide +kernel
theorem dX6_init_139 : decode cX6_init 139 = .ok (.putfield 59, 3) := by decide +kernel
theorem dX6_init_142 : decode cX6_init 142 = .ok (.aload_n 0, 1) := by decide +kernel
theorem dX6_init_143 : decode cX6_init 143 = .ok (.sipush 3000, 3) := by decide +kernel
theorem dX6_init_146 : decode cX6_init 146 = .ok (.newarray .int, 2) := by decide +kernel
theorem dX6_init_148 : decode cX6_init 148 = .ok (.putfield 62, 3) := by decide +kernel
theorem dX6_init_151 : decode cX6_init 151 = .ok (.aload_n 0, 1) := by decide +kernel
theorem dX6_init_152 : decode cX6_init 152 = .ok (.sipush 3000, 3) := by decide +kernel
theorem dX6_init_155 : decode cX6_init 155 = .ok (.newarray .int, 2) := by decide +kernel
theorem dX6_init_157 : decode cX6_init 157 = .ok (.putfield 65, 3) := by decide +kernel
theorem dX6_init_160 : decode cX6_init 160 = .ok (.aload_n 0, 1) := by decide +kernel
theorem dX6_init_161 : decode cX6_init 161 = .ok (.sipush 3000, 3) := by decide +kernel
theorem dX6_init_164 : decode cX6_init 164 = .ok (.newarray .int, 2) := by decide +kernel
theorem dX6_init_166 : decode cX6_init 166 = .ok (.putfield 68, 3) := by decide +kernel
theorem dX6_init_169 : decode cX6_init 169 = .ok (.aload_n 0, 1) := by decide +kernel
theorem dX6_init_170 : decode cX6_init 170 = .ok (.sipush 2000, 3) := by decide +kernel
theorem dX6_init_173 : decode cX6_init 173 = .ok (.newarray .boolean, 2) := by decide +kernel
theorem dX6_init_175 : decode cX6_init 175 = .ok (.putfield 71, 3) := by decide +kernel
theorem dX6_init_178 : decode cX6_init 178 = .ok (.return_, 1) := by decide +kernel
theorem dX6_isIn_0 : decode cX6_isIn 0 = .ok (.iload_n 0, 1) := by decide +kernel
theorem dX6_isIn_1 : decode cX6_isIn 1 = .ok (.iload_n 1, 1) := by decide +kernel
theorem dX6_isIn_2 : decode cX6_isIn 2 = .ok (.if_icmp .lt 12, 3) := by decide +kernel
theorem dX6_isIn_5 : decode cX6_isIn 5 = .ok (.iload_n 0, 1) := by decide +kernel
theorem dX6_isIn_6 : decode cX6_isIn 6 = .ok (.iload_n 2, 1) := by decide +kernel
theorem dX6_isIn_7 : decode cX6_isIn 7 = .ok (.if_icmp .gt 7, 3) := by decide +kernel
theorem dX6_isIn_10 : decode cX6_isIn 10 = .ok (.iconst 1, 1) := by decide +kernel
theorem dX6_isIn_11 : decode cX6_isIn 11 = .ok (.goto 4, 3) := by decide +kernel
theorem dX6_isIn_14 : decode cX6_isIn 14 = .ok (.iconst 0, 1) := by decide +kernel
theorem dX6_isIn_15 : decode cX6_isIn 15 = .ok (.ireturn, 1) := by decide +kernel
theorem dX6_of_0 : decode cX6_of 0 = .ok (.aload_n 0, 1) := by decide +kernel
theorem dX6_of_1 : decode cX6_of 1 = .ok (.getfield 56, 3) := by decide +kernel
theorem dX6_of_4 : decode cX6_of 4 = .ok (.bipush 13, 2) := by decide +kernel
theorem dX6_of_6 : decode cX6_of 6 = .ok (.iload_n 1, 1) := by decide +kernel
theorem dX6_of_7 : decode cX6_of 7 = .ok (.imul, 1) := by decide +kernel
theorem dX6_of_8 : decode cX6_of 8 = .ok (.iload_n 2, 1) := by decide +kernel
theorem dX6_of_9 : decode cX6_of 9 = .ok (.iadd, 1) := by decide +kernel
theorem dX6_of_10 : decode cX6_of 10 = .ok (.iaload, 1) := by decide +kernel
theorem dX6_of_11 : decode cX6_of 11 = .ok (.ireturn, 1) := by decide +kernel
theorem dX6_put_0 : decode cX6_put 0 = .ok (.aload_n 0, 1) := by decide +kernel
theorem dX6_put_1 : decode cX6_put 1 = .ok (.getfield 56, 3) := by decide +kernel
theorem dX6_put_4 : decode cX6_put 4 = .ok (.bipush 13, 2) := by decide +kernel
theorem dX6_put_6 : decode cX6_put 6 = .ok (.iload_n 1, 1) := by decide +kernel
theorem dX6_put_7 : decode cX6_put 7 = .ok (.imul, 1) := by decide +kernel
theorem dX6_put_8 : decode cX6_put 8 = .ok (.iload_n 2, 1) := by decide +kernel
theorem dX6_put_9 : decode cX6_put 9 = .ok (.iadd, 1) := by decide +kernel
theorem dX6_put_10 : decode cX6_put 10 = .ok (.iload_n 3, 1) := by decide +kernel
theorem dX6_put_11 : decode cX6_put 11 = .ok (.iastore, 1) := by decide +kernel
theorem dX6_put_12 : decode cX6_put 12 = .ok (.return_, 1) := by decide +kernel
theorem dX6_isTicket_0 : decode cX6_isTicket 0 = .ok (.iload_n 1, 1) := by decide +kernel
theorem dX6_isTicket_1 : decode cX6_isTicket 1 = .ok (.ifCond .lt 15, 3) := by decide +kernel
theorem dX6_isTicket_4 : decode cX6_isTicket 4 = .ok (.iload_n 1, 1) := by decide +kernel
theorem dX6_isTicket_5 : decode cX6_isTicket 5 = .ok (.aload_n 0, 1) := by decide +kernel
theorem dX6_isTicket_6 : decode cX6_isTicket 6 = .ok (.getfield 74, 3) := by decide +kernel
theorem dX6_isTicket_9 : decode cX6_isTicket 9 = .ok (.if_icmp .ge 7, 3) := by decide +kernel
theorem dX6_isTicket_12 : decode cX6_isTicket 12 = .ok (.iconst 1, 1) := by decide +kernel
theorem dX6_isTicket_13 : decode cX6_isTicket 13 = .ok (.goto 4, 3) := by decide +kernel
theorem dX6_isTicket_16 : decode cX6_isTicket 16 = .ok (.iconst 0, 1) := by decide +kernel
theorem dX6_isTicket_17 : decode cX6_isTicket 17 = .ok (.ireturn, 1) := by decide +kernel
theorem dX6_isSailing_0 : decode cX6_isSailing 0 = .ok (.iload_n 1, 1) := by decide +kernel
theorem dX6_isSailing_1 : decode cX6_isSailing 1 = .ok (.ifCond .lt 15, 3) := by decide +kernel
theorem dX6_isSailing_4 : decode cX6_isSailing 4 = .ok (.iload_n 1, 1) := by decide +kernel
theorem dX6_isSailing_5 : decode cX6_isSailing 5 = .ok (.aload_n 0, 1) := by decide +kernel
theorem dX6_isSailing_6 : decode cX6_isSailing 6 = .ok (.getfield 78, 3) := by decide +kernel
theorem dX6_isSailing_9 : decode cX6_isSailing 9 = .ok (.if_icmp .ge 7, 3) := by decide +kernel
theorem dX6_isSailing_12 : decode cX6_isSailing 12 = .ok (.iconst 1, 1) := by decide +kernel
theorem dX6_isSailing_13 : decode cX6_isSailing 13 = .ok (.goto 4, 3) := by decide +kernel
theorem dX6_isSailing_16 : decode cX6_isSailing 16 = .ok (.iconst 0, 1) := by decide +kernel
theorem dX6_isSailing_17 : decode cX6_isSailing 17 = .ok (.ireturn, 1) := by decide +kernel
theorem dX6_isShip_0 : decode cX6_isShip 0 = .ok (.iload_n 1, 1) := by decide +kernel
theorem dX6_isShip_1 : decode cX6_isShip 1 = .ok (.ifCond .lt 15, 3) := by decide +kernel
theorem dX6_isShip_4 : decode cX6_isShip 4 = .ok (.iload_n 1, 1) := by decide +kernel
theorem dX6_isShip_5 : decode cX6_isShip 5 = .ok (.aload_n 0, 1) := by decide +kernel
theorem dX6_isShip_6 : decode cX6_isShip 6 = .ok (.getfield 81, 3) := by decide +kernel
theorem dX6_isShip_9 : decode cX6_isShip 9 = .ok (.if_icmp .ge 7, 3) := by decide +kernel
theorem dX6_isShip_12 : decode cX6_isShip 12 = .ok (.iconst 1, 1) := by decide +kernel
theorem dX6_isShip_13 : decode cX6_isShip 13 = .ok (.goto 4, 3) := by decide +kernel
theorem dX6_isShip_16 : decode cX6_isShip 16 = .ok (.iconst 0, 1) := by decide +kernel
theorem dX6_isShip_17 : decode cX6_isShip 17 = .ok (.ireturn, 1) := by decide +kernel
set_option maxRecDepth 20000 in
theorem ggX6_ship_X6_isIn : GoodIn wsX6_ship wsX6_isIn := goodIn_r _ [9] (by decide +kernel) (by decide +kernel)
set_option maxRecDepth 20000 in
theorem gX6_ship_X6_isIn : GoodIn wsX6_ship (va_wsS RX6 84 yX6_isIn wsX6_isIn) := goodIn_app (goodIn_of _ (by decide +kernel)) ggX6_ship_X6_isIn
theorem dX6_ship_0 : decode cX6_ship 0 = .ok (.iload_n 1, 1) := by decide +kernel
theorem dX6_ship_1 : decode cX6_ship 1 = .ok (.iconst 1, 1) := by decide +kernel
theorem dX6_ship_2 : decode cX6_ship 2 = .ok (.iconst 4, 1) := by decide +kernel
theorem dX6_ship_3 : decode cX6_ship 3 = .ok (.invokestatic 84, 3) := by decide +kernel
theorem dX6_ship_6 : decode cX6_ship 6 = .ok (.ifCond .eq 49, 3) := by decide +kernel
theorem dX6_ship_9 : decode cX6_ship 9 = .ok (.iload_n 2, 1) := by decide +kernel
theorem dX6_ship_10 : decode cX6_ship 10 = .ok (.iconst 1, 1) := by decide +kernel
theorem dX6_ship_11 : decode cX6_ship 11 = .ok (.bipush 6, 2) := by decide +kernel
theorem dX6_ship_13 : decode cX6_ship 13 = .ok (.invokestatic 84, 3) := by decide +kernel
theorem dX6_ship_16 : decode cX6_ship 16 = .ok (.ifCond .eq 39, 3) := by decide +kernel
theorem dX6_ship_19 : decode cX6_ship 19 = .ok (.iload_n 3, 1) := by decide +kernel
theorem dX6_ship_20 : decode cX6_ship 20 = .ok (.bipush 50, 2) := by decide +kernel
theorem dX6_ship_22 : decode cX6_ship 22 = .ok (.sipush 2000, 3) := by decide +kernel
theorem dX6_ship_25 : decode cX6_ship 25 = .ok (.invokestatic 84, 3) := by decide +kernel
theorem dX6_ship_28 : decode cX6_ship 28 = .ok (.ifCond .eq 27, 3) := by decide +kernel
theorem dX6_ship_31 : decode cX6_ship 31 = .ok (.iload 4, 2) := by decide +kernel
theorem dX6_ship_33 : decode cX6_ship 33 = .ok (.ifCond .eq 13, 3) := by decide +kernel
theorem dX6_ship_36 : decode cX6_ship 36 = .ok (.iload_n 1, 1) := by decide +kernel
theorem dX6_ship_37 : decode cX6_ship 37 = .ok (.iconst 2, 1) := by decide +kernel
theorem dX6_ship_38 : decode cX6_ship 38 = .ok (.if_icmp .lt 17, 3) := by decide +kernel
theorem dX6_ship_41 : decode cX6_ship 41 = .ok (.iload_n 2, 1) := by decide +kernel
theorem dX6_ship_42 : decode cX6_ship 42 = .ok (.iconst 2, 1) := by decide +kernel
theorem dX6_ship_43 : decode cX6_ship 43 = .ok (.if_icmp .lt 12, 3) := by decide +kernel
theorem dX6_ship_46 : decode cX6_ship 46 = .ok (.aload_n 0, 1) := by decide +kernel
theorem dX6_ship_47 : decode cX6_ship 47 = .ok (.getfield 81, 3) := by decide +kernel
theorem dX6_ship_50 : decode cX6_ship 50 = .ok (.bipush 12, 2) := by decide +kernel
theorem dX6_ship_52 : decode cX6_ship 52 = .ok (.if_icmp .ne 5, 3) := by decide +kernel
theorem dX6_ship_55 : decode cX6_ship 55 = .ok (.iconst (-1), 1) := by decide +kernel
theorem dX6_ship_56 : decode cX6_ship 56 = .ok (.ireturn, 1) := by decide +kernel
theorem dX6_ship_57 : decode cX6_ship 57 = .ok (.aload_n 0, 1) := by decide +kernel
theorem dX6_ship_58 : decode cX6_ship 58 = .ok (.getfield 7, 3) := by decide +kernel
theorem dX6_ship_61 : decode cX6_ship 61 = .ok (.aload_n 0, 1) := by decide +kernel
theorem dX6_ship_62 : decode cX6_ship 62 = .ok (.getfield 81, 3) := by decide +kernel
theorem dX6_ship_65 : decode cX6_ship 65 = .ok (.iload_n 1, 1) := by decide +kernel
theorem dX6_ship_66 : decode cX6_ship 66 = .ok (.iastore, 1) := by decide +kernel
theorem dX6_ship_67 : decode cX6_ship 67 = .ok (.aload_n 0, 1) := by decide +kernel
theorem dX6_ship_68 : decode cX6_ship 68 = .ok (.getfield 13, 3) := by decide +kernel
theorem dX6_ship_71 : decode cX6_ship 71 = .ok (.aload_n 0, 1) := by decide +kernel
theorem dX6_ship_72 : decode cX6_ship 72 = .ok (.getfield 81, 3) := by decide +kernel
theorem dX6_ship_75 : decode cX6_ship 75 = .ok (.iload_n 2, 1) := by decide +kernel
theorem dX6_ship_76 : decode cX6_ship 76 = .ok (.iastore, 1) := by decide +kernel
theorem dX6_ship_77 : decode cX6_ship 77 = .ok (.aload_n 0, 1) := by decide +kernel
theorem dX6_ship_78 : decode cX6_ship 78 = .ok (.getfield 16, 3) := by decide +kernel
theorem dX6_ship_81 : decode cX6_ship 81 = .ok (.aload_n 0, 1) := by decide +kernel
theorem dX6_ship_82 : decode cX6_ship 82 = .ok (.getfield 81, 3) := by decide +kernel
theorem dX6_ship_85 : decode cX6_ship 85 = .ok (.iload_n 3, 1) := by decide +kernel
theorem dX6_ship_86 : decode cX6_ship 86 = .ok (.iastore, 1) := by decide +kernel
theorem dX6_ship_87 : decode cX6_ship 87 = .ok (.aload_n 0, 1) := by decide +kernel
theorem dX6_ship_88 : decode cX6_ship 88 = .ok (.getfield 19, 3) := by decide +kernel
theorem dX6_ship_91 : decode cX6_ship 91 = .ok (.aload_n 0, 1) := by decide +kernel
theorem dX6_ship_92 : decode cX6_ship 92 = .ok (.getfield 81, 3) := by decide +kernel
theorem dX6_ship_95 : decode cX6_ship 95 = .ok (.iload 4, 2) := by decide +kernel
theorem dX6_ship_97 : decode cX6_ship 97 = .ok (.bastore, 1) := by decide +kernel
theorem dX6_ship_98 : decode cX6_ship 98 = .ok (.aload_n 0, 1) := by decide +kernel
theorem dX6_ship_99 : decode cX6_ship 99 = .ok (.dup, 1) := by decide +kernel
theorem dX6_ship_100 : decode cX6_ship 100 = .ok (.getfield 81, 3) := by decide +kernel
theorem dX6_ship_103 : decode cX6_ship 103 = .ok (.iconst 1, 1) := by decide +kernel
theorem dX6_ship_104 : decode cX6_ship 104 = .ok (.iadd, 1) := by decide +kernel
theorem dX6_ship_105 : decode cX6_ship 105 = .ok (.putfield 81, 3) := by decide +kernel
theorem dX6_ship_108 : decode cX6_ship 108 = .ok (.aload_n 0, 1) := by decide +kernel
theorem dX6_ship_109 : decode cX6_ship 109 = .ok (.getfield 81, 3) := by decide +kernel
theorem dX6_ship_112 : decode cX6_ship 112 = .ok (.iconst 1, 1) := by decide +kernel
theorem dX6_ship_113 : decode cX6_ship 113 = .ok (.isub, 1) := by decide +kernel
theorem dX6_ship_114 : decode cX6_ship 114 = .ok (.ireturn, 1) := by decide +kernel
set_option maxRecDepth 20000 in
theorem ggX6_cabin_X6_isShip : GoodIn wsX6_cabin wsX6_isShip := goodIn_r _ [8, 9, 13, 14, 15, 16, 17, 18, 19, 20, 21, 22, 23, 24, 25, 26, 27, 28, 29, 30, 31, 32, 33, 34, 35, 36, 37, 38, 39, 40, 41, 42, 43] (by decide +kernel) (by decide +kernel)
set_option maxRecDepth 20000 in
theorem gX6_cabin_X6_isShip : GoodIn wsX6_cabin (wsV RX6 88 RX6 yX6_isShip wsX6_isShip) := goodIn_app (goodIn_of _ (by decide +kernel)) ggX6_cabin_X6_isShip
set_option maxRecDepth 20000 in
theorem ggX6_cabin_X6_isIn : GoodIn wsX6_cabin wsX6_isIn := goodIn_r _ [12] (by decide +kernel) (by decide +kernel)
set_option maxRecDepth 20000 in
theorem gX6_cabin_X6_isIn : GoodIn wsX6_cabin (va_wsS RX6 84 yX6_isIn wsX6_isIn) := goodIn_app (goodIn_of _ (by decide +kernel)) ggX6_cabin_X6_isIn
theorem dX6_cabin_0 : decode cX6_cabin 0 = .ok (.aload_n 0, 1) := by decide +kernel
theorem dX6_cabin_1 : decode cX6_cabin 1 = .ok (.iload_n 1, 1) := by decide +kernel
theorem dX6_cabin_2 : decode cX6_cabin 2 = .ok (.invokevirtual 88, 3) := by decide +kernel
theorem dX6_cabin_5 : decode cX6_cabin 5 = .ok (.ifCond .eq 22, 3) := by decide +kernel
theorem dX6_cabin_8 : decode cX6_cabin 8 = .ok (.iload_n 2, 1) := by decide +kernel
theorem dX6_cabin_9 : decode cX6_cabin 9 = .ok (.iconst 1, 1) := by decide +kernel
theorem dX6_cabin_10 : decode cX6_cabin 10 = .ok (.bipush 6, 2) := by decide +kernel
theorem dX6_cabin_12 : decode cX6_cabin 12 = .ok (.invokestatic 84, 3) := by decide +kernel
theorem dX6_cabin_15 : decode cX6_cabin 15 = .ok (.ifCond .eq 12, 3) := by decide +kernel
theorem dX6_cabin_18 : decode cX6_cabin 18 = .ok (.aload_n 0, 1) := by decide +kernel
theorem dX6_cabin_19 : decode cX6_cabin 19 = .ok (.getfield 92, 3) := by decide +kernel
theorem dX6_cabin_22 : decode cX6_cabin 22 = .ok (.bipush 120, 2) := by decide +kernel
theorem dX6_cabin_24 : decode cX6_cabin 24 = .ok (.if_icmp .ne 5, 3) := by decide +kernel
theorem dX6_cabin_27 : decode cX6_cabin 27 = .ok (.iconst (-1), 1) := by decide +kernel
theorem dX6_cabin_28 : decode cX6_cabin 28 = .ok (.ireturn, 1) := by decide +kernel
theorem dX6_cabin_29 : decode cX6_cabin 29 = .ok (.aload_n 0, 1) := by decide +kernel
theorem dX6_cabin_30 : decode cX6_cabin 30 = .ok (.getfield 23, 3) := by decide +kernel
theorem dX6_cabin_33 : decode cX6_cabin 33 = .ok (.aload_n 0, 1) := by decide +kernel
theorem dX6_cabin_34 : decode cX6_cabin 34 = .ok (.getfield 92, 3) := by decide +kernel
theorem dX6_cabin_37 : decode cX6_cabin 37 = .ok (.iload_n 1, 1) := by decide +kernel
theorem dX6_cabin_38 : decode cX6_cabin 38 = .ok (.iastore, 1) := by decide +kernel
theorem dX6_cabin_39 : decode cX6_cabin 39 = .ok (.aload_n 0, 1) := by decide +kernel
theorem dX6_cabin_40 : decode cX6_cabin 40 = .ok (.getfield 26, 3) := by decide +kernel
theorem dX6_cabin_43 : decode cX6_cabin 43 = .ok (.aload_n 0, 1) := by decide +kernel
theorem dX6_cabin_44 : decode cX6_cabin 44 = .ok (.getfield 92, 3) := by decide +kernel
theorem dX6_cabin_47 : decode cX6_cabin 47 = .ok (.iload_n 2, 1) := by decide +kernel
theorem dX6_cabin_48 : decode cX6_cabin 48 = .ok (.iastore, 1) := by decide +kernel
theorem dX6_cabin_49 : decode cX6_cabin 49 = .ok (.aload_n 0, 1) := by decide +kernel
theorem dX6_cabin_50 : decode cX6_cabin 50 = .ok (.dup, 1) := by decide +kernel
theorem dX6_cabin_51 : decode cX6_cabin 51 = .ok (.getfield 92, 3) := by decide +kernel
theorem dX6_cabin_54 : decode cX6_cabin 54 = .ok (.iconst 1, 1) := by decide +kernel
theorem dX6_cabin_55 : decode cX6_cabin 55 = .ok (.iadd, 1) := by decide +kernel
theorem dX6_cabin_56 : decode cX6_cabin 56 = .ok (.putfield 92, 3) := by decide +kernel
theorem dX6_cabin_59 : decode cX6_cabin 59 = .ok (.aload_n 0, 1) := by decide +kernel
theorem dX6_cabin_60 : decode cX6_cabin 60 = .ok (.getfield 92, 3) := by decide +kernel
theorem dX6_cabin_63 : decode cX6_cabin 63 = .ok (.iconst 1, 1) := by decide +kernel
theorem dX6_cabin_64 : decode cX6_cabin 64 = .ok (.isub, 1) := by decide +kernel
theorem dX6_cabin_65 : decode cX6_cabin 65 = .ok (.ireturn, 1) := by decide +kernel
set_option maxRecDepth 20000 in
theorem ggX6_sailing_X6_isShip : GoodIn wsX6_sailing wsX6_isShip := goodIn_r _ [17, 18, 22, 23, 24, 25, 26, 27, 28, 29, 30, 31, 32, 33, 34, 35, 36, 37, 38, 39, 40, 41, 42, 43, 44, 45, 46, 47, 48, 49, 50, 51, 52] (by decide +kernel) (by decide +kernel)
set_option maxRecDepth 20000 in
theorem gX6_sailing_X6_isShip : GoodIn wsX6_sailing (wsV RX6 88 RX6 yX6_isShip wsX6_isShip) := goodIn_app (goodIn_of _ (by decide +kernel)) ggX6_sailing_X6_isShip
set_option maxRecDepth 20000 in
theorem ggX6_sailing_X6_isIn : GoodIn wsX6_sailing wsX6_isIn := goodIn_r _ [21] (by decide +kernel) (by decide +kernel)
set_option maxRecDepth 20000 in
theorem gX6_sailing_X6_isIn : GoodIn wsX6_sailing (va_wsS RX6 84 yX6_isIn wsX6_isIn) := goodIn_app (goodIn_of _ (by decide +kernel)) ggX6_sailing_X6_isIn
theorem dX6_sailing_0 : decode cX6_sailing 0 = .ok (.aload_n 0, 1) := by decide +kernel
theorem dX6_sailing_1 : decode cX6_sailing 1 = .ok (.iload_n 1, 1) := by decide +kernel
theorem dX6_sailing_2 : decode cX6_sailing 2 = .ok (.invokevirtual 88, 3) := by decide +kernel
theorem dX6_sailing_5 : decode cX6_sailing 5 = .ok (.ifCond .eq 32, 3) := by decide +kernel
theorem dX6_sailing_8 : decode cX6_sailing 8 = .ok (.iload_n 2, 1) := by decide +kernel
theorem dX6_sailing_9 : decode cX6_sailing 9 = .ok (.iconst 0, 1) := by decide +kernel
theorem dX6_sailing_10 : decode cX6_sailing 10 = .ok (.ldc 95, 2) := by decide +kernel
theorem dX6_sailing_12 : decode cX6_sailing 12 = .ok (.invokestatic 84, 3) := by decide +kernel
theorem dX6_sailing_15 : decode cX6_sailing 15 = .ok (.ifCond .eq 22, 3) := by decide +kernel
theorem dX6_sailing_18 : decode cX6_sailing 18 = .ok (.iload_n 3, 1) := by decide +kernel
theorem dX6_sailing_19 : decode cX6_sailing 19 = .ok (.iconst 0, 1) := by decide +kernel
theorem dX6_sailing_20 : decode cX6_sailing 20 = .ok (.bipush 7, 2) := by decide +kernel
theorem dX6_sailing_22 : decode cX6_sailing 22 = .ok (.invokestatic 84, 3) := by decide +kernel
theorem dX6_sailing_25 : decode cX6_sailing 25 = .ok (.ifCond .eq 12, 3) := by decide +kernel
theorem dX6_sailing_28 : decode cX6_sailing 28 = .ok (.aload_n 0, 1) := by decide +kernel
theorem dX6_sailing_29 : decode cX6_sailing 29 = .ok (.getfield 78, 3) := by decide +kernel
theorem dX6_sailing_32 : decode cX6_sailing 32 = .ok (.bipush 60, 2) := by decide +kernel
theorem dX6_sailing_34 : decode cX6_sailing 34 = .ok (.if_icmp .ne 5, 3) := by decide +kernel
theorem dX6_sailing_37 : decode cX6_sailing 37 = .ok (.iconst (-1), 1) := by decide +kernel
theorem dX6_sailing_38 : decode cX6_sailing 38 = .ok (.ireturn, 1) := by decide +kernel
theorem dX6_sailing_39 : decode cX6_sailing 39 = .ok (.iconst 0, 1) := by decide +kernel
theorem dX6_sailing_40 : decode cX6_sailing 40 = .ok (.istore 4, 2) := by decide +kernel
theorem dX6_sailing_42 : decode cX6_sailing 42 = .ok (.iload 4, 2) := by decide +kernel
theorem dX6_sailing_44 : decode cX6_sailing 44 = .ok (.aload_n 0, 1) := by decide +kernel
theorem dX6_sailing_45 : decode cX6_sailing 45 = .ok (.getfield 78, 3) := by decide +kernel
theorem dX6_sailing_48 : decode cX6_sailing 48 = .ok (.if_icmp .ge 50, 3) := by decide +kernel
theorem dX6_sailing_51 : decode cX6_sailing 51 = .ok (.aload_n 0, 1) := by decide +kernel
theorem dX6_sailing_52 : decode cX6_sailing 52 = .ok (.getfield 29, 3) := by decide +kernel
theorem dX6_sailing_55 : decode cX6_sailing 55 = .ok (.iload 4, 2) := by decide +kernel
theorem dX6_sailing_57 : decode cX6_sailing 57 = .ok (.iaload, 1) := by decide +kernel
theorem dX6_sailing_58 : decode cX6_sailing 58 = .ok (.iload_n 1, 1) := by decide +kernel
theorem dX6_sailing_59 : decode cX6_sailing 59 = .ok (.if_icmp .ne 33, 3) := by decide +kernel
theorem dX6_sailing_62 : decode cX6_sailing 62 = .ok (.aload_n 0, 1) := by decide +kernel
theorem dX6_sailing_63 : decode cX6_sailing 63 = .ok (.getfield 38, 3) := by decide +kernel
theorem dX6_sailing_66 : decode cX6_sailing 66 = .ok (.iload 4, 2) := by decide +kernel
theorem dX6_sailing_68 : decode cX6_sailing 68 = .ok (.iaload, 1) := by decide +kernel
theorem dX6_sailing_69 : decode cX6_sailing 69 = .ok (.iconst 3, 1) := by decide +kernel
theorem dX6_sailing_70 : decode cX6_sailing 70 = .ok (.if_icmp .eq 22, 3) := by decide +kernel
theorem dX6_sailing_73 : decode cX6_sailing 73 = .ok (.aload_n 0, 1) := by decide +kernel
theorem dX6_sailing_74 : decode cX6_sailing 74 = .ok (.getfield 32, 3) := by decide +kernel
theorem dX6_sailing_77 : decode cX6_sailing 77 = .ok (.iload 4, 2) := by decide +kernel
theorem dX6_sailing_79 : decode cX6_sailing 79 = .ok (.iaload, 1) := by decide +kernel
theorem dX6_sailing_80 : decode cX6_sailing 80 = .ok (.iload_n 2, 1) := by decide +kernel
theorem dX6_sailing_81 : decode cX6_sailing 81 = .ok (.isub, 1) := by decide +kernel
theorem dX6_sailing_82 : decode cX6_sailing 82 = .ok (.invokestatic 96, 3) := by decide +kernel
theorem dX6_sailing_85 : decode cX6_sailing 85 = .ok (.bipush 90, 2) := by decide +kernel
theorem dX6_sailing_87 : decode cX6_sailing 87 = .ok (.if_icmp .ge 5, 3) := by decide +kernel
theorem dX6_sailing_90 : decode cX6_sailing 90 = .ok (.iconst (-1), 1) := by decide +kernel
theorem dX6_sailing_91 : decode cX6_sailing 91 = .ok (.ireturn, 1) := by decide +kernel
theorem dX6_sailing_92 : decode cX6_sailing 92 = .ok (.iinc 4 1, 3) := by decide +kernel
theorem dX6_sailing_95 : decode cX6_sailing 95 = .ok (.goto (-53), 3) := by decide +kernel
theorem dX6_sailing_98 : decode cX6_sailing 98 = .ok (.aload_n 0, 1) := by decide +kernel
theorem dX6_sailing_99 : decode cX6_sailing 99 = .ok (.getfield 78, 3) := by decide +kernel
theorem dX6_sailing_102 : decode cX6_sailing 102 = .ok (.istore 4, 2) := by decide +kernel
theorem dX6_sailing_104 : decode cX6_sailing 104 = .ok (.aload_n 0, 1) := by decide +kernel
theorem dX6_sailing_105 : decode cX6_sailing 105 = .ok (.dup, 1) := by decide +kernel
theorem dX6_sailing_106 : decode cX6_sailing 106 = .ok (.getfield 78, 3) := by decide +kernel
theorem dX6_sailing_109 : decode cX6_sailing 109 = .ok (.iconst 1, 1) := by decide +kernel
theorem dX6_sailing_110 : decode cX6_sailing 110 = .ok (.iadd, 1) := by decide +kernel
theorem dX6_sailing_111 : decode cX6_sailing 111 = .ok (.putfield 78, 3) := by decide +kernel
theorem dX6_sailing_114 : decode cX6_sailing 114 = .ok (.aload_n 0, 1) := by decide +kernel
theorem dX6_sailing_115 : decode cX6_sailing 115 = .ok (.getfield 29, 3) := by decide +kernel
theorem dX6_sailing_118 : decode cX6_sailing 118 = .ok (.iload 4, 2) := by decide +kernel
theorem dX6_sailing_120 : decode cX6_sailing 120 = .ok (.iload_n 1, 1) := by decide +kernel
theorem dX6_sailing_121 : decode cX6_sailing 121 = .ok (.iastore, 1) := by decide +kernel
theorem dX6_sailing_122 : decode cX6_sailing 122 = .ok (.aload_n 0, 1) := by decide +kernel
theorem dX6_sailing_123 : decode cX6_sailing 123 = .ok (.getfield 32, 3) := by decide +kernel
theorem dX6_sailing_126 : decode cX6_sailing 126 = .ok (.iload 4, 2) := by decide +kernel
theorem dX6_sailing_128 : decode cX6_sailing 128 = .ok (.iload_n 2, 1) := by decide +kernel
theorem dX6_sailing_129 : decode cX6_sailing 129 = .ok (.iastore, 1) := by decide +kernel
theorem dX6_sailing_130 : decode cX6_sailing 130 = .ok (.aload_n 0, 1) := by decide +kernel
theorem dX6_sailing_131 : decode cX6_sailing 131 = .ok (.getfield 35, 3) := by decide +kernel
theorem dX6_sailing_134 : decode cX6_sailing 134 = .ok (.iload 4, 2) := by decide +kernel
theorem dX6_sailing_136 : decode cX6_sailing 136 = .ok (.iload_n 3, 1) := by decide +kernel
theorem dX6_sailing_137 : decode cX6_sailing 137 = .ok (.iastore, 1) := by decide +kernel
theorem dX6_sailing_138 : decode cX6_sailing 138 = .ok (.aload_n 0, 1) := by decide +kernel
theorem dX6_sailing_139 : decode cX6_sailing 139 = .ok (.getfield 44, 3) := by decide +kernel
theorem dX6_sailing_142 : decode cX6_sailing 142 = .ok (.iload 4, 2) := by decide +kernel
theorem dX6_sailing_144 : decode cX6_sailing 144 = .ok (.iconst (-1), 1) := by decide +kernel
theorem dX6_sailing_145 : decode cX6_sailing 145 = .ok (.iastore, 1) := by decide +kernel
theorem dX6_sailing_146 : decode cX6_sailing 146 = .ok (.aload_n 0, 1) := by decide +kernel
theorem dX6_sailing_147 : decode cX6_sailing 147 = .ok (.getfield 47, 3) := by decide +kernel
theorem dX6_sailing_150 : decode cX6_sailing 150 = .ok (.iload 4, 2) := by decide +kernel
theorem dX6_sailing_152 : decode cX6_sailing 152 = .ok (.iconst (-1), 1) := by decide +kernel
theorem dX6_sailing_153 : decode cX6_sailing 153 = .ok (.iastore, 1) := by decide +kernel
theorem dX6_sailing_154 : decode cX6_sailing 154 = .ok (.iload 4, 2) := by decide +kernel
theorem dX6_sailing_156 : decode cX6_sailing 156 = .ok (.ireturn, 1) := by decide +kernel
theorem dX6_isToGo_0 : decode cX6_isToGo 0 = .ok (.aload_n 0, 1) := by decide +kernel
theorem dX6_isToGo_1 : decode cX6_isToGo 1 = .ok (.getfield 38, 3) := by decide +kernel
theorem dX6_isToGo_4 : decode cX6_isToGo 4 = .ok (.iload_n 1, 1) := by decide +kernel
theorem dX6_isToGo_5 : decode cX6_isToGo 5 = .ok (.iaload, 1) := by decide +kernel
theorem dX6_isToGo_6 : decode cX6_isToGo 6 = .ok (.ifCond .eq 13, 3) := by decide +kernel
theorem dX6_isToGo_9 : decode cX6_isToGo 9 = .ok (.aload_n 0, 1) := by decide +kernel
theorem dX6_isToGo_10 : decode cX6_isToGo 10 = .ok (.getfield 38, 3) := by decide +kernel
theorem dX6_isToGo_13 : decode cX6_isToGo 13 = .ok (.iload_n 1, 1) := by decide +kernel
theorem dX6_isToGo_14 : decode cX6_isToGo 14 = .ok (.iaload, 1) := by decide +kernel
theorem dX6_isToGo_15 : decode cX6_isToGo 15 = .ok (.iconst 1, 1) := by decide +kernel
theorem dX6_isToGo_16 : decode cX6_isToGo 16 = .ok (.if_icmp .ne 7, 3) := by decide +kernel
theorem dX6_isToGo_19 : decode cX6_isToGo 19 = .ok (.iconst 1, 1) := by decide +kernel
theorem dX6_isToGo_20 : decode cX6_isToGo 20 = .ok (.goto 4, 3) := by decide +kernel
theorem dX6_isToGo_23 : decode cX6_isToGo 23 = .ok (.iconst 0, 1) := by decide +kernel
theorem dX6_isToGo_24 : decode cX6_isToGo 24 = .ok (.ireturn, 1) := by decide +kernel
set_option maxRecDepth 20000 in
theorem ggX6_book_X6_isSailing : GoodIn wsX6_book wsX6_isSailing := goodIn_r _ [10, 11, 25, 26, 27, 28, 29, 30, 31, 32, 33, 34, 35, 36, 37, 38, 39, 40, 41, 42, 43, 44, 45, 46, 47, 48, 49, 50, 51, 52, 53, 54, 55] (by decide +kernel) (by decide +kernel)
set_option maxRecDepth 20000 in
theorem gX6_book_X6_isSailing : GoodIn wsX6_book (wsV RX6 102 RX6 yX6_isSailing wsX6_isSailing) := goodIn_app (goodIn_of _ (by decide +kernel)) ggX6_book_X6_isSailing
set_option maxRecDepth 20000 in
theorem ggX6_book_X6_isIn : GoodIn wsX6_book wsX6_isIn := goodIn_r _ [14] (by decide +kernel) (by decide +kernel)
set_option maxRecDepth 20000 in
theorem gX6_book_X6_isIn : GoodIn wsX6_book (va_wsS RX6 84 yX6_isIn wsX6_isIn) := goodIn_app (goodIn_of _ (by decide +kernel)) ggX6_book_X6_isIn
set_option maxRecDepth 20000 in
theorem ggX6_book_X6_isToGo : GoodIn wsX6_book wsX6_isToGo := goodIn_r _ [18, 19, 25, 26, 27, 28, 29, 30, 31, 32, 33, 34, 35, 36, 37, 38, 39, 40, 41, 42, 43, 44, 45, 46, 47, 48, 49, 50, 51, 52, 53, 54, 55] (by decide +kernel) (by decide +kernel)
set_option maxRecDepth 20000 in
theorem gX6_book_X6_isToGo : GoodIn wsX6_book (wsV RX6 105 RX6 yX6_isToGo wsX6_isToGo) := goodIn_app (goodIn_of _ (by decide +kernel)) ggX6_book_X6_isToGo
set_option maxRecDepth 20000 in
theorem ggX6_book_X6_put : GoodIn wsX6_book wsX6_put := goodIn_r _ [23, 24, 25, 26, 27, 28, 29, 30, 31, 32, 33, 34, 35, 36, 37, 38, 39, 40, 41, 42, 43, 44, 45, 46, 47, 48, 49, 50, 51, 52, 53, 54, 55] (by decide +kernel) (by decide +kernel)
set_option maxRecDepth 20000 in
theorem gX6_book_X6_put : GoodIn wsX6_book (wsV RX6 108 RX6 yX6_put wsX6_put) := goodIn_app (goodIn_of _ (by decide +kernel)) ggX6_book_X6_put
theorem dX6_book_0 : decode cX6_book 0 = .ok (.aload_n 0, 1) := by decide +kernel
theorem dX6_book_1 : decode cX6_book 1 = .ok (.iload_n 1, 1) := by decide +kernel
theorem dX6_book_2 : decode cX6_book 2 = .ok (.invokevirtual 102, 3) := by decide +kernel
theorem dX6_book_5 : decode cX6_book 5 = .ok (.ifCond .eq 78, 3) := by decide +kernel
theorem dX6_book_8 : decode cX6_book 8 = .ok (.iload_n 2, 1) := by decide +kernel
theorem dX6_book_9 : decode cX6_book 9 = .ok (.bipush 20, 2) := by decide +kernel
theorem dX6_book_11 : decode cX6_book 11 = .ok (.sipush 250, 3) := by decide +kernel
theorem dX6_book_14 : decode cX6_book 14 = .ok (.invokestatic 84, 3) := by decide +kernel
theorem dX6_book_17 : decode cX6_book 17 = .ok (.ifCond .eq 66, 3) := by decide +kernel
theorem dX6_book_20 : decode cX6_book 20 = .ok (.iload_n 3, 1) := by decide +kernel
theorem dX6_book_21 : decode cX6_book 21 = .ok (.iconst 0, 1) := by decide +kernel
theorem dX6_book_22 : decode cX6_book 22 = .ok (.iconst 2, 1) := by decide +kernel
theorem dX6_book_23 : decode cX6_book 23 = .ok (.invokestatic 84, 3) := by decide +kernel
theorem dX6_book_26 : decode cX6_book 26 = .ok (.ifCond .eq 57, 3) := by decide +kernel
theorem dX6_book_29 : decode cX6_book 29 = .ok (.iload 4, 2) := by decide +kernel
theorem dX6_book_31 : decode cX6_book 31 = .ok (.iconst 0, 1) := by decide +kernel
theorem dX6_book_32 : decode cX6_book 32 = .ok (.bipush 6, 2) := by decide +kernel
theorem dX6_book_34 : decode cX6_book 34 = .ok (.invokestatic 84, 3) := by decide +kernel
theorem dX6_book_37 : decode cX6_book 37 = .ok (.ifCond .eq 46, 3) := by decide +kernel
theorem dX6_book_40 : decode cX6_book 40 = .ok (.aload_n 0, 1) := by decide +kernel
theorem dX6_book_41 : decode cX6_book 41 = .ok (.iload_n 1, 1) := by decide +kernel
theorem dX6_book_42 : decode cX6_book 42 = .ok (.invokevirtual 105, 3) := by decide +kernel
theorem dX6_book_45 : decode cX6_book 45 = .ok (.ifCond .eq 38, 3) := by decide +kernel
theorem dX6_book_48 : decode cX6_book 48 = .ok (.aload_n 0, 1) := by decide +kernel
theorem dX6_book_49 : decode cX6_book 49 = .ok (.getfield 44, 3) := by decide +kernel
theorem dX6_book_52 : decode cX6_book 52 = .ok (.iload_n 1, 1) := by decide +kernel
theorem dX6_book_53 : decode cX6_book 53 = .ok (.iaload, 1) := by decide +kernel
theorem dX6_book_54 : decode cX6_book 54 = .ok (.iconst (-1), 1) := by decide +kernel
theorem dX6_book_55 : decode cX6_book 55 = .ok (.if_icmp .ne 28, 3) := by decide +kernel
theorem dX6_book_58 : decode cX6_book 58 = .ok (.aload_n 0, 1) := by decide +kernel
theorem dX6_book_59 : decode cX6_book 59 = .ok (.getfield 16, 3) := by decide +kernel
theorem dX6_book_62 : decode cX6_book 62 = .ok (.aload_n 0, 1) := by decide +kernel
theorem dX6_book_63 : decode cX6_book 63 = .ok (.getfield 29, 3) := by decide +kernel
theorem dX6_book_66 : decode cX6_book 66 = .ok (.iload_n 1, 1) := by decide +kernel
theorem dX6_book_67 : decode cX6_book 67 = .ok (.iaload, 1) := by decide +kernel
theorem dX6_book_68 : decode cX6_book 68 = .ok (.iaload, 1) := by decide +kernel
theorem dX6_book_69 : decode cX6_book 69 = .ok (.iload_n 2, 1) := by decide +kernel
theorem dX6_book_70 : decode cX6_book 70 = .ok (.if_icmp .lt 13, 3) := by decide +kernel
theorem dX6_book_73 : decode cX6_book 73 = .ok (.aload_n 0, 1) := by decide +kernel
theorem dX6_book_74 : decode cX6_book 74 = .ok (.getfield 74, 3) := by decide +kernel
theorem dX6_book_77 : decode cX6_book 77 = .ok (.sipush 400, 3) := by decide +kernel
theorem dX6_book_80 : decode cX6_book 80 = .ok (.if_icmp .ne 5, 3) := by decide +kernel
theorem dX6_book_83 : decode cX6_book 83 = .ok (.iconst (-1), 1) := by decide +kernel
theorem dX6_book_84 : decode cX6_book 84 = .ok (.ireturn, 1) := by decide +kernel
theorem dX6_book_85 : decode cX6_book 85 = .ok (.aload_n 0, 1) := by decide +kernel
theorem dX6_book_86 : decode cX6_book 86 = .ok (.getfield 74, 3) := by decide +kernel
theorem dX6_book_89 : decode cX6_book 89 = .ok (.istore 5, 2) := by decide +kernel
theorem dX6_book_91 : decode cX6_book 91 = .ok (.aload_n 0, 1) := by decide +kernel
theorem dX6_book_92 : decode cX6_book 92 = .ok (.dup, 1) := by decide +kernel
theorem dX6_book_93 : decode cX6_book 93 = .ok (.getfield 74, 3) := by decide +kernel
theorem dX6_book_96 : decode cX6_book 96 = .ok (.iconst 1, 1) := by decide +kernel
theorem dX6_book_97 : decode cX6_book 97 = .ok (.iadd, 1) := by decide +kernel
theorem dX6_book_98 : decode cX6_book 98 = .ok (.putfield 74, 3) := by decide +kernel
theorem dX6_book_101 : decode cX6_book 101 = .ok (.sipush 500, 3) := by decide +kernel
theorem dX6_book_104 : decode cX6_book 104 = .ok (.iconst 3, 1) := by decide +kernel
theorem dX6_book_105 : decode cX6_book 105 = .ok (.iload_n 2, 1) := by decide +kernel
theorem dX6_book_106 : decode cX6_book 106 = .ok (.imul, 1) := by decide +kernel
theorem dX6_book_107 : decode cX6_book 107 = .ok (.iadd, 1) := by decide +kernel
theorem dX6_book_108 : decode cX6_book 108 = .ok (.sipush 700, 3) := by decide +kernel
theorem dX6_book_111 : decode cX6_book 111 = .ok (.iload_n 3, 1) := by decide +kernel
theorem dX6_book_112 : decode cX6_book 112 = .ok (.imul, 1) := by decide +kernel
theorem dX6_book_113 : decode cX6_book 113 = .ok (.iadd, 1) := by decide +kernel
theorem dX6_book_114 : decode cX6_book 114 = .ok (.sipush 1500, 3) := by decide +kernel
theorem dX6_book_117 : decode cX6_book 117 = .ok (.iload 4, 2) := by decide +kernel
theorem dX6_book_119 : decode cX6_book 119 = .ok (.imul, 1) := by decide +kernel
theorem dX6_book_120 : decode cX6_book 120 = .ok (.iadd, 1) := by decide +kernel
theorem dX6_book_121 : decode cX6_book 121 = .ok (.istore 6, 2) := by decide +kernel
theorem dX6_book_123 : decode cX6_book 123 = .ok (.iconst 0, 1) := by decide +kernel
theorem dX6_book_124 : decode cX6_book 124 = .ok (.istore 7, 2) := by decide +kernel
theorem dX6_book_126 : decode cX6_book 126 = .ok (.iload 7, 2) := by decide +kernel
theorem dX6_book_128 : decode cX6_book 128 = .ok (.bipush 13, 2) := by decide +kernel
theorem dX6_book_130 : decode cX6_book 130 = .ok (.if_icmp .ge 35, 3) := by decide +kernel
theorem dX6_book_133 : decode cX6_book 133 = .ok (.aload_n 0, 1) := by decide +kernel
theorem dX6_book_134 : decode cX6_book 134 = .ok (.iload 5, 2) := by decide +kernel
theorem dX6_book_136 : decode cX6_book 136 = .ok (.iload 7, 2) := by decide +kernel
theorem dX6_book_138 : decode cX6_book 138 = .ok (.iload 7, 2) := by decide +kernel
theorem dX6_book_140 : decode cX6_book 140 = .ok (.iconst 5, 1) := by decide +kernel
theorem dX6_book_141 : decode cX6_book 141 = .ok (.if_icmp .lt 14, 3) := by decide +kernel
theorem dX6_book_144 : decode cX6_book 144 = .ok (.iload 7, 2) := by decide +kernel
theorem dX6_book_146 : decode cX6_book 146 = .ok (.bipush 9, 2) := by decide +kernel
theorem dX6_book_148 : decode cX6_book 148 = .ok (.if_icmp .gt 7, 3) := by decide +kernel
theorem dX6_book_151 : decode cX6_book 151 = .ok (.iconst (-1), 1) := by decide +kernel
theorem dX6_book_152 : decode cX6_book 152 = .ok (.goto 4, 3) := by decide +kernel
theorem dX6_book_155 : decode cX6_book 155 = .ok (.iconst 0, 1) := by decide +kernel
theorem dX6_book_156 : decode cX6_book 156 = .ok (.invokevirtual 108, 3) := by decide +kernel
theorem dX6_book_159 : decode cX6_book 159 = .ok (.iinc 7 1, 3) := by decide +kernel
theorem dX6_book_162 : decode cX6_book 162 = .ok (.goto (-36), 3) := by decide +kernel
theorem dX6_book_165 : decode cX6_book 165 = .ok (.aload_n 0, 1) := by decide +kernel
theorem dX6_book_166 : decode cX6_book 166 = .ok (.iload 5, 2) := by decide +kernel
theorem dX6_book_168 : decode cX6_book 168 = .ok (.iconst 0, 1) := by decide +kernel
theorem dX6_book_169 : decode cX6_book 169 = .ok (.iload_n 1, 1) := by decide +kernel
theorem dX6_book_170 : decode cX6_book 170 = .ok (.invokevirtual 108, 3) := by decide +kernel
theorem dX6_book_173 : decode cX6_book 173 = .ok (.aload_n 0, 1) := by decide +kernel
theorem dX6_book_174 : decode cX6_book 174 = .ok (.iload 5, 2) := by decide +kernel
theorem dX6_book_176 : decode cX6_book 176 = .ok (.iconst 1, 1) := by decide +kernel
theorem dX6_book_177 : decode cX6_book 177 = .ok (.iload_n 2, 1) := by decide +kernel
theorem dX6_book_178 : decode cX6_book 178 = .ok (.invokevirtual 108, 3) := by decide +kernel
theorem dX6_book_181 : decode cX6_book 181 = .ok (.aload_n 0, 1) := by decide +kernel
theorem dX6_book_182 : decode cX6_book 182 = .ok (.iload 5, 2) := by decide +kernel
theorem dX6_book_184 : decode cX6_book 184 = .ok (.iconst 2, 1) := by decide +kernel
