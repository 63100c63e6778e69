set_option maxRecDepth 20000 in
theorem gX6_comesOff_X6_put : GoodIn wsX6_comesOff (wsV RX6 108 RX6 yX6_put wsX6_put) := goodIn_app (goodIn_of _ (by decide +kernel)) ggX6_comesOff_X6_put
theorem dX6_comesOff_0 : decode cX6_comesOff 0 = .ok (.aload_n 0, 1) := by decide +kernel
theorem dX6_comesOff_1 : decode cX6_comesOff 1 = .ok (.iload_n 1, 1) := by decide +kernel
theorem dX6_comesOff_2 : decode cX6_comesOff 2 = .ok (.iconst 4, 1) := by decide +kernel
theorem dX6_comesOff_3 : decode cX6_comesOff 3 = .ok (.iconst 2, 1) := by decide +kernel
theorem dX6_comesOff_4 : decode cX6_comesOff 4 = .ok (.invokevirtual 108, 3) := by decide +kernel
theorem dX6_comesOff_7 : decode cX6_comesOff 7 = .ok (.aload_n 0, 1) := by decide +kernel
theorem dX6_comesOff_8 : decode cX6_comesOff 8 = .ok (.iload_n 1, 1) := by decide +kernel
theorem dX6_comesOff_9 : decode cX6_comesOff 9 = .ok (.bipush 6, 2) := by decide +kernel
theorem dX6_comesOff_11 : decode cX6_comesOff 11 = .ok (.iconst (-1), 1) := by decide +kernel
theorem dX6_comesOff_12 : decode cX6_comesOff 12 = .ok (.invokevirtual 108, 3) := by decide +kernel
theorem dX6_comesOff_15 : decode cX6_comesOff 15 = .ok (.aload_n 0, 1) := by decide +kernel
theorem dX6_comesOff_16 : decode cX6_comesOff 16 = .ok (.iload_n 1, 1) := by decide +kernel
theorem dX6_comesOff_17 : decode cX6_comesOff 17 = .ok (.bipush 7, 2) := by decide +kernel
theorem dX6_comesOff_19 : decode cX6_comesOff 19 = .ok (.iconst (-1), 1) := by decide +kernel
theorem dX6_comesOff_20 : decode cX6_comesOff 20 = .ok (.invokevirtual 108, 3) := by decide +kernel
theorem dX6_comesOff_23 : decode cX6_comesOff 23 = .ok (.aload_n 0, 1) := by decide +kernel
theorem dX6_comesOff_24 : decode cX6_comesOff 24 = .ok (.iload_n 1, 1) := by decide +kernel
theorem dX6_comesOff_25 : decode cX6_comesOff 25 = .ok (.bipush 8, 2) := by decide +kernel
theorem dX6_comesOff_27 : decode cX6_comesOff 27 = .ok (.iconst (-1), 1) := by decide +kernel
theorem dX6_comesOff_28 : decode cX6_comesOff 28 = .ok (.invokevirtual 108, 3) := by decide +kernel
theorem dX6_comesOff_31 : decode cX6_comesOff 31 = .ok (.aload_n 0, 1) := by decide +kernel
theorem dX6_comesOff_32 : decode cX6_comesOff 32 = .ok (.iload_n 1, 1) := by decide +kernel
theorem dX6_comesOff_33 : decode cX6_comesOff 33 = .ok (.bipush 9, 2) := by decide +kernel
theorem dX6_comesOff_35 : decode cX6_comesOff 35 = .ok (.iconst (-1), 1) := by decide +kernel
theorem dX6_comesOff_36 : decode cX6_comesOff 36 = .ok (.invokevirtual 108, 3) := by decide +kernel
theorem dX6_comesOff_39 : decode cX6_comesOff 39 = .ok (.return_, 1) := by decide +kernel
set_option maxRecDepth 20000 in
theorem ggX6_cabinFor_X6_of : GoodIn wsX6_cabinFor wsX6_of := goodIn_r _ [10, 11, 16, 17, 18, 19, 20, 21, 22, 23, 24, 25, 26, 27, 28, 29, 30, 31, 32, 33, 34, 35, 36, 37, 38, 39, 40, 41, 42, 43, 44, 45, 46] (by decide +kernel) (by decide +kernel)
set_option maxRecDepth 20000 in
theorem gX6_cabinFor_X6_of : GoodIn wsX6_cabinFor (wsV RX6 115 RX6 yX6_of wsX6_of) := goodIn_app (goodIn_of _ (by decide +kernel)) ggX6_cabinFor_X6_of
set_option maxRecDepth 20000 in
theorem ggX6_cabinFor_X6_isAboard : GoodIn wsX6_cabinFor wsX6_isAboard := goodIn_r _ [15, 6, 7, 8, 9, 10, 11, 16, 17, 18, 19, 20, 21, 22, 23, 24, 25, 26, 27, 28, 29, 30, 31, 32, 33, 34, 35, 36, 37, 38, 39, 40, 41, 42, 43, 44, 45, 46] (by decide +kernel) (by decide +kernel)
set_option maxRecDepth 20000 in
theorem gX6_cabinFor_X6_isAboard : GoodIn wsX6_cabinFor (wsV RX6 130 RX6 yX6_isAboard wsX6_isAboard) := goodIn_app (goodIn_of _ (by decide +kernel)) ggX6_cabinFor_X6_isAboard
theorem dX6_cabinFor_0 : decode cX6_cabinFor 0 = .ok (.iconst 0, 1) := by decide +kernel
theorem dX6_cabinFor_1 : decode cX6_cabinFor 1 = .ok (.istore_n 3, 1) := by decide +kernel
theorem dX6_cabinFor_2 : decode cX6_cabinFor 2 = .ok (.iload_n 3, 1) := by decide +kernel
theorem dX6_cabinFor_3 : decode cX6_cabinFor 3 = .ok (.aload_n 0, 1) := by decide +kernel
theorem dX6_cabinFor_4 : decode cX6_cabinFor 4 = .ok (.getfield 92, 3) := by decide +kernel
theorem dX6_cabinFor_7 : decode cX6_cabinFor 7 = .ok (.if_icmp .ge 105, 3) := by decide +kernel
theorem dX6_cabinFor_10 : decode cX6_cabinFor 10 = .ok (.aload_n 0, 1) := by decide +kernel
theorem dX6_cabinFor_11 : decode cX6_cabinFor 11 = .ok (.getfield 23, 3) := by decide +kernel
theorem dX6_cabinFor_14 : decode cX6_cabinFor 14 = .ok (.iload_n 3, 1) := by decide +kernel
theorem dX6_cabinFor_15 : decode cX6_cabinFor 15 = .ok (.iaload, 1) := by decide +kernel
theorem dX6_cabinFor_16 : decode cX6_cabinFor 16 = .ok (.aload_n 0, 1) := by decide +kernel
theorem dX6_cabinFor_17 : decode cX6_cabinFor 17 = .ok (.getfield 29, 3) := by decide +kernel
theorem dX6_cabinFor_20 : decode cX6_cabinFor 20 = .ok (.iload_n 2, 1) := by decide +kernel
theorem dX6_cabinFor_21 : decode cX6_cabinFor 21 = .ok (.iaload, 1) := by decide +kernel
theorem dX6_cabinFor_22 : decode cX6_cabinFor 22 = .ok (.if_icmp .ne 22, 3) := by decide +kernel
theorem dX6_cabinFor_25 : decode cX6_cabinFor 25 = .ok (.aload_n 0, 1) := by decide +kernel
theorem dX6_cabinFor_26 : decode cX6_cabinFor 26 = .ok (.getfield 26, 3) := by decide +kernel
theorem dX6_cabinFor_29 : decode cX6_cabinFor 29 = .ok (.iload_n 3, 1) := by decide +kernel
theorem dX6_cabinFor_30 : decode cX6_cabinFor 30 = .ok (.iaload, 1) := by decide +kernel
theorem dX6_cabinFor_31 : decode cX6_cabinFor 31 = .ok (.aload_n 0, 1) := by decide +kernel
theorem dX6_cabinFor_32 : decode cX6_cabinFor 32 = .ok (.iload_n 1, 1) := by decide +kernel
theorem dX6_cabinFor_33 : decode cX6_cabinFor 33 = .ok (.iconst 3, 1) := by decide +kernel
theorem dX6_cabinFor_34 : decode cX6_cabinFor 34 = .ok (.invokevirtual 115, 3) := by decide +kernel
theorem dX6_cabinFor_37 : decode cX6_cabinFor 37 = .ok (.if_icmp .lt 7, 3) := by decide +kernel
theorem dX6_cabinFor_40 : decode cX6_cabinFor 40 = .ok (.iconst 1, 1) := by decide +kernel
theorem dX6_cabinFor_41 : decode cX6_cabinFor 41 = .ok (.goto 4, 3) := by decide +kernel
theorem dX6_cabinFor_44 : decode cX6_cabinFor 44 = .ok (.iconst 0, 1) := by decide +kernel
theorem dX6_cabinFor_45 : decode cX6_cabinFor 45 = .ok (.istore 4, 2) := by decide +kernel
theorem dX6_cabinFor_47 : decode cX6_cabinFor 47 = .ok (.iconst 0, 1) := by decide +kernel
theorem dX6_cabinFor_48 : decode cX6_cabinFor 48 = .ok (.istore 5, 2) := by decide +kernel
theorem dX6_cabinFor_50 : decode cX6_cabinFor 50 = .ok (.iload 5, 2) := by decide +kernel
theorem dX6_cabinFor_52 : decode cX6_cabinFor 52 = .ok (.aload_n 0, 1) := by decide +kernel
theorem dX6_cabinFor_53 : decode cX6_cabinFor 53 = .ok (.getfield 74, 3) := by decide +kernel
theorem dX6_cabinFor_56 : decode cX6_cabinFor 56 = .ok (.if_icmp .ge 43, 3) := by decide +kernel
theorem dX6_cabinFor_59 : decode cX6_cabinFor 59 = .ok (.iload 4, 2) := by decide +kernel
theorem dX6_cabinFor_61 : decode cX6_cabinFor 61 = .ok (.ifCond .eq 38, 3) := by decide +kernel
theorem dX6_cabinFor_64 : decode cX6_cabinFor 64 = .ok (.aload_n 0, 1) := by decide +kernel
theorem dX6_cabinFor_65 : decode cX6_cabinFor 65 = .ok (.iload 5, 2) := by decide +kernel
theorem dX6_cabinFor_67 : decode cX6_cabinFor 67 = .ok (.iload_n 2, 1) := by decide +kernel
theorem dX6_cabinFor_68 : decode cX6_cabinFor 68 = .ok (.invokevirtual 130, 3) := by decide +kernel
theorem dX6_cabinFor_71 : decode cX6_cabinFor 71 = .ok (.ifCond .eq 15, 3) := by decide +kernel
theorem dX6_cabinFor_74 : decode cX6_cabinFor 74 = .ok (.aload_n 0, 1) := by decide +kernel
theorem dX6_cabinFor_75 : decode cX6_cabinFor 75 = .ok (.iload 5, 2) := by decide +kernel
theorem dX6_cabinFor_77 : decode cX6_cabinFor 77 = .ok (.bipush 9, 2) := by decide +kernel
theorem dX6_cabinFor_79 : decode cX6_cabinFor 79 = .ok (.invokevirtual 115, 3) := by decide +kernel
theorem dX6_cabinFor_82 : decode cX6_cabinFor 82 = .ok (.iload_n 3, 1) := by decide +kernel
theorem dX6_cabinFor_83 : decode cX6_cabinFor 83 = .ok (.if_icmp .eq 7, 3) := by decide +kernel
theorem dX6_cabinFor_86 : decode cX6_cabinFor 86 = .ok (.iconst 1, 1) := by decide +kernel
theorem dX6_cabinFor_87 : decode cX6_cabinFor 87 = .ok (.goto 4, 3) := by decide +kernel
theorem dX6_cabinFor_90 : decode cX6_cabinFor 90 = .ok (.iconst 0, 1) := by decide +kernel
theorem dX6_cabinFor_91 : decode cX6_cabinFor 91 = .ok (.istore 4, 2) := by decide +kernel
theorem dX6_cabinFor_93 : decode cX6_cabinFor 93 = .ok (.iinc 5 1, 3) := by decide +kernel
theorem dX6_cabinFor_96 : decode cX6_cabinFor 96 = .ok (.goto (-46), 3) := by decide +kernel
theorem dX6_cabinFor_99 : decode cX6_cabinFor 99 = .ok (.iload 4, 2) := by decide +kernel
theorem dX6_cabinFor_101 : decode cX6_cabinFor 101 = .ok (.ifCond .eq 5, 3) := by decide +kernel
theorem dX6_cabinFor_104 : decode cX6_cabinFor 104 = .ok (.iload_n 3, 1) := by decide +kernel
theorem dX6_cabinFor_105 : decode cX6_cabinFor 105 = .ok (.ireturn, 1) := by decide +kernel
theorem dX6_cabinFor_106 : decode cX6_cabinFor 106 = .ok (.iinc 3 1, 3) := by decide +kernel
theorem dX6_cabinFor_109 : decode cX6_cabinFor 109 = .ok (.goto (-107), 3) := by decide +kernel
theorem dX6_cabinFor_112 : decode cX6_cabinFor 112 = .ok (.iconst (-1), 1) := by decide +kernel
theorem dX6_cabinFor_113 : decode cX6_cabinFor 113 = .ok (.ireturn, 1) := by decide +kernel
set_option maxRecDepth 20000 in
theorem ggX6_nextTurn_X6_recallTurn : GoodIn wsX6_nextTurn wsX6_recallTurn := goodIn_r _ [10, 4, 1, 11, 12, 13, 14, 9, 15, 16, 17, 18, 19, 20, 30, 31, 32, 33, 34, 35, 36, 37, 38, 39, 40, 41, 42, 43, 44, 45, 46, 47, 48, 49, 50, 51, 52, 53, 54, 55, 56, 57, 58, 59, 60] (by decide +kernel) (by decide +kernel)
set_option maxRecDepth 20000 in
theorem gX6_nextTurn_X6_recallTurn : GoodIn wsX6_nextTurn (wsV RX6 160 RX6 yX6_recallTurn wsX6_recallTurn) := goodIn_app (goodIn_of _ (by decide +kernel)) ggX6_nextTurn_X6_recallTurn
set_option maxRecDepth 20000 in
theorem ggX6_nextTurn_X6_of : GoodIn wsX6_nextTurn wsX6_of := goodIn_r _ [19, 20, 30, 31, 32, 33, 34, 35, 36, 37, 38, 39, 40, 41, 42, 43, 44, 45, 46, 47, 48, 49, 50, 51, 52, 53, 54, 55, 56, 57, 58, 59, 60] (by decide +kernel) (by decide +kernel)
set_option maxRecDepth 20000 in
theorem gX6_nextTurn_X6_of : GoodIn wsX6_nextTurn (wsV RX6 115 RX6 yX6_of wsX6_of) := goodIn_app (goodIn_of _ (by decide +kernel)) ggX6_nextTurn_X6_of
set_option maxRecDepth 20000 in
theorem ggX6_nextTurn_X6_isAhead : GoodIn wsX6_nextTurn wsX6_isAhead := goodIn_r _ [24, 25, 26, 27, 9, 28, 29, 16, 17, 18, 19, 20, 30, 31, 32, 33, 34, 35, 36, 37, 38, 39, 40, 41, 42, 43, 44, 45, 46, 47, 48, 49, 50, 51, 52, 53, 54, 55, 56, 57, 58, 59, 60] (by decide +kernel) (by decide +kernel)
set_option maxRecDepth 20000 in
theorem gX6_nextTurn_X6_isAhead : GoodIn wsX6_nextTurn (wsV RX6 163 RX6 yX6_isAhead wsX6_isAhead) := goodIn_app (goodIn_of _ (by decide +kernel)) ggX6_nextTurn_X6_isAhead
theorem dX6_nextTurn_0 : decode cX6_nextTurn 0 = .ok (.aload_n 0, 1) := by decide +kernel
theorem dX6_nextTurn_1 : decode cX6_nextTurn 1 = .ok (.iconst (-1), 1) := by decide +kernel
theorem dX6_nextTurn_2 : decode cX6_nextTurn 2 = .ok (.putfield 157, 3) := by decide +kernel
theorem dX6_nextTurn_5 : decode cX6_nextTurn 5 = .ok (.aload_n 0, 1) := by decide +kernel
theorem dX6_nextTurn_6 : decode cX6_nextTurn 6 = .ok (.getfield 38, 3) := by decide +kernel
theorem dX6_nextTurn_9 : decode cX6_nextTurn 9 = .ok (.iload_n 1, 1) := by decide +kernel
theorem dX6_nextTurn_10 : decode cX6_nextTurn 10 = .ok (.iaload, 1) := by decide +kernel
theorem dX6_nextTurn_11 : decode cX6_nextTurn 11 = .ok (.iconst 1, 1) := by decide +kernel
theorem dX6_nextTurn_12 : decode cX6_nextTurn 12 = .ok (.if_icmp .eq 5, 3) := by decide +kernel
theorem dX6_nextTurn_15 : decode cX6_nextTurn 15 = .ok (.iconst 0, 1) := by decide +kernel
theorem dX6_nextTurn_16 : decode cX6_nextTurn 16 = .ok (.ireturn, 1) := by decide +kernel
theorem dX6_nextTurn_17 : decode cX6_nextTurn 17 = .ok (.aload_n 0, 1) := by decide +kernel
theorem dX6_nextTurn_18 : decode cX6_nextTurn 18 = .ok (.getfield 53, 3) := by decide +kernel
theorem dX6_nextTurn_21 : decode cX6_nextTurn 21 = .ok (.iload_n 1, 1) := by decide +kernel
theorem dX6_nextTurn_22 : decode cX6_nextTurn 22 = .ok (.baload, 1) := by decide +kernel
theorem dX6_nextTurn_23 : decode cX6_nextTurn 23 = .ok (.ifCond .eq 9, 3) := by decide +kernel
theorem dX6_nextTurn_26 : decode cX6_nextTurn 26 = .ok (.aload_n 0, 1) := by decide +kernel
theorem dX6_nextTurn_27 : decode cX6_nextTurn 27 = .ok (.iload_n 1, 1) := by decide +kernel
theorem dX6_nextTurn_28 : decode cX6_nextTurn 28 = .ok (.invokevirtual 160, 3) := by decide +kernel
theorem dX6_nextTurn_31 : decode cX6_nextTurn 31 = .ok (.ireturn, 1) := by decide +kernel
theorem dX6_nextTurn_32 : decode cX6_nextTurn 32 = .ok (.iconst 0, 1) := by decide +kernel
theorem dX6_nextTurn_33 : decode cX6_nextTurn 33 = .ok (.istore_n 2, 1) := by decide +kernel
theorem dX6_nextTurn_34 : decode cX6_nextTurn 34 = .ok (.iload_n 2, 1) := by decide +kernel
theorem dX6_nextTurn_35 : decode cX6_nextTurn 35 = .ok (.aload_n 0, 1) := by decide +kernel
theorem dX6_nextTurn_36 : decode cX6_nextTurn 36 = .ok (.getfield 74, 3) := by decide +kernel
theorem dX6_nextTurn_39 : decode cX6_nextTurn 39 = .ok (.if_icmp .ge 60, 3) := by decide +kernel
theorem dX6_nextTurn_42 : decode cX6_nextTurn 42 = .ok (.aload_n 0, 1) := by decide +kernel
theorem dX6_nextTurn_43 : decode cX6_nextTurn 43 = .ok (.iload_n 2, 1) := by decide +kernel
theorem dX6_nextTurn_44 : decode cX6_nextTurn 44 = .ok (.iconst 0, 1) := by decide +kernel
theorem dX6_nextTurn_45 : decode cX6_nextTurn 45 = .ok (.invokevirtual 115, 3) := by decide +kernel
theorem dX6_nextTurn_48 : decode cX6_nextTurn 48 = .ok (.iload_n 1, 1) := by decide +kernel
theorem dX6_nextTurn_49 : decode cX6_nextTurn 49 = .ok (.if_icmp .ne 44, 3) := by decide +kernel
theorem dX6_nextTurn_52 : decode cX6_nextTurn 52 = .ok (.aload_n 0, 1) := by decide +kernel
theorem dX6_nextTurn_53 : decode cX6_nextTurn 53 = .ok (.iload_n 2, 1) := by decide +kernel
theorem dX6_nextTurn_54 : decode cX6_nextTurn 54 = .ok (.iconst 4, 1) := by decide +kernel
theorem dX6_nextTurn_55 : decode cX6_nextTurn 55 = .ok (.invokevirtual 115, 3) := by decide +kernel
theorem dX6_nextTurn_58 : decode cX6_nextTurn 58 = .ok (.iconst 1, 1) := by decide +kernel
theorem dX6_nextTurn_59 : decode cX6_nextTurn 59 = .ok (.if_icmp .ne 34, 3) := by decide +kernel
theorem dX6_nextTurn_62 : decode cX6_nextTurn 62 = .ok (.aload_n 0, 1) := by decide +kernel
theorem dX6_nextTurn_63 : decode cX6_nextTurn 63 = .ok (.getfield 157, 3) := by decide +kernel
theorem dX6_nextTurn_66 : decode cX6_nextTurn 66 = .ok (.iconst (-1), 1) := by decide +kernel
theorem dX6_nextTurn_67 : decode cX6_nextTurn 67 = .ok (.if_icmp .eq 21, 3) := by decide +kernel
theorem dX6_nextTurn_70 : decode cX6_nextTurn 70 = .ok (.aload_n 0, 1) := by decide +kernel
theorem dX6_nextTurn_71 : decode cX6_nextTurn 71 = .ok (.iload_n 2, 1) := by decide +kernel
theorem dX6_nextTurn_72 : decode cX6_nextTurn 72 = .ok (.iconst 5, 1) := by decide +kernel
theorem dX6_nextTurn_73 : decode cX6_nextTurn 73 = .ok (.invokevirtual 115, 3) := by decide +kernel
theorem dX6_nextTurn_76 : decode cX6_nextTurn 76 = .ok (.aload_n 0, 1) := by decide +kernel
theorem dX6_nextTurn_77 : decode cX6_nextTurn 77 = .ok (.aload_n 0, 1) := by decide +kernel
theorem dX6_nextTurn_78 : decode cX6_nextTurn 78 = .ok (.getfield 157, 3) := by decide +kernel
theorem dX6_nextTurn_81 : decode cX6_nextTurn 81 = .ok (.iconst 5, 1) := by decide +kernel
theorem dX6_nextTurn_82 : decode cX6_nextTurn 82 = .ok (.invokevirtual 115, 3) := by decide +kernel
theorem dX6_nextTurn_85 : decode cX6_nextTurn 85 = .ok (.if_icmp .ge 8, 3) := by decide +kernel
theorem dX6_nextTurn_88 : decode cX6_nextTurn 88 = .ok (.aload_n 0, 1) := by decide +kernel
theorem dX6_nextTurn_89 : decode cX6_nextTurn 89 = .ok (.iload_n 2, 1) := by decide +kernel
theorem dX6_nextTurn_90 : decode cX6_nextTurn 90 = .ok (.putfield 157, 3) := by decide +kernel
theorem dX6_nextTurn_93 : decode cX6_nextTurn 93 = .ok (.iinc 2 1, 3) := by decide +kernel
theorem dX6_nextTurn_96 : decode cX6_nextTurn 96 = .ok (.goto (-62), 3) := by decide +kernel
theorem dX6_nextTurn_99 : decode cX6_nextTurn 99 = .ok (.aload_n 0, 1) := by decide +kernel
theorem dX6_nextTurn_100 : decode cX6_nextTurn 100 = .ok (.getfield 157, 3) := by decide +kernel
theorem dX6_nextTurn_103 : decode cX6_nextTurn 103 = .ok (.iconst (-1), 1) := by decide +kernel
theorem dX6_nextTurn_104 : decode cX6_nextTurn 104 = .ok (.if_icmp .eq 5, 3) := by decide +kernel
theorem dX6_nextTurn_107 : decode cX6_nextTurn 107 = .ok (.iconst 1, 1) := by decide +kernel
theorem dX6_nextTurn_108 : decode cX6_nextTurn 108 = .ok (.ireturn, 1) := by decide +kernel
theorem dX6_nextTurn_109 : decode cX6_nextTurn 109 = .ok (.aload_n 0, 1) := by decide +kernel
theorem dX6_nextTurn_110 : decode cX6_nextTurn 110 = .ok (.getfield 47, 3) := by decide +kernel
theorem dX6_nextTurn_113 : decode cX6_nextTurn 113 = .ok (.iload_n 1, 1) := by decide +kernel
theorem dX6_nextTurn_114 : decode cX6_nextTurn 114 = .ok (.iaload, 1) := by decide +kernel
theorem dX6_nextTurn_115 : decode cX6_nextTurn 115 = .ok (.iconst (-1), 1) := by decide +kernel
theorem dX6_nextTurn_116 : decode cX6_nextTurn 116 = .ok (.if_icmp .eq 15, 3) := by decide +kernel
theorem dX6_nextTurn_119 : decode cX6_nextTurn 119 = .ok (.aload_n 0, 1) := by decide +kernel
theorem dX6_nextTurn_120 : decode cX6_nextTurn 120 = .ok (.aload_n 0, 1) := by decide +kernel
theorem dX6_nextTurn_121 : decode cX6_nextTurn 121 = .ok (.getfield 47, 3) := by decide +kernel
theorem dX6_nextTurn_124 : decode cX6_nextTurn 124 = .ok (.iload_n 1, 1) := by decide +kernel
theorem dX6_nextTurn_125 : decode cX6_nextTurn 125 = .ok (.iaload, 1) := by decide +kernel
theorem dX6_nextTurn_126 : decode cX6_nextTurn 126 = .ok (.putfield 157, 3) := by decide +kernel
theorem dX6_nextTurn_129 : decode cX6_nextTurn 129 = .ok (.iconst 2, 1) := by decide +kernel
theorem dX6_nextTurn_130 : decode cX6_nextTurn 130 = .ok (.ireturn, 1) := by decide +kernel
theorem dX6_nextTurn_131 : decode cX6_nextTurn 131 = .ok (.iconst 0, 1) := by decide +kernel
theorem dX6_nextTurn_132 : decode cX6_nextTurn 132 = .ok (.istore_n 2, 1) := by decide +kernel
theorem dX6_nextTurn_133 : decode cX6_nextTurn 133 = .ok (.iload_n 2, 1) := by decide +kernel
theorem dX6_nextTurn_134 : decode cX6_nextTurn 134 = .ok (.aload_n 0, 1) := by decide +kernel
theorem dX6_nextTurn_135 : decode cX6_nextTurn 135 = .ok (.getfield 74, 3) := by decide +kernel
theorem dX6_nextTurn_138 : decode cX6_nextTurn 138 = .ok (.if_icmp .ge 55, 3) := by decide +kernel
theorem dX6_nextTurn_141 : decode cX6_nextTurn 141 = .ok (.aload_n 0, 1) := by decide +kernel
theorem dX6_nextTurn_142 : decode cX6_nextTurn 142 = .ok (.iload_n 2, 1) := by decide +kernel
theorem dX6_nextTurn_143 : decode cX6_nextTurn 143 = .ok (.iconst 0, 1) := by decide +kernel
theorem dX6_nextTurn_144 : decode cX6_nextTurn 144 = .ok (.invokevirtual 115, 3) := by decide +kernel
theorem dX6_nextTurn_147 : decode cX6_nextTurn 147 = .ok (.iload_n 1, 1) := by decide +kernel
theorem dX6_nextTurn_148 : decode cX6_nextTurn 148 = .ok (.if_icmp .ne 39, 3) := by decide +kernel
theorem dX6_nextTurn_151 : decode cX6_nextTurn 151 = .ok (.aload_n 0, 1) := by decide +kernel
theorem dX6_nextTurn_152 : decode cX6_nextTurn 152 = .ok (.iload_n 2, 1) := by decide +kernel
theorem dX6_nextTurn_153 : decode cX6_nextTurn 153 = .ok (.iconst 4, 1) := by decide +kernel
theorem dX6_nextTurn_154 : decode cX6_nextTurn 154 = .ok (.invokevirtual 115, 3) := by decide +kernel
theorem dX6_nextTurn_157 : decode cX6_nextTurn 157 = .ok (.iconst 2, 1) := by decide +kernel
theorem dX6_nextTurn_158 : decode cX6_nextTurn 158 = .ok (.if_icmp .ne 29, 3) := by decide +kernel
theorem dX6_nextTurn_161 : decode cX6_nextTurn 161 = .ok (.aload_n 0, 1) := by decide +kernel
theorem dX6_nextTurn_162 : decode cX6_nextTurn 162 = .ok (.getfield 157, 3) := by decide +kernel
theorem dX6_nextTurn_165 : decode cX6_nextTurn 165 = .ok (.iconst (-1), 1) := by decide +kernel
theorem dX6_nextTurn_166 : decode cX6_nextTurn 166 = .ok (.if_icmp .eq 16, 3) := by decide +kernel
theorem dX6_nextTurn_169 : decode cX6_nextTurn 169 = .ok (.aload_n 0, 1) := by decide +kernel
theorem dX6_nextTurn_170 : decode cX6_nextTurn 170 = .ok (.iload_n 2, 1) := by decide +kernel
theorem dX6_nextTurn_171 : decode cX6_nextTurn 171 = .ok (.aload_n 0, 1) := by decide +kernel
theorem dX6_nextTurn_172 : decode cX6_nextTurn 172 = .ok (.getfield 157, 3) := by decide +kernel
theorem dX6_nextTurn_175 : decode cX6_nextTurn 175 = .ok (.iload_n 1, 1) := by decide +kernel
theorem dX6_nextTurn_176 : decode cX6_nextTurn 176 = .ok (.invokevirtual 163, 3) := by decide +kernel
theorem dX6_nextTurn_179 : decode cX6_nextTurn 179 = .ok (.ifCond .eq 8, 3) := by decide +kernel
theorem dX6_nextTurn_182 : decode cX6_nextTurn 182 = .ok (.aload_n 0, 1) := by decide +kernel
theorem dX6_nextTurn_183 : decode cX6_nextTurn 183 = .ok (.iload_n 2, 1) := by decide +kernel
theorem dX6_nextTurn_184 : decode cX6_nextTurn 184 = .ok (.putfield 157, 3) := by decide +kernel
theorem dX6_nextTurn_187 : decode cX6_nextTurn 187 = .ok (.iinc 2 1, 3) := by decide +kernel
theorem dX6_nextTurn_190 : decode cX6_nextTurn 190 = .ok (.goto (-57), 3) := by decide +kernel
theorem dX6_nextTurn_193 : decode cX6_nextTurn 193 = .ok (.aload_n 0, 1) := by decide +kernel
theorem dX6_nextTurn_194 : decode cX6_nextTurn 194 = .ok (.getfield 157, 3) := by decide +kernel
theorem dX6_nextTurn_197 : decode cX6_nextTurn 197 = .ok (.iconst (-1), 1) := by decide +kernel
theorem dX6_nextTurn_198 : decode cX6_nextTurn 198 = .ok (.if_icmp .ne 7, 3) := by decide +kernel
theorem dX6_nextTurn_201 : decode cX6_nextTurn 201 = .ok (.iconst 0, 1) := by decide +kernel
theorem dX6_nextTurn_202 : decode cX6_nextTurn 202 = .ok (.goto 4, 3) := by decide +kernel
theorem dX6_nextTurn_205 : decode cX6_nextTurn 205 = .ok (.iconst 3, 1) := by decide +kernel
theorem dX6_nextTurn_206 : decode cX6_nextTurn 206 = .ok (.ireturn, 1) := by decide +kernel
set_option maxRecDepth 20000 in
theorem ggX6_recallTurn_X6_isAboard : GoodIn wsX6_recallTurn wsX6_isAboard := goodIn_r _ [8, 9, 10, 11, 7, 12, 13, 14, 15, 16, 17, 18, 19, 20, 21, 22, 23, 24, 25, 26, 27, 28, 29, 30, 31, 32, 33, 34, 35, 36, 37, 38, 39, 40, 41, 42, 43, 44] (by decide +kernel) (by decide +kernel)
set_option maxRecDepth 20000 in
theorem gX6_recallTurn_X6_isAboard : GoodIn wsX6_recallTurn (wsV RX6 130 RX6 yX6_isAboard wsX6_isAboard) := goodIn_app (goodIn_of _ (by decide +kernel)) ggX6_recallTurn_X6_isAboard
set_option maxRecDepth 20000 in
theorem ggX6_recallTurn_X6_of : GoodIn wsX6_recallTurn wsX6_of := goodIn_r _ [12, 13, 14, 15, 16, 17, 18, 19, 20, 21, 22, 23, 24, 25, 26, 27, 28, 29, 30, 31, 32, 33, 34, 35, 36, 37, 38, 39, 40, 41, 42, 43, 44] (by decide +kernel) (by decide +kernel)
set_option maxRecDepth 20000 in
theorem gX6_recallTurn_X6_of : GoodIn wsX6_recallTurn (wsV RX6 115 RX6 yX6_of wsX6_of) := goodIn_app (goodIn_of _ (by decide +kernel)) ggX6_recallTurn_X6_of
theorem dX6_recallTurn_0 : decode cX6_recallTurn 0 = .ok (.iconst 0, 1) := by decide +kernel
theorem dX6_recallTurn_1 : decode cX6_recallTurn 1 = .ok (.istore_n 2, 1) := by decide +kernel
theorem dX6_recallTurn_2 : decode cX6_recallTurn 2 = .ok (.iload_n 2, 1) := by decide +kernel
theorem dX6_recallTurn_3 : decode cX6_recallTurn 3 = .ok (.aload_n 0, 1) := by decide +kernel
theorem dX6_recallTurn_4 : decode cX6_recallTurn 4 = .ok (.getfield 74, 3) := by decide +kernel
theorem dX6_recallTurn_7 : decode cX6_recallTurn 7 = .ok (.if_icmp .ge 49, 3) := by decide +kernel
theorem dX6_recallTurn_10 : decode cX6_recallTurn 10 = .ok (.aload_n 0, 1) := by decide +kernel
theorem dX6_recallTurn_11 : decode cX6_recallTurn 11 = .ok (.iload_n 2, 1) := by decide +kernel
theorem dX6_recallTurn_12 : decode cX6_recallTurn 12 = .ok (.iload_n 1, 1) := by decide +kernel
theorem dX6_recallTurn_13 : decode cX6_recallTurn 13 = .ok (.invokevirtual 130, 3) := by decide +kernel
theorem dX6_recallTurn_16 : decode cX6_recallTurn 16 = .ok (.ifCond .eq 34, 3) := by decide +kernel
theorem dX6_recallTurn_19 : decode cX6_recallTurn 19 = .ok (.aload_n 0, 1) := by decide +kernel
theorem dX6_recallTurn_20 : decode cX6_recallTurn 20 = .ok (.getfield 157, 3) := by decide +kernel
theorem dX6_recallTurn_23 : decode cX6_recallTurn 23 = .ok (.iconst (-1), 1) := by decide +kernel
theorem dX6_recallTurn_24 : decode cX6_recallTurn 24 = .ok (.if_icmp .eq 21, 3) := by decide +kernel
theorem dX6_recallTurn_27 : decode cX6_recallTurn 27 = .ok (.aload_n 0, 1) := by decide +kernel
theorem dX6_recallTurn_28 : decode cX6_recallTurn 28 = .ok (.getfield 59, 3) := by decide +kernel
theorem dX6_recallTurn_31 : decode cX6_recallTurn 31 = .ok (.iload_n 2, 1) := by decide +kernel
theorem dX6_recallTurn_32 : decode cX6_recallTurn 32 = .ok (.iaload, 1) := by decide +kernel
theorem dX6_recallTurn_33 : decode cX6_recallTurn 33 = .ok (.aload_n 0, 1) := by decide +kernel
theorem dX6_recallTurn_34 : decode cX6_recallTurn 34 = .ok (.getfield 59, 3) := by decide +kernel
theorem dX6_recallTurn_37 : decode cX6_recallTurn 37 = .ok (.aload_n 0, 1) := by decide +kernel
theorem dX6_recallTurn_38 : decode cX6_recallTurn 38 = .ok (.getfield 157, 3) := by decide +kernel
theorem dX6_recallTurn_41 : decode cX6_recallTurn 41 = .ok (.iaload, 1) := by decide +kernel
theorem dX6_recallTurn_42 : decode cX6_recallTurn 42 = .ok (.if_icmp .le 8, 3) := by decide +kernel
theorem dX6_recallTurn_45 : decode cX6_recallTurn 45 = .ok (.aload_n 0, 1) := by decide +kernel
theorem dX6_recallTurn_46 : decode cX6_recallTurn 46 = .ok (.iload_n 2, 1) := by decide +kernel
theorem dX6_recallTurn_47 : decode cX6_recallTurn 47 = .ok (.putfield 157, 3) := by decide +kernel
theorem dX6_recallTurn_50 : decode cX6_recallTurn 50 = .ok (.iinc 2 1, 3) := by decide +kernel
theorem dX6_recallTurn_53 : decode cX6_recallTurn 53 = .ok (.goto (-51), 3) := by decide +kernel
theorem dX6_recallTurn_56 : decode cX6_recallTurn 56 = .ok (.aload_n 0, 1) := by decide +kernel
theorem dX6_recallTurn_57 : decode cX6_recallTurn 57 = .ok (.getfield 157, 3) := by decide +kernel
theorem dX6_recallTurn_60 : decode cX6_recallTurn 60 = .ok (.iconst (-1), 1) := by decide +kernel
theorem dX6_recallTurn_61 : decode cX6_recallTurn 61 = .ok (.if_icmp .eq 5, 3) := by decide +kernel
theorem dX6_recallTurn_64 : decode cX6_recallTurn 64 = .ok (.iconst 4, 1) := by decide +kernel
theorem dX6_recallTurn_65 : decode cX6_recallTurn 65 = .ok (.ireturn, 1) := by decide +kernel
theorem dX6_recallTurn_66 : decode cX6_recallTurn 66 = .ok (.aload_n 0, 1) := by decide +kernel
theorem dX6_recallTurn_67 : decode cX6_recallTurn 67 = .ok (.getfield 74, 3) := by decide +kernel
theorem dX6_recallTurn_70 : decode cX6_recallTurn 70 = .ok (.iconst 1, 1) := by decide +kernel
theorem dX6_recallTurn_71 : decode cX6_recallTurn 71 = .ok (.isub, 1) := by decide +kernel
theorem dX6_recallTurn_72 : decode cX6_recallTurn 72 = .ok (.istore_n 2, 1) := by decide +kernel
theorem dX6_recallTurn_73 : decode cX6_recallTurn 73 = .ok (.iload_n 2, 1) := by decide +kernel
theorem dX6_recallTurn_74 : decode cX6_recallTurn 74 = .ok (.ifCond .lt 50, 3) := by decide +kernel
theorem dX6_recallTurn_77 : decode cX6_recallTurn 77 = .ok (.aload_n 0, 1) := by decide +kernel
theorem dX6_recallTurn_78 : decode cX6_recallTurn 78 = .ok (.iload_n 2, 1) := by decide +kernel
theorem dX6_recallTurn_79 : decode cX6_recallTurn 79 = .ok (.iconst 4, 1) := by decide +kernel
theorem dX6_recallTurn_80 : decode cX6_recallTurn 80 = .ok (.invokevirtual 115, 3) := by decide +kernel
theorem dX6_recallTurn_83 : decode cX6_recallTurn 83 = .ok (.istore_n 3, 1) := by decide +kernel
theorem dX6_recallTurn_84 : decode cX6_recallTurn 84 = .ok (.aload_n 0, 1) := by decide +kernel
theorem dX6_recallTurn_85 : decode cX6_recallTurn 85 = .ok (.iload_n 2, 1) := by decide +kernel
theorem dX6_recallTurn_86 : decode cX6_recallTurn 86 = .ok (.iconst 0, 1) := by decide +kernel
theorem dX6_recallTurn_87 : decode cX6_recallTurn 87 = .ok (.invokevirtual 115, 3) := by decide +kernel
theorem dX6_recallTurn_90 : decode cX6_recallTurn 90 = .ok (.iload_n 1, 1) := by decide +kernel
theorem dX6_recallTurn_91 : decode cX6_recallTurn 91 = .ok (.if_icmp .ne 27, 3) := by decide +kernel
theorem dX6_recallTurn_94 : decode cX6_recallTurn 94 = .ok (.iload_n 3, 1) := by decide +kernel
theorem dX6_recallTurn_95 : decode cX6_recallTurn 95 = .ok (.ifCond .eq 18, 3) := by decide +kernel
theorem dX6_recallTurn_98 : decode cX6_recallTurn 98 = .ok (.iload_n 3, 1) := by decide +kernel
theorem dX6_recallTurn_99 : decode cX6_recallTurn 99 = .ok (.iconst 1, 1) := by decide +kernel
theorem dX6_recallTurn_100 : decode cX6_recallTurn 100 = .ok (.if_icmp .eq 13, 3) := by decide +kernel
theorem dX6_recallTurn_103 : decode cX6_recallTurn 103 = .ok (.iload_n 3, 1) := by decide +kernel
theorem dX6_recallTurn_104 : decode cX6_recallTurn 104 = .ok (.iconst 2, 1) := by decide +kernel
theorem dX6_recallTurn_105 : decode cX6_recallTurn 105 = .ok (.if_icmp .eq 8, 3) := by decide +kernel
theorem dX6_recallTurn_108 : decode cX6_recallTurn 108 = .ok (.iload_n 3, 1) := by decide +kernel
theorem dX6_recallTurn_109 : decode cX6_recallTurn 109 = .ok (.iconst 4, 1) := by decide +kernel
theorem dX6_recallTurn_110 : decode cX6_recallTurn 110 = .ok (.if_icmp .ne 8, 3) := by decide +kernel
theorem dX6_recallTurn_113 : decode cX6_recallTurn 113 = .ok (.aload_n 0, 1) := by decide +kernel
theorem dX6_recallTurn_114 : decode cX6_recallTurn 114 = .ok (.iload_n 2, 1) := by decide +kernel
theorem dX6_recallTurn_115 : decode cX6_recallTurn 115 = .ok (.putfield 157, 3) := by decide +kernel
theorem dX6_recallTurn_118 : decode cX6_recallTurn 118 = .ok (.iinc 2 (-1), 3) := by decide +kernel
theorem dX6_recallTurn_121 : decode cX6_recallTurn 121 = .ok (.goto (-48), 3) := by decide +kernel
theorem dX6_recallTurn_124 : decode cX6_recallTurn 124 = .ok (.aload_n 0, 1) := by decide +kernel
theorem dX6_recallTurn_125 : decode cX6_recallTurn 125 = .ok (.getfield 157, 3) := by decide +kernel
theorem dX6_recallTurn_128 : decode cX6_recallTurn 128 = .ok (.iconst (-1), 1) := by decide +kernel
theorem dX6_recallTurn_129 : decode cX6_recallTurn 129 = .ok (.if_icmp .ne 7, 3) := by decide +kernel
theorem dX6_recallTurn_132 : decode cX6_recallTurn 132 = .ok (.iconst 0, 1) := by decide +kernel
theorem dX6_recallTurn_133 : decode cX6_recallTurn 133 = .ok (.goto 4, 3) := by decide +kernel
theorem dX6_recallTurn_136 : decode cX6_recallTurn 136 = .ok (.iconst 5, 1) := by decide +kernel
theorem dX6_recallTurn_137 : decode cX6_recallTurn 137 = .ok (.ireturn, 1) := by decide +kernel
set_option maxRecDepth 20000 in
theorem ggX6_hasTurn_X6_nextTurn : GoodIn wsX6_hasTurn wsX6_nextTurn := goodIn_r _ [5, 6, 7, 8, 9, 10, 11, 12, 13, 4, 14, 15, 16, 17, 18, 19, 20, 21, 22, 23, 24, 25, 26, 27, 28, 29, 30, 31, 32, 33, 34, 35, 36, 37, 38, 39, 40, 41, 42, 43, 44, 45, 46, 47, 48, 49, 50, 51, 52, 53, 54, 55, 56, 57, 58, 59, 60, 61, 62, 63, 64] (by decide +kernel) (by decide +kernel)
set_option maxRecDepth 20000 in
theorem gX6_hasTurn_X6_nextTurn : GoodIn wsX6_hasTurn (wsV RX6 166 RX6 yX6_nextTurn wsX6_nextTurn) := goodIn_app (goodIn_of _ (by decide +kernel)) ggX6_hasTurn_X6_nextTurn
theorem dX6_hasTurn_0 : decode cX6_hasTurn 0 = .ok (.aload_n 0, 1) := by decide +kernel
theorem dX6_hasTurn_1 : decode cX6_hasTurn 1 = .ok (.iload_n 1, 1) := by decide +kernel
theorem dX6_hasTurn_2 : decode cX6_hasTurn 2 = .ok (.invokevirtual 166, 3) := by decide +kernel
theorem dX6_hasTurn_5 : decode cX6_hasTurn 5 = .ok (.ifCond .eq 7, 3) := by decide +kernel
theorem dX6_hasTurn_8 : decode cX6_hasTurn 8 = .ok (.iconst 1, 1) := by decide +kernel
theorem dX6_hasTurn_9 : decode cX6_hasTurn 9 = .ok (.goto 4, 3) := by decide +kernel
theorem dX6_hasTurn_12 : decode cX6_hasTurn 12 = .ok (.iconst 0, 1) := by decide +kernel
theorem dX6_hasTurn_13 : decode cX6_hasTurn 13 = .ok (.ireturn, 1) := by decide +kernel
set_option maxRecDepth 20000 in
theorem ggX6_isLate_X6_of : GoodIn wsX6_isLate wsX6_of := goodIn_r _ [6, 7, 8, 9, 10, 11, 12, 13, 14, 15, 16, 17, 18, 19, 20, 21, 22, 23, 24, 25, 26, 27, 28, 29, 30, 31, 32, 33, 34, 35, 36, 37, 38] (by decide +kernel) (by decide +kernel)
set_option maxRecDepth 20000 in
theorem gX6_isLate_X6_of : GoodIn wsX6_isLate (wsV RX6 115 RX6 yX6_of wsX6_of) := goodIn_app (goodIn_of _ (by decide +kernel)) ggX6_isLate_X6_of
theorem dX6_isLate_0 : decode cX6_isLate 0 = .ok (.aload_n 0, 1) := by decide +kernel
theorem dX6_isLate_1 : decode cX6_isLate 1 = .ok (.iload_n 1, 1) := by decide +kernel
theorem dX6_isLate_2 : decode cX6_isLate 2 = .ok (.iconst 5, 1) := by decide +kernel
theorem dX6_isLate_3 : decode cX6_isLate 3 = .ok (.invokevirtual 115, 3) := by decide +kernel
theorem dX6_isLate_6 : decode cX6_isLate 6 = .ok (.aload_n 0, 1) := by decide +kernel
theorem dX6_isLate_7 : decode cX6_isLate 7 = .ok (.getfield 32, 3) := by decide +kernel
theorem dX6_isLate_10 : decode cX6_isLate 10 = .ok (.iload_n 2, 1) := by decide +kernel
theorem dX6_isLate_11 : decode cX6_isLate 11 = .ok (.iaload, 1) := by decide +kernel
theorem dX6_isLate_12 : decode cX6_isLate 12 = .ok (.bipush 30, 2) := by decide +kernel
theorem dX6_isLate_14 : decode cX6_isLate 14 = .ok (.isub, 1) := by decide +kernel
theorem dX6_isLate_15 : decode cX6_isLate 15 = .ok (.if_icmp .le 7, 3) := by decide +kernel
theorem dX6_isLate_18 : decode cX6_isLate 18 = .ok (.iconst 1, 1) := by decide +kernel
theorem dX6_isLate_19 : decode cX6_isLate 19 = .ok (.goto 4, 3) := by decide +kernel
theorem dX6_isLate_22 : decode cX6_isLate 22 = .ok (.iconst 0, 1) := by decide +kernel
theorem dX6_isLate_23 : decode cX6_isLate 23 = .ok (.ireturn, 1) := by decide +kernel
set_option maxRecDepth 20000 in
theorem ggX6_isAhead_X6_isLate : GoodIn wsX6_isAhead wsX6_isLate := goodIn_r _ [5, 6, 7, 8, 9, 4, 10, 11, 12, 13, 14, 15, 16, 17, 18, 19, 20, 21, 22, 23, 24, 25, 26, 27, 28, 29, 30, 31, 32, 33, 34, 35, 36, 37, 38, 39, 40, 41, 42] (by decide +kernel) (by decide +kernel)
set_option maxRecDepth 20000 in
theorem gX6_isAhead_X6_isLate : GoodIn wsX6_isAhead (wsV RX6 169 RX6 yX6_isLate wsX6_isLate) := goodIn_app (goodIn_of _ (by decide +kernel)) ggX6_isAhead_X6_isLate
set_option maxRecDepth 20000 in
theorem ggX6_isAhead_X6_of : GoodIn wsX6_isAhead wsX6_of := goodIn_r _ [10, 11, 12, 13, 14, 15, 16, 17, 18, 19, 20, 21, 22, 23, 24, 25, 26, 27, 28, 29, 30, 31, 32, 33, 34, 35, 36, 37, 38, 39, 40, 41, 42] (by decide +kernel) (by decide +kernel)
set_option maxRecDepth 20000 in
theorem gX6_isAhead_X6_of : GoodIn wsX6_isAhead (wsV RX6 115 RX6 yX6_of wsX6_of) := goodIn_app (goodIn_of _ (by decide +kernel)) ggX6_isAhead_X6_of
theorem dX6_isAhead_0 : decode cX6_isAhead 0 = .ok (.aload_n 0, 1) := by decide +kernel
theorem dX6_isAhead_1 : decode cX6_isAhead 1 = .ok (.iload_n 1, 1) := by decide +kernel
theorem dX6_isAhead_2 : decode cX6_isAhead 2 = .ok (.iload_n 3, 1) := by decide +kernel
theorem dX6_isAhead_3 : decode cX6_isAhead 3 = .ok (.invokevirtual 169, 3) := by decide +kernel
theorem dX6_isAhead_6 : decode cX6_isAhead 6 = .ok (.aload_n 0, 1) := by decide +kernel
theorem dX6_isAhead_7 : decode cX6_isAhead 7 = .ok (.iload_n 2, 1) := by decide +kernel
theorem dX6_isAhead_8 : decode cX6_isAhead 8 = .ok (.iload_n 3, 1) := by decide +kernel
theorem dX6_isAhead_9 : decode cX6_isAhead 9 = .ok (.invokevirtual 169, 3) := by decide +kernel
theorem dX6_isAhead_12 : decode cX6_isAhead 12 = .ok (.if_icmp .eq 10, 3) := by decide +kernel
theorem dX6_isAhead_15 : decode cX6_isAhead 15 = .ok (.aload_n 0, 1) := by decide +kernel
theorem dX6_isAhead_16 : decode cX6_isAhead 16 = .ok (.iload_n 2, 1) := by decide +kernel
theorem dX6_isAhead_17 : decode cX6_isAhead 17 = .ok (.iload_n 3, 1) := by decide +kernel
theorem dX6_isAhead_18 : decode cX6_isAhead 18 = .ok (.invokevirtual 169, 3) := by decide +kernel
theorem dX6_isAhead_21 : decode cX6_isAhead 21 = .ok (.ireturn, 1) := by decide +kernel
theorem dX6_isAhead_22 : decode cX6_isAhead 22 = .ok (.aload_n 0, 1) := by decide +kernel
theorem dX6_isAhead_23 : decode cX6_isAhead 23 = .ok (.iload_n 1, 1) := by decide +kernel
theorem dX6_isAhead_24 : decode cX6_isAhead 24 = .ok (.iconst 2, 1) := by decide +kernel
theorem dX6_isAhead_25 : decode cX6_isAhead 25 = .ok (.invokevirtual 115, 3) := by decide +kernel
theorem dX6_isAhead_28 : decode cX6_isAhead 28 = .ok (.aload_n 0, 1) := by decide +kernel
theorem dX6_isAhead_29 : decode cX6_isAhead 29 = .ok (.iload_n 2, 1) := by decide +kernel
theorem dX6_isAhead_30 : decode cX6_isAhead 30 = .ok (.iconst 2, 1) := by decide +kernel
theorem dX6_isAhead_31 : decode cX6_isAhead 31 = .ok (.invokevirtual 115, 3) := by decide +kernel
theorem dX6_isAhead_34 : decode cX6_isAhead 34 = .ok (.if_icmp .le 7, 3) := by decide +kernel
theorem dX6_isAhead_37 : decode cX6_isAhead 37 = .ok (.iconst 1, 1) := by decide +kernel
theorem dX6_isAhead_38 : decode cX6_isAhead 38 = .ok (.goto 4, 3) := by decide +kernel
theorem dX6_isAhead_41 : decode cX6_isAhead 41 = .ok (.iconst 0, 1) := by decide +kernel
theorem dX6_isAhead_42 : decode cX6_isAhead 42 = .ok (.ireturn, 1) := by decide +kernel
theorem dX6_write_0 : decode cX6_write 0 = .ok (.aload_n 0, 1) := by decide +kernel
theorem dX6_write_1 : decode cX6_write 1 = .ok (.getfield 172, 3) := by decide +kernel
theorem dX6_write_4 : decode cX6_write 4 = .ok (.sipush 3000, 3) := by decide +kernel
theorem dX6_write_7 : decode cX6_write 7 = .ok (.if_icmp .ge 33, 3) := by decide +kernel
theorem dX6_write_10 : decode cX6_write 10 = .ok (.aload_n 0, 1) := by decide +kernel
theorem dX6_write_11 : decode cX6_write 11 = .ok (.getfield 62, 3) := by decide +kernel
theorem dX6_write_14 : decode cX6_write 14 = .ok (.aload_n 0, 1) := by decide +kernel
theorem dX6_write_15 : decode cX6_write 15 = .ok (.getfield 172, 3) := by decide +kernel
theorem dX6_write_18 : decode cX6_write 18 = .ok (.iload_n 1, 1) := by decide +kernel
theorem dX6_write_19 : decode cX6_write 19 = .ok (.iastore, 1) := by decide +kernel
theorem dX6_write_20 : decode cX6_write 20 = .ok (.aload_n 0, 1) := by decide +kernel
theorem dX6_write_21 : decode cX6_write 21 = .ok (.getfield 65, 3) := by decide +kernel
theorem dX6_write_24 : decode cX6_write 24 = .ok (.aload_n 0, 1) := by decide +kernel
theorem dX6_write_25 : decode cX6_write 25 = .ok (.getfield 172, 3) := by decide +kernel
theorem dX6_write_28 : decode cX6_write 28 = .ok (.iload_n 2, 1) := by decide +kernel
theorem dX6_write_29 : decode cX6_write 29 = .ok (.iastore, 1) := by decide +kernel
theorem dX6_write_30 : decode cX6_write 30 = .ok (.aload_n 0, 1) := by decide +kernel
theorem dX6_write_31 : decode cX6_write 31 = .ok (.getfield 68, 3) := by decide +kernel
theorem dX6_write_34 : decode cX6_write 34 = .ok (.aload_n 0, 1) := by decide +kernel
theorem dX6_write_35 : decode cX6_write 35 = .ok (.getfield 172, 3) := by decide +kernel
theorem dX6_write_38 : decode cX6_write 38 = .ok (.iload_n 3, 1) := by decide +kernel
theorem dX6_write_39 : decode cX6_write 39 = .ok (.iastore, 1) := by decide +kernel
theorem dX6_write_40 : decode cX6_write 40 = .ok (.aload_n 0, 1) := by decide +kernel
theorem dX6_write_41 : decode cX6_write 41 = .ok (.dup, 1) := by decide +kernel
theorem dX6_write_42 : decode cX6_write 42 = .ok (.getfield 172, 3) := by decide +kernel
theorem dX6_write_45 : decode cX6_write 45 = .ok (.iconst 1, 1) := by decide +kernel
theorem dX6_write_46 : decode cX6_write 46 = .ok (.iadd, 1) := by decide +kernel
theorem dX6_write_47 : decode cX6_write 47 = .ok (.putfield 172, 3) := by decide +kernel
theorem dX6_write_50 : decode cX6_write 50 = .ok (.aload_n 0, 1) := by decide +kernel
theorem dX6_write_51 : decode cX6_write 51 = .ok (.getfield 41, 3) := by decide +kernel
theorem dX6_write_54 : decode cX6_write 54 = .ok (.iload_n 3, 1) := by decide +kernel
theorem dX6_write_55 : decode cX6_write 55 = .ok (.dup2, 1) := by decide +kernel
theorem dX6_write_56 : decode cX6_write 56 = .ok (.iaload, 1) := by decide +kernel
theorem dX6_write_57 : decode cX6_write 57 = .ok (.iconst 1, 1) := by decide +kernel
theorem dX6_write_58 : decode cX6_write 58 = .ok (.iadd, 1) := by decide +kernel
theorem dX6_write_59 : decode cX6_write 59 = .ok (.iastore, 1) := by decide +kernel
theorem dX6_write_60 : decode cX6_write 60 = .ok (.return_, 1) := by decide +kernel
set_option maxRecDepth 20000 in
theorem ggX6_turn_X6_nextTurn : GoodIn wsX6_turn wsX6_nextTurn := goodIn_r _ [9, 1, 10, 11, 12, 2, 13, 14, 15, 8, 16, 17, 18, 19, 20, 21, 22, 23, 24, 25, 26, 27, 28, 29, 30, 31, 32, 33, 34, 35, 108, 109, 110, 111, 112, 113, 114, 115, 116, 117, 118, 119, 120, 121, 122, 123, 124, 125, 126, 127, 128, 129, 130, 131, 132, 133, 134, 135, 136, 137, 138] (by decide +kernel) (by decide +kernel)
set_option maxRecDepth 20000 in
theorem gX6_turn_X6_nextTurn : GoodIn wsX6_turn (wsV RX6 166 RX6 yX6_nextTurn wsX6_nextTurn) := goodIn_app (goodIn_of _ (by decide +kernel)) ggX6_turn_X6_nextTurn
set_option maxRecDepth 20000 in
theorem ggX6_turn_X6_put : GoodIn wsX6_turn wsX6_put := goodIn_r _ [39, 26, 108, 109, 110, 111, 112, 113, 114, 115, 116, 117, 118, 119, 120, 121, 122, 123, 124, 125, 126, 127, 128, 129, 130, 131, 132, 133, 134, 135, 136, 137, 138] (by decide +kernel) (by decide +kernel)
set_option maxRecDepth 20000 in
theorem gX6_turn_X6_put : GoodIn wsX6_turn (wsV RX6 108 RX6 yX6_put wsX6_put) := goodIn_app (goodIn_of _ (by decide +kernel)) ggX6_turn_X6_put
set_option maxRecDepth 20000 in
theorem ggX6_turn_X6_write : GoodIn wsX6_turn wsX6_write := goodIn_r _ [43, 44, 45, 46, 47, 48, 108, 109, 110, 111, 112, 113, 114, 115, 116, 117, 118, 119, 120, 121, 122, 123, 124, 125, 126, 127, 128, 129, 130, 131, 132, 133, 134, 135, 136, 137, 138] (by decide +kernel) (by decide +kernel)
set_option maxRecDepth 20000 in
theorem gX6_turn_X6_write : GoodIn wsX6_turn (wsV RX6 175 RX6 yX6_write wsX6_write) := goodIn_app (goodIn_of _ (by decide +kernel)) ggX6_turn_X6_write
set_option maxRecDepth 20000 in
theorem ggX6_turn_X6_goesOn : GoodIn wsX6_turn wsX6_goesOn := goodIn_r _ [52, 3, 2, 40, 41, 42, 8, 43, 44, 45, 46, 47, 48, 53, 54, 55, 56, 57, 58, 59, 60, 12, 22, 23, 24, 25, 26, 18, 19, 20, 21, 36, 37, 38, 39, 108, 109, 110, 111, 112, 113, 114, 115, 116, 117, 118, 119, 120, 121, 122, 123, 124, 125, 126, 127, 128, 129, 130, 131, 132, 133, 134, 135, 136, 137, 138] (by decide +kernel) (by decide +kernel)
set_option maxRecDepth 20000 in
theorem gX6_turn_X6_goesOn : GoodIn wsX6_turn (wsV RX6 178 RX6 yX6_goesOn wsX6_goesOn) := goodIn_app (goodIn_of _ (by decide +kernel)) ggX6_turn_X6_goesOn
set_option maxRecDepth 20000 in
theorem ggX6_turn_X6_boards : GoodIn wsX6_turn wsX6_boards := goodIn_r _ [64, 59, 65, 66, 67, 68, 17, 69, 22, 23, 24, 8, 25, 26, 70, 71, 72, 73, 74, 12, 18, 19, 20, 21, 75, 76, 77, 78, 79, 80, 81, 82, 83, 84, 85, 36, 37, 38, 39, 108, 109, 110, 111, 112, 113, 114, 115, 116, 117, 118, 119, 120, 121, 122, 123, 124, 125, 126, 127, 128, 129, 130, 131, 132, 133, 134, 135, 136, 137, 138] (by decide +kernel) (by decide +kernel)
set_option maxRecDepth 20000 in
theorem gX6_turn_X6_boards : GoodIn wsX6_turn (wsV RX6 182 RX6 yX6_boards wsX6_boards) := goodIn_app (goodIn_of _ (by decide +kernel)) ggX6_turn_X6_boards
set_option maxRecDepth 20000 in
theorem ggX6_turn_X6_of : GoodIn wsX6_turn wsX6_of := goodIn_r _ [25, 26, 108, 109, 110, 111, 112, 113, 114, 115, 116, 117, 118, 119, 120, 121, 122, 123, 124, 125, 126, 127, 128, 129, 130, 131, 132, 133, 134, 135, 136, 137, 138] (by decide +kernel) (by decide +kernel)
set_option maxRecDepth 20000 in
theorem gX6_turn_X6_of : GoodIn wsX6_turn (wsV RX6 115 RX6 yX6_of wsX6_of) := goodIn_app (goodIn_of _ (by decide +kernel)) ggX6_turn_X6_of
set_option maxRecDepth 20000 in
theorem ggX6_turn_X6_comesOff : GoodIn wsX6_turn wsX6_comesOff := goodIn_r _ [89, 36, 37, 38, 8, 39, 26, 108, 109, 110, 111, 112, 113, 114, 115, 116, 117, 118, 119, 120, 121, 122, 123, 124, 125, 126, 127, 128, 129, 130, 131, 132, 133, 134, 135, 136, 137, 138] (by decide +kernel) (by decide +kernel)
set_option maxRecDepth 20000 in
theorem gX6_turn_X6_comesOff : GoodIn wsX6_turn (wsV RX6 185 RX6 yX6_comesOff wsX6_comesOff) := goodIn_app (goodIn_of _ (by decide +kernel)) ggX6_turn_X6_comesOff
set_option maxRecDepth 20000 in
theorem ggX6_turn_X6_goesAway : GoodIn wsX6_turn wsX6_goesAway := goodIn_r _ [93, 94, 95, 35, 4, 79, 59, 96, 97, 98, 8, 99, 10, 22, 23, 24, 25, 26, 36, 37, 38, 39, 40, 41, 42, 43, 44, 45, 46, 47, 48, 108, 109, 110, 111, 112, 113, 114, 115, 116, 117, 118, 119, 120, 121, 122, 123, 124, 125, 126, 127, 128, 129, 130, 131, 132, 133, 134, 135, 136, 137, 138] (by decide +kernel) (by decide +kernel)
set_option maxRecDepth 20000 in
theorem gX6_turn_X6_goesAway : GoodIn wsX6_turn (wsV RX6 188 RX6 yX6_goesAway wsX6_goesAway) := goodIn_app (goodIn_of _ (by decide +kernel)) ggX6_turn_X6_goesAway
set_option maxRecDepth 20000 in
theorem ggX6_turn_X6_lookAtRecall : GoodIn wsX6_turn wsX6_lookAtRecall := goodIn_r _ [103, 4, 11, 2, 10, 104, 105, 106, 8, 107, 5, 6, 7, 9, 1, 12, 13, 14, 15, 16, 17, 18, 19, 20, 21, 22, 23, 24, 25, 26, 27, 28, 29, 30, 31, 32, 33, 34, 35, 108, 109, 110, 111, 112, 113, 114, 115, 116, 117, 118, 119, 120, 121, 122, 123, 124, 125, 126, 127, 128, 129, 130, 131, 132, 133, 134, 135, 136, 137, 138] (by decide +kernel) (by decide +kernel)
set_option maxRecDepth 20000 in
theorem gX6_turn_X6_lookAtRecall : GoodIn wsX6_turn (wsV RX6 123 RX6 yX6_lookAtRecall wsX6_lookAtRecall) := goodIn_app (goodIn_of _ (by decide +kernel)) ggX6_turn_X6_lookAtRecall
theorem dX6_turn_0 : decode cX6_turn 0 = .ok (.aload_n 0, 1) := by decide +kernel
theorem dX6_turn_1 : decode cX6_turn 1 = .ok (.iload_n 1, 1) := by decide +kernel
theorem dX6_turn_2 : decode cX6_turn 2 = .ok (.invokevirtual 166, 3) := by decide +kernel
theorem dX6_turn_5 : decode cX6_turn 5 = .ok (.istore_n 2, 1) := by decide +kernel
theorem dX6_turn_6 : decode cX6_turn 6 = .ok (.aload_n 0, 1) := by decide +kernel
theorem dX6_turn_7 : decode cX6_turn 7 = .ok (.getfield 157, 3) := by decide +kernel
theorem dX6_turn_10 : decode cX6_turn 10 = .ok (.istore_n 3, 1) := by decide +kernel
theorem dX6_turn_11 : decode cX6_turn 11 = .ok (.iload_n 2, 1) := by decide +kernel
theorem dX6_turn_12 : decode cX6_turn 12 = .ok (.tableswitch 143 0 4 #[36, 38, 55, 64, 127], 36) := by decide +kernel
theorem dX6_turn_48 : decode cX6_turn 48 = .ok (.iconst 0, 1) := by decide +kernel
theorem dX6_turn_49 : decode cX6_turn 49 = .ok (.ireturn, 1) := by decide +kernel
theorem dX6_turn_50 : decode cX6_turn 50 = .ok (.aload_n 0, 1) := by decide +kernel
theorem dX6_turn_51 : decode cX6_turn 51 = .ok (.iload_n 3, 1) := by decide +kernel
theorem dX6_turn_52 : decode cX6_turn 52 = .ok (.iconst 4, 1) := by decide +kernel
theorem dX6_turn_53 : decode cX6_turn 53 = .ok (.iconst 2, 1) := by decide +kernel
theorem dX6_turn_54 : decode cX6_turn 54 = .ok (.invokevirtual 108, 3) := by decide +kernel
theorem dX6_turn_57 : decode cX6_turn 57 = .ok (.aload_n 0, 1) := by decide +kernel
theorem dX6_turn_58 : decode cX6_turn 58 = .ok (.iconst 0, 1) := by decide +kernel
theorem dX6_turn_59 : decode cX6_turn 59 = .ok (.iload_n 3, 1) := by decide +kernel
theorem dX6_turn_60 : decode cX6_turn 60 = .ok (.iload_n 1, 1) := by decide +kernel
theorem dX6_turn_61 : decode cX6_turn 61 = .ok (.invokevirtual 175, 3) := by decide +kernel
theorem dX6_turn_64 : decode cX6_turn 64 = .ok (.goto 97, 3) := by decide +kernel
theorem dX6_turn_67 : decode cX6_turn 67 = .ok (.aload_n 0, 1) := by decide +kernel
theorem dX6_turn_68 : decode cX6_turn 68 = .ok (.iload_n 3, 1) := by decide +kernel
theorem dX6_turn_69 : decode cX6_turn 69 = .ok (.iload_n 1, 1) := by decide +kernel
theorem dX6_turn_70 : decode cX6_turn 70 = .ok (.invokevirtual 178, 3) := by decide +kernel
theorem dX6_turn_73 : decode cX6_turn 73 = .ok (.goto 88, 3) := by decide +kernel
theorem dX6_turn_76 : decode cX6_turn 76 = .ok (.aload_n 0, 1) := by decide +kernel
theorem dX6_turn_77 : decode cX6_turn 77 = .ok (.iload_n 3, 1) := by decide +kernel
theorem dX6_turn_78 : decode cX6_turn 78 = .ok (.iload_n 1, 1) := by decide +kernel
theorem dX6_turn_79 : decode cX6_turn 79 = .ok (.invokevirtual 182, 3) := by decide +kernel
theorem dX6_turn_82 : decode cX6_turn 82 = .ok (.ifCond .eq 40, 3) := by decide +kernel
theorem dX6_turn_85 : decode cX6_turn 85 = .ok (.aload_n 0, 1) := by decide +kernel
theorem dX6_turn_86 : decode cX6_turn 86 = .ok (.getfield 47, 3) := by decide +kernel
theorem dX6_turn_89 : decode cX6_turn 89 = .ok (.iload_n 1, 1) := by decide +kernel
theorem dX6_turn_90 : decode cX6_turn 90 = .ok (.iload_n 3, 1) := by decide +kernel
theorem dX6_turn_91 : decode cX6_turn 91 = .ok (.iastore, 1) := by decide +kernel
theorem dX6_turn_92 : decode cX6_turn 92 = .ok (.aload_n 0, 1) := by decide +kernel
theorem dX6_turn_93 : decode cX6_turn 93 = .ok (.getfield 50, 3) := by decide +kernel
theorem dX6_turn_96 : decode cX6_turn 96 = .ok (.iload_n 1, 1) := by decide +kernel
theorem dX6_turn_97 : decode cX6_turn 97 = .ok (.aload_n 0, 1) := by decide +kernel
theorem dX6_turn_98 : decode cX6_turn 98 = .ok (.iload_n 3, 1) := by decide +kernel
theorem dX6_turn_99 : decode cX6_turn 99 = .ok (.iconst 3, 1) := by decide +kernel
theorem dX6_turn_100 : decode cX6_turn 100 = .ok (.invokevirtual 115, 3) := by decide +kernel
theorem dX6_turn_103 : decode cX6_turn 103 = .ok (.ifCond .le 7, 3) := by decide +kernel
theorem dX6_turn_106 : decode cX6_turn 106 = .ok (.iconst 0, 1) := by decide +kernel
theorem dX6_turn_107 : decode cX6_turn 107 = .ok (.goto 4, 3) := by decide +kernel
theorem dX6_turn_110 : decode cX6_turn 110 = .ok (.iconst 1, 1) := by decide +kernel
theorem dX6_turn_111 : decode cX6_turn 111 = .ok (.iastore, 1) := by decide +kernel
theorem dX6_turn_112 : decode cX6_turn 112 = .ok (.aload_n 0, 1) := by decide +kernel
theorem dX6_turn_113 : decode cX6_turn 113 = .ok (.iconst 1, 1) := by decide +kernel
theorem dX6_turn_114 : decode cX6_turn 114 = .ok (.iload_n 3, 1) := by decide +kernel
theorem dX6_turn_115 : decode cX6_turn 115 = .ok (.iload_n 1, 1) := by decide +kernel
theorem dX6_turn_116 : decode cX6_turn 116 = .ok (.invokevirtual 175, 3) := by decide +kernel
theorem dX6_turn_119 : decode cX6_turn 119 = .ok (.goto 42, 3) := by decide +kernel
theorem dX6_turn_122 : decode cX6_turn 122 = .ok (.aload_n 0, 1) := by decide +kernel
theorem dX6_turn_123 : decode cX6_turn 123 = .ok (.iload_n 3, 1) := by decide +kernel
theorem dX6_turn_124 : decode cX6_turn 124 = .ok (.iconst 4, 1) := by decide +kernel
theorem dX6_turn_125 : decode cX6_turn 125 = .ok (.iconst 4, 1) := by decide +kernel
theorem dX6_turn_126 : decode cX6_turn 126 = .ok (.invokevirtual 108, 3) := by decide +kernel
theorem dX6_turn_129 : decode cX6_turn 129 = .ok (.aload_n 0, 1) := by decide +kernel
theorem dX6_turn_130 : decode cX6_turn 130 = .ok (.iconst 2, 1) := by decide +kernel
theorem dX6_turn_131 : decode cX6_turn 131 = .ok (.iload_n 3, 1) := by decide +kernel
theorem dX6_turn_132 : decode cX6_turn 132 = .ok (.iload_n 1, 1) := by decide +kernel
theorem dX6_turn_133 : decode cX6_turn 133 = .ok (.invokevirtual 175, 3) := by decide +kernel
theorem dX6_turn_136 : decode cX6_turn 136 = .ok (.goto 25, 3) := by decide +kernel
theorem dX6_turn_139 : decode cX6_turn 139 = .ok (.aload_n 0, 1) := by decide +kernel
theorem dX6_turn_140 : decode cX6_turn 140 = .ok (.iload_n 3, 1) := by decide +kernel
theorem dX6_turn_141 : decode cX6_turn 141 = .ok (.invokevirtual 185, 3) := by decide +kernel
theorem dX6_turn_144 : decode cX6_turn 144 = .ok (.aload_n 0, 1) := by decide +kernel
theorem dX6_turn_145 : decode cX6_turn 145 = .ok (.bipush 6, 2) := by decide +kernel
theorem dX6_turn_147 : decode cX6_turn 147 = .ok (.iload_n 3, 1) := by decide +kernel
theorem dX6_turn_148 : decode cX6_turn 148 = .ok (.iload_n 1, 1) := by decide +kernel
theorem dX6_turn_149 : decode cX6_turn 149 = .ok (.invokevirtual 175, 3) := by decide +kernel
theorem dX6_turn_152 : decode cX6_turn 152 = .ok (.goto 9, 3) := by decide +kernel
theorem dX6_turn_155 : decode cX6_turn 155 = .ok (.aload_n 0, 1) := by decide +kernel
theorem dX6_turn_156 : decode cX6_turn 156 = .ok (.iload_n 3, 1) := by decide +kernel
theorem dX6_turn_157 : decode cX6_turn 157 = .ok (.iload_n 1, 1) := by decide +kernel
theorem dX6_turn_158 : decode cX6_turn 158 = .ok (.invokevirtual 188, 3) := by decide +kernel
theorem dX6_turn_161 : decode cX6_turn 161 = .ok (.aload_n 0, 1) := by decide +kernel
theorem dX6_turn_162 : decode cX6_turn 162 = .ok (.getfield 44, 3) := by decide +kernel
theorem dX6_turn_165 : decode cX6_turn 165 = .ok (.iload_n 1, 1) := by decide +kernel
theorem dX6_turn_166 : decode cX6_turn 166 = .ok (.iaload, 1) := by decide +kernel
theorem dX6_turn_167 : decode cX6_turn 167 = .ok (.ifCond .le 13, 3) := by decide +kernel
theorem dX6_turn_170 : decode cX6_turn 170 = .ok (.aload_n 0, 1) := by decide +kernel
theorem dX6_turn_171 : decode cX6_turn 171 = .ok (.getfield 44, 3) := by decide +kernel
theorem dX6_turn_174 : decode cX6_turn 174 = .ok (.iload_n 1, 1) := by decide +kernel
theorem dX6_turn_175 : decode cX6_turn 175 = .ok (.dup2, 1) := by decide +kernel
theorem dX6_turn_176 : decode cX6_turn 176 = .ok (.iaload, 1) := by decide +kernel
theorem dX6_turn_177 : decode cX6_turn 177 = .ok (.iconst 1, 1) := by decide +kernel
theorem dX6_turn_178 : decode cX6_turn 178 = .ok (.isub, 1) := by decide +kernel
theorem dX6_turn_179 : decode cX6_turn 179 = .ok (.iastore, 1) := by decide +kernel
theorem dX6_turn_180 : decode cX6_turn 180 = .ok (.aload_n 0, 1) := by decide +kernel
theorem dX6_turn_181 : decode cX6_turn 181 = .ok (.iload_n 1, 1) := by decide +kernel
theorem dX6_turn_182 : decode cX6_turn 182 = .ok (.invokevirtual 123, 3) := by decide +kernel
theorem dX6_turn_185 : decode cX6_turn 185 = .ok (.iconst 1, 1) := by decide +kernel
theorem dX6_turn_186 : decode cX6_turn 186 = .ok (.ireturn, 1) := by decide +kernel
set_option maxRecDepth 20000 in
theorem ggX6_goesOn_X6_write : GoodIn wsX6_goesOn wsX6_write := goodIn_r _ [7, 8, 9, 10, 11, 12, 35, 36, 37, 38, 39, 40, 41, 42, 43, 44, 45, 46, 47, 48, 49, 50, 51, 52, 53, 54, 55, 56, 57, 58, 59, 60, 61, 62, 63, 64, 65] (by decide +kernel) (by decide +kernel)
set_option maxRecDepth 20000 in
theorem gX6_goesOn_X6_write : GoodIn wsX6_goesOn (wsV RX6 175 RX6 yX6_write wsX6_write) := goodIn_app (goodIn_of _ (by decide +kernel)) ggX6_goesOn_X6_write
set_option maxRecDepth 20000 in
theorem ggX6_goesOn_X6_cabinFor : GoodIn wsX6_goesOn wsX6_cabinFor := goodIn_r _ [16, 17, 18, 19, 20, 21, 22, 23, 24, 6, 25, 26, 27, 28, 29, 30, 35, 36, 37, 38, 39, 40, 41, 42, 43, 44, 45, 46, 47, 48, 49, 50, 51, 52, 53, 54, 55, 56, 57, 58, 59, 60, 61, 62, 63, 64, 65] (by decide +kernel) (by decide +kernel)
set_option maxRecDepth 20000 in
theorem gX6_goesOn_X6_cabinFor : GoodIn wsX6_goesOn (wsV RX6 191 RX6 yX6_cabinFor wsX6_cabinFor) := goodIn_app (goodIn_of _ (by decide +kernel)) ggX6_goesOn_X6_cabinFor
set_option maxRecDepth 20000 in
theorem ggX6_goesOn_X6_put : GoodIn wsX6_goesOn wsX6_put := goodIn_r _ [34, 26, 35, 36, 37, 38, 39, 40, 41, 42, 43, 44, 45, 46, 47, 48, 49, 50, 51, 52, 53, 54, 55, 56, 57, 58, 59, 60, 61, 62, 63, 64, 65] (by decide +kernel) (by decide +kernel)
set_option maxRecDepth 20000 in
theorem gX6_goesOn_X6_put : GoodIn wsX6_goesOn (wsV RX6 108 RX6 yX6_put wsX6_put) := goodIn_app (goodIn_of _ (by decide +kernel)) ggX6_goesOn_X6_put
theorem dX6_goesOn_0 : decode cX6_goesOn 0 = .ok (.aload_n 0, 1) := by decide +kernel
theorem dX6_goesOn_1 : decode cX6_goesOn 1 = .ok (.getfield 50, 3) := by decide +kernel
theorem dX6_goesOn_4 : decode cX6_goesOn 4 = .ok (.iload_n 2, 1) := by decide +kernel
theorem dX6_goesOn_5 : decode cX6_goesOn 5 = .ok (.iaload, 1) := by decide +kernel
theorem dX6_goesOn_6 : decode cX6_goesOn 6 = .ok (.iconst 1, 1) := by decide +kernel
theorem dX6_goesOn_7 : decode cX6_goesOn 7 = .ok (.if_icmp .ne 18, 3) := by decide +kernel
theorem dX6_goesOn_10 : decode cX6_goesOn 10 = .ok (.aload_n 0, 1) := by decide +kernel
theorem dX6_goesOn_11 : decode cX6_goesOn 11 = .ok (.getfield 47, 3) := by decide +kernel
theorem dX6_goesOn_14 : decode cX6_goesOn 14 = .ok (.iload_n 2, 1) := by decide +kernel
theorem dX6_goesOn_15 : decode cX6_goesOn 15 = .ok (.iconst (-1), 1) := by decide +kernel
theorem dX6_goesOn_16 : decode cX6_goesOn 16 = .ok (.iastore, 1) := by decide +kernel
theorem dX6_goesOn_17 : decode cX6_goesOn 17 = .ok (.aload_n 0, 1) := by decide +kernel
theorem dX6_goesOn_18 : decode cX6_goesOn 18 = .ok (.iconst 5, 1) := by decide +kernel
theorem dX6_goesOn_19 : decode cX6_goesOn 19 = .ok (.iload_n 1, 1) := by decide +kernel
theorem dX6_goesOn_20 : decode cX6_goesOn 20 = .ok (.iload_n 2, 1) := by decide +kernel
theorem dX6_goesOn_21 : decode cX6_goesOn 21 = .ok (.invokevirtual 175, 3) := by decide +kernel
theorem dX6_goesOn_24 : decode cX6_goesOn 24 = .ok (.return_, 1) := by decide +kernel
theorem dX6_goesOn_25 : decode cX6_goesOn 25 = .ok (.aload_n 0, 1) := by decide +kernel
theorem dX6_goesOn_26 : decode cX6_goesOn 26 = .ok (.iload_n 1, 1) := by decide +kernel
theorem dX6_goesOn_27 : decode cX6_goesOn 27 = .ok (.iload_n 2, 1) := by decide +kernel
theorem dX6_goesOn_28 : decode cX6_goesOn 28 = .ok (.invokevirtual 191, 3) := by decide +kernel
theorem dX6_goesOn_31 : decode cX6_goesOn 31 = .ok (.istore_n 3, 1) := by decide +kernel
theorem dX6_goesOn_32 : decode cX6_goesOn 32 = .ok (.aload_n 0, 1) := by decide +kernel
theorem dX6_goesOn_33 : decode cX6_goesOn 33 = .ok (.iload_n 1, 1) := by decide +kernel
theorem dX6_goesOn_34 : decode cX6_goesOn 34 = .ok (.bipush 9, 2) := by decide +kernel
theorem dX6_goesOn_36 : decode cX6_goesOn 36 = .ok (.iload_n 3, 1) := by decide +kernel
theorem dX6_goesOn_37 : decode cX6_goesOn 37 = .ok (.invokevirtual 108, 3) := by decide +kernel
theorem dX6_goesOn_40 : decode cX6_goesOn 40 = .ok (.aload_n 0, 1) := by decide +kernel
theorem dX6_goesOn_41 : decode cX6_goesOn 41 = .ok (.getfield 50, 3) := by decide +kernel
theorem dX6_goesOn_44 : decode cX6_goesOn 44 = .ok (.iload_n 2, 1) := by decide +kernel
theorem dX6_goesOn_45 : decode cX6_goesOn 45 = .ok (.iconst 1, 1) := by decide +kernel
theorem dX6_goesOn_46 : decode cX6_goesOn 46 = .ok (.iastore, 1) := by decide +kernel
theorem dX6_goesOn_47 : decode cX6_goesOn 47 = .ok (.aload_n 0, 1) := by decide +kernel
theorem dX6_goesOn_48 : decode cX6_goesOn 48 = .ok (.iload_n 3, 1) := by decide +kernel
theorem dX6_goesOn_49 : decode cX6_goesOn 49 = .ok (.iconst (-1), 1) := by decide +kernel
theorem dX6_goesOn_50 : decode cX6_goesOn 50 = .ok (.if_icmp .ne 7, 3) := by decide +kernel
theorem dX6_goesOn_53 : decode cX6_goesOn 53 = .ok (.iconst 4, 1) := by decide +kernel
theorem dX6_goesOn_54 : decode cX6_goesOn 54 = .ok (.goto 4, 3) := by decide +kernel
theorem dX6_goesOn_57 : decode cX6_goesOn 57 = .ok (.iconst 3, 1) := by decide +kernel
theorem dX6_goesOn_58 : decode cX6_goesOn 58 = .ok (.iload_n 1, 1) := by decide +kernel
theorem dX6_goesOn_59 : decode cX6_goesOn 59 = .ok (.iload_n 2, 1) := by decide +kernel
theorem dX6_goesOn_60 : decode cX6_goesOn 60 = .ok (.invokevirtual 175, 3) := by decide +kernel
theorem dX6_goesOn_63 : decode cX6_goesOn 63 = .ok (.return_, 1) := by decide +kernel
set_option maxRecDepth 20000 in
theorem ggX6_goesAway_X6_isToGo : GoodIn wsX6_goesAway wsX6_isToGo := goodIn_r _ [11, 12, 31, 32, 33, 34, 35, 36, 37, 38, 39, 40, 41, 42, 43, 44, 45, 46, 47, 48, 49, 50, 51, 52, 53, 54, 55, 56, 57, 58, 59, 60, 61] (by decide +kernel) (by decide +kernel)
set_option maxRecDepth 20000 in
theorem gX6_goesAway_X6_isToGo : GoodIn wsX6_goesAway (wsV RX6 105 RX6 yX6_isToGo wsX6_isToGo) := goodIn_app (goodIn_of _ (by decide +kernel)) ggX6_goesAway_X6_isToGo
set_option maxRecDepth 20000 in
theorem ggX6_goesAway_X6_of : GoodIn wsX6_goesAway wsX6_of := goodIn_r _ [16, 17, 31, 32, 33, 34, 35, 36, 37, 38, 39, 40, 41, 42, 43, 44, 45, 46, 47, 48, 49, 50, 51, 52, 53, 54, 55, 56, 57, 58, 59, 60, 61] (by decide +kernel) (by decide +kernel)
set_option maxRecDepth 20000 in
theorem gX6_goesAway_X6_of : GoodIn wsX6_goesAway (wsV RX6 115 RX6 yX6_of wsX6_of) := goodIn_app (goodIn_of _ (by decide +kernel)) ggX6_goesAway_X6_of
set_option maxRecDepth 20000 in
theorem ggX6_goesAway_X6_put : GoodIn wsX6_goesAway wsX6_put := goodIn_r _ [21, 17, 31, 32, 33, 34, 35, 36, 37, 38, 39, 40, 41, 42, 43, 44, 45, 46, 47, 48, 49, 50, 51, 52, 53, 54, 55, 56, 57, 58, 59, 60, 61] (by decide +kernel) (by decide +kernel)
set_option maxRecDepth 20000 in
theorem gX6_goesAway_X6_put : GoodIn wsX6_goesAway (wsV RX6 108 RX6 yX6_put wsX6_put) := goodIn_app (goodIn_of _ (by decide +kernel)) ggX6_goesAway_X6_put
set_option maxRecDepth 20000 in
theorem ggX6_goesAway_X6_write : GoodIn wsX6_goesAway wsX6_write := goodIn_r _ [25, 26, 27, 28, 29, 30, 31, 32, 33, 34, 35, 36, 37, 38, 39, 40, 41, 42, 43, 44, 45, 46, 47, 48, 49, 50, 51, 52, 53, 54, 55, 56, 57, 58, 59, 60, 61] (by decide +kernel) (by decide +kernel)
set_option maxRecDepth 20000 in
theorem gX6_goesAway_X6_write : GoodIn wsX6_goesAway (wsV RX6 175 RX6 yX6_write wsX6_write) := goodIn_app (goodIn_of _ (by decide +kernel)) ggX6_goesAway_X6_write
theorem dX6_goesAway_0 : decode cX6_goesAway 0 = .ok (.iconst (-1), 1) := by decide +kernel
theorem dX6_goesAway_1 : decode cX6_goesAway 1 = .ok (.istore_n 3, 1) := by decide +kernel
theorem dX6_goesAway_2 : decode cX6_goesAway 2 = .ok (.iconst 0, 1) := by decide +kernel
theorem dX6_goesAway_3 : decode cX6_goesAway 3 = .ok (.istore 4, 2) := by decide +kernel
theorem dX6_goesAway_5 : decode cX6_goesAway 5 = .ok (.iload 4, 2) := by decide +kernel
theorem dX6_goesAway_7 : decode cX6_goesAway 7 = .ok (.aload_n 0, 1) := by decide +kernel
theorem dX6_goesAway_8 : decode cX6_goesAway 8 = .ok (.getfield 78, 3) := by decide +kernel
theorem dX6_goesAway_11 : decode cX6_goesAway 11 = .ok (.if_icmp .ge 109, 3) := by decide +kernel
theorem dX6_goesAway_14 : decode cX6_goesAway 14 = .ok (.aload_n 0, 1) := by decide +kernel
theorem dX6_goesAway_15 : decode cX6_goesAway 15 = .ok (.getfield 35, 3) := by decide +kernel
theorem dX6_goesAway_18 : decode cX6_goesAway 18 = .ok (.iload 4, 2) := by decide +kernel
theorem dX6_goesAway_20 : decode cX6_goesAway 20 = .ok (.iaload, 1) := by decide +kernel
theorem dX6_goesAway_21 : decode cX6_goesAway 21 = .ok (.aload_n 0, 1) := by decide +kernel
theorem dX6_goesAway_22 : decode cX6_goesAway 22 = .ok (.getfield 35, 3) := by decide +kernel
theorem dX6_goesAway_25 : decode cX6_goesAway 25 = .ok (.iload_n 2, 1) := by decide +kernel
theorem dX6_goesAway_26 : decode cX6_goesAway 26 = .ok (.iaload, 1) := by decide +kernel
theorem dX6_goesAway_27 : decode cX6_goesAway 27 = .ok (.if_icmp .ne 87, 3) := by decide +kernel
theorem dX6_goesAway_30 : decode cX6_goesAway 30 = .ok (.aload_n 0, 1) := by decide +kernel
theorem dX6_goesAway_31 : decode cX6_goesAway 31 = .ok (.iload 4, 2) := by decide +kernel
theorem dX6_goesAway_33 : decode cX6_goesAway 33 = .ok (.invokevirtual 105, 3) := by decide +kernel
theorem dX6_goesAway_36 : decode cX6_goesAway 36 = .ok (.ifCond .eq 78, 3) := by decide +kernel
theorem dX6_goesAway_39 : decode cX6_goesAway 39 = .ok (.aload_n 0, 1) := by decide +kernel
theorem dX6_goesAway_40 : decode cX6_goesAway 40 = .ok (.getfield 32, 3) := by decide +kernel
theorem dX6_goesAway_43 : decode cX6_goesAway 43 = .ok (.iload 4, 2) := by decide +kernel
theorem dX6_goesAway_45 : decode cX6_goesAway 45 = .ok (.iaload, 1) := by decide +kernel
theorem dX6_goesAway_46 : decode cX6_goesAway 46 = .ok (.aload_n 0, 1) := by decide +kernel
theorem dX6_goesAway_47 : decode cX6_goesAway 47 = .ok (.getfield 32, 3) := by decide +kernel
theorem dX6_goesAway_50 : decode cX6_goesAway 50 = .ok (.iload_n 2, 1) := by decide +kernel
theorem dX6_goesAway_51 : decode cX6_goesAway 51 = .ok (.iaload, 1) := by decide +kernel
theorem dX6_goesAway_52 : decode cX6_goesAway 52 = .ok (.if_icmp .le 62, 3) := by decide +kernel
theorem dX6_goesAway_55 : decode cX6_goesAway 55 = .ok (.aload_n 0, 1) := by decide +kernel
theorem dX6_goesAway_56 : decode cX6_goesAway 56 = .ok (.getfield 44, 3) := by decide +kernel
theorem dX6_goesAway_59 : decode cX6_goesAway 59 = .ok (.iload 4, 2) := by decide +kernel
theorem dX6_goesAway_61 : decode cX6_goesAway 61 = .ok (.iaload, 1) := by decide +kernel
theorem dX6_goesAway_62 : decode cX6_goesAway 62 = .ok (.iconst (-1), 1) := by decide +kernel
theorem dX6_goesAway_63 : decode cX6_goesAway 63 = .ok (.if_icmp .ne 51, 3) := by decide +kernel
theorem dX6_goesAway_66 : decode cX6_goesAway 66 = .ok (.aload_n 0, 1) := by decide +kernel
theorem dX6_goesAway_67 : decode cX6_goesAway 67 = .ok (.getfield 16, 3) := by decide +kernel
theorem dX6_goesAway_70 : decode cX6_goesAway 70 = .ok (.aload_n 0, 1) := by decide +kernel
theorem dX6_goesAway_71 : decode cX6_goesAway 71 = .ok (.getfield 29, 3) := by decide +kernel
theorem dX6_goesAway_74 : decode cX6_goesAway 74 = .ok (.iload 4, 2) := by decide +kernel
theorem dX6_goesAway_76 : decode cX6_goesAway 76 = .ok (.iaload, 1) := by decide +kernel
theorem dX6_goesAway_77 : decode cX6_goesAway 77 = .ok (.iaload, 1) := by decide +kernel
theorem dX6_goesAway_78 : decode cX6_goesAway 78 = .ok (.aload_n 0, 1) := by decide +kernel
theorem dX6_goesAway_79 : decode cX6_goesAway 79 = .ok (.iload_n 1, 1) := by decide +kernel
theorem dX6_goesAway_80 : decode cX6_goesAway 80 = .ok (.iconst 1, 1) := by decide +kernel
theorem dX6_goesAway_81 : decode cX6_goesAway 81 = .ok (.invokevirtual 115, 3) := by decide +kernel
theorem dX6_goesAway_84 : decode cX6_goesAway 84 = .ok (.if_icmp .ge 6, 3) := by decide +kernel
theorem dX6_goesAway_87 : decode cX6_goesAway 87 = .ok (.goto 27, 3) := by decide +kernel
theorem dX6_goesAway_90 : decode cX6_goesAway 90 = .ok (.iload_n 3, 1) := by decide +kernel
theorem dX6_goesAway_91 : decode cX6_goesAway 91 = .ok (.iconst (-1), 1) := by decide +kernel
theorem dX6_goesAway_92 : decode cX6_goesAway 92 = .ok (.if_icmp .eq 19, 3) := by decide +kernel
theorem dX6_goesAway_95 : decode cX6_goesAway 95 = .ok (.aload_n 0, 1) := by decide +kernel
theorem dX6_goesAway_96 : decode cX6_goesAway 96 = .ok (.getfield 32, 3) := by decide +kernel
theorem dX6_goesAway_99 : decode cX6_goesAway 99 = .ok (.iload 4, 2) := by decide +kernel
theorem dX6_goesAway_101 : decode cX6_goesAway 101 = .ok (.iaload, 1) := by decide +kernel
theorem dX6_goesAway_102 : decode cX6_goesAway 102 = .ok (.aload_n 0, 1) := by decide +kernel
theorem dX6_goesAway_103 : decode cX6_goesAway 103 = .ok (.getfield 32, 3) := by decide +kernel
theorem dX6_goesAway_106 : decode cX6_goesAway 106 = .ok (.iload_n 3, 1) := by decide +kernel
theorem dX6_goesAway_107 : decode cX6_goesAway 107 = .ok (.iaload, 1) := by decide +kernel
theorem dX6_goesAway_108 : decode cX6_goesAway 108 = .ok (.if_icmp .ge 6, 3) := by decide +kernel
theorem dX6_goesAway_111 : decode cX6_goesAway 111 = .ok (.iload 4, 2) := by decide +kernel
theorem dX6_goesAway_113 : decode cX6_goesAway 113 = .ok (.istore_n 3, 1) := by decide +kernel
theorem dX6_goesAway_114 : decode cX6_goesAway 114 = .ok (.iinc 4 1, 3) := by decide +kernel
theorem dX6_goesAway_117 : decode cX6_goesAway 117 = .ok (.goto (-112), 3) := by decide +kernel
theorem dX6_goesAway_120 : decode cX6_goesAway 120 = .ok (.iload_n 3, 1) := by decide +kernel
theorem dX6_goesAway_121 : decode cX6_goesAway 121 = .ok (.iconst (-1), 1) := by decide +kernel
theorem dX6_goesAway_122 : decode cX6_goesAway 122 = .ok (.if_icmp .ne 33, 3) := by decide +kernel
theorem dX6_goesAway_125 : decode cX6_goesAway 125 = .ok (.aload_n 0, 1) := by decide +kernel
theorem dX6_goesAway_126 : decode cX6_goesAway 126 = .ok (.iload_n 1, 1) := by decide +kernel
theorem dX6_goesAway_127 : decode cX6_goesAway 127 = .ok (.iconst 4, 1) := by decide +kernel
theorem dX6_goesAway_128 : decode cX6_goesAway 128 = .ok (.iconst 5, 1) := by decide +kernel
theorem dX6_goesAway_129 : decode cX6_goesAway 129 = .ok (.invokevirtual 108, 3) := by decide +kernel
theorem dX6_goesAway_132 : decode cX6_goesAway 132 = .ok (.aload_n 0, 1) := by decide +kernel
theorem dX6_goesAway_133 : decode cX6_goesAway 133 = .ok (.iload_n 1, 1) := by decide +kernel
theorem dX6_goesAway_134 : decode cX6_goesAway 134 = .ok (.bipush 11, 2) := by decide +kernel
theorem dX6_goesAway_136 : decode cX6_goesAway 136 = .ok (.aload_n 0, 1) := by decide +kernel
theorem dX6_goesAway_137 : decode cX6_goesAway 137 = .ok (.iload_n 1, 1) := by decide +kernel
theorem dX6_goesAway_138 : decode cX6_goesAway 138 = .ok (.bipush 10, 2) := by decide +kernel
