theorem dX4_boardsAheadOf_35 : decode cX4_boardsAheadOf 35 = .ok (.if_icmp .ge 7, 3) := by decide +kernel
theorem dX4_boardsAheadOf_38 : decode cX4_boardsAheadOf 38 = .ok (.iconst 1, 1) := by decide +kernel
theorem dX4_boardsAheadOf_39 : decode cX4_boardsAheadOf 39 = .ok (.goto 23, 3) := by decide +kernel
theorem dX4_boardsAheadOf_42 : decode cX4_boardsAheadOf 42 = .ok (.iconst 0, 1) := by decide +kernel
theorem dX4_boardsAheadOf_43 : decode cX4_boardsAheadOf 43 = .ok (.goto 19, 3) := by decide +kernel
theorem dX4_boardsAheadOf_46 : decode cX4_boardsAheadOf 46 = .ok (.aload_n 0, 1) := by decide +kernel
theorem dX4_boardsAheadOf_47 : decode cX4_boardsAheadOf 47 = .ok (.getfield 40, 3) := by decide +kernel
theorem dX4_boardsAheadOf_50 : decode cX4_boardsAheadOf 50 = .ok (.aload_n 1, 1) := by decide +kernel
theorem dX4_boardsAheadOf_51 : decode cX4_boardsAheadOf 51 = .ok (.getfield 40, 3) := by decide +kernel
theorem dX4_boardsAheadOf_54 : decode cX4_boardsAheadOf 54 = .ok (.if_icmp .le 7, 3) := by decide +kernel
theorem dX4_boardsAheadOf_57 : decode cX4_boardsAheadOf 57 = .ok (.iconst 1, 1) := by decide +kernel
theorem dX4_boardsAheadOf_58 : decode cX4_boardsAheadOf 58 = .ok (.goto 4, 3) := by decide +kernel
theorem dX4_boardsAheadOf_61 : decode cX4_boardsAheadOf 61 = .ok (.iconst 0, 1) := by decide +kernel
theorem dX4_boardsAheadOf_62 : decode cX4_boardsAheadOf 62 = .ok (.ireturn, 1) := by decide +kernel
theorem dX4_tell_0 : decode cX4_tell 0 = .ok (.iload_n 1, 1) := by decide +kernel
theorem dX4_tell_1 : decode cX4_tell 1 = .ok (.tableswitch 135 0 12 #[67, 75, 80, 85, 90, 95, 100, 105, 110, 115, 120, 125, 130], 67) := by decide +kernel
theorem dX4_tell_68 : decode cX4_tell 68 = .ok (.aload_n 0, 1) := by decide +kernel
theorem dX4_tell_69 : decode cX4_tell 69 = .ok (.getfield 33, 3) := by decide +kernel
theorem dX4_tell_72 : decode cX4_tell 72 = .ok (.getfield 56, 3) := by decide +kernel
theorem dX4_tell_75 : decode cX4_tell 75 = .ok (.ireturn, 1) := by decide +kernel
theorem dX4_tell_76 : decode cX4_tell 76 = .ok (.aload_n 0, 1) := by decide +kernel
theorem dX4_tell_77 : decode cX4_tell 77 = .ok (.getfield 37, 3) := by decide +kernel
theorem dX4_tell_80 : decode cX4_tell 80 = .ok (.ireturn, 1) := by decide +kernel
theorem dX4_tell_81 : decode cX4_tell 81 = .ok (.aload_n 0, 1) := by decide +kernel
theorem dX4_tell_82 : decode cX4_tell 82 = .ok (.getfield 40, 3) := by decide +kernel
theorem dX4_tell_85 : decode cX4_tell 85 = .ok (.ireturn, 1) := by decide +kernel
theorem dX4_tell_86 : decode cX4_tell 86 = .ok (.aload_n 0, 1) := by decide +kernel
theorem dX4_tell_87 : decode cX4_tell 87 = .ok (.getfield 43, 3) := by decide +kernel
theorem dX4_tell_90 : decode cX4_tell 90 = .ok (.ireturn, 1) := by decide +kernel
theorem dX4_tell_91 : decode cX4_tell 91 = .ok (.aload_n 0, 1) := by decide +kernel
theorem dX4_tell_92 : decode cX4_tell 92 = .ok (.getfield 9, 3) := by decide +kernel
theorem dX4_tell_95 : decode cX4_tell 95 = .ok (.ireturn, 1) := by decide +kernel
theorem dX4_tell_96 : decode cX4_tell 96 = .ok (.aload_n 0, 1) := by decide +kernel
theorem dX4_tell_97 : decode cX4_tell 97 = .ok (.getfield 15, 3) := by decide +kernel
theorem dX4_tell_100 : decode cX4_tell 100 = .ok (.ireturn, 1) := by decide +kernel
theorem dX4_tell_101 : decode cX4_tell 101 = .ok (.aload_n 0, 1) := by decide +kernel
theorem dX4_tell_102 : decode cX4_tell 102 = .ok (.getfield 18, 3) := by decide +kernel
theorem dX4_tell_105 : decode cX4_tell 105 = .ok (.ireturn, 1) := by decide +kernel
theorem dX4_tell_106 : decode cX4_tell 106 = .ok (.aload_n 0, 1) := by decide +kernel
theorem dX4_tell_107 : decode cX4_tell 107 = .ok (.getfield 21, 3) := by decide +kernel
theorem dX4_tell_110 : decode cX4_tell 110 = .ok (.ireturn, 1) := by decide +kernel
theorem dX4_tell_111 : decode cX4_tell 111 = .ok (.aload_n 0, 1) := by decide +kernel
theorem dX4_tell_112 : decode cX4_tell 112 = .ok (.getfield 24, 3) := by decide +kernel
theorem dX4_tell_115 : decode cX4_tell 115 = .ok (.ireturn, 1) := by decide +kernel
theorem dX4_tell_116 : decode cX4_tell 116 = .ok (.aload_n 0, 1) := by decide +kernel
theorem dX4_tell_117 : decode cX4_tell 117 = .ok (.getfield 27, 3) := by decide +kernel
theorem dX4_tell_120 : decode cX4_tell 120 = .ok (.ireturn, 1) := by decide +kernel
theorem dX4_tell_121 : decode cX4_tell 121 = .ok (.aload_n 0, 1) := by decide +kernel
theorem dX4_tell_122 : decode cX4_tell 122 = .ok (.getfield 46, 3) := by decide +kernel
theorem dX4_tell_125 : decode cX4_tell 125 = .ok (.ireturn, 1) := by decide +kernel
theorem dX4_tell_126 : decode cX4_tell 126 = .ok (.aload_n 0, 1) := by decide +kernel
theorem dX4_tell_127 : decode cX4_tell 127 = .ok (.getfield 57, 3) := by decide +kernel
theorem dX4_tell_130 : decode cX4_tell 130 = .ok (.ireturn, 1) := by decide +kernel
theorem dX4_tell_131 : decode cX4_tell 131 = .ok (.aload_n 0, 1) := by decide +kernel
theorem dX4_tell_132 : decode cX4_tell 132 = .ok (.getfield 60, 3) := by decide +kernel
theorem dX4_tell_135 : decode cX4_tell 135 = .ok (.ireturn, 1) := by decide +kernel
theorem dX4_tell_136 : decode cX4_tell 136 = .ok (.iconst (-1), 1) := by decide +kernel
theorem dX4_tell_137 : decode cX4_tell 137 = .ok (.ireturn, 1) := by decide +kernel
theorem dX5_init_0 : decode cX5_init 0 = .ok (.aload_n 0, 1) := by decide +kernel
theorem dX5_init_1 : decode cX5_init 1 = .ok (.invokespecial 1, 3) := by decide +kernel
theorem dX5_init_4 : decode cX5_init 4 = .ok (.aload_n 0, 1) := by decide +kernel
theorem dX5_init_5 : decode cX5_init 5 = .ok (.bipush 12, 2) := by decide +kernel
theorem dX5_init_7 : decode cX5_init 7 = .ok (.anewarray 9, 3) := by decide +kernel
theorem dX5_init_10 : decode cX5_init 10 = .ok (.putfield 11, 3) := by decide +kernel
theorem dX5_init_13 : decode cX5_init 13 = .ok (.aload_n 0, 1) := by decide +kernel
theorem dX5_init_14 : decode cX5_init 14 = .ok (.bipush 120, 2) := by decide +kernel
theorem dX5_init_16 : decode cX5_init 16 = .ok (.anewarray 15, 3) := by decide +kernel
theorem dX5_init_19 : decode cX5_init 19 = .ok (.putfield 17, 3) := by decide +kernel
theorem dX5_init_22 : decode cX5_init 22 = .ok (.aload_n 0, 1) := by decide +kernel
theorem dX5_init_23 : decode cX5_init 23 = .ok (.bipush 60, 2) := by decide +kernel
theorem dX5_init_25 : decode cX5_init 25 = .ok (.anewarray 21, 3) := by decide +kernel
theorem dX5_init_28 : decode cX5_init 28 = .ok (.putfield 23, 3) := by decide +kernel
theorem dX5_init_31 : decode cX5_init 31 = .ok (.aload_n 0, 1) := by decide +kernel
theorem dX5_init_32 : decode cX5_init 32 = .ok (.sipush 400, 3) := by decide +kernel
theorem dX5_init_35 : decode cX5_init 35 = .ok (.anewarray 27, 3) := by decide +kernel
theorem dX5_init_38 : decode cX5_init 38 = .ok (.putfield 29, 3) := by decide +kernel
theorem dX5_init_41 : decode cX5_init 41 = .ok (.aload_n 0, 1) := by decide +kernel
theorem dX5_init_42 : decode cX5_init 42 = .ok (.sipush 3000, 3) := by decide +kernel
theorem dX5_init_45 : decode cX5_init 45 = .ok (.newarray .int, 2) := by decide +kernel
theorem dX5_init_47 : decode cX5_init 47 = .ok (.putfield 33, 3) := by decide +kernel
theorem dX5_init_50 : decode cX5_init 50 = .ok (.aload_n 0, 1) := by decide +kernel
theorem dX5_init_51 : decode cX5_init 51 = .ok (.sipush 3000, 3) := by decide +kernel
theorem dX5_init_54 : decode cX5_init 54 = .ok (.newarray .int, 2) := by decide +kernel
theorem dX5_init_56 : decode cX5_init 56 = .ok (.putfield 37, 3) := by decide +kernel
theorem dX5_init_59 : decode cX5_init 59 = .ok (.aload_n 0, 1) := by decide +kernel
theorem dX5_init_60 : decode cX5_init 60 = .ok (.sipush 3000, 3) := by decide +kernel
theorem dX5_init_63 : decode cX5_init 63 = .ok (.newarray .int, 2) := by decide +kernel
theorem dX5_init_65 : decode cX5_init 65 = .ok (.putfield 40, 3) := by decide +kernel
theorem dX5_init_68 : decode cX5_init 68 = .ok (.return_, 1) := by decide +kernel
set_option maxRecDepth 20000 in
theorem ggX5_ship_X5_within : GoodIn wsX5_ship wsX5_within := goodIn_r _ [9] (by decide +kernel) (by decide +kernel)
set_option maxRecDepth 20000 in
theorem gX5_ship_X5_within : GoodIn wsX5_ship (va_wsS RX5 47 yX5_within wsX5_within) := goodIn_app (goodIn_of _ (by decide +kernel)) ggX5_ship_X5_within
set_option maxRecDepth 20000 in
theorem ggX5_ship_X3_init : GoodIn wsX5_ship wsX3_init := goodIn_r _ [11, 12, 13, 14, 15, 16, 17, 18, 19, 20, 21, 34, 35, 36, 37, 38, 39, 40, 41] (by decide +kernel) (by decide +kernel)
set_option maxRecDepth 20000 in
theorem gX5_ship_X3_init_n51 : GoodIn wsX5_ship (wsX3_init) := ggX5_ship_X3_init
theorem dX5_ship_0 : decode cX5_ship 0 = .ok (.aload_n 0, 1) := by decide +kernel
theorem dX5_ship_1 : decode cX5_ship 1 = .ok (.getfield 43, 3) := by decide +kernel
theorem dX5_ship_4 : decode cX5_ship 4 = .ok (.aload_n 0, 1) := by decide +kernel
theorem dX5_ship_5 : decode cX5_ship 5 = .ok (.getfield 11, 3) := by decide +kernel
theorem dX5_ship_8 : decode cX5_ship 8 = .ok (.arraylength, 1) := by decide +kernel
theorem dX5_ship_9 : decode cX5_ship 9 = .ok (.if_icmp .ge 34, 3) := by decide +kernel
theorem dX5_ship_12 : decode cX5_ship 12 = .ok (.iload_n 1, 1) := by decide +kernel
theorem dX5_ship_13 : decode cX5_ship 13 = .ok (.iconst 1, 1) := by decide +kernel
theorem dX5_ship_14 : decode cX5_ship 14 = .ok (.iconst 4, 1) := by decide +kernel
theorem dX5_ship_15 : decode cX5_ship 15 = .ok (.invokestatic 47, 3) := by decide +kernel
theorem dX5_ship_18 : decode cX5_ship 18 = .ok (.ifCond .eq 25, 3) := by decide +kernel
theorem dX5_ship_21 : decode cX5_ship 21 = .ok (.iload_n 2, 1) := by decide +kernel
theorem dX5_ship_22 : decode cX5_ship 22 = .ok (.iconst 1, 1) := by decide +kernel
theorem dX5_ship_23 : decode cX5_ship 23 = .ok (.bipush 6, 2) := by decide +kernel
theorem dX5_ship_25 : decode cX5_ship 25 = .ok (.invokestatic 47, 3) := by decide +kernel
theorem dX5_ship_28 : decode cX5_ship 28 = .ok (.ifCond .eq 15, 3) := by decide +kernel
theorem dX5_ship_31 : decode cX5_ship 31 = .ok (.iload_n 3, 1) := by decide +kernel
theorem dX5_ship_32 : decode cX5_ship 32 = .ok (.bipush 50, 2) := by decide +kernel
theorem dX5_ship_34 : decode cX5_ship 34 = .ok (.sipush 2000, 3) := by decide +kernel
theorem dX5_ship_37 : decode cX5_ship 37 = .ok (.invokestatic 47, 3) := by decide +kernel
theorem dX5_ship_40 : decode cX5_ship 40 = .ok (.ifCond .ne 5, 3) := by decide +kernel
theorem dX5_ship_43 : decode cX5_ship 43 = .ok (.iconst (-1), 1) := by decide +kernel
theorem dX5_ship_44 : decode cX5_ship 44 = .ok (.ireturn, 1) := by decide +kernel
theorem dX5_ship_45 : decode cX5_ship 45 = .ok (.iload 4, 2) := by decide +kernel
theorem dX5_ship_47 : decode cX5_ship 47 = .ok (.ifCond .eq 15, 3) := by decide +kernel
theorem dX5_ship_50 : decode cX5_ship 50 = .ok (.iload_n 1, 1) := by decide +kernel
theorem dX5_ship_51 : decode cX5_ship 51 = .ok (.iconst 2, 1) := by decide +kernel
theorem dX5_ship_52 : decode cX5_ship 52 = .ok (.if_icmp .lt 8, 3) := by decide +kernel
theorem dX5_ship_55 : decode cX5_ship 55 = .ok (.iload_n 2, 1) := by decide +kernel
theorem dX5_ship_56 : decode cX5_ship 56 = .ok (.iconst 2, 1) := by decide +kernel
theorem dX5_ship_57 : decode cX5_ship 57 = .ok (.if_icmp .ge 5, 3) := by decide +kernel
theorem dX5_ship_60 : decode cX5_ship 60 = .ok (.iconst (-1), 1) := by decide +kernel
theorem dX5_ship_61 : decode cX5_ship 61 = .ok (.ireturn, 1) := by decide +kernel
theorem dX5_ship_62 : decode cX5_ship 62 = .ok (.aload_n 0, 1) := by decide +kernel
theorem dX5_ship_63 : decode cX5_ship 63 = .ok (.getfield 11, 3) := by decide +kernel
theorem dX5_ship_66 : decode cX5_ship 66 = .ok (.aload_n 0, 1) := by decide +kernel
theorem dX5_ship_67 : decode cX5_ship 67 = .ok (.getfield 43, 3) := by decide +kernel
theorem dX5_ship_70 : decode cX5_ship 70 = .ok (.new 9, 3) := by decide +kernel
theorem dX5_ship_73 : decode cX5_ship 73 = .ok (.dup, 1) := by decide +kernel
theorem dX5_ship_74 : decode cX5_ship 74 = .ok (.aload_n 0, 1) := by decide +kernel
theorem dX5_ship_75 : decode cX5_ship 75 = .ok (.getfield 43, 3) := by decide +kernel
theorem dX5_ship_78 : decode cX5_ship 78 = .ok (.iload_n 1, 1) := by decide +kernel
theorem dX5_ship_79 : decode cX5_ship 79 = .ok (.iload_n 2, 1) := by decide +kernel
theorem dX5_ship_80 : decode cX5_ship 80 = .ok (.iload_n 3, 1) := by decide +kernel
theorem dX5_ship_81 : decode cX5_ship 81 = .ok (.iload 4, 2) := by decide +kernel
theorem dX5_ship_83 : decode cX5_ship 83 = .ok (.invokespecial 51, 3) := by decide +kernel
theorem dX5_ship_86 : decode cX5_ship 86 = .ok (.aastore, 1) := by decide +kernel
theorem dX5_ship_87 : decode cX5_ship 87 = .ok (.aload_n 0, 1) := by decide +kernel
theorem dX5_ship_88 : decode cX5_ship 88 = .ok (.dup, 1) := by decide +kernel
theorem dX5_ship_89 : decode cX5_ship 89 = .ok (.getfield 43, 3) := by decide +kernel
theorem dX5_ship_92 : decode cX5_ship 92 = .ok (.dup_x1, 1) := by decide +kernel
theorem dX5_ship_93 : decode cX5_ship 93 = .ok (.iconst 1, 1) := by decide +kernel
theorem dX5_ship_94 : decode cX5_ship 94 = .ok (.iadd, 1) := by decide +kernel
theorem dX5_ship_95 : decode cX5_ship 95 = .ok (.putfield 43, 3) := by decide +kernel
theorem dX5_ship_98 : decode cX5_ship 98 = .ok (.ireturn, 1) := by decide +kernel
set_option maxRecDepth 20000 in
theorem ggX5_cabin_X5_shipNumbered : GoodIn wsX5_cabin wsX5_shipNumbered := goodIn_r _ [10, 11, 12, 13, 14, 9, 15, 23, 24, 25, 26, 27, 28, 29, 30, 31, 32, 33, 34] (by decide +kernel) (by decide +kernel)
set_option maxRecDepth 20000 in
theorem gX5_cabin_X5_shipNumbered : GoodIn wsX5_cabin (wsV RX5 54 RX5 yX5_shipNumbered wsX5_shipNumbered) := goodIn_app (goodIn_of _ (by decide +kernel)) ggX5_cabin_X5_shipNumbered
set_option maxRecDepth 20000 in
theorem ggX5_cabin_X5_within : GoodIn wsX5_cabin wsX5_within := goodIn_r _ [15] (by decide +kernel) (by decide +kernel)
set_option maxRecDepth 20000 in
theorem gX5_cabin_X5_within : GoodIn wsX5_cabin (va_wsS RX5 47 yX5_within wsX5_within) := goodIn_app (goodIn_of _ (by decide +kernel)) ggX5_cabin_X5_within
set_option maxRecDepth 20000 in
theorem ggX5_cabin_X1_init : GoodIn wsX5_cabin wsX1_init := goodIn_r _ [17, 18, 19, 20, 21, 22, 35, 36, 37] (by decide +kernel) (by decide +kernel)
set_option maxRecDepth 20000 in
theorem gX5_cabin_X1_init_n61 : GoodIn wsX5_cabin (wsX1_init) := ggX5_cabin_X1_init
theorem dX5_cabin_0 : decode cX5_cabin 0 = .ok (.aload_n 0, 1) := by decide +kernel
theorem dX5_cabin_1 : decode cX5_cabin 1 = .ok (.iload_n 1, 1) := by decide +kernel
theorem dX5_cabin_2 : decode cX5_cabin 2 = .ok (.invokevirtual 54, 3) := by decide +kernel
theorem dX5_cabin_5 : decode cX5_cabin 5 = .ok (.astore_n 3, 1) := by decide +kernel
theorem dX5_cabin_6 : decode cX5_cabin 6 = .ok (.aload_n 3, 1) := by decide +kernel
theorem dX5_cabin_7 : decode cX5_cabin 7 = .ok (.ifnull 25, 3) := by decide +kernel
theorem dX5_cabin_10 : decode cX5_cabin 10 = .ok (.aload_n 0, 1) := by decide +kernel
theorem dX5_cabin_11 : decode cX5_cabin 11 = .ok (.getfield 58, 3) := by decide +kernel
theorem dX5_cabin_14 : decode cX5_cabin 14 = .ok (.aload_n 0, 1) := by decide +kernel
theorem dX5_cabin_15 : decode cX5_cabin 15 = .ok (.getfield 17, 3) := by decide +kernel
theorem dX5_cabin_18 : decode cX5_cabin 18 = .ok (.arraylength, 1) := by decide +kernel
theorem dX5_cabin_19 : decode cX5_cabin 19 = .ok (.if_icmp .ge 13, 3) := by decide +kernel
theorem dX5_cabin_22 : decode cX5_cabin 22 = .ok (.iload_n 2, 1) := by decide +kernel
theorem dX5_cabin_23 : decode cX5_cabin 23 = .ok (.iconst 1, 1) := by decide +kernel
theorem dX5_cabin_24 : decode cX5_cabin 24 = .ok (.bipush 6, 2) := by decide +kernel
theorem dX5_cabin_26 : decode cX5_cabin 26 = .ok (.invokestatic 47, 3) := by decide +kernel
theorem dX5_cabin_29 : decode cX5_cabin 29 = .ok (.ifCond .ne 5, 3) := by decide +kernel
theorem dX5_cabin_32 : decode cX5_cabin 32 = .ok (.iconst (-1), 1) := by decide +kernel
theorem dX5_cabin_33 : decode cX5_cabin 33 = .ok (.ireturn, 1) := by decide +kernel
theorem dX5_cabin_34 : decode cX5_cabin 34 = .ok (.aload_n 0, 1) := by decide +kernel
theorem dX5_cabin_35 : decode cX5_cabin 35 = .ok (.getfield 17, 3) := by decide +kernel
theorem dX5_cabin_38 : decode cX5_cabin 38 = .ok (.aload_n 0, 1) := by decide +kernel
theorem dX5_cabin_39 : decode cX5_cabin 39 = .ok (.getfield 58, 3) := by decide +kernel
theorem dX5_cabin_42 : decode cX5_cabin 42 = .ok (.new 15, 3) := by decide +kernel
theorem dX5_cabin_45 : decode cX5_cabin 45 = .ok (.dup, 1) := by decide +kernel
theorem dX5_cabin_46 : decode cX5_cabin 46 = .ok (.aload_n 3, 1) := by decide +kernel
theorem dX5_cabin_47 : decode cX5_cabin 47 = .ok (.iload_n 2, 1) := by decide +kernel
theorem dX5_cabin_48 : decode cX5_cabin 48 = .ok (.invokespecial 61, 3) := by decide +kernel
theorem dX5_cabin_51 : decode cX5_cabin 51 = .ok (.aastore, 1) := by decide +kernel
theorem dX5_cabin_52 : decode cX5_cabin 52 = .ok (.aload_n 3, 1) := by decide +kernel
theorem dX5_cabin_53 : decode cX5_cabin 53 = .ok (.dup, 1) := by decide +kernel
theorem dX5_cabin_54 : decode cX5_cabin 54 = .ok (.getfield 64, 3) := by decide +kernel
theorem dX5_cabin_57 : decode cX5_cabin 57 = .ok (.iconst 1, 1) := by decide +kernel
theorem dX5_cabin_58 : decode cX5_cabin 58 = .ok (.iadd, 1) := by decide +kernel
theorem dX5_cabin_59 : decode cX5_cabin 59 = .ok (.putfield 64, 3) := by decide +kernel
theorem dX5_cabin_62 : decode cX5_cabin 62 = .ok (.aload_n 0, 1) := by decide +kernel
theorem dX5_cabin_63 : decode cX5_cabin 63 = .ok (.dup, 1) := by decide +kernel
theorem dX5_cabin_64 : decode cX5_cabin 64 = .ok (.getfield 58, 3) := by decide +kernel
theorem dX5_cabin_67 : decode cX5_cabin 67 = .ok (.dup_x1, 1) := by decide +kernel
theorem dX5_cabin_68 : decode cX5_cabin 68 = .ok (.iconst 1, 1) := by decide +kernel
theorem dX5_cabin_69 : decode cX5_cabin 69 = .ok (.iadd, 1) := by decide +kernel
theorem dX5_cabin_70 : decode cX5_cabin 70 = .ok (.putfield 58, 3) := by decide +kernel
theorem dX5_cabin_73 : decode cX5_cabin 73 = .ok (.ireturn, 1) := by decide +kernel
set_option maxRecDepth 20000 in
theorem ggX5_sailing_X5_shipNumbered : GoodIn wsX5_sailing wsX5_shipNumbered := goodIn_r _ [11, 12, 13, 14, 15, 10, 16, 36, 37, 38, 39, 40, 41, 42, 43, 44, 45, 46, 47] (by decide +kernel) (by decide +kernel)
set_option maxRecDepth 20000 in
theorem gX5_sailing_X5_shipNumbered : GoodIn wsX5_sailing (wsV RX5 54 RX5 yX5_shipNumbered wsX5_shipNumbered) := goodIn_app (goodIn_of _ (by decide +kernel)) ggX5_sailing_X5_shipNumbered
set_option maxRecDepth 20000 in
theorem ggX5_sailing_X5_within : GoodIn wsX5_sailing wsX5_within := goodIn_r _ [16] (by decide +kernel) (by decide +kernel)
set_option maxRecDepth 20000 in
theorem gX5_sailing_X5_within : GoodIn wsX5_sailing (va_wsS RX5 47 yX5_within wsX5_within) := goodIn_app (goodIn_of _ (by decide +kernel)) ggX5_sailing_X5_within
set_option maxRecDepth 20000 in
theorem ggX5_sailing_X5_liesTooNear : GoodIn wsX5_sailing wsX5_liesTooNear := goodIn_r _ [20, 1, 2, 21, 22, 23, 24, 36, 37, 38, 39, 40, 41, 42, 43, 44, 45, 46, 47, 48, 49, 50, 51, 52, 53, 54, 55, 56] (by decide +kernel) (by decide +kernel)
set_option maxRecDepth 20000 in
theorem gX5_sailing_X5_liesTooNear : GoodIn wsX5_sailing (wsV RX5 69 RX5 yX5_liesTooNear wsX5_liesTooNear) := goodIn_app (goodIn_of _ (by decide +kernel)) ggX5_sailing_X5_liesTooNear
set_option maxRecDepth 20000 in
theorem ggX5_sailing_X2_init : GoodIn wsX5_sailing wsX2_init := goodIn_r _ [26, 27, 28, 29, 30, 31, 32, 33, 34, 35, 48, 49, 50, 51, 52, 53, 54, 55, 56] (by decide +kernel) (by decide +kernel)
set_option maxRecDepth 20000 in
theorem gX5_sailing_X2_init_n73 : GoodIn wsX5_sailing (wsX2_init) := ggX5_sailing_X2_init
theorem dX5_sailing_0 : decode cX5_sailing 0 = .ok (.aload_n 0, 1) := by decide +kernel
theorem dX5_sailing_1 : decode cX5_sailing 1 = .ok (.iload_n 1, 1) := by decide +kernel
theorem dX5_sailing_2 : decode cX5_sailing 2 = .ok (.invokevirtual 54, 3) := by decide +kernel
theorem dX5_sailing_5 : decode cX5_sailing 5 = .ok (.astore 4, 2) := by decide +kernel
theorem dX5_sailing_7 : decode cX5_sailing 7 = .ok (.aload 4, 2) := by decide +kernel
theorem dX5_sailing_9 : decode cX5_sailing 9 = .ok (.ifnull 35, 3) := by decide +kernel
theorem dX5_sailing_12 : decode cX5_sailing 12 = .ok (.aload_n 0, 1) := by decide +kernel
theorem dX5_sailing_13 : decode cX5_sailing 13 = .ok (.getfield 65, 3) := by decide +kernel
theorem dX5_sailing_16 : decode cX5_sailing 16 = .ok (.aload_n 0, 1) := by decide +kernel
theorem dX5_sailing_17 : decode cX5_sailing 17 = .ok (.getfield 23, 3) := by decide +kernel
theorem dX5_sailing_20 : decode cX5_sailing 20 = .ok (.arraylength, 1) := by decide +kernel
theorem dX5_sailing_21 : decode cX5_sailing 21 = .ok (.if_icmp .ge 23, 3) := by decide +kernel
theorem dX5_sailing_24 : decode cX5_sailing 24 = .ok (.iload_n 2, 1) := by decide +kernel
theorem dX5_sailing_25 : decode cX5_sailing 25 = .ok (.iconst 0, 1) := by decide +kernel
theorem dX5_sailing_26 : decode cX5_sailing 26 = .ok (.ldc 68, 2) := by decide +kernel
theorem dX5_sailing_28 : decode cX5_sailing 28 = .ok (.invokestatic 47, 3) := by decide +kernel
theorem dX5_sailing_31 : decode cX5_sailing 31 = .ok (.ifCond .eq 13, 3) := by decide +kernel
theorem dX5_sailing_34 : decode cX5_sailing 34 = .ok (.iload_n 3, 1) := by decide +kernel
theorem dX5_sailing_35 : decode cX5_sailing 35 = .ok (.iconst 0, 1) := by decide +kernel
theorem dX5_sailing_36 : decode cX5_sailing 36 = .ok (.bipush 7, 2) := by decide +kernel
theorem dX5_sailing_38 : decode cX5_sailing 38 = .ok (.invokestatic 47, 3) := by decide +kernel
theorem dX5_sailing_41 : decode cX5_sailing 41 = .ok (.ifCond .ne 5, 3) := by decide +kernel
theorem dX5_sailing_44 : decode cX5_sailing 44 = .ok (.iconst (-1), 1) := by decide +kernel
theorem dX5_sailing_45 : decode cX5_sailing 45 = .ok (.ireturn, 1) := by decide +kernel
theorem dX5_sailing_46 : decode cX5_sailing 46 = .ok (.aload_n 0, 1) := by decide +kernel
theorem dX5_sailing_47 : decode cX5_sailing 47 = .ok (.aload 4, 2) := by decide +kernel
theorem dX5_sailing_49 : decode cX5_sailing 49 = .ok (.iload_n 2, 1) := by decide +kernel
theorem dX5_sailing_50 : decode cX5_sailing 50 = .ok (.invokevirtual 69, 3) := by decide +kernel
theorem dX5_sailing_53 : decode cX5_sailing 53 = .ok (.ifCond .eq 5, 3) := by decide +kernel
theorem dX5_sailing_56 : decode cX5_sailing 56 = .ok (.iconst (-1), 1) := by decide +kernel
theorem dX5_sailing_57 : decode cX5_sailing 57 = .ok (.ireturn, 1) := by decide +kernel
theorem dX5_sailing_58 : decode cX5_sailing 58 = .ok (.aload_n 0, 1) := by decide +kernel
theorem dX5_sailing_59 : decode cX5_sailing 59 = .ok (.getfield 23, 3) := by decide +kernel
theorem dX5_sailing_62 : decode cX5_sailing 62 = .ok (.aload_n 0, 1) := by decide +kernel
theorem dX5_sailing_63 : decode cX5_sailing 63 = .ok (.getfield 65, 3) := by decide +kernel
theorem dX5_sailing_66 : decode cX5_sailing 66 = .ok (.new 21, 3) := by decide +kernel
theorem dX5_sailing_69 : decode cX5_sailing 69 = .ok (.dup, 1) := by decide +kernel
theorem dX5_sailing_70 : decode cX5_sailing 70 = .ok (.aload_n 0, 1) := by decide +kernel
theorem dX5_sailing_71 : decode cX5_sailing 71 = .ok (.getfield 65, 3) := by decide +kernel
theorem dX5_sailing_74 : decode cX5_sailing 74 = .ok (.aload 4, 2) := by decide +kernel
theorem dX5_sailing_76 : decode cX5_sailing 76 = .ok (.iload_n 2, 1) := by decide +kernel
theorem dX5_sailing_77 : decode cX5_sailing 77 = .ok (.iload_n 3, 1) := by decide +kernel
theorem dX5_sailing_78 : decode cX5_sailing 78 = .ok (.invokespecial 73, 3) := by decide +kernel
theorem dX5_sailing_81 : decode cX5_sailing 81 = .ok (.aastore, 1) := by decide +kernel
theorem dX5_sailing_82 : decode cX5_sailing 82 = .ok (.aload_n 0, 1) := by decide +kernel
theorem dX5_sailing_83 : decode cX5_sailing 83 = .ok (.dup, 1) := by decide +kernel
theorem dX5_sailing_84 : decode cX5_sailing 84 = .ok (.getfield 65, 3) := by decide +kernel
theorem dX5_sailing_87 : decode cX5_sailing 87 = .ok (.dup_x1, 1) := by decide +kernel
theorem dX5_sailing_88 : decode cX5_sailing 88 = .ok (.iconst 1, 1) := by decide +kernel
theorem dX5_sailing_89 : decode cX5_sailing 89 = .ok (.iadd, 1) := by decide +kernel
theorem dX5_sailing_90 : decode cX5_sailing 90 = .ok (.putfield 65, 3) := by decide +kernel
theorem dX5_sailing_93 : decode cX5_sailing 93 = .ok (.ireturn, 1) := by decide +kernel
theorem dX5_liesTooNear_0 : decode cX5_liesTooNear 0 = .ok (.iconst 0, 1) := by decide +kernel
theorem dX5_liesTooNear_1 : decode cX5_liesTooNear 1 = .ok (.istore_n 3, 1) := by decide +kernel
theorem dX5_liesTooNear_2 : decode cX5_liesTooNear 2 = .ok (.iload_n 3, 1) := by decide +kernel
theorem dX5_liesTooNear_3 : decode cX5_liesTooNear 3 = .ok (.aload_n 0, 1) := by decide +kernel
theorem dX5_liesTooNear_4 : decode cX5_liesTooNear 4 = .ok (.getfield 65, 3) := by decide +kernel
theorem dX5_liesTooNear_7 : decode cX5_liesTooNear 7 = .ok (.if_icmp .ge 52, 3) := by decide +kernel
theorem dX5_liesTooNear_10 : decode cX5_liesTooNear 10 = .ok (.aload_n 0, 1) := by decide +kernel
theorem dX5_liesTooNear_11 : decode cX5_liesTooNear 11 = .ok (.getfield 23, 3) := by decide +kernel
theorem dX5_liesTooNear_14 : decode cX5_liesTooNear 14 = .ok (.iload_n 3, 1) := by decide +kernel
theorem dX5_liesTooNear_15 : decode cX5_liesTooNear 15 = .ok (.aaload, 1) := by decide +kernel
theorem dX5_liesTooNear_16 : decode cX5_liesTooNear 16 = .ok (.astore 4, 2) := by decide +kernel
theorem dX5_liesTooNear_18 : decode cX5_liesTooNear 18 = .ok (.aload 4, 2) := by decide +kernel
theorem dX5_liesTooNear_20 : decode cX5_liesTooNear 20 = .ok (.getfield 76, 3) := by decide +kernel
theorem dX5_liesTooNear_23 : decode cX5_liesTooNear 23 = .ok (.aload_n 1, 1) := by decide +kernel
theorem dX5_liesTooNear_24 : decode cX5_liesTooNear 24 = .ok (.if_acmp .ne 29, 3) := by decide +kernel
theorem dX5_liesTooNear_27 : decode cX5_liesTooNear 27 = .ok (.aload 4, 2) := by decide +kernel
theorem dX5_liesTooNear_29 : decode cX5_liesTooNear 29 = .ok (.getfield 80, 3) := by decide +kernel
theorem dX5_liesTooNear_32 : decode cX5_liesTooNear 32 = .ok (.iconst 3, 1) := by decide +kernel
theorem dX5_liesTooNear_33 : decode cX5_liesTooNear 33 = .ok (.if_icmp .eq 20, 3) := by decide +kernel
theorem dX5_liesTooNear_36 : decode cX5_liesTooNear 36 = .ok (.aload 4, 2) := by decide +kernel
theorem dX5_liesTooNear_38 : decode cX5_liesTooNear 38 = .ok (.getfield 83, 3) := by decide +kernel
theorem dX5_liesTooNear_41 : decode cX5_liesTooNear 41 = .ok (.iload_n 2, 1) := by decide +kernel
theorem dX5_liesTooNear_42 : decode cX5_liesTooNear 42 = .ok (.isub, 1) := by decide +kernel
theorem dX5_liesTooNear_43 : decode cX5_liesTooNear 43 = .ok (.invokestatic 86, 3) := by decide +kernel
theorem dX5_liesTooNear_46 : decode cX5_liesTooNear 46 = .ok (.bipush 90, 2) := by decide +kernel
theorem dX5_liesTooNear_48 : decode cX5_liesTooNear 48 = .ok (.if_icmp .ge 5, 3) := by decide +kernel
theorem dX5_liesTooNear_51 : decode cX5_liesTooNear 51 = .ok (.iconst 1, 1) := by decide +kernel
theorem dX5_liesTooNear_52 : decode cX5_liesTooNear 52 = .ok (.ireturn, 1) := by decide +kernel
theorem dX5_liesTooNear_53 : decode cX5_liesTooNear 53 = .ok (.iinc 3 1, 3) := by decide +kernel
theorem dX5_liesTooNear_56 : decode cX5_liesTooNear 56 = .ok (.goto (-54), 3) := by decide +kernel
theorem dX5_liesTooNear_59 : decode cX5_liesTooNear 59 = .ok (.iconst 0, 1) := by decide +kernel
theorem dX5_liesTooNear_60 : decode cX5_liesTooNear 60 = .ok (.ireturn, 1) := by decide +kernel
set_option maxRecDepth 20000 in
theorem ggX5_book_X5_sailingNumbered : GoodIn wsX5_book wsX5_sailingNumbered := goodIn_r _ [10, 11, 12, 13, 14, 9, 15, 46, 47, 48, 49, 50, 51, 52, 53, 54, 55, 56, 57] (by decide +kernel) (by decide +kernel)
set_option maxRecDepth 20000 in
theorem gX5_book_X5_sailingNumbered : GoodIn wsX5_book (wsV RX5 92 RX5 yX5_sailingNumbered wsX5_sailingNumbered) := goodIn_app (goodIn_of _ (by decide +kernel)) ggX5_book_X5_sailingNumbered
set_option maxRecDepth 20000 in
theorem ggX5_book_X2_takesTickets : GoodIn wsX5_book wsX2_takesTickets := goodIn_r _ [19, 20, 21, 22, 23, 17, 24, 25, 58, 59, 60, 61, 62, 63, 64, 65, 66] (by decide +kernel) (by decide +kernel)
set_option maxRecDepth 20000 in
theorem gX5_book_X2_takesTickets_n96 : GoodIn wsX5_book (wsX2_takesTickets) := ggX5_book_X2_takesTickets
set_option maxRecDepth 20000 in
theorem ggX5_book_X5_within : GoodIn wsX5_book wsX5_within := goodIn_r _ [15] (by decide +kernel) (by decide +kernel)
set_option maxRecDepth 20000 in
theorem gX5_book_X5_within : GoodIn wsX5_book (va_wsS RX5 47 yX5_within wsX5_within) := goodIn_app (goodIn_of _ (by decide +kernel)) ggX5_book_X5_within
set_option maxRecDepth 20000 in
theorem ggX5_book_X5_fare : GoodIn wsX5_book wsX5_fare := goodIn_r _ [28] (by decide +kernel) (by decide +kernel)
set_option maxRecDepth 20000 in
theorem gX5_book_X5_fare : GoodIn wsX5_book (va_wsS RX5 109 yX5_fare wsX5_fare) := goodIn_app (goodIn_of _ (by decide +kernel)) ggX5_book_X5_fare
set_option maxRecDepth 20000 in
theorem ggX5_book_X4_init : GoodIn wsX5_book wsX4_init := goodIn_r _ [30, 31, 32, 33, 34, 35, 36, 37, 38, 39, 40, 41, 42, 43, 44, 45, 75, 76, 77, 78, 79, 80, 81, 82, 83, 84, 85, 86, 87, 88, 89, 90] (by decide +kernel) (by decide +kernel)
set_option maxRecDepth 20000 in
theorem gX5_book_X4_init_n113 : GoodIn wsX5_book (wsX4_init) := ggX5_book_X4_init
theorem dX5_book_0 : decode cX5_book 0 = .ok (.aload_n 0, 1) := by decide +kernel
theorem dX5_book_1 : decode cX5_book 1 = .ok (.iload_n 1, 1) := by decide +kernel
theorem dX5_book_2 : decode cX5_book 2 = .ok (.invokevirtual 92, 3) := by decide +kernel
theorem dX5_book_5 : decode cX5_book 5 = .ok (.astore 5, 2) := by decide +kernel
theorem dX5_book_7 : decode cX5_book 7 = .ok (.aload 5, 2) := by decide +kernel
theorem dX5_book_9 : decode cX5_book 9 = .ok (.ifnull 23, 3) := by decide +kernel
theorem dX5_book_12 : decode cX5_book 12 = .ok (.aload 5, 2) := by decide +kernel
theorem dX5_book_14 : decode cX5_book 14 = .ok (.invokevirtual 96, 3) := by decide +kernel
theorem dX5_book_17 : decode cX5_book 17 = .ok (.ifCond .eq 15, 3) := by decide +kernel
theorem dX5_book_20 : decode cX5_book 20 = .ok (.aload_n 0, 1) := by decide +kernel
theorem dX5_book_21 : decode cX5_book 21 = .ok (.getfield 100, 3) := by decide +kernel
theorem dX5_book_24 : decode cX5_book 24 = .ok (.aload_n 0, 1) := by decide +kernel
theorem dX5_book_25 : decode cX5_book 25 = .ok (.getfield 29, 3) := by decide +kernel
theorem dX5_book_28 : decode cX5_book 28 = .ok (.arraylength, 1) := by decide +kernel
theorem dX5_book_29 : decode cX5_book 29 = .ok (.if_icmp .lt 5, 3) := by decide +kernel
theorem dX5_book_32 : decode cX5_book 32 = .ok (.iconst (-1), 1) := by decide +kernel
theorem dX5_book_33 : decode cX5_book 33 = .ok (.ireturn, 1) := by decide +kernel
theorem dX5_book_34 : decode cX5_book 34 = .ok (.iload_n 2, 1) := by decide +kernel
theorem dX5_book_35 : decode cX5_book 35 = .ok (.bipush 20, 2) := by decide +kernel
theorem dX5_book_37 : decode cX5_book 37 = .ok (.sipush 250, 3) := by decide +kernel
theorem dX5_book_40 : decode cX5_book 40 = .ok (.invokestatic 47, 3) := by decide +kernel
theorem dX5_book_43 : decode cX5_book 43 = .ok (.ifCond .eq 35, 3) := by decide +kernel
theorem dX5_book_46 : decode cX5_book 46 = .ok (.iload_n 3, 1) := by decide +kernel
theorem dX5_book_47 : decode cX5_book 47 = .ok (.iconst 0, 1) := by decide +kernel
theorem dX5_book_48 : decode cX5_book 48 = .ok (.iconst 2, 1) := by decide +kernel
theorem dX5_book_49 : decode cX5_book 49 = .ok (.invokestatic 47, 3) := by decide +kernel
theorem dX5_book_52 : decode cX5_book 52 = .ok (.ifCond .eq 26, 3) := by decide +kernel
theorem dX5_book_55 : decode cX5_book 55 = .ok (.iload 4, 2) := by decide +kernel
theorem dX5_book_57 : decode cX5_book 57 = .ok (.iconst 0, 1) := by decide +kernel
theorem dX5_book_58 : decode cX5_book 58 = .ok (.bipush 6, 2) := by decide +kernel
theorem dX5_book_60 : decode cX5_book 60 = .ok (.invokestatic 47, 3) := by decide +kernel
theorem dX5_book_63 : decode cX5_book 63 = .ok (.ifCond .eq 15, 3) := by decide +kernel
theorem dX5_book_66 : decode cX5_book 66 = .ok (.aload 5, 2) := by decide +kernel
theorem dX5_book_68 : decode cX5_book 68 = .ok (.getfield 76, 3) := by decide +kernel
theorem dX5_book_71 : decode cX5_book 71 = .ok (.getfield 103, 3) := by decide +kernel
theorem dX5_book_74 : decode cX5_book 74 = .ok (.iload_n 2, 1) := by decide +kernel
theorem dX5_book_75 : decode cX5_book 75 = .ok (.if_icmp .ge 5, 3) := by decide +kernel
theorem dX5_book_78 : decode cX5_book 78 = .ok (.iconst (-1), 1) := by decide +kernel
theorem dX5_book_79 : decode cX5_book 79 = .ok (.ireturn, 1) := by decide +kernel
theorem dX5_book_80 : decode cX5_book 80 = .ok (.iload_n 2, 1) := by decide +kernel
theorem dX5_book_81 : decode cX5_book 81 = .ok (.iload_n 3, 1) := by decide +kernel
theorem dX5_book_82 : decode cX5_book 82 = .ok (.iload 4, 2) := by decide +kernel
theorem dX5_book_84 : decode cX5_book 84 = .ok (.aload 5, 2) := by decide +kernel
theorem dX5_book_86 : decode cX5_book 86 = .ok (.getfield 106, 3) := by decide +kernel
theorem dX5_book_89 : decode cX5_book 89 = .ok (.invokestatic 109, 3) := by decide +kernel
theorem dX5_book_92 : decode cX5_book 92 = .ok (.istore 6, 2) := by decide +kernel
theorem dX5_book_94 : decode cX5_book 94 = .ok (.aload_n 0, 1) := by decide +kernel
theorem dX5_book_95 : decode cX5_book 95 = .ok (.getfield 29, 3) := by decide +kernel
theorem dX5_book_98 : decode cX5_book 98 = .ok (.aload_n 0, 1) := by decide +kernel
theorem dX5_book_99 : decode cX5_book 99 = .ok (.getfield 100, 3) := by decide +kernel
theorem dX5_book_102 : decode cX5_book 102 = .ok (.new 27, 3) := by decide +kernel
theorem dX5_book_105 : decode cX5_book 105 = .ok (.dup, 1) := by decide +kernel
theorem dX5_book_106 : decode cX5_book 106 = .ok (.aload_n 0, 1) := by decide +kernel
theorem dX5_book_107 : decode cX5_book 107 = .ok (.getfield 100, 3) := by decide +kernel
theorem dX5_book_110 : decode cX5_book 110 = .ok (.aload 5, 2) := by decide +kernel
theorem dX5_book_112 : decode cX5_book 112 = .ok (.iload_n 2, 1) := by decide +kernel
theorem dX5_book_113 : decode cX5_book 113 = .ok (.iload_n 3, 1) := by decide +kernel
theorem dX5_book_114 : decode cX5_book 114 = .ok (.iload 4, 2) := by decide +kernel
theorem dX5_book_116 : decode cX5_book 116 = .ok (.iload 6, 2) := by decide +kernel
theorem dX5_book_118 : decode cX5_book 118 = .ok (.invokespecial 113, 3) := by decide +kernel
theorem dX5_book_121 : decode cX5_book 121 = .ok (.aastore, 1) := by decide +kernel
theorem dX5_book_122 : decode cX5_book 122 = .ok (.aload_n 0, 1) := by decide +kernel
theorem dX5_book_123 : decode cX5_book 123 = .ok (.dup, 1) := by decide +kernel
theorem dX5_book_124 : decode cX5_book 124 = .ok (.getfield 100, 3) := by decide +kernel
theorem dX5_book_127 : decode cX5_book 127 = .ok (.dup_x1, 1) := by decide +kernel
theorem dX5_book_128 : decode cX5_book 128 = .ok (.iconst 1, 1) := by decide +kernel
theorem dX5_book_129 : decode cX5_book 129 = .ok (.iadd, 1) := by decide +kernel
theorem dX5_book_130 : decode cX5_book 130 = .ok (.putfield 100, 3) := by decide +kernel
theorem dX5_book_133 : decode cX5_book 133 = .ok (.ireturn, 1) := by decide +kernel
theorem dX5_fare_0 : decode cX5_fare 0 = .ok (.sipush 500, 3) := by decide +kernel
theorem dX5_fare_3 : decode cX5_fare 3 = .ok (.iconst 3, 1) := by decide +kernel
theorem dX5_fare_4 : decode cX5_fare 4 = .ok (.iload_n 0, 1) := by decide +kernel
theorem dX5_fare_5 : decode cX5_fare 5 = .ok (.imul, 1) := by decide +kernel
theorem dX5_fare_6 : decode cX5_fare 6 = .ok (.iadd, 1) := by decide +kernel
theorem dX5_fare_7 : decode cX5_fare 7 = .ok (.sipush 700, 3) := by decide +kernel
theorem dX5_fare_10 : decode cX5_fare 10 = .ok (.iload_n 1, 1) := by decide +kernel
theorem dX5_fare_11 : decode cX5_fare 11 = .ok (.imul, 1) := by decide +kernel
theorem dX5_fare_12 : decode cX5_fare 12 = .ok (.iadd, 1) := by decide +kernel
theorem dX5_fare_13 : decode cX5_fare 13 = .ok (.sipush 1500, 3) := by decide +kernel
theorem dX5_fare_16 : decode cX5_fare 16 = .ok (.iload_n 2, 1) := by decide +kernel
theorem dX5_fare_17 : decode cX5_fare 17 = .ok (.imul, 1) := by decide +kernel
theorem dX5_fare_18 : decode cX5_fare 18 = .ok (.iadd, 1) := by decide +kernel
theorem dX5_fare_19 : decode cX5_fare 19 = .ok (.istore 4, 2) := by decide +kernel
theorem dX5_fare_21 : decode cX5_fare 21 = .ok (.iload 4, 2) := by decide +kernel
theorem dX5_fare_23 : decode cX5_fare 23 = .ok (.bipush 100, 2) := by decide +kernel
theorem dX5_fare_25 : decode cX5_fare 25 = .ok (.iconst 5, 1) := by decide +kernel
theorem dX5_fare_26 : decode cX5_fare 26 = .ok (.iload_n 3, 1) := by decide +kernel
theorem dX5_fare_27 : decode cX5_fare 27 = .ok (.imul, 1) := by decide +kernel
theorem dX5_fare_28 : decode cX5_fare 28 = .ok (.iadd, 1) := by decide +kernel
theorem dX5_fare_29 : decode cX5_fare 29 = .ok (.imul, 1) := by decide +kernel
theorem dX5_fare_30 : decode cX5_fare 30 = .ok (.bipush 50, 2) := by decide +kernel
theorem dX5_fare_32 : decode cX5_fare 32 = .ok (.iadd, 1) := by decide +kernel
theorem dX5_fare_33 : decode cX5_fare 33 = .ok (.bipush 100, 2) := by decide +kernel
theorem dX5_fare_35 : decode cX5_fare 35 = .ok (.idiv, 1) := by decide +kernel
theorem dX5_fare_36 : decode cX5_fare 36 = .ok (.ireturn, 1) := by decide +kernel
set_option maxRecDepth 20000 in
theorem ggX5_arrive_X5_ticketNumbered : GoodIn wsX5_arrive wsX5_ticketNumbered := goodIn_r _ [6, 7, 8, 9, 10, 5, 11, 33, 34, 35, 36, 37, 38, 39, 40, 41, 42, 43, 44] (by decide +kernel) (by decide +kernel)
set_option maxRecDepth 20000 in
theorem gX5_arrive_X5_ticketNumbered : GoodIn wsX5_arrive (wsV RX5 116 RX5 yX5_ticketNumbered wsX5_ticketNumbered) := goodIn_app (goodIn_of _ (by decide +kernel)) ggX5_arrive_X5_ticketNumbered
set_option maxRecDepth 20000 in
theorem ggX5_arrive_X5_within : GoodIn wsX5_arrive wsX5_within := goodIn_r _ [11] (by decide +kernel) (by decide +kernel)
set_option maxRecDepth 20000 in
theorem gX5_arrive_X5_within : GoodIn wsX5_arrive (va_wsS RX5 47 yX5_within wsX5_within) := goodIn_app (goodIn_of _ (by decide +kernel)) ggX5_arrive_X5_within
set_option maxRecDepth 20000 in
theorem ggX5_arrive_X2_isPlannedOrOpen : GoodIn wsX5_arrive wsX2_isPlannedOrOpen := goodIn_r _ [15, 16, 45, 46, 47, 48, 49, 50, 51, 52, 53] (by decide +kernel) (by decide +kernel)
set_option maxRecDepth 20000 in
theorem gX5_arrive_X2_isPlannedOrOpen_n126 : GoodIn wsX5_arrive (wsX2_isPlannedOrOpen) := ggX5_arrive_X2_isPlannedOrOpen
theorem dX5_arrive_0 : decode cX5_arrive 0 = .ok (.aload_n 0, 1) := by decide +kernel
theorem dX5_arrive_1 : decode cX5_arrive 1 = .ok (.iload_n 1, 1) := by decide +kernel
theorem dX5_arrive_2 : decode cX5_arrive 2 = .ok (.invokevirtual 116, 3) := by decide +kernel
theorem dX5_arrive_5 : decode cX5_arrive 5 = .ok (.astore_n 3, 1) := by decide +kernel
theorem dX5_arrive_6 : decode cX5_arrive 6 = .ok (.aload_n 3, 1) := by decide +kernel
theorem dX5_arrive_7 : decode cX5_arrive 7 = .ok (.ifnull 30, 3) := by decide +kernel
theorem dX5_arrive_10 : decode cX5_arrive 10 = .ok (.aload_n 3, 1) := by decide +kernel
theorem dX5_arrive_11 : decode cX5_arrive 11 = .ok (.getfield 120, 3) := by decide +kernel
theorem dX5_arrive_14 : decode cX5_arrive 14 = .ok (.ifCond .ne 23, 3) := by decide +kernel
theorem dX5_arrive_17 : decode cX5_arrive 17 = .ok (.iload_n 2, 1) := by decide +kernel
theorem dX5_arrive_18 : decode cX5_arrive 18 = .ok (.iconst 0, 1) := by decide +kernel
theorem dX5_arrive_19 : decode cX5_arrive 19 = .ok (.ldc 121, 2) := by decide +kernel
theorem dX5_arrive_21 : decode cX5_arrive 21 = .ok (.invokestatic 47, 3) := by decide +kernel
theorem dX5_arrive_24 : decode cX5_arrive 24 = .ok (.ifCond .eq 13, 3) := by decide +kernel
theorem dX5_arrive_27 : decode cX5_arrive 27 = .ok (.aload_n 3, 1) := by decide +kernel
theorem dX5_arrive_28 : decode cX5_arrive 28 = .ok (.getfield 122, 3) := by decide +kernel
theorem dX5_arrive_31 : decode cX5_arrive 31 = .ok (.invokevirtual 126, 3) := by decide +kernel
theorem dX5_arrive_34 : decode cX5_arrive 34 = .ok (.ifCond .ne 5, 3) := by decide +kernel
theorem dX5_arrive_37 : decode cX5_arrive 37 = .ok (.iconst 0, 1) := by decide +kernel
theorem dX5_arrive_38 : decode cX5_arrive 38 = .ok (.ireturn, 1) := by decide +kernel
theorem dX5_arrive_39 : decode cX5_arrive 39 = .ok (.aload_n 3, 1) := by decide +kernel
theorem dX5_arrive_40 : decode cX5_arrive 40 = .ok (.iconst 1, 1) := by decide +kernel
theorem dX5_arrive_41 : decode cX5_arrive 41 = .ok (.putfield 120, 3) := by decide +kernel
theorem dX5_arrive_44 : decode cX5_arrive 44 = .ok (.aload_n 3, 1) := by decide +kernel
theorem dX5_arrive_45 : decode cX5_arrive 45 = .ok (.iload_n 2, 1) := by decide +kernel
theorem dX5_arrive_46 : decode cX5_arrive 46 = .ok (.putfield 129, 3) := by decide +kernel
theorem dX5_arrive_49 : decode cX5_arrive 49 = .ok (.iconst 1, 1) := by decide +kernel
theorem dX5_arrive_50 : decode cX5_arrive 50 = .ok (.ireturn, 1) := by decide +kernel
set_option maxRecDepth 20000 in
theorem ggX5_open_X5_sailingNumbered : GoodIn wsX5_open wsX5_sailingNumbered := goodIn_r _ [5, 6, 7, 8, 9, 4, 10, 24, 25, 26, 27, 28, 29, 30, 31, 32, 33, 34, 35] (by decide +kernel) (by decide +kernel)
set_option maxRecDepth 20000 in
theorem gX5_open_X5_sailingNumbered : GoodIn wsX5_open (wsV RX5 92 RX5 yX5_sailingNumbered wsX5_sailingNumbered) := goodIn_app (goodIn_of _ (by decide +kernel)) ggX5_open_X5_sailingNumbered
set_option maxRecDepth 20000 in
theorem ggX5_open_X5_hasOpenSailing : GoodIn wsX5_open wsX5_hasOpenSailing := goodIn_r _ [14, 6, 7, 24, 25, 26, 27, 28, 29, 30, 31, 32, 33, 34, 35, 15, 16, 17, 18, 19, 20, 21, 22, 23] (by decide +kernel) (by decide +kernel)
set_option maxRecDepth 20000 in
theorem gX5_open_X5_hasOpenSailing : GoodIn wsX5_open (wsV RX5 130 RX5 yX5_hasOpenSailing wsX5_hasOpenSailing) := goodIn_app (goodIn_of _ (by decide +kernel)) ggX5_open_X5_hasOpenSailing
theorem dX5_open_0 : decode cX5_open 0 = .ok (.aload_n 0, 1) := by decide +kernel
theorem dX5_open_1 : decode cX5_open 1 = .ok (.iload_n 1, 1) := by decide +kernel
theorem dX5_open_2 : decode cX5_open 2 = .ok (.invokevirtual 92, 3) := by decide +kernel
theorem dX5_open_5 : decode cX5_open 5 = .ok (.astore_n 2, 1) := by decide +kernel
theorem dX5_open_6 : decode cX5_open 6 = .ok (.aload_n 2, 1) := by decide +kernel
theorem dX5_open_7 : decode cX5_open 7 = .ok (.ifnull 21, 3) := by decide +kernel
theorem dX5_open_10 : decode cX5_open 10 = .ok (.aload_n 2, 1) := by decide +kernel
theorem dX5_open_11 : decode cX5_open 11 = .ok (.getfield 80, 3) := by decide +kernel
theorem dX5_open_14 : decode cX5_open 14 = .ok (.ifCond .ne 14, 3) := by decide +kernel
theorem dX5_open_17 : decode cX5_open 17 = .ok (.aload_n 0, 1) := by decide +kernel
theorem dX5_open_18 : decode cX5_open 18 = .ok (.aload_n 2, 1) := by decide +kernel
theorem dX5_open_19 : decode cX5_open 19 = .ok (.getfield 76, 3) := by decide +kernel
theorem dX5_open_22 : decode cX5_open 22 = .ok (.invokevirtual 130, 3) := by decide +kernel
theorem dX5_open_25 : decode cX5_open 25 = .ok (.ifCond .eq 5, 3) := by decide +kernel
theorem dX5_open_28 : decode cX5_open 28 = .ok (.iconst 0, 1) := by decide +kernel
theorem dX5_open_29 : decode cX5_open 29 = .ok (.ireturn, 1) := by decide +kernel
theorem dX5_open_30 : decode cX5_open 30 = .ok (.aload_n 2, 1) := by decide +kernel
theorem dX5_open_31 : decode cX5_open 31 = .ok (.iconst 1, 1) := by decide +kernel
theorem dX5_open_32 : decode cX5_open 32 = .ok (.putfield 80, 3) := by decide +kernel
theorem dX5_open_35 : decode cX5_open 35 = .ok (.iconst 1, 1) := by decide +kernel
theorem dX5_open_36 : decode cX5_open 36 = .ok (.ireturn, 1) := by decide +kernel
theorem dX5_hasOpenSailing_0 : decode cX5_hasOpenSailing 0 = .ok (.iconst 0, 1) := by decide +kernel
theorem dX5_hasOpenSailing_1 : decode cX5_hasOpenSailing 1 = .ok (.istore_n 2, 1) := by decide +kernel
theorem dX5_hasOpenSailing_2 : decode cX5_hasOpenSailing 2 = .ok (.iload_n 2, 1) := by decide +kernel
theorem dX5_hasOpenSailing_3 : decode cX5_hasOpenSailing 3 = .ok (.aload_n 0, 1) := by decide +kernel
theorem dX5_hasOpenSailing_4 : decode cX5_hasOpenSailing 4 = .ok (.getfield 65, 3) := by decide +kernel
theorem dX5_hasOpenSailing_7 : decode cX5_hasOpenSailing 7 = .ok (.if_icmp .ge 37, 3) := by decide +kernel
theorem dX5_hasOpenSailing_10 : decode cX5_hasOpenSailing 10 = .ok (.aload_n 0, 1) := by decide +kernel
theorem dX5_hasOpenSailing_11 : decode cX5_hasOpenSailing 11 = .ok (.getfield 23, 3) := by decide +kernel
theorem dX5_hasOpenSailing_14 : decode cX5_hasOpenSailing 14 = .ok (.iload_n 2, 1) := by decide +kernel
theorem dX5_hasOpenSailing_15 : decode cX5_hasOpenSailing 15 = .ok (.aaload, 1) := by decide +kernel
theorem dX5_hasOpenSailing_16 : decode cX5_hasOpenSailing 16 = .ok (.getfield 76, 3) := by decide +kernel
theorem dX5_hasOpenSailing_19 : decode cX5_hasOpenSailing 19 = .ok (.aload_n 1, 1) := by decide +kernel
theorem dX5_hasOpenSailing_20 : decode cX5_hasOpenSailing 20 = .ok (.if_acmp .ne 18, 3) := by decide +kernel
theorem dX5_hasOpenSailing_23 : decode cX5_hasOpenSailing 23 = .ok (.aload_n 0, 1) := by decide +kernel
theorem dX5_hasOpenSailing_24 : decode cX5_hasOpenSailing 24 = .ok (.getfield 23, 3) := by decide +kernel
theorem dX5_hasOpenSailing_27 : decode cX5_hasOpenSailing 27 = .ok (.iload_n 2, 1) := by decide +kernel
theorem dX5_hasOpenSailing_28 : decode cX5_hasOpenSailing 28 = .ok (.aaload, 1) := by decide +kernel
theorem dX5_hasOpenSailing_29 : decode cX5_hasOpenSailing 29 = .ok (.getfield 80, 3) := by decide +kernel
theorem dX5_hasOpenSailing_32 : decode cX5_hasOpenSailing 32 = .ok (.iconst 1, 1) := by decide +kernel
theorem dX5_hasOpenSailing_33 : decode cX5_hasOpenSailing 33 = .ok (.if_icmp .ne 5, 3) := by decide +kernel
theorem dX5_hasOpenSailing_36 : decode cX5_hasOpenSailing 36 = .ok (.iconst 1, 1) := by decide +kernel
theorem dX5_hasOpenSailing_37 : decode cX5_hasOpenSailing 37 = .ok (.ireturn, 1) := by decide +kernel
theorem dX5_hasOpenSailing_38 : decode cX5_hasOpenSailing 38 = .ok (.iinc 2 1, 3) := by decide +kernel
theorem dX5_hasOpenSailing_41 : decode cX5_hasOpenSailing 41 = .ok (.goto (-39), 3) := by decide +kernel
theorem dX5_hasOpenSailing_44 : decode cX5_hasOpenSailing 44 = .ok (.iconst 0, 1) := by decide +kernel
theorem dX5_hasOpenSailing_45 : decode cX5_hasOpenSailing 45 = .ok (.ireturn, 1) := by decide +kernel
set_option maxRecDepth 20000 in
theorem ggX5_settle_X5_within : GoodIn wsX5_settle wsX5_within := goodIn_r _ [4] (by decide +kernel) (by decide +kernel)
set_option maxRecDepth 20000 in
theorem gX5_settle_X5_within : GoodIn wsX5_settle (va_wsS RX5 47 yX5_within wsX5_within) := goodIn_app (goodIn_of _ (by decide +kernel)) ggX5_settle_X5_within
set_option maxRecDepth 20000 in
theorem ggX5_settle_X5_firstWithTurn : GoodIn wsX5_settle wsX5_firstWithTurn := goodIn_r _ [8, 9, 10, 11, 12, 13, 3, 14, 15, 16, 163, 164, 165, 166, 167, 168, 169, 170, 171, 172, 173, 174, 154, 155, 156, 157, 158, 159, 160, 161, 162, 175, 176, 177, 178, 179, 180, 181, 182, 183, 184, 185, 186, 187, 188, 189, 190] (by decide +kernel) (by decide +kernel)
set_option maxRecDepth 20000 in
theorem gX5_settle_X5_firstWithTurn : GoodIn wsX5_settle (wsV RX5 134 RX5 yX5_firstWithTurn wsX5_firstWithTurn) := goodIn_app (goodIn_of _ (by decide +kernel)) ggX5_settle_X5_firstWithTurn
set_option maxRecDepth 20000 in
theorem ggX5_settle_X5_doRecallTurn : GoodIn wsX5_settle wsX5_doRecallTurn := goodIn_r _ [20, 21, 22, 23, 3, 24, 15, 16, 25, 26, 27, 28, 29, 30, 31, 32, 33, 34, 35, 36, 37, 38, 39, 40, 41, 42, 43, 44, 45, 46, 47, 48, 49, 50, 51, 52, 53, 54, 55, 56, 57, 58, 1, 2, 4, 59, 60, 61, 62, 63, 64, 65, 66, 67, 68, 69, 70, 71, 72, 73, 74, 9, 10, 75, 76, 77, 78, 79, 80, 81, 82, 83, 84, 175, 176, 177, 178, 179, 180, 181, 182, 183, 184, 185, 186, 187, 188, 189, 190, 163, 164, 165, 166, 167, 168, 169, 170, 171, 172, 173, 174, 154, 155, 156, 157, 158, 159, 160, 161, 162, 191, 192, 193, 194, 195, 196, 197, 198, 199, 200, 201] (by decide +kernel) (by decide +kernel)
set_option maxRecDepth 20000 in
theorem gX5_settle_X5_doRecallTurn : GoodIn wsX5_settle (wsV RX5 141 RX5 yX5_doRecallTurn wsX5_doRecallTurn) := goodIn_app (goodIn_of _ (by decide +kernel)) ggX5_settle_X5_doRecallTurn
set_option maxRecDepth 20000 in
theorem ggX5_settle_X5_doBoardingTurn : GoodIn wsX5_settle wsX5_doBoardingTurn := goodIn_r _ [88, 89, 90, 91, 3, 92, 15, 16, 59, 60, 61, 62, 63, 64, 65, 66, 93, 94, 95, 96, 97, 98, 99, 100, 57, 58, 101, 102, 103, 104, 105, 106, 107, 108, 109, 110, 111, 112, 113, 114, 115, 116, 117, 118, 119, 120, 121, 30, 122, 123, 48, 43, 124, 125, 126, 127, 128, 38, 39, 40, 41, 42, 44, 45, 46, 47, 129, 130, 131, 132, 133, 134, 135, 136, 137, 138, 139, 140, 141, 142, 143, 144, 145, 146, 147, 148, 149, 33, 34, 35, 36, 37, 49, 50, 51, 52, 175, 176, 177, 178, 179, 180, 181, 182, 183, 184, 185, 186, 187, 188, 189, 190, 154, 155, 156, 157, 158, 159, 160, 161, 162, 163, 164, 165, 166, 167, 168, 169, 170, 171, 172, 173, 174, 199, 200, 201, 191, 192, 193, 194, 195, 196, 197, 198] (by decide +kernel) (by decide +kernel)
set_option maxRecDepth 20000 in
theorem gX5_settle_X5_doBoardingTurn : GoodIn wsX5_settle (wsV RX5 145 RX5 yX5_doBoardingTurn wsX5_doBoardingTurn) := goodIn_app (goodIn_of _ (by decide +kernel)) ggX5_settle_X5_doBoardingTurn
set_option maxRecDepth 20000 in
theorem ggX5_settle_X5_bringRecallOn : GoodIn wsX5_settle wsX5_bringRecallOn := goodIn_r _ [153, 11, 12, 13, 3, 14, 15, 16, 21, 22, 23, 24, 67, 68, 69, 70, 154, 155, 156, 157, 158, 159, 160, 161, 162, 163, 164, 165, 166, 167, 168, 169, 170, 171, 172, 173, 174, 175, 176, 177, 178, 179, 180, 181, 182, 183, 184, 185, 186, 187, 188, 189, 190] (by decide +kernel) (by decide +kernel)
set_option maxRecDepth 20000 in
theorem gX5_settle_X5_bringRecallOn : GoodIn wsX5_settle (wsV RX5 148 RX5 yX5_bringRecallOn wsX5_bringRecallOn) := goodIn_app (goodIn_of _ (by decide +kernel)) ggX5_settle_X5_bringRecallOn
theorem dX5_settle_0 : decode cX5_settle 0 = .ok (.iload_n 1, 1) := by decide +kernel
theorem dX5_settle_1 : decode cX5_settle 1 = .ok (.iconst 0, 1) := by decide +kernel
theorem dX5_settle_2 : decode cX5_settle 2 = .ok (.sipush 500, 3) := by decide +kernel
theorem dX5_settle_5 : decode cX5_settle 5 = .ok (.invokestatic 47, 3) := by decide +kernel
theorem dX5_settle_8 : decode cX5_settle 8 = .ok (.ifCond .ne 5, 3) := by decide +kernel
theorem dX5_settle_11 : decode cX5_settle 11 = .ok (.iconst (-1), 1) := by decide +kernel
theorem dX5_settle_12 : decode cX5_settle 12 = .ok (.ireturn, 1) := by decide +kernel
theorem dX5_settle_13 : decode cX5_settle 13 = .ok (.iconst 0, 1) := by decide +kernel
theorem dX5_settle_14 : decode cX5_settle 14 = .ok (.istore_n 2, 1) := by decide +kernel
theorem dX5_settle_15 : decode cX5_settle 15 = .ok (.iload_n 2, 1) := by decide +kernel
theorem dX5_settle_16 : decode cX5_settle 16 = .ok (.iload_n 1, 1) := by decide +kernel
theorem dX5_settle_17 : decode cX5_settle 17 = .ok (.if_icmp .ge 66, 3) := by decide +kernel
theorem dX5_settle_20 : decode cX5_settle 20 = .ok (.aload_n 0, 1) := by decide +kernel
theorem dX5_settle_21 : decode cX5_settle 21 = .ok (.invokevirtual 134, 3) := by decide +kernel
theorem dX5_settle_24 : decode cX5_settle 24 = .ok (.astore_n 3, 1) := by decide +kernel
theorem dX5_settle_25 : decode cX5_settle 25 = .ok (.aload_n 3, 1) := by decide +kernel
theorem dX5_settle_26 : decode cX5_settle 26 = .ok (.ifnonnull 5, 3) := by decide +kernel
theorem dX5_settle_29 : decode cX5_settle 29 = .ok (.iload_n 2, 1) := by decide +kernel
theorem dX5_settle_30 : decode cX5_settle 30 = .ok (.ireturn, 1) := by decide +kernel
theorem dX5_settle_31 : decode cX5_settle 31 = .ok (.aload_n 3, 1) := by decide +kernel
theorem dX5_settle_32 : decode cX5_settle 32 = .ok (.getfield 138, 3) := by decide +kernel
theorem dX5_settle_35 : decode cX5_settle 35 = .ok (.ifCond .ne 11, 3) := by decide +kernel
theorem dX5_settle_38 : decode cX5_settle 38 = .ok (.aload_n 0, 1) := by decide +kernel
theorem dX5_settle_39 : decode cX5_settle 39 = .ok (.aload_n 3, 1) := by decide +kernel
theorem dX5_settle_40 : decode cX5_settle 40 = .ok (.invokevirtual 141, 3) := by decide +kernel
theorem dX5_settle_43 : decode cX5_settle 43 = .ok (.goto 29, 3) := by decide +kernel
theorem dX5_settle_46 : decode cX5_settle 46 = .ok (.aload_n 0, 1) := by decide +kernel
theorem dX5_settle_47 : decode cX5_settle 47 = .ok (.aload_n 3, 1) := by decide +kernel
theorem dX5_settle_48 : decode cX5_settle 48 = .ok (.invokevirtual 145, 3) := by decide +kernel
theorem dX5_settle_51 : decode cX5_settle 51 = .ok (.aload_n 3, 1) := by decide +kernel
theorem dX5_settle_52 : decode cX5_settle 52 = .ok (.dup, 1) := by decide +kernel
theorem dX5_settle_53 : decode cX5_settle 53 = .ok (.getfield 138, 3) := by decide +kernel
theorem dX5_settle_56 : decode cX5_settle 56 = .ok (.aload_n 3, 1) := by decide +kernel
theorem dX5_settle_57 : decode cX5_settle 57 = .ok (.getfield 138, 3) := by decide +kernel
theorem dX5_settle_60 : decode cX5_settle 60 = .ok (.ifCond .le 7, 3) := by decide +kernel
theorem dX5_settle_63 : decode cX5_settle 63 = .ok (.iconst 1, 1) := by decide +kernel
theorem dX5_settle_64 : decode cX5_settle 64 = .ok (.goto 4, 3) := by decide +kernel
theorem dX5_settle_67 : decode cX5_settle 67 = .ok (.iconst 0, 1) := by decide +kernel
theorem dX5_settle_68 : decode cX5_settle 68 = .ok (.isub, 1) := by decide +kernel
theorem dX5_settle_69 : decode cX5_settle 69 = .ok (.putfield 138, 3) := by decide +kernel
theorem dX5_settle_72 : decode cX5_settle 72 = .ok (.aload_n 0, 1) := by decide +kernel
theorem dX5_settle_73 : decode cX5_settle 73 = .ok (.aload_n 3, 1) := by decide +kernel
theorem dX5_settle_74 : decode cX5_settle 74 = .ok (.invokevirtual 148, 3) := by decide +kernel
theorem dX5_settle_77 : decode cX5_settle 77 = .ok (.iinc 2 1, 3) := by decide +kernel
theorem dX5_settle_80 : decode cX5_settle 80 = .ok (.goto (-65), 3) := by decide +kernel
theorem dX5_settle_83 : decode cX5_settle 83 = .ok (.iload_n 1, 1) := by decide +kernel
theorem dX5_settle_84 : decode cX5_settle 84 = .ok (.ireturn, 1) := by decide +kernel
set_option maxRecDepth 20000 in
theorem ggX5_firstWithTurn_X5_hasBoardingTurn : GoodIn wsX5_firstWithTurn wsX5_hasBoardingTurn := goodIn_r _ [7, 8, 9, 22, 23, 24, 25, 26, 27, 28, 29, 30, 10, 11, 12, 13, 14, 15, 16, 17, 18, 19, 20, 21, 31, 32, 33, 34, 35, 36, 37, 38, 39, 40, 41, 42, 43, 44, 45, 46] (by decide +kernel) (by decide +kernel)
set_option maxRecDepth 20000 in
theorem gX5_firstWithTurn_X5_hasBoardingTurn : GoodIn wsX5_firstWithTurn (wsV RX5 151 RX5 yX5_hasBoardingTurn wsX5_hasBoardingTurn) := goodIn_app (goodIn_of _ (by decide +kernel)) ggX5_firstWithTurn_X5_hasBoardingTurn
theorem dX5_firstWithTurn_0 : decode cX5_firstWithTurn 0 = .ok (.iconst 0, 1) := by decide +kernel
theorem dX5_firstWithTurn_1 : decode cX5_firstWithTurn 1 = .ok (.istore_n 1, 1) := by decide +kernel
theorem dX5_firstWithTurn_2 : decode cX5_firstWithTurn 2 = .ok (.iload_n 1, 1) := by decide +kernel
theorem dX5_firstWithTurn_3 : decode cX5_firstWithTurn 3 = .ok (.aload_n 0, 1) := by decide +kernel
theorem dX5_firstWithTurn_4 : decode cX5_firstWithTurn 4 = .ok (.getfield 65, 3) := by decide +kernel
theorem dX5_firstWithTurn_7 : decode cX5_firstWithTurn 7 = .ok (.if_icmp .ge 41, 3) := by decide +kernel
theorem dX5_firstWithTurn_10 : decode cX5_firstWithTurn 10 = .ok (.aload_n 0, 1) := by decide +kernel
theorem dX5_firstWithTurn_11 : decode cX5_firstWithTurn 11 = .ok (.getfield 23, 3) := by decide +kernel
theorem dX5_firstWithTurn_14 : decode cX5_firstWithTurn 14 = .ok (.iload_n 1, 1) := by decide +kernel
theorem dX5_firstWithTurn_15 : decode cX5_firstWithTurn 15 = .ok (.aaload, 1) := by decide +kernel
theorem dX5_firstWithTurn_16 : decode cX5_firstWithTurn 16 = .ok (.astore_n 2, 1) := by decide +kernel
theorem dX5_firstWithTurn_17 : decode cX5_firstWithTurn 17 = .ok (.aload_n 2, 1) := by decide +kernel
theorem dX5_firstWithTurn_18 : decode cX5_firstWithTurn 18 = .ok (.getfield 80, 3) := by decide +kernel
theorem dX5_firstWithTurn_21 : decode cX5_firstWithTurn 21 = .ok (.iconst 1, 1) := by decide +kernel
theorem dX5_firstWithTurn_22 : decode cX5_firstWithTurn 22 = .ok (.if_icmp .ne 20, 3) := by decide +kernel
theorem dX5_firstWithTurn_25 : decode cX5_firstWithTurn 25 = .ok (.aload_n 2, 1) := by decide +kernel
theorem dX5_firstWithTurn_26 : decode cX5_firstWithTurn 26 = .ok (.getfield 138, 3) := by decide +kernel
theorem dX5_firstWithTurn_29 : decode cX5_firstWithTurn 29 = .ok (.ifCond .eq 11, 3) := by decide +kernel
theorem dX5_firstWithTurn_32 : decode cX5_firstWithTurn 32 = .ok (.aload_n 0, 1) := by decide +kernel
theorem dX5_firstWithTurn_33 : decode cX5_firstWithTurn 33 = .ok (.aload_n 2, 1) := by decide +kernel
theorem dX5_firstWithTurn_34 : decode cX5_firstWithTurn 34 = .ok (.invokevirtual 151, 3) := by decide +kernel
theorem dX5_firstWithTurn_37 : decode cX5_firstWithTurn 37 = .ok (.ifCond .eq 5, 3) := by decide +kernel
theorem dX5_firstWithTurn_40 : decode cX5_firstWithTurn 40 = .ok (.aload_n 2, 1) := by decide +kernel
theorem dX5_firstWithTurn_41 : decode cX5_firstWithTurn 41 = .ok (.areturn, 1) := by decide +kernel
theorem dX5_firstWithTurn_42 : decode cX5_firstWithTurn 42 = .ok (.iinc 1 1, 3) := by decide +kernel
theorem dX5_firstWithTurn_45 : decode cX5_firstWithTurn 45 = .ok (.goto (-43), 3) := by decide +kernel
theorem dX5_firstWithTurn_48 : decode cX5_firstWithTurn 48 = .ok (.aconst_null, 1) := by decide +kernel
theorem dX5_firstWithTurn_49 : decode cX5_firstWithTurn 49 = .ok (.areturn, 1) := by decide +kernel
theorem dX5_hasBoardingTurn_0 : decode cX5_hasBoardingTurn 0 = .ok (.aload_n 1, 1) := by decide +kernel
theorem dX5_hasBoardingTurn_1 : decode cX5_hasBoardingTurn 1 = .ok (.getfield 155, 3) := by decide +kernel
theorem dX5_hasBoardingTurn_4 : decode cX5_hasBoardingTurn 4 = .ok (.ifnull 5, 3) := by decide +kernel
theorem dX5_hasBoardingTurn_7 : decode cX5_hasBoardingTurn 7 = .ok (.iconst 1, 1) := by decide +kernel
theorem dX5_hasBoardingTurn_8 : decode cX5_hasBoardingTurn 8 = .ok (.ireturn, 1) := by decide +kernel
theorem dX5_hasBoardingTurn_9 : decode cX5_hasBoardingTurn 9 = .ok (.iconst 0, 1) := by decide +kernel
theorem dX5_hasBoardingTurn_10 : decode cX5_hasBoardingTurn 10 = .ok (.istore_n 2, 1) := by decide +kernel
theorem dX5_hasBoardingTurn_11 : decode cX5_hasBoardingTurn 11 = .ok (.iload_n 2, 1) := by decide +kernel
theorem dX5_hasBoardingTurn_12 : decode cX5_hasBoardingTurn 12 = .ok (.aload_n 0, 1) := by decide +kernel
theorem dX5_hasBoardingTurn_13 : decode cX5_hasBoardingTurn 13 = .ok (.getfield 100, 3) := by decide +kernel
theorem dX5_hasBoardingTurn_16 : decode cX5_hasBoardingTurn 16 = .ok (.if_icmp .ge 42, 3) := by decide +kernel
theorem dX5_hasBoardingTurn_19 : decode cX5_hasBoardingTurn 19 = .ok (.aload_n 0, 1) := by decide +kernel
theorem dX5_hasBoardingTurn_20 : decode cX5_hasBoardingTurn 20 = .ok (.getfield 29, 3) := by decide +kernel
theorem dX5_hasBoardingTurn_23 : decode cX5_hasBoardingTurn 23 = .ok (.iload_n 2, 1) := by decide +kernel
theorem dX5_hasBoardingTurn_24 : decode cX5_hasBoardingTurn 24 = .ok (.aaload, 1) := by decide +kernel
theorem dX5_hasBoardingTurn_25 : decode cX5_hasBoardingTurn 25 = .ok (.astore_n 3, 1) := by decide +kernel
theorem dX5_hasBoardingTurn_26 : decode cX5_hasBoardingTurn 26 = .ok (.aload_n 3, 1) := by decide +kernel
theorem dX5_hasBoardingTurn_27 : decode cX5_hasBoardingTurn 27 = .ok (.getfield 122, 3) := by decide +kernel
theorem dX5_hasBoardingTurn_30 : decode cX5_hasBoardingTurn 30 = .ok (.aload_n 1, 1) := by decide +kernel
theorem dX5_hasBoardingTurn_31 : decode cX5_hasBoardingTurn 31 = .ok (.if_acmp .ne 21, 3) := by decide +kernel
theorem dX5_hasBoardingTurn_34 : decode cX5_hasBoardingTurn 34 = .ok (.aload_n 3, 1) := by decide +kernel
theorem dX5_hasBoardingTurn_35 : decode cX5_hasBoardingTurn 35 = .ok (.getfield 120, 3) := by decide +kernel
theorem dX5_hasBoardingTurn_38 : decode cX5_hasBoardingTurn 38 = .ok (.iconst 1, 1) := by decide +kernel
theorem dX5_hasBoardingTurn_39 : decode cX5_hasBoardingTurn 39 = .ok (.if_icmp .eq 11, 3) := by decide +kernel
theorem dX5_hasBoardingTurn_42 : decode cX5_hasBoardingTurn 42 = .ok (.aload_n 3, 1) := by decide +kernel
theorem dX5_hasBoardingTurn_43 : decode cX5_hasBoardingTurn 43 = .ok (.getfield 120, 3) := by decide +kernel
theorem dX5_hasBoardingTurn_46 : decode cX5_hasBoardingTurn 46 = .ok (.iconst 2, 1) := by decide +kernel
theorem dX5_hasBoardingTurn_47 : decode cX5_hasBoardingTurn 47 = .ok (.if_icmp .ne 5, 3) := by decide +kernel
theorem dX5_hasBoardingTurn_50 : decode cX5_hasBoardingTurn 50 = .ok (.iconst 1, 1) := by decide +kernel
theorem dX5_hasBoardingTurn_51 : decode cX5_hasBoardingTurn 51 = .ok (.ireturn, 1) := by decide +kernel
theorem dX5_hasBoardingTurn_52 : decode cX5_hasBoardingTurn 52 = .ok (.iinc 2 1, 3) := by decide +kernel
theorem dX5_hasBoardingTurn_55 : decode cX5_hasBoardingTurn 55 = .ok (.goto (-44), 3) := by decide +kernel
theorem dX5_hasBoardingTurn_58 : decode cX5_hasBoardingTurn 58 = .ok (.iconst 0, 1) := by decide +kernel
theorem dX5_hasBoardingTurn_59 : decode cX5_hasBoardingTurn 59 = .ok (.ireturn, 1) := by decide +kernel
theorem dX5_writeLog_0 : decode cX5_writeLog 0 = .ok (.aload_n 0, 1) := by decide +kernel
theorem dX5_writeLog_1 : decode cX5_writeLog 1 = .ok (.getfield 159, 3) := by decide +kernel
theorem dX5_writeLog_4 : decode cX5_writeLog 4 = .ok (.sipush 3000, 3) := by decide +kernel
theorem dX5_writeLog_7 : decode cX5_writeLog 7 = .ok (.if_icmp .ge 39, 3) := by decide +kernel
theorem dX5_writeLog_10 : decode cX5_writeLog 10 = .ok (.aload_n 0, 1) := by decide +kernel
theorem dX5_writeLog_11 : decode cX5_writeLog 11 = .ok (.getfield 33, 3) := by decide +kernel
theorem dX5_writeLog_14 : decode cX5_writeLog 14 = .ok (.aload_n 0, 1) := by decide +kernel
theorem dX5_writeLog_15 : decode cX5_writeLog 15 = .ok (.getfield 159, 3) := by decide +kernel
theorem dX5_writeLog_18 : decode cX5_writeLog 18 = .ok (.iload_n 1, 1) := by decide +kernel
theorem dX5_writeLog_19 : decode cX5_writeLog 19 = .ok (.iastore, 1) := by decide +kernel
theorem dX5_writeLog_20 : decode cX5_writeLog 20 = .ok (.aload_n 0, 1) := by decide +kernel
theorem dX5_writeLog_21 : decode cX5_writeLog 21 = .ok (.getfield 37, 3) := by decide +kernel
theorem dX5_writeLog_24 : decode cX5_writeLog 24 = .ok (.aload_n 0, 1) := by decide +kernel
theorem dX5_writeLog_25 : decode cX5_writeLog 25 = .ok (.getfield 159, 3) := by decide +kernel
theorem dX5_writeLog_28 : decode cX5_writeLog 28 = .ok (.aload_n 2, 1) := by decide +kernel
theorem dX5_writeLog_29 : decode cX5_writeLog 29 = .ok (.getfield 162, 3) := by decide +kernel
theorem dX5_writeLog_32 : decode cX5_writeLog 32 = .ok (.iastore, 1) := by decide +kernel
theorem dX5_writeLog_33 : decode cX5_writeLog 33 = .ok (.aload_n 0, 1) := by decide +kernel
theorem dX5_writeLog_34 : decode cX5_writeLog 34 = .ok (.getfield 40, 3) := by decide +kernel
theorem dX5_writeLog_37 : decode cX5_writeLog 37 = .ok (.aload_n 0, 1) := by decide +kernel
theorem dX5_writeLog_38 : decode cX5_writeLog 38 = .ok (.getfield 159, 3) := by decide +kernel
theorem dX5_writeLog_41 : decode cX5_writeLog 41 = .ok (.aload_n 3, 1) := by decide +kernel
theorem dX5_writeLog_42 : decode cX5_writeLog 42 = .ok (.getfield 165, 3) := by decide +kernel
theorem dX5_writeLog_45 : decode cX5_writeLog 45 = .ok (.iastore, 1) := by decide +kernel
theorem dX5_writeLog_46 : decode cX5_writeLog 46 = .ok (.aload_n 0, 1) := by decide +kernel
theorem dX5_writeLog_47 : decode cX5_writeLog 47 = .ok (.dup, 1) := by decide +kernel
theorem dX5_writeLog_48 : decode cX5_writeLog 48 = .ok (.getfield 159, 3) := by decide +kernel
theorem dX5_writeLog_51 : decode cX5_writeLog 51 = .ok (.iconst 1, 1) := by decide +kernel
theorem dX5_writeLog_52 : decode cX5_writeLog 52 = .ok (.iadd, 1) := by decide +kernel
theorem dX5_writeLog_53 : decode cX5_writeLog 53 = .ok (.putfield 159, 3) := by decide +kernel
theorem dX5_writeLog_56 : decode cX5_writeLog 56 = .ok (.aload_n 3, 1) := by decide +kernel
theorem dX5_writeLog_57 : decode cX5_writeLog 57 = .ok (.dup, 1) := by decide +kernel
theorem dX5_writeLog_58 : decode cX5_writeLog 58 = .ok (.getfield 166, 3) := by decide +kernel
theorem dX5_writeLog_61 : decode cX5_writeLog 61 = .ok (.iconst 1, 1) := by decide +kernel
theorem dX5_writeLog_62 : decode cX5_writeLog 62 = .ok (.iadd, 1) := by decide +kernel
theorem dX5_writeLog_63 : decode cX5_writeLog 63 = .ok (.putfield 166, 3) := by decide +kernel
theorem dX5_writeLog_66 : decode cX5_writeLog 66 = .ok (.return_, 1) := by decide +kernel
set_option maxRecDepth 20000 in
theorem ggX5_doBoardingTurn_X5_firstHere : GoodIn wsX5_doBoardingTurn wsX5_firstHere := goodIn_r _ [5, 6, 7, 121, 122, 123, 124, 125, 126, 127, 128, 129, 130, 131, 132, 96, 97, 98, 99, 100, 101, 102, 103, 104, 105, 106, 107, 108, 109, 110, 111] (by decide +kernel) (by decide +kernel)
set_option maxRecDepth 20000 in
theorem gX5_doBoardingTurn_X5_firstHere : GoodIn wsX5_doBoardingTurn (wsV RX5 169 RX5 yX5_firstHere wsX5_firstHere) := goodIn_app (goodIn_of _ (by decide +kernel)) ggX5_doBoardingTurn_X5_firstHere
set_option maxRecDepth 20000 in
theorem ggX5_doBoardingTurn_X5_writeLog : GoodIn wsX5_doBoardingTurn wsX5_writeLog := goodIn_r _ [11, 12, 13, 14, 15, 121, 122, 123, 124, 125, 126, 127, 128, 129, 130, 131, 132, 96, 97, 98, 99, 100, 101, 102, 103, 104, 105, 106, 107, 108, 109, 110, 111, 112, 113, 114, 115, 116, 117, 118, 119, 120] (by decide +kernel) (by decide +kernel)
set_option maxRecDepth 20000 in
theorem gX5_doBoardingTurn_X5_writeLog : GoodIn wsX5_doBoardingTurn (wsV RX5 173 RX5 yX5_writeLog wsX5_writeLog) := goodIn_app (goodIn_of _ (by decide +kernel)) ggX5_doBoardingTurn_X5_writeLog
set_option maxRecDepth 20000 in
theorem ggX5_doBoardingTurn_X5_goOnAfterRamp : GoodIn wsX5_doBoardingTurn wsX5_goOnAfterRamp := goodIn_r _ [19, 20, 21, 22, 4, 23, 24, 25, 8, 9, 10, 11, 12, 13, 14, 15, 112, 113, 114, 115, 116, 117, 118, 119, 120, 96, 97, 98, 99, 100, 101, 102, 103, 104, 105, 106, 107, 108, 109, 110, 111, 121, 122, 123, 124, 125, 126, 127, 128, 129, 130, 131, 132, 133, 134, 135] (by decide +kernel) (by decide +kernel)
set_option maxRecDepth 20000 in
theorem gX5_doBoardingTurn_X5_goOnAfterRamp : GoodIn wsX5_doBoardingTurn (wsV RX5 177 RX5 yX5_goOnAfterRamp wsX5_goOnAfterRamp) := goodIn_app (goodIn_of _ (by decide +kernel)) ggX5_doBoardingTurn_X5_goOnAfterRamp
set_option maxRecDepth 20000 in
theorem ggX5_doBoardingTurn_X5_firstOfBoardingList : GoodIn wsX5_doBoardingTurn wsX5_firstOfBoardingList := goodIn_r _ [29, 6, 7, 30, 31, 32, 33, 34, 35, 36, 37, 38, 39, 40, 41, 121, 122, 123, 124, 125, 126, 127, 128, 129, 130, 131, 132, 96, 97, 98, 99, 100, 101, 102, 103, 104, 105, 106, 107, 108, 109, 110, 111, 112, 113, 114, 115, 116, 117, 118, 119, 120] (by decide +kernel) (by decide +kernel)
