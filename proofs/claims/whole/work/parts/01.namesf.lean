theorem dX5_off_33 : decode cX5_off 33 = .ok (.getfield 80, 3) := by decide +kernel
theorem dX5_off_36 : decode cX5_off 36 = .ok (.iconst 1, 1) := by decide +kernel
theorem dX5_off_37 : decode cX5_off 37 = .ok (.if_icmp .ne 19, 3) := by decide +kernel
theorem dX5_off_40 : decode cX5_off 40 = .ok (.aload_n 3, 1) := by decide +kernel
theorem dX5_off_41 : decode cX5_off 41 = .ok (.getfield 155, 3) := by decide +kernel
theorem dX5_off_44 : decode cX5_off 44 = .ok (.aload_n 2, 1) := by decide +kernel
theorem dX5_off_45 : decode cX5_off 45 = .ok (.if_acmp .eq 11, 3) := by decide +kernel
theorem dX5_off_48 : decode cX5_off 48 = .ok (.aload_n 3, 1) := by decide +kernel
theorem dX5_off_49 : decode cX5_off 49 = .ok (.getfield 138, 3) := by decide +kernel
theorem dX5_off_52 : decode cX5_off 52 = .ok (.iconst (-1), 1) := by decide +kernel
theorem dX5_off_53 : decode cX5_off 53 = .ok (.if_icmp .eq 5, 3) := by decide +kernel
theorem dX5_off_56 : decode cX5_off 56 = .ok (.iconst 0, 1) := by decide +kernel
theorem dX5_off_57 : decode cX5_off 57 = .ok (.ireturn, 1) := by decide +kernel
theorem dX5_off_58 : decode cX5_off 58 = .ok (.aload_n 0, 1) := by decide +kernel
theorem dX5_off_59 : decode cX5_off 59 = .ok (.aload_n 2, 1) := by decide +kernel
theorem dX5_off_60 : decode cX5_off 60 = .ok (.invokevirtual 231, 3) := by decide +kernel
theorem dX5_off_63 : decode cX5_off 63 = .ok (.iconst 1, 1) := by decide +kernel
theorem dX5_off_64 : decode cX5_off 64 = .ok (.ireturn, 1) := by decide +kernel
set_option maxRecDepth 20000 in
theorem ggX5_shipOf_X5_shipNumbered : GoodIn wsX5_shipOf wsX5_shipNumbered := goodIn_r _ [5, 6, 7, 8, 9, 4, 10, 19, 20, 21, 22, 23, 24, 25, 26, 27, 28, 29, 30] (by decide +kernel) (by decide +kernel)
set_option maxRecDepth 20000 in
theorem gX5_shipOf_X5_shipNumbered : GoodIn wsX5_shipOf (wsV RX5 54 RX5 yX5_shipNumbered wsX5_shipNumbered) := goodIn_app (goodIn_of _ (by decide +kernel)) ggX5_shipOf_X5_shipNumbered
theorem dX5_shipOf_0 : decode cX5_shipOf 0 = .ok (.aload_n 0, 1) := by decide +kernel
theorem dX5_shipOf_1 : decode cX5_shipOf 1 = .ok (.iload_n 1, 1) := by decide +kernel
theorem dX5_shipOf_2 : decode cX5_shipOf 2 = .ok (.invokevirtual 54, 3) := by decide +kernel
theorem dX5_shipOf_5 : decode cX5_shipOf 5 = .ok (.astore_n 3, 1) := by decide +kernel
theorem dX5_shipOf_6 : decode cX5_shipOf 6 = .ok (.aload_n 3, 1) := by decide +kernel
theorem dX5_shipOf_7 : decode cX5_shipOf 7 = .ok (.ifnonnull 5, 3) := by decide +kernel
theorem dX5_shipOf_10 : decode cX5_shipOf 10 = .ok (.iconst (-1), 1) := by decide +kernel
theorem dX5_shipOf_11 : decode cX5_shipOf 11 = .ok (.ireturn, 1) := by decide +kernel
theorem dX5_shipOf_12 : decode cX5_shipOf 12 = .ok (.iload_n 2, 1) := by decide +kernel
theorem dX5_shipOf_13 : decode cX5_shipOf 13 = .ok (.tableswitch 77 0 5 #[39, 44, 49, 54, 67, 72], 39) := by decide +kernel
theorem dX5_shipOf_52 : decode cX5_shipOf 52 = .ok (.aload_n 3, 1) := by decide +kernel
theorem dX5_shipOf_53 : decode cX5_shipOf 53 = .ok (.getfield 254, 3) := by decide +kernel
theorem dX5_shipOf_56 : decode cX5_shipOf 56 = .ok (.ireturn, 1) := by decide +kernel
theorem dX5_shipOf_57 : decode cX5_shipOf 57 = .ok (.aload_n 3, 1) := by decide +kernel
theorem dX5_shipOf_58 : decode cX5_shipOf 58 = .ok (.getfield 257, 3) := by decide +kernel
theorem dX5_shipOf_61 : decode cX5_shipOf 61 = .ok (.ireturn, 1) := by decide +kernel
theorem dX5_shipOf_62 : decode cX5_shipOf 62 = .ok (.aload_n 3, 1) := by decide +kernel
theorem dX5_shipOf_63 : decode cX5_shipOf 63 = .ok (.getfield 103, 3) := by decide +kernel
theorem dX5_shipOf_66 : decode cX5_shipOf 66 = .ok (.ireturn, 1) := by decide +kernel
theorem dX5_shipOf_67 : decode cX5_shipOf 67 = .ok (.aload_n 3, 1) := by decide +kernel
theorem dX5_shipOf_68 : decode cX5_shipOf 68 = .ok (.getfield 260, 3) := by decide +kernel
theorem dX5_shipOf_71 : decode cX5_shipOf 71 = .ok (.ifCond .eq 7, 3) := by decide +kernel
theorem dX5_shipOf_74 : decode cX5_shipOf 74 = .ok (.iconst 1, 1) := by decide +kernel
theorem dX5_shipOf_75 : decode cX5_shipOf 75 = .ok (.goto 4, 3) := by decide +kernel
theorem dX5_shipOf_78 : decode cX5_shipOf 78 = .ok (.iconst 0, 1) := by decide +kernel
theorem dX5_shipOf_79 : decode cX5_shipOf 79 = .ok (.ireturn, 1) := by decide +kernel
theorem dX5_shipOf_80 : decode cX5_shipOf 80 = .ok (.aload_n 3, 1) := by decide +kernel
theorem dX5_shipOf_81 : decode cX5_shipOf 81 = .ok (.getfield 64, 3) := by decide +kernel
theorem dX5_shipOf_84 : decode cX5_shipOf 84 = .ok (.ireturn, 1) := by decide +kernel
theorem dX5_shipOf_85 : decode cX5_shipOf 85 = .ok (.aload_n 3, 1) := by decide +kernel
theorem dX5_shipOf_86 : decode cX5_shipOf 86 = .ok (.getfield 263, 3) := by decide +kernel
theorem dX5_shipOf_89 : decode cX5_shipOf 89 = .ok (.ireturn, 1) := by decide +kernel
theorem dX5_shipOf_90 : decode cX5_shipOf 90 = .ok (.iconst (-1), 1) := by decide +kernel
theorem dX5_shipOf_91 : decode cX5_shipOf 91 = .ok (.ireturn, 1) := by decide +kernel
set_option maxRecDepth 20000 in
theorem ggX5_sailingOf_X5_sailingNumbered : GoodIn wsX5_sailingOf wsX5_sailingNumbered := goodIn_r _ [5, 6, 7, 8, 9, 4, 10, 34, 35, 36, 37, 38, 39, 40, 41, 42, 43, 44, 45] (by decide +kernel) (by decide +kernel)
set_option maxRecDepth 20000 in
theorem gX5_sailingOf_X5_sailingNumbered : GoodIn wsX5_sailingOf (wsV RX5 92 RX5 yX5_sailingNumbered wsX5_sailingNumbered) := goodIn_app (goodIn_of _ (by decide +kernel)) ggX5_sailingOf_X5_sailingNumbered
set_option maxRecDepth 20000 in
theorem ggX5_sailingOf_X5_ticketsOf : GoodIn wsX5_sailingOf wsX5_ticketsOf := goodIn_r _ [14, 15, 16, 34, 35, 36, 37, 38, 39, 40, 41, 42, 43, 44, 45, 46, 47, 48, 49, 50, 51, 52, 53, 54, 55, 56, 57, 58, 59, 60, 61] (by decide +kernel) (by decide +kernel)
set_option maxRecDepth 20000 in
theorem gX5_sailingOf_X5_ticketsOf : GoodIn wsX5_sailingOf (wsV RX5 267 RX5 yX5_ticketsOf wsX5_ticketsOf) := goodIn_app (goodIn_of _ (by decide +kernel)) ggX5_sailingOf_X5_ticketsOf
theorem dX5_sailingOf_0 : decode cX5_sailingOf 0 = .ok (.aload_n 0, 1) := by decide +kernel
theorem dX5_sailingOf_1 : decode cX5_sailingOf 1 = .ok (.iload_n 1, 1) := by decide +kernel
theorem dX5_sailingOf_2 : decode cX5_sailingOf 2 = .ok (.invokevirtual 92, 3) := by decide +kernel
theorem dX5_sailingOf_5 : decode cX5_sailingOf 5 = .ok (.astore_n 3, 1) := by decide +kernel
theorem dX5_sailingOf_6 : decode cX5_sailingOf 6 = .ok (.aload_n 3, 1) := by decide +kernel
theorem dX5_sailingOf_7 : decode cX5_sailingOf 7 = .ok (.ifnonnull 5, 3) := by decide +kernel
theorem dX5_sailingOf_10 : decode cX5_sailingOf 10 = .ok (.iconst (-1), 1) := by decide +kernel
theorem dX5_sailingOf_11 : decode cX5_sailingOf 11 = .ok (.ireturn, 1) := by decide +kernel
theorem dX5_sailingOf_12 : decode cX5_sailingOf 12 = .ok (.iload_n 2, 1) := by decide +kernel
theorem dX5_sailingOf_13 : decode cX5_sailingOf 13 = .ok (.tableswitch 82 0 6 #[43, 51, 56, 61, 66, 71, 76], 43) := by decide +kernel
theorem dX5_sailingOf_56 : decode cX5_sailingOf 56 = .ok (.aload_n 3, 1) := by decide +kernel
theorem dX5_sailingOf_57 : decode cX5_sailingOf 57 = .ok (.getfield 76, 3) := by decide +kernel
theorem dX5_sailingOf_60 : decode cX5_sailingOf 60 = .ok (.getfield 266, 3) := by decide +kernel
theorem dX5_sailingOf_63 : decode cX5_sailingOf 63 = .ok (.ireturn, 1) := by decide +kernel
theorem dX5_sailingOf_64 : decode cX5_sailingOf 64 = .ok (.aload_n 3, 1) := by decide +kernel
theorem dX5_sailingOf_65 : decode cX5_sailingOf 65 = .ok (.getfield 83, 3) := by decide +kernel
theorem dX5_sailingOf_68 : decode cX5_sailingOf 68 = .ok (.ireturn, 1) := by decide +kernel
theorem dX5_sailingOf_69 : decode cX5_sailingOf 69 = .ok (.aload_n 3, 1) := by decide +kernel
theorem dX5_sailingOf_70 : decode cX5_sailingOf 70 = .ok (.getfield 106, 3) := by decide +kernel
theorem dX5_sailingOf_73 : decode cX5_sailingOf 73 = .ok (.ireturn, 1) := by decide +kernel
theorem dX5_sailingOf_74 : decode cX5_sailingOf 74 = .ok (.aload_n 3, 1) := by decide +kernel
theorem dX5_sailingOf_75 : decode cX5_sailingOf 75 = .ok (.getfield 80, 3) := by decide +kernel
theorem dX5_sailingOf_78 : decode cX5_sailingOf 78 = .ok (.ireturn, 1) := by decide +kernel
theorem dX5_sailingOf_79 : decode cX5_sailingOf 79 = .ok (.aload_n 3, 1) := by decide +kernel
theorem dX5_sailingOf_80 : decode cX5_sailingOf 80 = .ok (.getfield 166, 3) := by decide +kernel
theorem dX5_sailingOf_83 : decode cX5_sailingOf 83 = .ok (.ireturn, 1) := by decide +kernel
theorem dX5_sailingOf_84 : decode cX5_sailingOf 84 = .ok (.aload_n 3, 1) := by decide +kernel
theorem dX5_sailingOf_85 : decode cX5_sailingOf 85 = .ok (.getfield 138, 3) := by decide +kernel
theorem dX5_sailingOf_88 : decode cX5_sailingOf 88 = .ok (.ireturn, 1) := by decide +kernel
theorem dX5_sailingOf_89 : decode cX5_sailingOf 89 = .ok (.aload_n 0, 1) := by decide +kernel
theorem dX5_sailingOf_90 : decode cX5_sailingOf 90 = .ok (.aload_n 3, 1) := by decide +kernel
theorem dX5_sailingOf_91 : decode cX5_sailingOf 91 = .ok (.invokevirtual 267, 3) := by decide +kernel
theorem dX5_sailingOf_94 : decode cX5_sailingOf 94 = .ok (.ireturn, 1) := by decide +kernel
theorem dX5_sailingOf_95 : decode cX5_sailingOf 95 = .ok (.iconst (-1), 1) := by decide +kernel
theorem dX5_sailingOf_96 : decode cX5_sailingOf 96 = .ok (.ireturn, 1) := by decide +kernel
theorem dX5_ticketsOf_0 : decode cX5_ticketsOf 0 = .ok (.iconst 0, 1) := by decide +kernel
theorem dX5_ticketsOf_1 : decode cX5_ticketsOf 1 = .ok (.istore_n 2, 1) := by decide +kernel
theorem dX5_ticketsOf_2 : decode cX5_ticketsOf 2 = .ok (.iconst 0, 1) := by decide +kernel
theorem dX5_ticketsOf_3 : decode cX5_ticketsOf 3 = .ok (.istore_n 3, 1) := by decide +kernel
theorem dX5_ticketsOf_4 : decode cX5_ticketsOf 4 = .ok (.iload_n 3, 1) := by decide +kernel
theorem dX5_ticketsOf_5 : decode cX5_ticketsOf 5 = .ok (.aload_n 0, 1) := by decide +kernel
theorem dX5_ticketsOf_6 : decode cX5_ticketsOf 6 = .ok (.getfield 100, 3) := by decide +kernel
theorem dX5_ticketsOf_9 : decode cX5_ticketsOf 9 = .ok (.if_icmp .ge 25, 3) := by decide +kernel
theorem dX5_ticketsOf_12 : decode cX5_ticketsOf 12 = .ok (.aload_n 0, 1) := by decide +kernel
theorem dX5_ticketsOf_13 : decode cX5_ticketsOf 13 = .ok (.getfield 29, 3) := by decide +kernel
theorem dX5_ticketsOf_16 : decode cX5_ticketsOf 16 = .ok (.iload_n 3, 1) := by decide +kernel
theorem dX5_ticketsOf_17 : decode cX5_ticketsOf 17 = .ok (.aaload, 1) := by decide +kernel
theorem dX5_ticketsOf_18 : decode cX5_ticketsOf 18 = .ok (.getfield 122, 3) := by decide +kernel
theorem dX5_ticketsOf_21 : decode cX5_ticketsOf 21 = .ok (.aload_n 1, 1) := by decide +kernel
theorem dX5_ticketsOf_22 : decode cX5_ticketsOf 22 = .ok (.if_acmp .ne 6, 3) := by decide +kernel
theorem dX5_ticketsOf_25 : decode cX5_ticketsOf 25 = .ok (.iinc 2 1, 3) := by decide +kernel
theorem dX5_ticketsOf_28 : decode cX5_ticketsOf 28 = .ok (.iinc 3 1, 3) := by decide +kernel
theorem dX5_ticketsOf_31 : decode cX5_ticketsOf 31 = .ok (.goto (-27), 3) := by decide +kernel
theorem dX5_ticketsOf_34 : decode cX5_ticketsOf 34 = .ok (.iload_n 2, 1) := by decide +kernel
theorem dX5_ticketsOf_35 : decode cX5_ticketsOf 35 = .ok (.ireturn, 1) := by decide +kernel
set_option maxRecDepth 20000 in
theorem ggX5_ticketOf_X5_ticketNumbered : GoodIn wsX5_ticketOf wsX5_ticketNumbered := goodIn_r _ [5, 6, 7, 8, 9, 4, 10, 28, 29, 30, 31, 32, 33, 34, 35, 36, 37, 38, 39] (by decide +kernel) (by decide +kernel)
set_option maxRecDepth 20000 in
theorem gX5_ticketOf_X5_ticketNumbered : GoodIn wsX5_ticketOf (wsV RX5 116 RX5 yX5_ticketNumbered wsX5_ticketNumbered) := goodIn_app (goodIn_of _ (by decide +kernel)) ggX5_ticketOf_X5_ticketNumbered
set_option maxRecDepth 20000 in
theorem ggX5_ticketOf_X4_tell : GoodIn wsX5_ticketOf wsX4_tell := goodIn_r _ [14, 15, 16, 17, 18, 19, 20, 21, 22, 23, 24, 25, 26, 27, 40, 41, 42, 43, 44, 45, 46, 47, 48, 49, 50, 51, 52, 53, 54, 55, 56, 57, 58, 59, 60, 61, 62, 63, 64] (by decide +kernel) (by decide +kernel)
set_option maxRecDepth 20000 in
theorem gX5_ticketOf_X4_tell_n271 : GoodIn wsX5_ticketOf (wsX4_tell) := ggX5_ticketOf_X4_tell
theorem dX5_ticketOf_0 : decode cX5_ticketOf 0 = .ok (.aload_n 0, 1) := by decide +kernel
theorem dX5_ticketOf_1 : decode cX5_ticketOf 1 = .ok (.iload_n 1, 1) := by decide +kernel
theorem dX5_ticketOf_2 : decode cX5_ticketOf 2 = .ok (.invokevirtual 116, 3) := by decide +kernel
theorem dX5_ticketOf_5 : decode cX5_ticketOf 5 = .ok (.astore_n 3, 1) := by decide +kernel
theorem dX5_ticketOf_6 : decode cX5_ticketOf 6 = .ok (.aload_n 3, 1) := by decide +kernel
theorem dX5_ticketOf_7 : decode cX5_ticketOf 7 = .ok (.ifnonnull 7, 3) := by decide +kernel
theorem dX5_ticketOf_10 : decode cX5_ticketOf 10 = .ok (.iconst (-1), 1) := by decide +kernel
theorem dX5_ticketOf_11 : decode cX5_ticketOf 11 = .ok (.goto 8, 3) := by decide +kernel
theorem dX5_ticketOf_14 : decode cX5_ticketOf 14 = .ok (.aload_n 3, 1) := by decide +kernel
theorem dX5_ticketOf_15 : decode cX5_ticketOf 15 = .ok (.iload_n 2, 1) := by decide +kernel
theorem dX5_ticketOf_16 : decode cX5_ticketOf 16 = .ok (.invokevirtual 271, 3) := by decide +kernel
theorem dX5_ticketOf_19 : decode cX5_ticketOf 19 = .ok (.ireturn, 1) := by decide +kernel
set_option maxRecDepth 20000 in
theorem ggX5_at_X5_shipNumbered : GoodIn wsX5_at wsX5_shipNumbered := goodIn_r _ [5, 6, 7, 8, 9, 4, 10, 38, 39, 40, 41, 42, 43, 44, 45, 46, 47, 48, 49] (by decide +kernel) (by decide +kernel)
set_option maxRecDepth 20000 in
theorem gX5_at_X5_shipNumbered : GoodIn wsX5_at (wsV RX5 54 RX5 yX5_shipNumbered wsX5_shipNumbered) := goodIn_app (goodIn_of _ (by decide +kernel)) ggX5_at_X5_shipNumbered
set_option maxRecDepth 20000 in
theorem ggX5_at_X3_nearestBow : GoodIn wsX5_at wsX3_nearestBow := goodIn_r _ [14, 15, 16, 17, 18, 19, 12, 20, 21, 50, 51, 52, 53, 54, 55, 56, 57] (by decide +kernel) (by decide +kernel)
set_option maxRecDepth 20000 in
theorem gX5_at_X3_nearestBow_n274 : GoodIn wsX5_at (wsX3_nearestBow) := ggX5_at_X3_nearestBow
set_option maxRecDepth 20000 in
theorem ggX5_at_X5_within : GoodIn wsX5_at wsX5_within := goodIn_r _ [10] (by decide +kernel) (by decide +kernel)
set_option maxRecDepth 20000 in
theorem gX5_at_X5_within : GoodIn wsX5_at (va_wsS RX5 47 yX5_within wsX5_within) := goodIn_app (goodIn_of _ (by decide +kernel)) ggX5_at_X5_within
theorem dX5_at_0 : decode cX5_at 0 = .ok (.aload_n 0, 1) := by decide +kernel
theorem dX5_at_1 : decode cX5_at 1 = .ok (.iload_n 1, 1) := by decide +kernel
theorem dX5_at_2 : decode cX5_at 2 = .ok (.invokevirtual 54, 3) := by decide +kernel
theorem dX5_at_5 : decode cX5_at 5 = .ok (.astore 5, 2) := by decide +kernel
theorem dX5_at_7 : decode cX5_at 7 = .ok (.aload 5, 2) := by decide +kernel
theorem dX5_at_9 : decode cX5_at 9 = .ok (.ifnonnull 5, 3) := by decide +kernel
theorem dX5_at_12 : decode cX5_at 12 = .ok (.iconst (-1), 1) := by decide +kernel
theorem dX5_at_13 : decode cX5_at 13 = .ok (.ireturn, 1) := by decide +kernel
theorem dX5_at_14 : decode cX5_at 14 = .ok (.aload 5, 2) := by decide +kernel
theorem dX5_at_16 : decode cX5_at 16 = .ok (.iload_n 2, 1) := by decide +kernel
theorem dX5_at_17 : decode cX5_at 17 = .ok (.iload_n 3, 1) := by decide +kernel
theorem dX5_at_18 : decode cX5_at 18 = .ok (.invokevirtual 274, 3) := by decide +kernel
theorem dX5_at_21 : decode cX5_at 21 = .ok (.astore 6, 2) := by decide +kernel
theorem dX5_at_23 : decode cX5_at 23 = .ok (.aload 6, 2) := by decide +kernel
theorem dX5_at_25 : decode cX5_at 25 = .ok (.ifnull 45, 3) := by decide +kernel
theorem dX5_at_28 : decode cX5_at 28 = .ok (.iload 4, 2) := by decide +kernel
theorem dX5_at_30 : decode cX5_at 30 = .ok (.aload 6, 2) := by decide +kernel
theorem dX5_at_32 : decode cX5_at 32 = .ok (.getfield 278, 3) := by decide +kernel
theorem dX5_at_35 : decode cX5_at 35 = .ok (.aload 6, 2) := by decide +kernel
theorem dX5_at_37 : decode cX5_at 37 = .ok (.getfield 278, 3) := by decide +kernel
theorem dX5_at_40 : decode cX5_at 40 = .ok (.aload 6, 2) := by decide +kernel
theorem dX5_at_42 : decode cX5_at 42 = .ok (.getfield 234, 3) := by decide +kernel
theorem dX5_at_45 : decode cX5_at 45 = .ok (.iadd, 1) := by decide +kernel
theorem dX5_at_46 : decode cX5_at 46 = .ok (.iconst 1, 1) := by decide +kernel
theorem dX5_at_47 : decode cX5_at 47 = .ok (.isub, 1) := by decide +kernel
theorem dX5_at_48 : decode cX5_at 48 = .ok (.invokestatic 47, 3) := by decide +kernel
theorem dX5_at_51 : decode cX5_at 51 = .ok (.ifCond .eq 9, 3) := by decide +kernel
theorem dX5_at_54 : decode cX5_at 54 = .ok (.aload 6, 2) := by decide +kernel
theorem dX5_at_56 : decode cX5_at 56 = .ok (.getfield 162, 3) := by decide +kernel
theorem dX5_at_59 : decode cX5_at 59 = .ok (.ireturn, 1) := by decide +kernel
theorem dX5_at_60 : decode cX5_at 60 = .ok (.aload 6, 2) := by decide +kernel
theorem dX5_at_62 : decode cX5_at 62 = .ok (.getfield 251, 3) := by decide +kernel
theorem dX5_at_65 : decode cX5_at 65 = .ok (.astore 6, 2) := by decide +kernel
theorem dX5_at_67 : decode cX5_at 67 = .ok (.goto (-44), 3) := by decide +kernel
theorem dX5_at_70 : decode cX5_at 70 = .ok (.iconst (-1), 1) := by decide +kernel
theorem dX5_at_71 : decode cX5_at 71 = .ok (.ireturn, 1) := by decide +kernel
set_option maxRecDepth 20000 in
theorem ggX5_lane_X5_shipNumbered : GoodIn wsX5_lane wsX5_shipNumbered := goodIn_r _ [5, 6, 7, 8, 9, 4, 10, 46, 47, 48, 49, 50, 51, 52, 53, 54, 55, 56, 57] (by decide +kernel) (by decide +kernel)
set_option maxRecDepth 20000 in
theorem gX5_lane_X5_shipNumbered : GoodIn wsX5_lane (wsV RX5 54 RX5 yX5_shipNumbered wsX5_shipNumbered) := goodIn_app (goodIn_of _ (by decide +kernel)) ggX5_lane_X5_shipNumbered
set_option maxRecDepth 20000 in
theorem ggX5_lane_X3_hasLane : GoodIn wsX5_lane wsX3_hasLane := goodIn_r _ [14, 15, 16, 58, 59, 60, 61, 62, 63, 64, 65] (by decide +kernel) (by decide +kernel)
set_option maxRecDepth 20000 in
theorem gX5_lane_X3_hasLane_n281 : GoodIn wsX5_lane (wsX3_hasLane) := ggX5_lane_X3_hasLane
set_option maxRecDepth 20000 in
theorem ggX5_lane_X3_freePlaces : GoodIn wsX5_lane wsX3_freePlaces := goodIn_r _ [19, 20, 21, 22, 23, 12, 24, 25, 16, 26, 11, 13, 14, 15, 58, 59, 60, 61, 62, 63, 64, 65, 66, 67, 68, 69, 70, 71, 72, 73, 74, 75, 76, 77, 78, 79, 80, 81] (by decide +kernel) (by decide +kernel)
set_option maxRecDepth 20000 in
theorem gX5_lane_X3_freePlaces_n285 : GoodIn wsX5_lane (wsX3_freePlaces) := ggX5_lane_X3_freePlaces
set_option maxRecDepth 20000 in
theorem ggX5_lane_X3_longestGap : GoodIn wsX5_lane wsX3_longestGap := goodIn_r _ [29, 30, 31, 32, 33, 20, 21, 22, 23, 12, 24, 25, 16, 26, 11, 13, 14, 15, 66, 67, 68, 69, 70, 71, 72, 73, 74, 75, 76, 77, 78, 79, 80, 81, 58, 59, 60, 61, 62, 63, 64, 65] (by decide +kernel) (by decide +kernel)
set_option maxRecDepth 20000 in
theorem gX5_lane_X3_longestGap_n289 : GoodIn wsX5_lane (wsX3_longestGap) := ggX5_lane_X3_longestGap
set_option maxRecDepth 20000 in
theorem ggX5_lane_X3_mayStand : GoodIn wsX5_lane wsX3_mayStand := goodIn_r _ [36, 37, 38, 39, 40, 12, 41, 21, 22, 23, 24, 25, 16, 26, 11, 13, 14, 15, 42, 43, 44, 45, 58, 59, 60, 61, 62, 63, 64, 65, 66, 67, 68, 69, 70, 71, 72, 73, 74, 75, 76, 77, 78, 79, 80, 81] (by decide +kernel) (by decide +kernel)
set_option maxRecDepth 20000 in
theorem gX5_lane_X3_mayStand_n292 : GoodIn wsX5_lane (wsX3_mayStand) := ggX5_lane_X3_mayStand
theorem dX5_lane_0 : decode cX5_lane 0 = .ok (.aload_n 0, 1) := by decide +kernel
theorem dX5_lane_1 : decode cX5_lane 1 = .ok (.iload_n 1, 1) := by decide +kernel
theorem dX5_lane_2 : decode cX5_lane 2 = .ok (.invokevirtual 54, 3) := by decide +kernel
theorem dX5_lane_5 : decode cX5_lane 5 = .ok (.astore 5, 2) := by decide +kernel
theorem dX5_lane_7 : decode cX5_lane 7 = .ok (.aload 5, 2) := by decide +kernel
theorem dX5_lane_9 : decode cX5_lane 9 = .ok (.ifnull 13, 3) := by decide +kernel
theorem dX5_lane_12 : decode cX5_lane 12 = .ok (.aload 5, 2) := by decide +kernel
theorem dX5_lane_14 : decode cX5_lane 14 = .ok (.iload_n 2, 1) := by decide +kernel
theorem dX5_lane_15 : decode cX5_lane 15 = .ok (.iload_n 3, 1) := by decide +kernel
theorem dX5_lane_16 : decode cX5_lane 16 = .ok (.invokevirtual 281, 3) := by decide +kernel
theorem dX5_lane_19 : decode cX5_lane 19 = .ok (.ifCond .ne 5, 3) := by decide +kernel
theorem dX5_lane_22 : decode cX5_lane 22 = .ok (.iconst (-1), 1) := by decide +kernel
theorem dX5_lane_23 : decode cX5_lane 23 = .ok (.ireturn, 1) := by decide +kernel
theorem dX5_lane_24 : decode cX5_lane 24 = .ok (.iload 4, 2) := by decide +kernel
theorem dX5_lane_26 : decode cX5_lane 26 = .ok (.tableswitch 70 0 4 #[34, 42, 50, 50, 50], 34) := by decide +kernel
theorem dX5_lane_60 : decode cX5_lane 60 = .ok (.aload 5, 2) := by decide +kernel
theorem dX5_lane_62 : decode cX5_lane 62 = .ok (.iload_n 2, 1) := by decide +kernel
theorem dX5_lane_63 : decode cX5_lane 63 = .ok (.iload_n 3, 1) := by decide +kernel
theorem dX5_lane_64 : decode cX5_lane 64 = .ok (.invokevirtual 285, 3) := by decide +kernel
theorem dX5_lane_67 : decode cX5_lane 67 = .ok (.ireturn, 1) := by decide +kernel
theorem dX5_lane_68 : decode cX5_lane 68 = .ok (.aload 5, 2) := by decide +kernel
theorem dX5_lane_70 : decode cX5_lane 70 = .ok (.iload_n 2, 1) := by decide +kernel
theorem dX5_lane_71 : decode cX5_lane 71 = .ok (.iload_n 3, 1) := by decide +kernel
theorem dX5_lane_72 : decode cX5_lane 72 = .ok (.invokevirtual 289, 3) := by decide +kernel
theorem dX5_lane_75 : decode cX5_lane 75 = .ok (.ireturn, 1) := by decide +kernel
theorem dX5_lane_76 : decode cX5_lane 76 = .ok (.aload 5, 2) := by decide +kernel
theorem dX5_lane_78 : decode cX5_lane 78 = .ok (.iload_n 2, 1) := by decide +kernel
theorem dX5_lane_79 : decode cX5_lane 79 = .ok (.iload_n 3, 1) := by decide +kernel
theorem dX5_lane_80 : decode cX5_lane 80 = .ok (.iload 4, 2) := by decide +kernel
theorem dX5_lane_82 : decode cX5_lane 82 = .ok (.iconst 2, 1) := by decide +kernel
theorem dX5_lane_83 : decode cX5_lane 83 = .ok (.isub, 1) := by decide +kernel
theorem dX5_lane_84 : decode cX5_lane 84 = .ok (.invokevirtual 292, 3) := by decide +kernel
theorem dX5_lane_87 : decode cX5_lane 87 = .ok (.ifCond .eq 7, 3) := by decide +kernel
theorem dX5_lane_90 : decode cX5_lane 90 = .ok (.iconst 1, 1) := by decide +kernel
theorem dX5_lane_91 : decode cX5_lane 91 = .ok (.goto 4, 3) := by decide +kernel
theorem dX5_lane_94 : decode cX5_lane 94 = .ok (.iconst 0, 1) := by decide +kernel
theorem dX5_lane_95 : decode cX5_lane 95 = .ok (.ireturn, 1) := by decide +kernel
theorem dX5_lane_96 : decode cX5_lane 96 = .ok (.iconst (-1), 1) := by decide +kernel
theorem dX5_lane_97 : decode cX5_lane 97 = .ok (.ireturn, 1) := by decide +kernel
set_option maxRecDepth 20000 in
theorem ggX5_log_X5_within : GoodIn wsX5_log wsX5_within := goodIn_r _ [12] (by decide +kernel) (by decide +kernel)
set_option maxRecDepth 20000 in
theorem gX5_log_X5_within : GoodIn wsX5_log (va_wsS RX5 47 yX5_within wsX5_within) := goodIn_app (goodIn_of _ (by decide +kernel)) ggX5_log_X5_within
theorem dX5_log_0 : decode cX5_log 0 = .ok (.iload_n 1, 1) := by decide +kernel
theorem dX5_log_1 : decode cX5_log 1 = .ok (.iconst 0, 1) := by decide +kernel
theorem dX5_log_2 : decode cX5_log 2 = .ok (.aload_n 0, 1) := by decide +kernel
theorem dX5_log_3 : decode cX5_log 3 = .ok (.getfield 159, 3) := by decide +kernel
theorem dX5_log_6 : decode cX5_log 6 = .ok (.sipush 3000, 3) := by decide +kernel
theorem dX5_log_9 : decode cX5_log 9 = .ok (.invokestatic 295, 3) := by decide +kernel
theorem dX5_log_12 : decode cX5_log 12 = .ok (.iconst 1, 1) := by decide +kernel
theorem dX5_log_13 : decode cX5_log 13 = .ok (.isub, 1) := by decide +kernel
theorem dX5_log_14 : decode cX5_log 14 = .ok (.invokestatic 47, 3) := by decide +kernel
theorem dX5_log_17 : decode cX5_log 17 = .ok (.ifCond .ne 5, 3) := by decide +kernel
theorem dX5_log_20 : decode cX5_log 20 = .ok (.iconst (-1), 1) := by decide +kernel
theorem dX5_log_21 : decode cX5_log 21 = .ok (.ireturn, 1) := by decide +kernel
theorem dX5_log_22 : decode cX5_log 22 = .ok (.iload_n 2, 1) := by decide +kernel
theorem dX5_log_23 : decode cX5_log 23 = .ok (.tableswitch 46 0 2 #[25, 32, 39], 25) := by decide +kernel
theorem dX5_log_48 : decode cX5_log 48 = .ok (.aload_n 0, 1) := by decide +kernel
theorem dX5_log_49 : decode cX5_log 49 = .ok (.getfield 33, 3) := by decide +kernel
theorem dX5_log_52 : decode cX5_log 52 = .ok (.iload_n 1, 1) := by decide +kernel
theorem dX5_log_53 : decode cX5_log 53 = .ok (.iaload, 1) := by decide +kernel
theorem dX5_log_54 : decode cX5_log 54 = .ok (.ireturn, 1) := by decide +kernel
theorem dX5_log_55 : decode cX5_log 55 = .ok (.aload_n 0, 1) := by decide +kernel
theorem dX5_log_56 : decode cX5_log 56 = .ok (.getfield 37, 3) := by decide +kernel
theorem dX5_log_59 : decode cX5_log 59 = .ok (.iload_n 1, 1) := by decide +kernel
theorem dX5_log_60 : decode cX5_log 60 = .ok (.iaload, 1) := by decide +kernel
theorem dX5_log_61 : decode cX5_log 61 = .ok (.ireturn, 1) := by decide +kernel
theorem dX5_log_62 : decode cX5_log 62 = .ok (.aload_n 0, 1) := by decide +kernel
theorem dX5_log_63 : decode cX5_log 63 = .ok (.getfield 40, 3) := by decide +kernel
theorem dX5_log_66 : decode cX5_log 66 = .ok (.iload_n 1, 1) := by decide +kernel
theorem dX5_log_67 : decode cX5_log 67 = .ok (.iaload, 1) := by decide +kernel
theorem dX5_log_68 : decode cX5_log 68 = .ok (.ireturn, 1) := by decide +kernel
theorem dX5_log_69 : decode cX5_log 69 = .ok (.iconst (-1), 1) := by decide +kernel
theorem dX5_log_70 : decode cX5_log 70 = .ok (.ireturn, 1) := by decide +kernel
theorem dX5_count_0 : decode cX5_count 0 = .ok (.iload_n 1, 1) := by decide +kernel
theorem dX5_count_1 : decode cX5_count 1 = .ok (.tableswitch 60 0 4 #[35, 40, 45, 50, 55], 35) := by decide +kernel
theorem dX5_count_36 : decode cX5_count 36 = .ok (.aload_n 0, 1) := by decide +kernel
theorem dX5_count_37 : decode cX5_count 37 = .ok (.getfield 43, 3) := by decide +kernel
theorem dX5_count_40 : decode cX5_count 40 = .ok (.ireturn, 1) := by decide +kernel
theorem dX5_count_41 : decode cX5_count 41 = .ok (.aload_n 0, 1) := by decide +kernel
theorem dX5_count_42 : decode cX5_count 42 = .ok (.getfield 58, 3) := by decide +kernel
theorem dX5_count_45 : decode cX5_count 45 = .ok (.ireturn, 1) := by decide +kernel
theorem dX5_count_46 : decode cX5_count 46 = .ok (.aload_n 0, 1) := by decide +kernel
theorem dX5_count_47 : decode cX5_count 47 = .ok (.getfield 65, 3) := by decide +kernel
theorem dX5_count_50 : decode cX5_count 50 = .ok (.ireturn, 1) := by decide +kernel
theorem dX5_count_51 : decode cX5_count 51 = .ok (.aload_n 0, 1) := by decide +kernel
theorem dX5_count_52 : decode cX5_count 52 = .ok (.getfield 100, 3) := by decide +kernel
theorem dX5_count_55 : decode cX5_count 55 = .ok (.ireturn, 1) := by decide +kernel
theorem dX5_count_56 : decode cX5_count 56 = .ok (.aload_n 0, 1) := by decide +kernel
theorem dX5_count_57 : decode cX5_count 57 = .ok (.getfield 159, 3) := by decide +kernel
theorem dX5_count_60 : decode cX5_count 60 = .ok (.ireturn, 1) := by decide +kernel
theorem dX5_count_61 : decode cX5_count 61 = .ok (.iconst (-1), 1) := by decide +kernel
theorem dX5_count_62 : decode cX5_count 62 = .ok (.ireturn, 1) := by decide +kernel
set_option maxRecDepth 20000 in
theorem ggX5_total_X5_sailingNumbered : GoodIn wsX5_total wsX5_sailingNumbered := goodIn_r _ [7, 8, 9, 10, 11, 6, 12, 16, 17, 18, 19, 20, 21, 22, 23, 24, 25, 26, 27] (by decide +kernel) (by decide +kernel)
set_option maxRecDepth 20000 in
theorem gX5_total_X5_sailingNumbered : GoodIn wsX5_total (wsV RX5 92 RX5 yX5_sailingNumbered wsX5_sailingNumbered) := goodIn_app (goodIn_of _ (by decide +kernel)) ggX5_total_X5_sailingNumbered
set_option maxRecDepth 20000 in
theorem ggX5_total_X5_within : GoodIn wsX5_total wsX5_within := goodIn_r _ [12] (by decide +kernel) (by decide +kernel)
set_option maxRecDepth 20000 in
theorem gX5_total_X5_within : GoodIn wsX5_total (va_wsS RX5 47 yX5_within wsX5_within) := goodIn_app (goodIn_of _ (by decide +kernel)) ggX5_total_X5_within
set_option maxRecDepth 20000 in
theorem ggX5_total_X5_shareOfTotal : GoodIn wsX5_total wsX5_shareOfTotal := goodIn_r _ [15, 28, 29, 30, 31, 32, 33, 34, 35, 36, 37, 38, 39, 40, 41, 42, 43] (by decide +kernel) (by decide +kernel)
set_option maxRecDepth 20000 in
theorem gX5_total_X5_shareOfTotal : GoodIn wsX5_total (va_wsS RX5 298 yX5_shareOfTotal wsX5_shareOfTotal) := goodIn_app (goodIn_of _ (by decide +kernel)) ggX5_total_X5_shareOfTotal
theorem dX5_total_0 : decode cX5_total 0 = .ok (.aload_n 0, 1) := by decide +kernel
theorem dX5_total_1 : decode cX5_total 1 = .ok (.iload_n 1, 1) := by decide +kernel
theorem dX5_total_2 : decode cX5_total 2 = .ok (.invokevirtual 92, 3) := by decide +kernel
theorem dX5_total_5 : decode cX5_total 5 = .ok (.astore_n 3, 1) := by decide +kernel
theorem dX5_total_6 : decode cX5_total 6 = .ok (.aload_n 3, 1) := by decide +kernel
theorem dX5_total_7 : decode cX5_total 7 = .ok (.ifnull 12, 3) := by decide +kernel
theorem dX5_total_10 : decode cX5_total 10 = .ok (.iload_n 2, 1) := by decide +kernel
theorem dX5_total_11 : decode cX5_total 11 = .ok (.iconst 0, 1) := by decide +kernel
theorem dX5_total_12 : decode cX5_total 12 = .ok (.iconst 3, 1) := by decide +kernel
theorem dX5_total_13 : decode cX5_total 13 = .ok (.invokestatic 47, 3) := by decide +kernel
theorem dX5_total_16 : decode cX5_total 16 = .ok (.ifCond .ne 5, 3) := by decide +kernel
theorem dX5_total_19 : decode cX5_total 19 = .ok (.iconst (-1), 1) := by decide +kernel
theorem dX5_total_20 : decode cX5_total 20 = .ok (.ireturn, 1) := by decide +kernel
theorem dX5_total_21 : decode cX5_total 21 = .ok (.iconst 0, 1) := by decide +kernel
theorem dX5_total_22 : decode cX5_total 22 = .ok (.istore 4, 2) := by decide +kernel
theorem dX5_total_24 : decode cX5_total 24 = .ok (.iconst 0, 1) := by decide +kernel
theorem dX5_total_25 : decode cX5_total 25 = .ok (.istore 5, 2) := by decide +kernel
theorem dX5_total_27 : decode cX5_total 27 = .ok (.iload 5, 2) := by decide +kernel
theorem dX5_total_29 : decode cX5_total 29 = .ok (.aload_n 0, 1) := by decide +kernel
theorem dX5_total_30 : decode cX5_total 30 = .ok (.getfield 100, 3) := by decide +kernel
theorem dX5_total_33 : decode cX5_total 33 = .ok (.if_icmp .ge 57, 3) := by decide +kernel
theorem dX5_total_36 : decode cX5_total 36 = .ok (.aload_n 0, 1) := by decide +kernel
theorem dX5_total_37 : decode cX5_total 37 = .ok (.getfield 29, 3) := by decide +kernel
theorem dX5_total_40 : decode cX5_total 40 = .ok (.iload 5, 2) := by decide +kernel
theorem dX5_total_42 : decode cX5_total 42 = .ok (.aaload, 1) := by decide +kernel
theorem dX5_total_43 : decode cX5_total 43 = .ok (.astore 6, 2) := by decide +kernel
theorem dX5_total_45 : decode cX5_total 45 = .ok (.aload 6, 2) := by decide +kernel
theorem dX5_total_47 : decode cX5_total 47 = .ok (.getfield 122, 3) := by decide +kernel
theorem dX5_total_50 : decode cX5_total 50 = .ok (.aload_n 3, 1) := by decide +kernel
theorem dX5_total_51 : decode cX5_total 51 = .ok (.if_acmp .ne 33, 3) := by decide +kernel
theorem dX5_total_54 : decode cX5_total 54 = .ok (.aload 6, 2) := by decide +kernel
theorem dX5_total_56 : decode cX5_total 56 = .ok (.getfield 120, 3) := by decide +kernel
theorem dX5_total_59 : decode cX5_total 59 = .ok (.iconst 3, 1) := by decide +kernel
theorem dX5_total_60 : decode cX5_total 60 = .ok (.if_icmp .eq 13, 3) := by decide +kernel
theorem dX5_total_63 : decode cX5_total 63 = .ok (.aload 6, 2) := by decide +kernel
theorem dX5_total_65 : decode cX5_total 65 = .ok (.getfield 120, 3) := by decide +kernel
theorem dX5_total_68 : decode cX5_total 68 = .ok (.bipush 6, 2) := by decide +kernel
theorem dX5_total_70 : decode cX5_total 70 = .ok (.if_icmp .ne 14, 3) := by decide +kernel
theorem dX5_total_73 : decode cX5_total 73 = .ok (.iload 4, 2) := by decide +kernel
theorem dX5_total_75 : decode cX5_total 75 = .ok (.aload 6, 2) := by decide +kernel
theorem dX5_total_77 : decode cX5_total 77 = .ok (.iload_n 2, 1) := by decide +kernel
theorem dX5_total_78 : decode cX5_total 78 = .ok (.invokestatic 298, 3) := by decide +kernel
theorem dX5_total_81 : decode cX5_total 81 = .ok (.iadd, 1) := by decide +kernel
theorem dX5_total_82 : decode cX5_total 82 = .ok (.istore 4, 2) := by decide +kernel
theorem dX5_total_84 : decode cX5_total 84 = .ok (.iinc 5 1, 3) := by decide +kernel
theorem dX5_total_87 : decode cX5_total 87 = .ok (.goto (-60), 3) := by decide +kernel
theorem dX5_total_90 : decode cX5_total 90 = .ok (.iload 4, 2) := by decide +kernel
theorem dX5_total_92 : decode cX5_total 92 = .ok (.ireturn, 1) := by decide +kernel
theorem dX5_shareOfTotal_0 : decode cX5_shareOfTotal 0 = .ok (.iload_n 1, 1) := by decide +kernel
theorem dX5_shareOfTotal_1 : decode cX5_shareOfTotal 1 = .ok (.tableswitch 51 0 2 #[27, 29, 34], 27) := by decide +kernel
theorem dX5_shareOfTotal_28 : decode cX5_shareOfTotal 28 = .ok (.iconst 1, 1) := by decide +kernel
theorem dX5_shareOfTotal_29 : decode cX5_shareOfTotal 29 = .ok (.ireturn, 1) := by decide +kernel
theorem dX5_shareOfTotal_30 : decode cX5_shareOfTotal 30 = .ok (.aload_n 0, 1) := by decide +kernel
theorem dX5_shareOfTotal_31 : decode cX5_shareOfTotal 31 = .ok (.getfield 234, 3) := by decide +kernel
theorem dX5_shareOfTotal_34 : decode cX5_shareOfTotal 34 = .ok (.ireturn, 1) := by decide +kernel
theorem dX5_shareOfTotal_35 : decode cX5_shareOfTotal 35 = .ok (.aload_n 0, 1) := by decide +kernel
theorem dX5_shareOfTotal_36 : decode cX5_shareOfTotal 36 = .ok (.getfield 208, 3) := by decide +kernel
theorem dX5_shareOfTotal_39 : decode cX5_shareOfTotal 39 = .ok (.iconst (-1), 1) := by decide +kernel
theorem dX5_shareOfTotal_40 : decode cX5_shareOfTotal 40 = .ok (.if_icmp .ne 7, 3) := by decide +kernel
theorem dX5_shareOfTotal_43 : decode cX5_shareOfTotal 43 = .ok (.iconst 0, 1) := by decide +kernel
theorem dX5_shareOfTotal_44 : decode cX5_shareOfTotal 44 = .ok (.goto 7, 3) := by decide +kernel
theorem dX5_shareOfTotal_47 : decode cX5_shareOfTotal 47 = .ok (.aload_n 0, 1) := by decide +kernel
theorem dX5_shareOfTotal_48 : decode cX5_shareOfTotal 48 = .ok (.getfield 197, 3) := by decide +kernel
theorem dX5_shareOfTotal_51 : decode cX5_shareOfTotal 51 = .ok (.ireturn, 1) := by decide +kernel
theorem dX5_shareOfTotal_52 : decode cX5_shareOfTotal 52 = .ok (.aload_n 0, 1) := by decide +kernel
theorem dX5_shareOfTotal_53 : decode cX5_shareOfTotal 53 = .ok (.getfield 239, 3) := by decide +kernel
theorem dX5_shareOfTotal_56 : decode cX5_shareOfTotal 56 = .ok (.ireturn, 1) := by decide +kernel
theorem dX5_kept_0 : decode cX5_kept 0 = .ok (.lconst 0, 1) := by decide +kernel
theorem dX5_kept_1 : decode cX5_kept 1 = .ok (.lstore_n 1, 1) := by decide +kernel
theorem dX5_kept_2 : decode cX5_kept 2 = .ok (.iconst 0, 1) := by decide +kernel
theorem dX5_kept_3 : decode cX5_kept 3 = .ok (.istore_n 3, 1) := by decide +kernel
theorem dX5_kept_4 : decode cX5_kept 4 = .ok (.iload_n 3, 1) := by decide +kernel
theorem dX5_kept_5 : decode cX5_kept 5 = .ok (.aload_n 0, 1) := by decide +kernel
theorem dX5_kept_6 : decode cX5_kept 6 = .ok (.getfield 100, 3) := by decide +kernel
theorem dX5_kept_9 : decode cX5_kept 9 = .ok (.if_icmp .ge 32, 3) := by decide +kernel
theorem dX5_kept_12 : decode cX5_kept 12 = .ok (.lload_n 1, 1) := by decide +kernel
theorem dX5_kept_13 : decode cX5_kept 13 = .ok (.aload_n 0, 1) := by decide +kernel
theorem dX5_kept_14 : decode cX5_kept 14 = .ok (.getfield 29, 3) := by decide +kernel
theorem dX5_kept_17 : decode cX5_kept 17 = .ok (.iload_n 3, 1) := by decide +kernel
theorem dX5_kept_18 : decode cX5_kept 18 = .ok (.aaload, 1) := by decide +kernel
theorem dX5_kept_19 : decode cX5_kept 19 = .ok (.getfield 239, 3) := by decide +kernel
theorem dX5_kept_22 : decode cX5_kept 22 = .ok (.aload_n 0, 1) := by decide +kernel
theorem dX5_kept_23 : decode cX5_kept 23 = .ok (.getfield 29, 3) := by decide +kernel
theorem dX5_kept_26 : decode cX5_kept 26 = .ok (.iload_n 3, 1) := by decide +kernel
theorem dX5_kept_27 : decode cX5_kept 27 = .ok (.aaload, 1) := by decide +kernel
theorem dX5_kept_28 : decode cX5_kept 28 = .ok (.getfield 242, 3) := by decide +kernel
theorem dX5_kept_31 : decode cX5_kept 31 = .ok (.isub, 1) := by decide +kernel
theorem dX5_kept_32 : decode cX5_kept 32 = .ok (.i2l, 1) := by decide +kernel
theorem dX5_kept_33 : decode cX5_kept 33 = .ok (.ladd, 1) := by decide +kernel
theorem dX5_kept_34 : decode cX5_kept 34 = .ok (.lstore_n 1, 1) := by decide +kernel
theorem dX5_kept_35 : decode cX5_kept 35 = .ok (.iinc 3 1, 3) := by decide +kernel
theorem dX5_kept_38 : decode cX5_kept 38 = .ok (.goto (-34), 3) := by decide +kernel
theorem dX5_kept_41 : decode cX5_kept 41 = .ok (.lload_n 1, 1) := by decide +kernel
theorem dX5_kept_42 : decode cX5_kept 42 = .ok (.lreturn, 1) := by decide +kernel
set_option maxRecDepth 20000 in
theorem ggX5_audit_X0_init : GoodIn wsX5_audit wsX0_init := goodIn_r _ [5, 6, 7, 8, 9, 10, 11, 76, 77, 78] (by decide +kernel) (by decide +kernel)
set_option maxRecDepth 20000 in
theorem gX5_audit_X0_init_n304 : GoodIn wsX5_audit (wsX0_init) := ggX5_audit_X0_init
set_option maxRecDepth 20000 in
theorem ggX5_audit_X5_firstWrong : GoodIn wsX5_audit wsX5_firstWrong := goodIn_r _ [16, 17, 18, 19, 20, 21, 15, 22, 23, 3, 24, 25, 9, 10, 11, 26, 27, 28, 29, 30, 31, 32, 33, 34, 35, 36, 37, 38, 39, 40, 41, 42, 43, 44, 45, 46, 47, 48, 49, 50, 51, 52, 53, 54, 55, 56, 57, 58, 59, 60, 61, 62, 63, 64, 65, 66, 67, 68, 69, 70, 71, 79, 80, 81, 82, 83, 84, 85, 86, 87, 88, 89, 90, 91, 92, 93, 94, 95, 96, 97, 98, 99, 100, 101, 102, 103, 104, 105, 106, 107, 108, 109, 110, 111, 112, 113, 114, 115, 116, 117, 118, 119, 120, 121, 122, 123, 76, 77, 78, 124, 125, 126] (by decide +kernel) (by decide +kernel)
set_option maxRecDepth 20000 in
theorem gX5_audit_X5_firstWrong : GoodIn wsX5_audit (wsV RX5 307 RX5 yX5_firstWrong wsX5_firstWrong) := goodIn_app (goodIn_of _ (by decide +kernel)) ggX5_audit_X5_firstWrong
set_option maxRecDepth 20000 in
theorem ggX5_audit_X5_ticketNumbered : GoodIn wsX5_audit wsX5_ticketNumbered := goodIn_r _ [75, 17, 18, 49, 50, 15, 51, 79, 80, 81, 82, 83, 84, 85, 86, 87, 88, 89, 90] (by decide +kernel) (by decide +kernel)
set_option maxRecDepth 20000 in
theorem gX5_audit_X5_ticketNumbered : GoodIn wsX5_audit (wsV RX5 116 RX5 yX5_ticketNumbered wsX5_ticketNumbered) := goodIn_app (goodIn_of _ (by decide +kernel)) ggX5_audit_X5_ticketNumbered
set_option maxRecDepth 20000 in
theorem ggX5_audit_X5_within : GoodIn wsX5_audit wsX5_within := goodIn_r _ [51] (by decide +kernel) (by decide +kernel)
set_option maxRecDepth 20000 in
theorem gX5_audit_X5_within : GoodIn wsX5_audit (va_wsS RX5 47 yX5_within wsX5_within) := goodIn_app (goodIn_of _ (by decide +kernel)) ggX5_audit_X5_within
theorem dX5_audit_0 : decode cX5_audit 0 = .ok (.iload_n 2, 1) := by decide +kernel
theorem dX5_audit_1 : decode cX5_audit 1 = .ok (.ifCond .ne 18, 3) := by decide +kernel
theorem dX5_audit_4 : decode cX5_audit 4 = .ok (.aload_n 0, 1) := by decide +kernel
theorem dX5_audit_5 : decode cX5_audit 5 = .ok (.new 302, 3) := by decide +kernel
theorem dX5_audit_8 : decode cX5_audit 8 = .ok (.dup, 1) := by decide +kernel
theorem dX5_audit_9 : decode cX5_audit 9 = .ok (.aconst_null, 1) := by decide +kernel
theorem dX5_audit_10 : decode cX5_audit 10 = .ok (.iload_n 2, 1) := by decide +kernel
theorem dX5_audit_11 : decode cX5_audit 11 = .ok (.iconst 0, 1) := by decide +kernel
theorem dX5_audit_12 : decode cX5_audit 12 = .ok (.invokespecial 304, 3) := by decide +kernel
theorem dX5_audit_15 : decode cX5_audit 15 = .ok (.invokevirtual 307, 3) := by decide +kernel
theorem dX5_audit_18 : decode cX5_audit 18 = .ok (.ireturn, 1) := by decide +kernel
theorem dX5_audit_19 : decode cX5_audit 19 = .ok (.aload_n 0, 1) := by decide +kernel
theorem dX5_audit_20 : decode cX5_audit 20 = .ok (.iload_n 1, 1) := by decide +kernel
theorem dX5_audit_21 : decode cX5_audit 21 = .ok (.invokevirtual 116, 3) := by decide +kernel
theorem dX5_audit_24 : decode cX5_audit 24 = .ok (.astore 4, 2) := by decide +kernel
theorem dX5_audit_26 : decode cX5_audit 26 = .ok (.aload 4, 2) := by decide +kernel
theorem dX5_audit_28 : decode cX5_audit 28 = .ok (.ifnull 13, 3) := by decide +kernel
theorem dX5_audit_31 : decode cX5_audit 31 = .ok (.iload_n 2, 1) := by decide +kernel
theorem dX5_audit_32 : decode cX5_audit 32 = .ok (.iconst 4, 1) := by decide +kernel
theorem dX5_audit_33 : decode cX5_audit 33 = .ok (.bipush 11, 2) := by decide +kernel
theorem dX5_audit_35 : decode cX5_audit 35 = .ok (.invokestatic 47, 3) := by decide +kernel
theorem dX5_audit_38 : decode cX5_audit 38 = .ok (.ifCond .ne 6, 3) := by decide +kernel
theorem dX5_audit_41 : decode cX5_audit 41 = .ok (.bipush (-2), 2) := by decide +kernel
theorem dX5_audit_43 : decode cX5_audit 43 = .ok (.ireturn, 1) := by decide +kernel
theorem dX5_audit_44 : decode cX5_audit 44 = .ok (.aload_n 0, 1) := by decide +kernel
theorem dX5_audit_45 : decode cX5_audit 45 = .ok (.new 302, 3) := by decide +kernel
theorem dX5_audit_48 : decode cX5_audit 48 = .ok (.dup, 1) := by decide +kernel
theorem dX5_audit_49 : decode cX5_audit 49 = .ok (.aload 4, 2) := by decide +kernel
theorem dX5_audit_51 : decode cX5_audit 51 = .ok (.iload_n 2, 1) := by decide +kernel
theorem dX5_audit_52 : decode cX5_audit 52 = .ok (.iload_n 3, 1) := by decide +kernel
theorem dX5_audit_53 : decode cX5_audit 53 = .ok (.invokespecial 304, 3) := by decide +kernel
theorem dX5_audit_56 : decode cX5_audit 56 = .ok (.invokevirtual 307, 3) := by decide +kernel
theorem dX5_audit_59 : decode cX5_audit 59 = .ok (.ireturn, 1) := by decide +kernel
set_option maxRecDepth 20000 in
theorem ggX5_firstWrong_X5_placeAgrees : GoodIn wsX5_firstWrong wsX5_placeAgrees := goodIn_r _ [7, 1, 2, 8, 9, 10, 11, 12, 13, 14, 15, 16, 17, 18, 19, 20, 21, 22, 23, 24, 25, 26, 27, 28, 29, 30, 31, 32, 33, 34, 35, 36, 37, 38, 39, 6, 40, 41, 42, 43, 73, 74, 75, 76, 77, 78, 79, 80, 81, 82, 83, 84, 85, 86, 87, 88, 89, 90, 91, 92, 93, 94, 95, 96, 97, 98, 99, 100, 101, 102, 103, 104, 105, 61, 62, 63, 64, 65, 66, 67, 68, 69, 70, 71, 72, 106, 107, 108] (by decide +kernel) (by decide +kernel)
set_option maxRecDepth 20000 in
theorem gX5_firstWrong_X5_placeAgrees : GoodIn wsX5_firstWrong (wsV RX5 311 RX5 yX5_placeAgrees wsX5_placeAgrees) := goodIn_app (goodIn_of _ (by decide +kernel)) ggX5_firstWrong_X5_placeAgrees
set_option maxRecDepth 20000 in
theorem ggX5_firstWrong_X5_cabinAgrees : GoodIn wsX5_firstWrong wsX5_cabinAgrees := goodIn_r _ [47, 48, 49, 1, 2, 8, 9, 10, 11, 12, 13, 14, 15, 16, 17, 18, 19, 20, 21, 22, 23, 24, 25, 26, 27, 28, 29, 30, 31, 50, 51, 52, 53, 38, 39, 6, 40, 73, 74, 75, 76, 77, 78, 79, 80, 81, 82, 83, 84, 85, 86, 87, 88, 61, 62, 63, 64, 65, 66, 67, 68, 69, 70, 71, 72, 109, 110, 111, 89, 90, 91, 92, 93, 94, 95, 96, 97, 106, 107, 108] (by decide +kernel) (by decide +kernel)
set_option maxRecDepth 20000 in
theorem gX5_firstWrong_X5_cabinAgrees : GoodIn wsX5_firstWrong (wsV RX5 315 RX5 yX5_cabinAgrees wsX5_cabinAgrees) := goodIn_app (goodIn_of _ (by decide +kernel)) ggX5_firstWrong_X5_cabinAgrees
set_option maxRecDepth 20000 in
theorem ggX5_firstWrong_X5_minuteAgrees : GoodIn wsX5_firstWrong wsX5_minuteAgrees := goodIn_r _ [56, 57, 8, 9, 10, 11, 12, 13, 14, 15, 16, 17, 18, 19, 20, 21, 22, 23, 24, 25, 26, 27, 28, 29, 30, 31, 38, 39, 6, 40, 106, 107, 108, 73, 74, 75, 76, 77, 78, 79, 80, 81, 82, 83, 84, 85, 86, 87, 88, 89, 90, 91, 92, 93, 94, 95, 96, 97] (by decide +kernel) (by decide +kernel)
set_option maxRecDepth 20000 in
theorem gX5_firstWrong_X5_minuteAgrees : GoodIn wsX5_firstWrong (va_wsS RX5 318 yX5_minuteAgrees wsX5_minuteAgrees) := goodIn_app (goodIn_of _ (by decide +kernel)) ggX5_firstWrong_X5_minuteAgrees
set_option maxRecDepth 20000 in
theorem ggX5_firstWrong_X5_moneyAgrees : GoodIn wsX5_firstWrong wsX5_moneyAgrees := goodIn_r _ [60, 8, 9, 10, 11, 12, 13, 14, 15, 16, 17, 18, 19, 20, 21, 22, 23, 24, 25, 26, 27, 28, 29, 30, 31, 38, 39, 6, 40, 106, 107, 108, 73, 74, 75, 76, 77, 78, 79, 80, 81, 82, 83, 84, 85, 86, 87, 88, 89, 90, 91, 92, 93, 94, 95, 96, 97] (by decide +kernel) (by decide +kernel)
set_option maxRecDepth 20000 in
theorem gX5_firstWrong_X5_moneyAgrees : GoodIn wsX5_firstWrong (va_wsS RX5 321 yX5_moneyAgrees wsX5_moneyAgrees) := goodIn_app (goodIn_of _ (by decide +kernel)) ggX5_firstWrong_X5_moneyAgrees
theorem dX5_firstWrong_0 : decode cX5_firstWrong 0 = .ok (.iconst 0, 1) := by decide +kernel
theorem dX5_firstWrong_1 : decode cX5_firstWrong 1 = .ok (.istore_n 2, 1) := by decide +kernel
theorem dX5_firstWrong_2 : decode cX5_firstWrong 2 = .ok (.iload_n 2, 1) := by decide +kernel
theorem dX5_firstWrong_3 : decode cX5_firstWrong 3 = .ok (.aload_n 0, 1) := by decide +kernel
theorem dX5_firstWrong_4 : decode cX5_firstWrong 4 = .ok (.getfield 100, 3) := by decide +kernel
theorem dX5_firstWrong_7 : decode cX5_firstWrong 7 = .ok (.if_icmp .ge 52, 3) := by decide +kernel
theorem dX5_firstWrong_10 : decode cX5_firstWrong 10 = .ok (.aload_n 0, 1) := by decide +kernel
theorem dX5_firstWrong_11 : decode cX5_firstWrong 11 = .ok (.getfield 29, 3) := by decide +kernel
theorem dX5_firstWrong_14 : decode cX5_firstWrong 14 = .ok (.iload_n 2, 1) := by decide +kernel
theorem dX5_firstWrong_15 : decode cX5_firstWrong 15 = .ok (.aaload, 1) := by decide +kernel
theorem dX5_firstWrong_16 : decode cX5_firstWrong 16 = .ok (.astore_n 3, 1) := by decide +kernel
theorem dX5_firstWrong_17 : decode cX5_firstWrong 17 = .ok (.aload_n 0, 1) := by decide +kernel
theorem dX5_firstWrong_18 : decode cX5_firstWrong 18 = .ok (.aload_n 1, 1) := by decide +kernel
theorem dX5_firstWrong_19 : decode cX5_firstWrong 19 = .ok (.aload_n 3, 1) := by decide +kernel
theorem dX5_firstWrong_20 : decode cX5_firstWrong 20 = .ok (.invokevirtual 311, 3) := by decide +kernel
theorem dX5_firstWrong_23 : decode cX5_firstWrong 23 = .ok (.ifCond .eq 28, 3) := by decide +kernel
theorem dX5_firstWrong_26 : decode cX5_firstWrong 26 = .ok (.aload_n 0, 1) := by decide +kernel
theorem dX5_firstWrong_27 : decode cX5_firstWrong 27 = .ok (.aload_n 1, 1) := by decide +kernel
theorem dX5_firstWrong_28 : decode cX5_firstWrong 28 = .ok (.aload_n 3, 1) := by decide +kernel
theorem dX5_firstWrong_29 : decode cX5_firstWrong 29 = .ok (.invokevirtual 315, 3) := by decide +kernel
theorem dX5_firstWrong_32 : decode cX5_firstWrong 32 = .ok (.ifCond .eq 19, 3) := by decide +kernel
theorem dX5_firstWrong_35 : decode cX5_firstWrong 35 = .ok (.aload_n 1, 1) := by decide +kernel
theorem dX5_firstWrong_36 : decode cX5_firstWrong 36 = .ok (.aload_n 3, 1) := by decide +kernel
theorem dX5_firstWrong_37 : decode cX5_firstWrong 37 = .ok (.invokestatic 318, 3) := by decide +kernel
theorem dX5_firstWrong_40 : decode cX5_firstWrong 40 = .ok (.ifCond .eq 11, 3) := by decide +kernel
theorem dX5_firstWrong_43 : decode cX5_firstWrong 43 = .ok (.aload_n 1, 1) := by decide +kernel
theorem dX5_firstWrong_44 : decode cX5_firstWrong 44 = .ok (.aload_n 3, 1) := by decide +kernel
theorem dX5_firstWrong_45 : decode cX5_firstWrong 45 = .ok (.invokestatic 321, 3) := by decide +kernel
theorem dX5_firstWrong_48 : decode cX5_firstWrong 48 = .ok (.ifCond .ne 5, 3) := by decide +kernel
theorem dX5_firstWrong_51 : decode cX5_firstWrong 51 = .ok (.iload_n 2, 1) := by decide +kernel
theorem dX5_firstWrong_52 : decode cX5_firstWrong 52 = .ok (.ireturn, 1) := by decide +kernel
theorem dX5_firstWrong_53 : decode cX5_firstWrong 53 = .ok (.iinc 2 1, 3) := by decide +kernel
theorem dX5_firstWrong_56 : decode cX5_firstWrong 56 = .ok (.goto (-54), 3) := by decide +kernel
theorem dX5_firstWrong_59 : decode cX5_firstWrong 59 = .ok (.iconst (-1), 1) := by decide +kernel
theorem dX5_firstWrong_60 : decode cX5_firstWrong 60 = .ok (.ireturn, 1) := by decide +kernel
set_option maxRecDepth 20000 in
theorem ggX5_placeAgrees_X0_number : GoodIn wsX5_placeAgrees wsX0_number := goodIn_r _ [6, 7, 8, 9, 10, 11, 12, 13, 14, 15, 16, 17, 18, 19, 20, 21, 22, 23, 24, 25, 26, 85, 86, 87, 40, 41, 42, 43, 44, 45, 46, 47, 48, 49, 50, 51, 52, 53, 54, 55, 56, 57, 58, 59, 60, 61, 62, 63, 64] (by decide +kernel) (by decide +kernel)
set_option maxRecDepth 20000 in
theorem gX5_placeAgrees_X0_number_n324 : GoodIn wsX5_placeAgrees (wsX0_number) := ggX5_placeAgrees_X0_number
set_option maxRecDepth 20000 in
theorem ggX5_placeAgrees_X3_hasLane : GoodIn wsX5_placeAgrees wsX3_hasLane := goodIn_r _ [30, 31, 32, 65, 66, 67, 68, 69, 70, 71, 72] (by decide +kernel) (by decide +kernel)
set_option maxRecDepth 20000 in
theorem gX5_placeAgrees_X3_hasLane_n281 : GoodIn wsX5_placeAgrees (wsX3_hasLane) := ggX5_placeAgrees_X3_hasLane
set_option maxRecDepth 20000 in
theorem ggX5_placeAgrees_X5_within : GoodIn wsX5_placeAgrees wsX5_within := goodIn_r _ [36] (by decide +kernel) (by decide +kernel)
set_option maxRecDepth 20000 in
theorem gX5_placeAgrees_X5_within : GoodIn wsX5_placeAgrees (va_wsS RX5 47 yX5_within wsX5_within) := goodIn_app (goodIn_of _ (by decide +kernel)) ggX5_placeAgrees_X5_within
set_option maxRecDepth 20000 in
theorem ggX5_placeAgrees_X5_overlap : GoodIn wsX5_placeAgrees wsX5_overlap := goodIn_r _ [39, 3, 4, 5, 6, 7, 8, 9, 10, 11, 12, 13, 14, 15, 16, 17, 18, 19, 20, 21, 22, 23, 24, 25, 26, 40, 41, 42, 43, 44, 45, 46, 47, 48, 49, 50, 51, 52, 53, 54, 55, 85, 86, 87, 56, 57, 58, 59, 60, 61, 62, 63, 64] (by decide +kernel) (by decide +kernel)
set_option maxRecDepth 20000 in
theorem gX5_placeAgrees_X5_overlap : GoodIn wsX5_placeAgrees (va_wsS RX5 326 yX5_overlap wsX5_overlap) := goodIn_app (goodIn_of _ (by decide +kernel)) ggX5_placeAgrees_X5_overlap
theorem dX5_placeAgrees_0 : decode cX5_placeAgrees 0 = .ok (.aload_n 1, 1) := by decide +kernel
theorem dX5_placeAgrees_1 : decode cX5_placeAgrees 1 = .ok (.aload_n 2, 1) := by decide +kernel
theorem dX5_placeAgrees_2 : decode cX5_placeAgrees 2 = .ok (.bipush 6, 2) := by decide +kernel
theorem dX5_placeAgrees_4 : decode cX5_placeAgrees 4 = .ok (.invokevirtual 324, 3) := by decide +kernel
theorem dX5_placeAgrees_7 : decode cX5_placeAgrees 7 = .ok (.istore_n 3, 1) := by decide +kernel
theorem dX5_placeAgrees_8 : decode cX5_placeAgrees 8 = .ok (.aload_n 1, 1) := by decide +kernel
theorem dX5_placeAgrees_9 : decode cX5_placeAgrees 9 = .ok (.aload_n 2, 1) := by decide +kernel
theorem dX5_placeAgrees_10 : decode cX5_placeAgrees 10 = .ok (.bipush 7, 2) := by decide +kernel
theorem dX5_placeAgrees_12 : decode cX5_placeAgrees 12 = .ok (.invokevirtual 324, 3) := by decide +kernel
theorem dX5_placeAgrees_15 : decode cX5_placeAgrees 15 = .ok (.istore 4, 2) := by decide +kernel
theorem dX5_placeAgrees_17 : decode cX5_placeAgrees 17 = .ok (.aload_n 1, 1) := by decide +kernel
theorem dX5_placeAgrees_18 : decode cX5_placeAgrees 18 = .ok (.aload_n 2, 1) := by decide +kernel
theorem dX5_placeAgrees_19 : decode cX5_placeAgrees 19 = .ok (.bipush 8, 2) := by decide +kernel
theorem dX5_placeAgrees_21 : decode cX5_placeAgrees 21 = .ok (.invokevirtual 324, 3) := by decide +kernel
theorem dX5_placeAgrees_24 : decode cX5_placeAgrees 24 = .ok (.istore 5, 2) := by decide +kernel
theorem dX5_placeAgrees_26 : decode cX5_placeAgrees 26 = .ok (.aload_n 1, 1) := by decide +kernel
theorem dX5_placeAgrees_27 : decode cX5_placeAgrees 27 = .ok (.aload_n 2, 1) := by decide +kernel
theorem dX5_placeAgrees_28 : decode cX5_placeAgrees 28 = .ok (.iconst 4, 1) := by decide +kernel
theorem dX5_placeAgrees_29 : decode cX5_placeAgrees 29 = .ok (.invokevirtual 324, 3) := by decide +kernel
theorem dX5_placeAgrees_32 : decode cX5_placeAgrees 32 = .ok (.iconst 3, 1) := by decide +kernel
theorem dX5_placeAgrees_33 : decode cX5_placeAgrees 33 = .ok (.if_icmp .eq 26, 3) := by decide +kernel
theorem dX5_placeAgrees_36 : decode cX5_placeAgrees 36 = .ok (.iload_n 3, 1) := by decide +kernel
theorem dX5_placeAgrees_37 : decode cX5_placeAgrees 37 = .ok (.iconst (-1), 1) := by decide +kernel
theorem dX5_placeAgrees_38 : decode cX5_placeAgrees 38 = .ok (.if_icmp .ne 19, 3) := by decide +kernel
theorem dX5_placeAgrees_41 : decode cX5_placeAgrees 41 = .ok (.iload 4, 2) := by decide +kernel
theorem dX5_placeAgrees_43 : decode cX5_placeAgrees 43 = .ok (.iconst (-1), 1) := by decide +kernel
theorem dX5_placeAgrees_44 : decode cX5_placeAgrees 44 = .ok (.if_icmp .ne 13, 3) := by decide +kernel
theorem dX5_placeAgrees_47 : decode cX5_placeAgrees 47 = .ok (.iload 5, 2) := by decide +kernel
theorem dX5_placeAgrees_49 : decode cX5_placeAgrees 49 = .ok (.iconst (-1), 1) := by decide +kernel
theorem dX5_placeAgrees_50 : decode cX5_placeAgrees 50 = .ok (.if_icmp .ne 7, 3) := by decide +kernel
theorem dX5_placeAgrees_53 : decode cX5_placeAgrees 53 = .ok (.iconst 1, 1) := by decide +kernel
theorem dX5_placeAgrees_54 : decode cX5_placeAgrees 54 = .ok (.goto 4, 3) := by decide +kernel
theorem dX5_placeAgrees_57 : decode cX5_placeAgrees 57 = .ok (.iconst 0, 1) := by decide +kernel
theorem dX5_placeAgrees_58 : decode cX5_placeAgrees 58 = .ok (.ireturn, 1) := by decide +kernel
theorem dX5_placeAgrees_59 : decode cX5_placeAgrees 59 = .ok (.aload_n 2, 1) := by decide +kernel
theorem dX5_placeAgrees_60 : decode cX5_placeAgrees 60 = .ok (.getfield 122, 3) := by decide +kernel
theorem dX5_placeAgrees_63 : decode cX5_placeAgrees 63 = .ok (.getfield 76, 3) := by decide +kernel
theorem dX5_placeAgrees_66 : decode cX5_placeAgrees 66 = .ok (.astore 6, 2) := by decide +kernel
theorem dX5_placeAgrees_68 : decode cX5_placeAgrees 68 = .ok (.aload 6, 2) := by decide +kernel
theorem dX5_placeAgrees_70 : decode cX5_placeAgrees 70 = .ok (.iload_n 3, 1) := by decide +kernel
theorem dX5_placeAgrees_71 : decode cX5_placeAgrees 71 = .ok (.iload 4, 2) := by decide +kernel
theorem dX5_placeAgrees_73 : decode cX5_placeAgrees 73 = .ok (.invokevirtual 281, 3) := by decide +kernel
theorem dX5_placeAgrees_76 : decode cX5_placeAgrees 76 = .ok (.ifCond .eq 22, 3) := by decide +kernel
theorem dX5_placeAgrees_79 : decode cX5_placeAgrees 79 = .ok (.iload 5, 2) := by decide +kernel
theorem dX5_placeAgrees_81 : decode cX5_placeAgrees 81 = .ok (.iconst 0, 1) := by decide +kernel
theorem dX5_placeAgrees_82 : decode cX5_placeAgrees 82 = .ok (.aload 6, 2) := by decide +kernel
theorem dX5_placeAgrees_84 : decode cX5_placeAgrees 84 = .ok (.getfield 103, 3) := by decide +kernel
theorem dX5_placeAgrees_87 : decode cX5_placeAgrees 87 = .ok (.aload_n 2, 1) := by decide +kernel
theorem dX5_placeAgrees_88 : decode cX5_placeAgrees 88 = .ok (.getfield 234, 3) := by decide +kernel
theorem dX5_placeAgrees_91 : decode cX5_placeAgrees 91 = .ok (.isub, 1) := by decide +kernel
theorem dX5_placeAgrees_92 : decode cX5_placeAgrees 92 = .ok (.invokestatic 47, 3) := by decide +kernel
theorem dX5_placeAgrees_95 : decode cX5_placeAgrees 95 = .ok (.ifCond .ne 5, 3) := by decide +kernel
theorem dX5_placeAgrees_98 : decode cX5_placeAgrees 98 = .ok (.iconst 0, 1) := by decide +kernel
theorem dX5_placeAgrees_99 : decode cX5_placeAgrees 99 = .ok (.ireturn, 1) := by decide +kernel
theorem dX5_placeAgrees_100 : decode cX5_placeAgrees 100 = .ok (.iconst 0, 1) := by decide +kernel
theorem dX5_placeAgrees_101 : decode cX5_placeAgrees 101 = .ok (.istore 7, 2) := by decide +kernel
theorem dX5_placeAgrees_103 : decode cX5_placeAgrees 103 = .ok (.iload 7, 2) := by decide +kernel
theorem dX5_placeAgrees_105 : decode cX5_placeAgrees 105 = .ok (.aload_n 0, 1) := by decide +kernel
theorem dX5_placeAgrees_106 : decode cX5_placeAgrees 106 = .ok (.getfield 100, 3) := by decide +kernel
theorem dX5_placeAgrees_109 : decode cX5_placeAgrees 109 = .ok (.if_icmp .ge 54, 3) := by decide +kernel
theorem dX5_placeAgrees_112 : decode cX5_placeAgrees 112 = .ok (.aload_n 0, 1) := by decide +kernel
theorem dX5_placeAgrees_113 : decode cX5_placeAgrees 113 = .ok (.getfield 29, 3) := by decide +kernel
theorem dX5_placeAgrees_116 : decode cX5_placeAgrees 116 = .ok (.iload 7, 2) := by decide +kernel
theorem dX5_placeAgrees_118 : decode cX5_placeAgrees 118 = .ok (.aaload, 1) := by decide +kernel
theorem dX5_placeAgrees_119 : decode cX5_placeAgrees 119 = .ok (.aload_n 2, 1) := by decide +kernel
theorem dX5_placeAgrees_120 : decode cX5_placeAgrees 120 = .ok (.if_acmp .eq 37, 3) := by decide +kernel
theorem dX5_placeAgrees_123 : decode cX5_placeAgrees 123 = .ok (.aload_n 0, 1) := by decide +kernel
theorem dX5_placeAgrees_124 : decode cX5_placeAgrees 124 = .ok (.getfield 29, 3) := by decide +kernel
theorem dX5_placeAgrees_127 : decode cX5_placeAgrees 127 = .ok (.iload 7, 2) := by decide +kernel
theorem dX5_placeAgrees_129 : decode cX5_placeAgrees 129 = .ok (.aaload, 1) := by decide +kernel
theorem dX5_placeAgrees_130 : decode cX5_placeAgrees 130 = .ok (.getfield 122, 3) := by decide +kernel
theorem dX5_placeAgrees_133 : decode cX5_placeAgrees 133 = .ok (.aload_n 2, 1) := by decide +kernel
theorem dX5_placeAgrees_134 : decode cX5_placeAgrees 134 = .ok (.getfield 122, 3) := by decide +kernel
theorem dX5_placeAgrees_137 : decode cX5_placeAgrees 137 = .ok (.if_acmp .ne 20, 3) := by decide +kernel
theorem dX5_placeAgrees_140 : decode cX5_placeAgrees 140 = .ok (.aload_n 1, 1) := by decide +kernel
theorem dX5_placeAgrees_141 : decode cX5_placeAgrees 141 = .ok (.aload_n 2, 1) := by decide +kernel
theorem dX5_placeAgrees_142 : decode cX5_placeAgrees 142 = .ok (.aload_n 0, 1) := by decide +kernel
theorem dX5_placeAgrees_143 : decode cX5_placeAgrees 143 = .ok (.getfield 29, 3) := by decide +kernel
theorem dX5_placeAgrees_146 : decode cX5_placeAgrees 146 = .ok (.iload 7, 2) := by decide +kernel
theorem dX5_placeAgrees_148 : decode cX5_placeAgrees 148 = .ok (.aaload, 1) := by decide +kernel
theorem dX5_placeAgrees_149 : decode cX5_placeAgrees 149 = .ok (.invokestatic 326, 3) := by decide +kernel
theorem dX5_placeAgrees_152 : decode cX5_placeAgrees 152 = .ok (.ifCond .eq 5, 3) := by decide +kernel
theorem dX5_placeAgrees_155 : decode cX5_placeAgrees 155 = .ok (.iconst 0, 1) := by decide +kernel
theorem dX5_placeAgrees_156 : decode cX5_placeAgrees 156 = .ok (.ireturn, 1) := by decide +kernel
theorem dX5_placeAgrees_157 : decode cX5_placeAgrees 157 = .ok (.iinc 7 1, 3) := by decide +kernel
theorem dX5_placeAgrees_160 : decode cX5_placeAgrees 160 = .ok (.goto (-57), 3) := by decide +kernel
theorem dX5_placeAgrees_163 : decode cX5_placeAgrees 163 = .ok (.iconst 1, 1) := by decide +kernel
theorem dX5_placeAgrees_164 : decode cX5_placeAgrees 164 = .ok (.ireturn, 1) := by decide +kernel
set_option maxRecDepth 20000 in
theorem ggX5_overlap_X0_number : GoodIn wsX5_overlap wsX0_number := goodIn_r _ [4, 5, 6, 7, 8, 9, 10, 11, 12, 13, 14, 15, 16, 17, 18, 19, 20, 21, 22, 23, 24, 41, 42, 43, 25, 26, 27, 28, 29, 30, 31, 32, 33, 34, 35, 36, 37, 38, 39, 40, 44, 45, 46, 47, 48, 49, 50, 51, 52] (by decide +kernel) (by decide +kernel)
set_option maxRecDepth 20000 in
theorem gX5_overlap_X0_number_n324 : GoodIn wsX5_overlap (wsX0_number) := ggX5_overlap_X0_number
theorem dX5_overlap_0 : decode cX5_overlap 0 = .ok (.aload_n 0, 1) := by decide +kernel
theorem dX5_overlap_1 : decode cX5_overlap 1 = .ok (.aload_n 2, 1) := by decide +kernel
theorem dX5_overlap_2 : decode cX5_overlap 2 = .ok (.iconst 4, 1) := by decide +kernel
theorem dX5_overlap_3 : decode cX5_overlap 3 = .ok (.invokevirtual 324, 3) := by decide +kernel
theorem dX5_overlap_6 : decode cX5_overlap 6 = .ok (.iconst 3, 1) := by decide +kernel
theorem dX5_overlap_7 : decode cX5_overlap 7 = .ok (.if_icmp .ne 37, 3) := by decide +kernel
theorem dX5_overlap_10 : decode cX5_overlap 10 = .ok (.aload_n 0, 1) := by decide +kernel
theorem dX5_overlap_11 : decode cX5_overlap 11 = .ok (.aload_n 2, 1) := by decide +kernel
theorem dX5_overlap_12 : decode cX5_overlap 12 = .ok (.bipush 6, 2) := by decide +kernel
theorem dX5_overlap_14 : decode cX5_overlap 14 = .ok (.invokevirtual 324, 3) := by decide +kernel
theorem dX5_overlap_17 : decode cX5_overlap 17 = .ok (.aload_n 0, 1) := by decide +kernel
theorem dX5_overlap_18 : decode cX5_overlap 18 = .ok (.aload_n 1, 1) := by decide +kernel
theorem dX5_overlap_19 : decode cX5_overlap 19 = .ok (.bipush 6, 2) := by decide +kernel
theorem dX5_overlap_21 : decode cX5_overlap 21 = .ok (.invokevirtual 324, 3) := by decide +kernel
theorem dX5_overlap_24 : decode cX5_overlap 24 = .ok (.if_icmp .ne 20, 3) := by decide +kernel
theorem dX5_overlap_27 : decode cX5_overlap 27 = .ok (.aload_n 0, 1) := by decide +kernel
theorem dX5_overlap_28 : decode cX5_overlap 28 = .ok (.aload_n 2, 1) := by decide +kernel
theorem dX5_overlap_29 : decode cX5_overlap 29 = .ok (.bipush 7, 2) := by decide +kernel
theorem dX5_overlap_31 : decode cX5_overlap 31 = .ok (.invokevirtual 324, 3) := by decide +kernel
theorem dX5_overlap_34 : decode cX5_overlap 34 = .ok (.aload_n 0, 1) := by decide +kernel
theorem dX5_overlap_35 : decode cX5_overlap 35 = .ok (.aload_n 1, 1) := by decide +kernel
theorem dX5_overlap_36 : decode cX5_overlap 36 = .ok (.bipush 7, 2) := by decide +kernel
theorem dX5_overlap_38 : decode cX5_overlap 38 = .ok (.invokevirtual 324, 3) := by decide +kernel
theorem dX5_overlap_41 : decode cX5_overlap 41 = .ok (.if_icmp .eq 5, 3) := by decide +kernel
theorem dX5_overlap_44 : decode cX5_overlap 44 = .ok (.iconst 0, 1) := by decide +kernel
theorem dX5_overlap_45 : decode cX5_overlap 45 = .ok (.ireturn, 1) := by decide +kernel
theorem dX5_overlap_46 : decode cX5_overlap 46 = .ok (.aload_n 0, 1) := by decide +kernel
theorem dX5_overlap_47 : decode cX5_overlap 47 = .ok (.aload_n 1, 1) := by decide +kernel
theorem dX5_overlap_48 : decode cX5_overlap 48 = .ok (.bipush 8, 2) := by decide +kernel
theorem dX5_overlap_50 : decode cX5_overlap 50 = .ok (.invokevirtual 324, 3) := by decide +kernel
theorem dX5_overlap_53 : decode cX5_overlap 53 = .ok (.i2l, 1) := by decide +kernel
theorem dX5_overlap_54 : decode cX5_overlap 54 = .ok (.lstore_n 3, 1) := by decide +kernel
theorem dX5_overlap_55 : decode cX5_overlap 55 = .ok (.aload_n 0, 1) := by decide +kernel
theorem dX5_overlap_56 : decode cX5_overlap 56 = .ok (.aload_n 2, 1) := by decide +kernel
theorem dX5_overlap_57 : decode cX5_overlap 57 = .ok (.bipush 8, 2) := by decide +kernel
theorem dX5_overlap_59 : decode cX5_overlap 59 = .ok (.invokevirtual 324, 3) := by decide +kernel
theorem dX5_overlap_62 : decode cX5_overlap 62 = .ok (.i2l, 1) := by decide +kernel
theorem dX5_overlap_63 : decode cX5_overlap 63 = .ok (.lstore 5, 2) := by decide +kernel
theorem dX5_overlap_65 : decode cX5_overlap 65 = .ok (.lload 5, 2) := by decide +kernel
theorem dX5_overlap_67 : decode cX5_overlap 67 = .ok (.lload_n 3, 1) := by decide +kernel
theorem dX5_overlap_68 : decode cX5_overlap 68 = .ok (.aload_n 1, 1) := by decide +kernel
theorem dX5_overlap_69 : decode cX5_overlap 69 = .ok (.getfield 234, 3) := by decide +kernel
theorem dX5_overlap_72 : decode cX5_overlap 72 = .ok (.i2l, 1) := by decide +kernel
theorem dX5_overlap_73 : decode cX5_overlap 73 = .ok (.ladd, 1) := by decide +kernel
theorem dX5_overlap_74 : decode cX5_overlap 74 = .ok (.lcmp, 1) := by decide +kernel
theorem dX5_overlap_75 : decode cX5_overlap 75 = .ok (.ifCond .ge 20, 3) := by decide +kernel
theorem dX5_overlap_78 : decode cX5_overlap 78 = .ok (.lload_n 3, 1) := by decide +kernel
theorem dX5_overlap_79 : decode cX5_overlap 79 = .ok (.lload 5, 2) := by decide +kernel
theorem dX5_overlap_81 : decode cX5_overlap 81 = .ok (.aload_n 2, 1) := by decide +kernel
theorem dX5_overlap_82 : decode cX5_overlap 82 = .ok (.getfield 234, 3) := by decide +kernel
theorem dX5_overlap_85 : decode cX5_overlap 85 = .ok (.i2l, 1) := by decide +kernel
theorem dX5_overlap_86 : decode cX5_overlap 86 = .ok (.ladd, 1) := by decide +kernel
theorem dX5_overlap_87 : decode cX5_overlap 87 = .ok (.lcmp, 1) := by decide +kernel
theorem dX5_overlap_88 : decode cX5_overlap 88 = .ok (.ifCond .ge 7, 3) := by decide +kernel
theorem dX5_overlap_91 : decode cX5_overlap 91 = .ok (.iconst 1, 1) := by decide +kernel
theorem dX5_overlap_92 : decode cX5_overlap 92 = .ok (.goto 4, 3) := by decide +kernel
theorem dX5_overlap_95 : decode cX5_overlap 95 = .ok (.iconst 0, 1) := by decide +kernel
theorem dX5_overlap_96 : decode cX5_overlap 96 = .ok (.ireturn, 1) := by decide +kernel
set_option maxRecDepth 20000 in
theorem ggX5_cabinAgrees_X0_number : GoodIn wsX5_cabinAgrees wsX0_number := goodIn_r _ [8, 9, 10, 11, 12, 13, 14, 15, 16, 17, 18, 19, 20, 21, 22, 23, 24, 25, 26, 27, 28, 77, 78, 79, 37, 38, 39, 40, 41, 42, 43, 44, 45, 46, 47, 48, 49, 50, 51, 52, 68, 69, 70, 71, 72, 73, 74, 75, 76] (by decide +kernel) (by decide +kernel)
set_option maxRecDepth 20000 in
theorem gX5_cabinAgrees_X0_number_n324 : GoodIn wsX5_cabinAgrees (wsX0_number) := ggX5_cabinAgrees_X0_number
set_option maxRecDepth 20000 in
theorem ggX5_cabinAgrees_X0_mayHaveCabin : GoodIn wsX5_cabinAgrees wsX0_mayHaveCabin := goodIn_r _ [31, 32, 5, 7, 6, 8, 9, 10, 11, 12, 13, 14, 15, 16, 17, 18, 19, 20, 21, 22, 23, 24, 25, 26, 27, 28, 77, 78, 79, 37, 38, 39, 40, 41, 42, 43, 44, 45, 46, 47, 48, 49, 50, 51, 52, 68, 69, 70, 71, 72, 73, 74, 75, 76] (by decide +kernel) (by decide +kernel)
set_option maxRecDepth 20000 in
theorem gX5_cabinAgrees_X0_mayHaveCabin_n330 : GoodIn wsX5_cabinAgrees (wsX0_mayHaveCabin) := ggX5_cabinAgrees_X0_mayHaveCabin
set_option maxRecDepth 20000 in
theorem ggX5_cabinAgrees_X5_within : GoodIn wsX5_cabinAgrees wsX5_within := goodIn_r _ [36] (by decide +kernel) (by decide +kernel)
set_option maxRecDepth 20000 in
theorem gX5_cabinAgrees_X5_within : GoodIn wsX5_cabinAgrees (va_wsS RX5 47 yX5_within wsX5_within) := goodIn_app (goodIn_of _ (by decide +kernel)) ggX5_cabinAgrees_X5_within
theorem dX5_cabinAgrees_0 : decode cX5_cabinAgrees 0 = .ok (.aload_n 1, 1) := by decide +kernel
theorem dX5_cabinAgrees_1 : decode cX5_cabinAgrees 1 = .ok (.aload_n 2, 1) := by decide +kernel
theorem dX5_cabinAgrees_2 : decode cX5_cabinAgrees 2 = .ok (.bipush 9, 2) := by decide +kernel
theorem dX5_cabinAgrees_4 : decode cX5_cabinAgrees 4 = .ok (.invokevirtual 324, 3) := by decide +kernel
theorem dX5_cabinAgrees_7 : decode cX5_cabinAgrees 7 = .ok (.istore_n 3, 1) := by decide +kernel
theorem dX5_cabinAgrees_8 : decode cX5_cabinAgrees 8 = .ok (.iload_n 3, 1) := by decide +kernel
theorem dX5_cabinAgrees_9 : decode cX5_cabinAgrees 9 = .ok (.iconst (-1), 1) := by decide +kernel
theorem dX5_cabinAgrees_10 : decode cX5_cabinAgrees 10 = .ok (.if_icmp .ne 5, 3) := by decide +kernel
theorem dX5_cabinAgrees_13 : decode cX5_cabinAgrees 13 = .ok (.iconst 1, 1) := by decide +kernel
theorem dX5_cabinAgrees_14 : decode cX5_cabinAgrees 14 = .ok (.ireturn, 1) := by decide +kernel
theorem dX5_cabinAgrees_15 : decode cX5_cabinAgrees 15 = .ok (.aload_n 1, 1) := by decide +kernel
theorem dX5_cabinAgrees_16 : decode cX5_cabinAgrees 16 = .ok (.aload_n 2, 1) := by decide +kernel
theorem dX5_cabinAgrees_17 : decode cX5_cabinAgrees 17 = .ok (.invokevirtual 330, 3) := by decide +kernel
theorem dX5_cabinAgrees_20 : decode cX5_cabinAgrees 20 = .ok (.ifCond .eq 24, 3) := by decide +kernel
theorem dX5_cabinAgrees_23 : decode cX5_cabinAgrees 23 = .ok (.aload_n 2, 1) := by decide +kernel
theorem dX5_cabinAgrees_24 : decode cX5_cabinAgrees 24 = .ok (.getfield 197, 3) := by decide +kernel
