set_option maxRecDepth 20000 in
theorem gX5_doBoardingTurn_X5_firstOfBoardingList : GoodIn wsX5_doBoardingTurn (wsV RX5 181 RX5 yX5_firstOfBoardingList wsX5_firstOfBoardingList) := goodIn_app (goodIn_of _ (by decide +kernel)) ggX5_doBoardingTurn_X5_firstOfBoardingList
set_option maxRecDepth 20000 in
theorem ggX5_doBoardingTurn_X5_doRampTurn : GoodIn wsX5_doBoardingTurn wsX5_doRampTurn := goodIn_r _ [45, 12, 46, 47, 48, 49, 50, 51, 52, 53, 54, 55, 56, 57, 58, 59, 60, 61, 62, 63, 64, 65, 66, 67, 68, 69, 70, 71, 72, 73, 74, 75, 76, 77, 78, 79, 80, 81, 82, 83, 84, 85, 86, 87, 88, 89, 90, 91, 92, 93, 94, 95, 8, 9, 10, 4, 11, 13, 14, 15, 112, 113, 114, 115, 116, 117, 118, 119, 120, 96, 97, 98, 99, 100, 101, 102, 103, 104, 105, 106, 107, 108, 109, 110, 111, 121, 122, 123, 124, 125, 126, 127, 128, 129, 130, 131, 132, 136, 137, 138, 139, 140, 141, 142, 143] (by decide +kernel) (by decide +kernel)
set_option maxRecDepth 20000 in
theorem gX5_doBoardingTurn_X5_doRampTurn : GoodIn wsX5_doBoardingTurn (wsV RX5 184 RX5 yX5_doRampTurn wsX5_doRampTurn) := goodIn_app (goodIn_of _ (by decide +kernel)) ggX5_doBoardingTurn_X5_doRampTurn
theorem dX5_doBoardingTurn_0 : decode cX5_doBoardingTurn 0 = .ok (.aload_n 0, 1) := by decide +kernel
theorem dX5_doBoardingTurn_1 : decode cX5_doBoardingTurn 1 = .ok (.aload_n 1, 1) := by decide +kernel
theorem dX5_doBoardingTurn_2 : decode cX5_doBoardingTurn 2 = .ok (.invokevirtual 169, 3) := by decide +kernel
theorem dX5_doBoardingTurn_5 : decode cX5_doBoardingTurn 5 = .ok (.astore_n 2, 1) := by decide +kernel
theorem dX5_doBoardingTurn_6 : decode cX5_doBoardingTurn 6 = .ok (.aload_n 2, 1) := by decide +kernel
theorem dX5_doBoardingTurn_7 : decode cX5_doBoardingTurn 7 = .ok (.ifnull 18, 3) := by decide +kernel
theorem dX5_doBoardingTurn_10 : decode cX5_doBoardingTurn 10 = .ok (.aload_n 2, 1) := by decide +kernel
theorem dX5_doBoardingTurn_11 : decode cX5_doBoardingTurn 11 = .ok (.iconst 2, 1) := by decide +kernel
theorem dX5_doBoardingTurn_12 : decode cX5_doBoardingTurn 12 = .ok (.putfield 120, 3) := by decide +kernel
theorem dX5_doBoardingTurn_15 : decode cX5_doBoardingTurn 15 = .ok (.aload_n 0, 1) := by decide +kernel
theorem dX5_doBoardingTurn_16 : decode cX5_doBoardingTurn 16 = .ok (.iconst 0, 1) := by decide +kernel
theorem dX5_doBoardingTurn_17 : decode cX5_doBoardingTurn 17 = .ok (.aload_n 2, 1) := by decide +kernel
theorem dX5_doBoardingTurn_18 : decode cX5_doBoardingTurn 18 = .ok (.aload_n 1, 1) := by decide +kernel
theorem dX5_doBoardingTurn_19 : decode cX5_doBoardingTurn 19 = .ok (.invokevirtual 173, 3) := by decide +kernel
theorem dX5_doBoardingTurn_22 : decode cX5_doBoardingTurn 22 = .ok (.goto 38, 3) := by decide +kernel
theorem dX5_doBoardingTurn_25 : decode cX5_doBoardingTurn 25 = .ok (.aload_n 1, 1) := by decide +kernel
theorem dX5_doBoardingTurn_26 : decode cX5_doBoardingTurn 26 = .ok (.getfield 155, 3) := by decide +kernel
theorem dX5_doBoardingTurn_29 : decode cX5_doBoardingTurn 29 = .ok (.ifnull 15, 3) := by decide +kernel
theorem dX5_doBoardingTurn_32 : decode cX5_doBoardingTurn 32 = .ok (.aload_n 0, 1) := by decide +kernel
theorem dX5_doBoardingTurn_33 : decode cX5_doBoardingTurn 33 = .ok (.aload_n 1, 1) := by decide +kernel
theorem dX5_doBoardingTurn_34 : decode cX5_doBoardingTurn 34 = .ok (.aload_n 1, 1) := by decide +kernel
theorem dX5_doBoardingTurn_35 : decode cX5_doBoardingTurn 35 = .ok (.getfield 155, 3) := by decide +kernel
theorem dX5_doBoardingTurn_38 : decode cX5_doBoardingTurn 38 = .ok (.invokevirtual 177, 3) := by decide +kernel
theorem dX5_doBoardingTurn_41 : decode cX5_doBoardingTurn 41 = .ok (.goto 19, 3) := by decide +kernel
theorem dX5_doBoardingTurn_44 : decode cX5_doBoardingTurn 44 = .ok (.aload_n 0, 1) := by decide +kernel
theorem dX5_doBoardingTurn_45 : decode cX5_doBoardingTurn 45 = .ok (.aload_n 1, 1) := by decide +kernel
theorem dX5_doBoardingTurn_46 : decode cX5_doBoardingTurn 46 = .ok (.invokevirtual 181, 3) := by decide +kernel
theorem dX5_doBoardingTurn_49 : decode cX5_doBoardingTurn 49 = .ok (.astore_n 3, 1) := by decide +kernel
theorem dX5_doBoardingTurn_50 : decode cX5_doBoardingTurn 50 = .ok (.aload_n 3, 1) := by decide +kernel
theorem dX5_doBoardingTurn_51 : decode cX5_doBoardingTurn 51 = .ok (.ifnull 9, 3) := by decide +kernel
theorem dX5_doBoardingTurn_54 : decode cX5_doBoardingTurn 54 = .ok (.aload_n 0, 1) := by decide +kernel
theorem dX5_doBoardingTurn_55 : decode cX5_doBoardingTurn 55 = .ok (.aload_n 1, 1) := by decide +kernel
theorem dX5_doBoardingTurn_56 : decode cX5_doBoardingTurn 56 = .ok (.aload_n 3, 1) := by decide +kernel
theorem dX5_doBoardingTurn_57 : decode cX5_doBoardingTurn 57 = .ok (.invokevirtual 184, 3) := by decide +kernel
theorem dX5_doBoardingTurn_60 : decode cX5_doBoardingTurn 60 = .ok (.return_, 1) := by decide +kernel
theorem dX5_firstHere_0 : decode cX5_firstHere 0 = .ok (.aconst_null, 1) := by decide +kernel
theorem dX5_firstHere_1 : decode cX5_firstHere 1 = .ok (.astore_n 2, 1) := by decide +kernel
theorem dX5_firstHere_2 : decode cX5_firstHere 2 = .ok (.iconst 0, 1) := by decide +kernel
theorem dX5_firstHere_3 : decode cX5_firstHere 3 = .ok (.istore_n 3, 1) := by decide +kernel
theorem dX5_firstHere_4 : decode cX5_firstHere 4 = .ok (.iload_n 3, 1) := by decide +kernel
theorem dX5_firstHere_5 : decode cX5_firstHere 5 = .ok (.aload_n 0, 1) := by decide +kernel
theorem dX5_firstHere_6 : decode cX5_firstHere 6 = .ok (.getfield 100, 3) := by decide +kernel
theorem dX5_firstHere_9 : decode cX5_firstHere 9 = .ok (.if_icmp .ge 54, 3) := by decide +kernel
theorem dX5_firstHere_12 : decode cX5_firstHere 12 = .ok (.aload_n 0, 1) := by decide +kernel
theorem dX5_firstHere_13 : decode cX5_firstHere 13 = .ok (.getfield 29, 3) := by decide +kernel
theorem dX5_firstHere_16 : decode cX5_firstHere 16 = .ok (.iload_n 3, 1) := by decide +kernel
theorem dX5_firstHere_17 : decode cX5_firstHere 17 = .ok (.aaload, 1) := by decide +kernel
theorem dX5_firstHere_18 : decode cX5_firstHere 18 = .ok (.astore 4, 2) := by decide +kernel
theorem dX5_firstHere_20 : decode cX5_firstHere 20 = .ok (.aload 4, 2) := by decide +kernel
theorem dX5_firstHere_22 : decode cX5_firstHere 22 = .ok (.getfield 122, 3) := by decide +kernel
theorem dX5_firstHere_25 : decode cX5_firstHere 25 = .ok (.aload_n 1, 1) := by decide +kernel
theorem dX5_firstHere_26 : decode cX5_firstHere 26 = .ok (.if_acmp .ne 31, 3) := by decide +kernel
theorem dX5_firstHere_29 : decode cX5_firstHere 29 = .ok (.aload 4, 2) := by decide +kernel
theorem dX5_firstHere_31 : decode cX5_firstHere 31 = .ok (.getfield 120, 3) := by decide +kernel
theorem dX5_firstHere_34 : decode cX5_firstHere 34 = .ok (.iconst 1, 1) := by decide +kernel
theorem dX5_firstHere_35 : decode cX5_firstHere 35 = .ok (.if_icmp .ne 22, 3) := by decide +kernel
theorem dX5_firstHere_38 : decode cX5_firstHere 38 = .ok (.aload_n 2, 1) := by decide +kernel
theorem dX5_firstHere_39 : decode cX5_firstHere 39 = .ok (.ifnull 15, 3) := by decide +kernel
theorem dX5_firstHere_42 : decode cX5_firstHere 42 = .ok (.aload 4, 2) := by decide +kernel
theorem dX5_firstHere_44 : decode cX5_firstHere 44 = .ok (.getfield 129, 3) := by decide +kernel
theorem dX5_firstHere_47 : decode cX5_firstHere 47 = .ok (.aload_n 2, 1) := by decide +kernel
theorem dX5_firstHere_48 : decode cX5_firstHere 48 = .ok (.getfield 129, 3) := by decide +kernel
theorem dX5_firstHere_51 : decode cX5_firstHere 51 = .ok (.if_icmp .ge 6, 3) := by decide +kernel
theorem dX5_firstHere_54 : decode cX5_firstHere 54 = .ok (.aload 4, 2) := by decide +kernel
theorem dX5_firstHere_56 : decode cX5_firstHere 56 = .ok (.astore_n 2, 1) := by decide +kernel
theorem dX5_firstHere_57 : decode cX5_firstHere 57 = .ok (.iinc 3 1, 3) := by decide +kernel
theorem dX5_firstHere_60 : decode cX5_firstHere 60 = .ok (.goto (-56), 3) := by decide +kernel
theorem dX5_firstHere_63 : decode cX5_firstHere 63 = .ok (.aload_n 2, 1) := by decide +kernel
theorem dX5_firstHere_64 : decode cX5_firstHere 64 = .ok (.areturn, 1) := by decide +kernel
set_option maxRecDepth 20000 in
theorem ggX5_firstOfBoardingList_X4_boardsAheadOf : GoodIn wsX5_firstOfBoardingList wsX4_boardsAheadOf := goodIn_r _ [6, 7, 8, 9, 10, 11, 4, 12, 13, 14, 27, 28, 29, 30, 31, 32, 33, 34, 35, 36, 37, 38, 39, 40, 41, 42, 43, 44, 45, 46, 47, 48, 49, 50, 51] (by decide +kernel) (by decide +kernel)
set_option maxRecDepth 20000 in
theorem gX5_firstOfBoardingList_X4_boardsAheadOf_n187 : GoodIn wsX5_firstOfBoardingList (wsX4_boardsAheadOf) := ggX5_firstOfBoardingList_X4_boardsAheadOf
theorem dX5_firstOfBoardingList_0 : decode cX5_firstOfBoardingList 0 = .ok (.aconst_null, 1) := by decide +kernel
theorem dX5_firstOfBoardingList_1 : decode cX5_firstOfBoardingList 1 = .ok (.astore_n 2, 1) := by decide +kernel
theorem dX5_firstOfBoardingList_2 : decode cX5_firstOfBoardingList 2 = .ok (.iconst 0, 1) := by decide +kernel
theorem dX5_firstOfBoardingList_3 : decode cX5_firstOfBoardingList 3 = .ok (.istore_n 3, 1) := by decide +kernel
theorem dX5_firstOfBoardingList_4 : decode cX5_firstOfBoardingList 4 = .ok (.iload_n 3, 1) := by decide +kernel
theorem dX5_firstOfBoardingList_5 : decode cX5_firstOfBoardingList 5 = .ok (.aload_n 0, 1) := by decide +kernel
theorem dX5_firstOfBoardingList_6 : decode cX5_firstOfBoardingList 6 = .ok (.getfield 100, 3) := by decide +kernel
theorem dX5_firstOfBoardingList_9 : decode cX5_firstOfBoardingList 9 = .ok (.if_icmp .ge 51, 3) := by decide +kernel
theorem dX5_firstOfBoardingList_12 : decode cX5_firstOfBoardingList 12 = .ok (.aload_n 0, 1) := by decide +kernel
theorem dX5_firstOfBoardingList_13 : decode cX5_firstOfBoardingList 13 = .ok (.getfield 29, 3) := by decide +kernel
theorem dX5_firstOfBoardingList_16 : decode cX5_firstOfBoardingList 16 = .ok (.iload_n 3, 1) := by decide +kernel
theorem dX5_firstOfBoardingList_17 : decode cX5_firstOfBoardingList 17 = .ok (.aaload, 1) := by decide +kernel
theorem dX5_firstOfBoardingList_18 : decode cX5_firstOfBoardingList 18 = .ok (.astore 4, 2) := by decide +kernel
theorem dX5_firstOfBoardingList_20 : decode cX5_firstOfBoardingList 20 = .ok (.aload 4, 2) := by decide +kernel
theorem dX5_firstOfBoardingList_22 : decode cX5_firstOfBoardingList 22 = .ok (.getfield 122, 3) := by decide +kernel
theorem dX5_firstOfBoardingList_25 : decode cX5_firstOfBoardingList 25 = .ok (.aload_n 1, 1) := by decide +kernel
theorem dX5_firstOfBoardingList_26 : decode cX5_firstOfBoardingList 26 = .ok (.if_acmp .ne 28, 3) := by decide +kernel
theorem dX5_firstOfBoardingList_29 : decode cX5_firstOfBoardingList 29 = .ok (.aload 4, 2) := by decide +kernel
theorem dX5_firstOfBoardingList_31 : decode cX5_firstOfBoardingList 31 = .ok (.getfield 120, 3) := by decide +kernel
theorem dX5_firstOfBoardingList_34 : decode cX5_firstOfBoardingList 34 = .ok (.iconst 2, 1) := by decide +kernel
theorem dX5_firstOfBoardingList_35 : decode cX5_firstOfBoardingList 35 = .ok (.if_icmp .ne 19, 3) := by decide +kernel
theorem dX5_firstOfBoardingList_38 : decode cX5_firstOfBoardingList 38 = .ok (.aload_n 2, 1) := by decide +kernel
theorem dX5_firstOfBoardingList_39 : decode cX5_firstOfBoardingList 39 = .ok (.ifnull 12, 3) := by decide +kernel
theorem dX5_firstOfBoardingList_42 : decode cX5_firstOfBoardingList 42 = .ok (.aload 4, 2) := by decide +kernel
theorem dX5_firstOfBoardingList_44 : decode cX5_firstOfBoardingList 44 = .ok (.aload_n 2, 1) := by decide +kernel
theorem dX5_firstOfBoardingList_45 : decode cX5_firstOfBoardingList 45 = .ok (.invokevirtual 187, 3) := by decide +kernel
theorem dX5_firstOfBoardingList_48 : decode cX5_firstOfBoardingList 48 = .ok (.ifCond .eq 6, 3) := by decide +kernel
theorem dX5_firstOfBoardingList_51 : decode cX5_firstOfBoardingList 51 = .ok (.aload 4, 2) := by decide +kernel
theorem dX5_firstOfBoardingList_53 : decode cX5_firstOfBoardingList 53 = .ok (.astore_n 2, 1) := by decide +kernel
theorem dX5_firstOfBoardingList_54 : decode cX5_firstOfBoardingList 54 = .ok (.iinc 3 1, 3) := by decide +kernel
theorem dX5_firstOfBoardingList_57 : decode cX5_firstOfBoardingList 57 = .ok (.goto (-53), 3) := by decide +kernel
theorem dX5_firstOfBoardingList_60 : decode cX5_firstOfBoardingList 60 = .ok (.aload_n 2, 1) := by decide +kernel
theorem dX5_firstOfBoardingList_61 : decode cX5_firstOfBoardingList 61 = .ok (.areturn, 1) := by decide +kernel
set_option maxRecDepth 20000 in
theorem ggX5_doRampTurn_X3_placeByDeckRule : GoodIn wsX5_doRampTurn wsX3_placeByDeckRule := goodIn_r _ [5, 6, 7, 8, 9, 10, 3, 11, 12, 13, 14, 15, 16, 17, 18, 19, 20, 21, 22, 23, 24, 25, 26, 27, 28, 29, 30, 31, 32, 33, 34, 35, 36, 37, 38, 39, 40, 41, 42, 43, 44, 45, 46, 47, 48, 49, 50, 51, 97, 98, 99, 100, 101, 102, 103, 104, 69, 70, 71, 72, 73, 74, 75, 76, 77, 78, 79, 80, 81, 82, 83, 84] (by decide +kernel) (by decide +kernel)
set_option maxRecDepth 20000 in
theorem gX5_doRampTurn_X3_placeByDeckRule_n191 : GoodIn wsX5_doRampTurn (wsX3_placeByDeckRule) := ggX5_doRampTurn_X3_placeByDeckRule
set_option maxRecDepth 20000 in
theorem ggX5_doRampTurn_X5_writeLog : GoodIn wsX5_doRampTurn wsX5_writeLog := goodIn_r _ [56, 1, 57, 58, 59, 85, 86, 87, 88, 89, 90, 91, 92, 93, 94, 95, 96, 69, 70, 71, 72, 73, 74, 75, 76, 77, 78, 79, 80, 81, 82, 83, 84, 60, 61, 62, 63, 64, 65, 66, 67, 68] (by decide +kernel) (by decide +kernel)
set_option maxRecDepth 20000 in
theorem gX5_doRampTurn_X5_writeLog : GoodIn wsX5_doRampTurn (wsV RX5 173 RX5 yX5_writeLog wsX5_writeLog) := goodIn_app (goodIn_of _ (by decide +kernel)) ggX5_doRampTurn_X5_writeLog
theorem dX5_doRampTurn_0 : decode cX5_doRampTurn 0 = .ok (.aload_n 1, 1) := by decide +kernel
theorem dX5_doRampTurn_1 : decode cX5_doRampTurn 1 = .ok (.getfield 76, 3) := by decide +kernel
theorem dX5_doRampTurn_4 : decode cX5_doRampTurn 4 = .ok (.aload_n 2, 1) := by decide +kernel
theorem dX5_doRampTurn_5 : decode cX5_doRampTurn 5 = .ok (.invokevirtual 191, 3) := by decide +kernel
theorem dX5_doRampTurn_8 : decode cX5_doRampTurn 8 = .ok (.ifCond .ne 16, 3) := by decide +kernel
theorem dX5_doRampTurn_11 : decode cX5_doRampTurn 11 = .ok (.aload_n 2, 1) := by decide +kernel
theorem dX5_doRampTurn_12 : decode cX5_doRampTurn 12 = .ok (.iconst 4, 1) := by decide +kernel
theorem dX5_doRampTurn_13 : decode cX5_doRampTurn 13 = .ok (.putfield 120, 3) := by decide +kernel
theorem dX5_doRampTurn_16 : decode cX5_doRampTurn 16 = .ok (.aload_n 0, 1) := by decide +kernel
theorem dX5_doRampTurn_17 : decode cX5_doRampTurn 17 = .ok (.iconst 2, 1) := by decide +kernel
theorem dX5_doRampTurn_18 : decode cX5_doRampTurn 18 = .ok (.aload_n 2, 1) := by decide +kernel
theorem dX5_doRampTurn_19 : decode cX5_doRampTurn 19 = .ok (.aload_n 1, 1) := by decide +kernel
theorem dX5_doRampTurn_20 : decode cX5_doRampTurn 20 = .ok (.invokevirtual 173, 3) := by decide +kernel
theorem dX5_doRampTurn_23 : decode cX5_doRampTurn 23 = .ok (.return_, 1) := by decide +kernel
theorem dX5_doRampTurn_24 : decode cX5_doRampTurn 24 = .ok (.aload_n 2, 1) := by decide +kernel
theorem dX5_doRampTurn_25 : decode cX5_doRampTurn 25 = .ok (.iconst 3, 1) := by decide +kernel
theorem dX5_doRampTurn_26 : decode cX5_doRampTurn 26 = .ok (.putfield 120, 3) := by decide +kernel
theorem dX5_doRampTurn_29 : decode cX5_doRampTurn 29 = .ok (.aload_n 2, 1) := by decide +kernel
theorem dX5_doRampTurn_30 : decode cX5_doRampTurn 30 = .ok (.aload_n 0, 1) := by decide +kernel
theorem dX5_doRampTurn_31 : decode cX5_doRampTurn 31 = .ok (.getfield 159, 3) := by decide +kernel
theorem dX5_doRampTurn_34 : decode cX5_doRampTurn 34 = .ok (.putfield 194, 3) := by decide +kernel
theorem dX5_doRampTurn_37 : decode cX5_doRampTurn 37 = .ok (.aload_n 1, 1) := by decide +kernel
theorem dX5_doRampTurn_38 : decode cX5_doRampTurn 38 = .ok (.aload_n 2, 1) := by decide +kernel
theorem dX5_doRampTurn_39 : decode cX5_doRampTurn 39 = .ok (.putfield 155, 3) := by decide +kernel
theorem dX5_doRampTurn_42 : decode cX5_doRampTurn 42 = .ok (.aload_n 1, 1) := by decide +kernel
theorem dX5_doRampTurn_43 : decode cX5_doRampTurn 43 = .ok (.aload_n 2, 1) := by decide +kernel
theorem dX5_doRampTurn_44 : decode cX5_doRampTurn 44 = .ok (.getfield 197, 3) := by decide +kernel
theorem dX5_doRampTurn_47 : decode cX5_doRampTurn 47 = .ok (.ifCond .le 7, 3) := by decide +kernel
theorem dX5_doRampTurn_50 : decode cX5_doRampTurn 50 = .ok (.iconst 1, 1) := by decide +kernel
theorem dX5_doRampTurn_51 : decode cX5_doRampTurn 51 = .ok (.goto 4, 3) := by decide +kernel
theorem dX5_doRampTurn_54 : decode cX5_doRampTurn 54 = .ok (.iconst 0, 1) := by decide +kernel
theorem dX5_doRampTurn_55 : decode cX5_doRampTurn 55 = .ok (.putfield 200, 3) := by decide +kernel
theorem dX5_doRampTurn_58 : decode cX5_doRampTurn 58 = .ok (.aload_n 0, 1) := by decide +kernel
theorem dX5_doRampTurn_59 : decode cX5_doRampTurn 59 = .ok (.iconst 1, 1) := by decide +kernel
theorem dX5_doRampTurn_60 : decode cX5_doRampTurn 60 = .ok (.aload_n 2, 1) := by decide +kernel
theorem dX5_doRampTurn_61 : decode cX5_doRampTurn 61 = .ok (.aload_n 1, 1) := by decide +kernel
theorem dX5_doRampTurn_62 : decode cX5_doRampTurn 62 = .ok (.invokevirtual 173, 3) := by decide +kernel
theorem dX5_doRampTurn_65 : decode cX5_doRampTurn 65 = .ok (.return_, 1) := by decide +kernel
set_option maxRecDepth 20000 in
theorem ggX5_goOnAfterRamp_X5_takeFreeCabin : GoodIn wsX5_goOnAfterRamp wsX5_takeFreeCabin := goodIn_r _ [5, 6, 7, 41, 42, 43, 44, 45, 46, 47, 48, 49, 50, 51, 52, 53, 54, 55] (by decide +kernel) (by decide +kernel)
set_option maxRecDepth 20000 in
theorem gX5_goOnAfterRamp_X5_takeFreeCabin : GoodIn wsX5_goOnAfterRamp (wsV RX5 204 RX5 yX5_takeFreeCabin wsX5_takeFreeCabin) := goodIn_app (goodIn_of _ (by decide +kernel)) ggX5_goOnAfterRamp_X5_takeFreeCabin
set_option maxRecDepth 20000 in
theorem ggX5_goOnAfterRamp_X5_writeLog : GoodIn wsX5_goOnAfterRamp wsX5_writeLog := goodIn_r _ [11, 12, 13, 14, 15, 41, 42, 43, 44, 45, 46, 47, 48, 49, 50, 51, 52, 25, 26, 27, 28, 29, 30, 31, 32, 33, 34, 35, 36, 37, 38, 39, 40, 16, 17, 18, 19, 20, 21, 22, 23, 24] (by decide +kernel) (by decide +kernel)
set_option maxRecDepth 20000 in
theorem gX5_goOnAfterRamp_X5_writeLog : GoodIn wsX5_goOnAfterRamp (wsV RX5 173 RX5 yX5_writeLog wsX5_writeLog) := goodIn_app (goodIn_of _ (by decide +kernel)) ggX5_goOnAfterRamp_X5_writeLog
theorem dX5_goOnAfterRamp_0 : decode cX5_goOnAfterRamp 0 = .ok (.aload_n 1, 1) := by decide +kernel
theorem dX5_goOnAfterRamp_1 : decode cX5_goOnAfterRamp 1 = .ok (.getfield 200, 3) := by decide +kernel
theorem dX5_goOnAfterRamp_4 : decode cX5_goOnAfterRamp 4 = .ok (.ifCond .eq 46, 3) := by decide +kernel
theorem dX5_goOnAfterRamp_7 : decode cX5_goOnAfterRamp 7 = .ok (.aload_n 1, 1) := by decide +kernel
theorem dX5_goOnAfterRamp_8 : decode cX5_goOnAfterRamp 8 = .ok (.iconst 0, 1) := by decide +kernel
theorem dX5_goOnAfterRamp_9 : decode cX5_goOnAfterRamp 9 = .ok (.putfield 200, 3) := by decide +kernel
theorem dX5_goOnAfterRamp_12 : decode cX5_goOnAfterRamp 12 = .ok (.aload_n 2, 1) := by decide +kernel
theorem dX5_goOnAfterRamp_13 : decode cX5_goOnAfterRamp 13 = .ok (.aload_n 0, 1) := by decide +kernel
theorem dX5_goOnAfterRamp_14 : decode cX5_goOnAfterRamp 14 = .ok (.aload_n 1, 1) := by decide +kernel
theorem dX5_goOnAfterRamp_15 : decode cX5_goOnAfterRamp 15 = .ok (.getfield 76, 3) := by decide +kernel
theorem dX5_goOnAfterRamp_18 : decode cX5_goOnAfterRamp 18 = .ok (.aload_n 2, 1) := by decide +kernel
theorem dX5_goOnAfterRamp_19 : decode cX5_goOnAfterRamp 19 = .ok (.getfield 197, 3) := by decide +kernel
theorem dX5_goOnAfterRamp_22 : decode cX5_goOnAfterRamp 22 = .ok (.invokevirtual 204, 3) := by decide +kernel
theorem dX5_goOnAfterRamp_25 : decode cX5_goOnAfterRamp 25 = .ok (.putfield 208, 3) := by decide +kernel
theorem dX5_goOnAfterRamp_28 : decode cX5_goOnAfterRamp 28 = .ok (.aload_n 0, 1) := by decide +kernel
theorem dX5_goOnAfterRamp_29 : decode cX5_goOnAfterRamp 29 = .ok (.aload_n 2, 1) := by decide +kernel
theorem dX5_goOnAfterRamp_30 : decode cX5_goOnAfterRamp 30 = .ok (.getfield 208, 3) := by decide +kernel
theorem dX5_goOnAfterRamp_33 : decode cX5_goOnAfterRamp 33 = .ok (.iconst (-1), 1) := by decide +kernel
theorem dX5_goOnAfterRamp_34 : decode cX5_goOnAfterRamp 34 = .ok (.if_icmp .ne 7, 3) := by decide +kernel
theorem dX5_goOnAfterRamp_37 : decode cX5_goOnAfterRamp 37 = .ok (.iconst 4, 1) := by decide +kernel
theorem dX5_goOnAfterRamp_38 : decode cX5_goOnAfterRamp 38 = .ok (.goto 4, 3) := by decide +kernel
theorem dX5_goOnAfterRamp_41 : decode cX5_goOnAfterRamp 41 = .ok (.iconst 3, 1) := by decide +kernel
theorem dX5_goOnAfterRamp_42 : decode cX5_goOnAfterRamp 42 = .ok (.aload_n 2, 1) := by decide +kernel
theorem dX5_goOnAfterRamp_43 : decode cX5_goOnAfterRamp 43 = .ok (.aload_n 1, 1) := by decide +kernel
theorem dX5_goOnAfterRamp_44 : decode cX5_goOnAfterRamp 44 = .ok (.invokevirtual 173, 3) := by decide +kernel
theorem dX5_goOnAfterRamp_47 : decode cX5_goOnAfterRamp 47 = .ok (.goto 15, 3) := by decide +kernel
theorem dX5_goOnAfterRamp_50 : decode cX5_goOnAfterRamp 50 = .ok (.aload_n 1, 1) := by decide +kernel
theorem dX5_goOnAfterRamp_51 : decode cX5_goOnAfterRamp 51 = .ok (.aconst_null, 1) := by decide +kernel
theorem dX5_goOnAfterRamp_52 : decode cX5_goOnAfterRamp 52 = .ok (.putfield 155, 3) := by decide +kernel
theorem dX5_goOnAfterRamp_55 : decode cX5_goOnAfterRamp 55 = .ok (.aload_n 0, 1) := by decide +kernel
theorem dX5_goOnAfterRamp_56 : decode cX5_goOnAfterRamp 56 = .ok (.iconst 5, 1) := by decide +kernel
theorem dX5_goOnAfterRamp_57 : decode cX5_goOnAfterRamp 57 = .ok (.aload_n 2, 1) := by decide +kernel
theorem dX5_goOnAfterRamp_58 : decode cX5_goOnAfterRamp 58 = .ok (.aload_n 1, 1) := by decide +kernel
theorem dX5_goOnAfterRamp_59 : decode cX5_goOnAfterRamp 59 = .ok (.invokevirtual 173, 3) := by decide +kernel
theorem dX5_goOnAfterRamp_62 : decode cX5_goOnAfterRamp 62 = .ok (.return_, 1) := by decide +kernel
theorem dX5_takeFreeCabin_0 : decode cX5_takeFreeCabin 0 = .ok (.iconst 0, 1) := by decide +kernel
theorem dX5_takeFreeCabin_1 : decode cX5_takeFreeCabin 1 = .ok (.istore_n 3, 1) := by decide +kernel
theorem dX5_takeFreeCabin_2 : decode cX5_takeFreeCabin 2 = .ok (.iload_n 3, 1) := by decide +kernel
theorem dX5_takeFreeCabin_3 : decode cX5_takeFreeCabin 3 = .ok (.aload_n 0, 1) := by decide +kernel
theorem dX5_takeFreeCabin_4 : decode cX5_takeFreeCabin 4 = .ok (.getfield 58, 3) := by decide +kernel
theorem dX5_takeFreeCabin_7 : decode cX5_takeFreeCabin 7 = .ok (.if_icmp .ge 51, 3) := by decide +kernel
theorem dX5_takeFreeCabin_10 : decode cX5_takeFreeCabin 10 = .ok (.aload_n 0, 1) := by decide +kernel
theorem dX5_takeFreeCabin_11 : decode cX5_takeFreeCabin 11 = .ok (.getfield 17, 3) := by decide +kernel
theorem dX5_takeFreeCabin_14 : decode cX5_takeFreeCabin 14 = .ok (.iload_n 3, 1) := by decide +kernel
theorem dX5_takeFreeCabin_15 : decode cX5_takeFreeCabin 15 = .ok (.aaload, 1) := by decide +kernel
theorem dX5_takeFreeCabin_16 : decode cX5_takeFreeCabin 16 = .ok (.astore 4, 2) := by decide +kernel
theorem dX5_takeFreeCabin_18 : decode cX5_takeFreeCabin 18 = .ok (.aload 4, 2) := by decide +kernel
theorem dX5_takeFreeCabin_20 : decode cX5_takeFreeCabin 20 = .ok (.getfield 211, 3) := by decide +kernel
theorem dX5_takeFreeCabin_23 : decode cX5_takeFreeCabin 23 = .ok (.aload_n 1, 1) := by decide +kernel
theorem dX5_takeFreeCabin_24 : decode cX5_takeFreeCabin 24 = .ok (.if_acmp .ne 28, 3) := by decide +kernel
theorem dX5_takeFreeCabin_27 : decode cX5_takeFreeCabin 27 = .ok (.aload 4, 2) := by decide +kernel
theorem dX5_takeFreeCabin_29 : decode cX5_takeFreeCabin 29 = .ok (.getfield 212, 3) := by decide +kernel
theorem dX5_takeFreeCabin_32 : decode cX5_takeFreeCabin 32 = .ok (.ifCond .ne 20, 3) := by decide +kernel
theorem dX5_takeFreeCabin_35 : decode cX5_takeFreeCabin 35 = .ok (.aload 4, 2) := by decide +kernel
theorem dX5_takeFreeCabin_37 : decode cX5_takeFreeCabin 37 = .ok (.getfield 215, 3) := by decide +kernel
theorem dX5_takeFreeCabin_40 : decode cX5_takeFreeCabin 40 = .ok (.iload_n 2, 1) := by decide +kernel
theorem dX5_takeFreeCabin_41 : decode cX5_takeFreeCabin 41 = .ok (.if_icmp .lt 11, 3) := by decide +kernel
theorem dX5_takeFreeCabin_44 : decode cX5_takeFreeCabin 44 = .ok (.aload 4, 2) := by decide +kernel
theorem dX5_takeFreeCabin_46 : decode cX5_takeFreeCabin 46 = .ok (.iconst 1, 1) := by decide +kernel
theorem dX5_takeFreeCabin_47 : decode cX5_takeFreeCabin 47 = .ok (.putfield 212, 3) := by decide +kernel
theorem dX5_takeFreeCabin_50 : decode cX5_takeFreeCabin 50 = .ok (.iload_n 3, 1) := by decide +kernel
theorem dX5_takeFreeCabin_51 : decode cX5_takeFreeCabin 51 = .ok (.ireturn, 1) := by decide +kernel
theorem dX5_takeFreeCabin_52 : decode cX5_takeFreeCabin 52 = .ok (.iinc 3 1, 3) := by decide +kernel
theorem dX5_takeFreeCabin_55 : decode cX5_takeFreeCabin 55 = .ok (.goto (-53), 3) := by decide +kernel
theorem dX5_takeFreeCabin_58 : decode cX5_takeFreeCabin 58 = .ok (.iconst (-1), 1) := by decide +kernel
theorem dX5_takeFreeCabin_59 : decode cX5_takeFreeCabin 59 = .ok (.ireturn, 1) := by decide +kernel
set_option maxRecDepth 20000 in
theorem ggX5_freeCabin_X5_within : GoodIn wsX5_freeCabin wsX5_within := goodIn_r _ [6] (by decide +kernel) (by decide +kernel)
set_option maxRecDepth 20000 in
theorem gX5_freeCabin_X5_within : GoodIn wsX5_freeCabin (va_wsS RX5 47 yX5_within wsX5_within) := goodIn_app (goodIn_of _ (by decide +kernel)) ggX5_freeCabin_X5_within
theorem dX5_freeCabin_0 : decode cX5_freeCabin 0 = .ok (.aload_n 1, 1) := by decide +kernel
theorem dX5_freeCabin_1 : decode cX5_freeCabin 1 = .ok (.getfield 208, 3) := by decide +kernel
theorem dX5_freeCabin_4 : decode cX5_freeCabin 4 = .ok (.iconst 0, 1) := by decide +kernel
theorem dX5_freeCabin_5 : decode cX5_freeCabin 5 = .ok (.aload_n 0, 1) := by decide +kernel
theorem dX5_freeCabin_6 : decode cX5_freeCabin 6 = .ok (.getfield 58, 3) := by decide +kernel
theorem dX5_freeCabin_9 : decode cX5_freeCabin 9 = .ok (.iconst 1, 1) := by decide +kernel
theorem dX5_freeCabin_10 : decode cX5_freeCabin 10 = .ok (.isub, 1) := by decide +kernel
theorem dX5_freeCabin_11 : decode cX5_freeCabin 11 = .ok (.invokestatic 47, 3) := by decide +kernel
theorem dX5_freeCabin_14 : decode cX5_freeCabin 14 = .ok (.ifCond .eq 16, 3) := by decide +kernel
theorem dX5_freeCabin_17 : decode cX5_freeCabin 17 = .ok (.aload_n 0, 1) := by decide +kernel
theorem dX5_freeCabin_18 : decode cX5_freeCabin 18 = .ok (.getfield 17, 3) := by decide +kernel
theorem dX5_freeCabin_21 : decode cX5_freeCabin 21 = .ok (.aload_n 1, 1) := by decide +kernel
theorem dX5_freeCabin_22 : decode cX5_freeCabin 22 = .ok (.getfield 208, 3) := by decide +kernel
theorem dX5_freeCabin_25 : decode cX5_freeCabin 25 = .ok (.aaload, 1) := by decide +kernel
theorem dX5_freeCabin_26 : decode cX5_freeCabin 26 = .ok (.iconst 0, 1) := by decide +kernel
theorem dX5_freeCabin_27 : decode cX5_freeCabin 27 = .ok (.putfield 212, 3) := by decide +kernel
theorem dX5_freeCabin_30 : decode cX5_freeCabin 30 = .ok (.return_, 1) := by decide +kernel
set_option maxRecDepth 20000 in
theorem ggX5_bringOff_X3_clearPlace : GoodIn wsX5_bringOff wsX3_clearPlace := goodIn_r _ [4, 5, 6, 7, 8, 2, 9, 10, 11, 12, 13, 14, 15, 16, 17, 18, 19, 20, 21, 22, 23, 24, 35, 36, 37, 38, 39, 40, 41, 42, 43, 44, 45, 46, 47, 48, 49, 50, 60, 61, 62, 63, 64, 65, 66, 67] (by decide +kernel) (by decide +kernel)
set_option maxRecDepth 20000 in
theorem gX5_bringOff_X3_clearPlace_n218 : GoodIn wsX5_bringOff (wsX3_clearPlace) := ggX5_bringOff_X3_clearPlace
set_option maxRecDepth 20000 in
theorem ggX5_bringOff_X5_freeCabin : GoodIn wsX5_bringOff wsX5_freeCabin := goodIn_r _ [29, 30, 31, 32, 33, 28, 34, 35, 36, 37, 38, 39, 40, 41, 42, 43, 44, 45, 46, 47, 48, 49, 50, 68, 69, 70, 71, 72, 73, 74, 75, 76, 77, 78, 79, 80, 81, 82] (by decide +kernel) (by decide +kernel)
set_option maxRecDepth 20000 in
theorem gX5_bringOff_X5_freeCabin : GoodIn wsX5_bringOff (wsV RX5 222 RX5 yX5_freeCabin wsX5_freeCabin) := goodIn_app (goodIn_of _ (by decide +kernel)) ggX5_bringOff_X5_freeCabin
theorem dX5_bringOff_0 : decode cX5_bringOff 0 = .ok (.aload_n 1, 1) := by decide +kernel
theorem dX5_bringOff_1 : decode cX5_bringOff 1 = .ok (.getfield 122, 3) := by decide +kernel
theorem dX5_bringOff_4 : decode cX5_bringOff 4 = .ok (.getfield 76, 3) := by decide +kernel
theorem dX5_bringOff_7 : decode cX5_bringOff 7 = .ok (.aload_n 1, 1) := by decide +kernel
theorem dX5_bringOff_8 : decode cX5_bringOff 8 = .ok (.invokevirtual 218, 3) := by decide +kernel
theorem dX5_bringOff_11 : decode cX5_bringOff 11 = .ok (.aload_n 0, 1) := by decide +kernel
theorem dX5_bringOff_12 : decode cX5_bringOff 12 = .ok (.aload_n 1, 1) := by decide +kernel
theorem dX5_bringOff_13 : decode cX5_bringOff 13 = .ok (.invokevirtual 222, 3) := by decide +kernel
theorem dX5_bringOff_16 : decode cX5_bringOff 16 = .ok (.aload_n 1, 1) := by decide +kernel
theorem dX5_bringOff_17 : decode cX5_bringOff 17 = .ok (.iconst (-1), 1) := by decide +kernel
theorem dX5_bringOff_18 : decode cX5_bringOff 18 = .ok (.putfield 208, 3) := by decide +kernel
theorem dX5_bringOff_21 : decode cX5_bringOff 21 = .ok (.aload_n 1, 1) := by decide +kernel
theorem dX5_bringOff_22 : decode cX5_bringOff 22 = .ok (.iconst 2, 1) := by decide +kernel
theorem dX5_bringOff_23 : decode cX5_bringOff 23 = .ok (.putfield 120, 3) := by decide +kernel
theorem dX5_bringOff_26 : decode cX5_bringOff 26 = .ok (.return_, 1) := by decide +kernel
set_option maxRecDepth 20000 in
theorem ggX5_recall_X5_sailingNumbered : GoodIn wsX5_recall wsX5_sailingNumbered := goodIn_r _ [5, 6, 7, 8, 9, 4, 10, 38, 39, 40, 41, 42, 43, 44, 45, 46, 47, 48, 49] (by decide +kernel) (by decide +kernel)
set_option maxRecDepth 20000 in
theorem gX5_recall_X5_sailingNumbered : GoodIn wsX5_recall (wsV RX5 92 RX5 yX5_sailingNumbered wsX5_sailingNumbered) := goodIn_app (goodIn_of _ (by decide +kernel)) ggX5_recall_X5_sailingNumbered
set_option maxRecDepth 20000 in
theorem ggX5_recall_X5_within : GoodIn wsX5_recall wsX5_within := goodIn_r _ [10] (by decide +kernel) (by decide +kernel)
set_option maxRecDepth 20000 in
theorem gX5_recall_X5_within : GoodIn wsX5_recall (va_wsS RX5 47 yX5_within wsX5_within) := goodIn_app (goodIn_of _ (by decide +kernel)) ggX5_recall_X5_within
set_option maxRecDepth 20000 in
theorem ggX5_recall_X5_bringRecallOn : GoodIn wsX5_recall wsX5_bringRecallOn := goodIn_r _ [14, 15, 16, 17, 4, 18, 19, 20, 21, 22, 23, 24, 25, 26, 27, 28, 29, 30, 31, 32, 33, 34, 35, 36, 37, 38, 39, 40, 41, 42, 43, 44, 45, 46, 47, 48, 49, 50, 51, 52, 53, 54, 55, 56, 57, 58, 59, 60, 61, 62, 63, 64, 65] (by decide +kernel) (by decide +kernel)
set_option maxRecDepth 20000 in
theorem gX5_recall_X5_bringRecallOn : GoodIn wsX5_recall (wsV RX5 148 RX5 yX5_bringRecallOn wsX5_bringRecallOn) := goodIn_app (goodIn_of _ (by decide +kernel)) ggX5_recall_X5_bringRecallOn
theorem dX5_recall_0 : decode cX5_recall 0 = .ok (.aload_n 0, 1) := by decide +kernel
theorem dX5_recall_1 : decode cX5_recall 1 = .ok (.iload_n 1, 1) := by decide +kernel
theorem dX5_recall_2 : decode cX5_recall 2 = .ok (.invokevirtual 92, 3) := by decide +kernel
theorem dX5_recall_5 : decode cX5_recall 5 = .ok (.astore_n 3, 1) := by decide +kernel
theorem dX5_recall_6 : decode cX5_recall 6 = .ok (.aload_n 3, 1) := by decide +kernel
theorem dX5_recall_7 : decode cX5_recall 7 = .ok (.ifnull 30, 3) := by decide +kernel
theorem dX5_recall_10 : decode cX5_recall 10 = .ok (.aload_n 3, 1) := by decide +kernel
theorem dX5_recall_11 : decode cX5_recall 11 = .ok (.getfield 80, 3) := by decide +kernel
theorem dX5_recall_14 : decode cX5_recall 14 = .ok (.iconst 1, 1) := by decide +kernel
theorem dX5_recall_15 : decode cX5_recall 15 = .ok (.if_icmp .ne 22, 3) := by decide +kernel
theorem dX5_recall_18 : decode cX5_recall 18 = .ok (.aload_n 3, 1) := by decide +kernel
theorem dX5_recall_19 : decode cX5_recall 19 = .ok (.getfield 138, 3) := by decide +kernel
theorem dX5_recall_22 : decode cX5_recall 22 = .ok (.iconst (-1), 1) := by decide +kernel
theorem dX5_recall_23 : decode cX5_recall 23 = .ok (.if_icmp .ne 14, 3) := by decide +kernel
theorem dX5_recall_26 : decode cX5_recall 26 = .ok (.iload_n 2, 1) := by decide +kernel
theorem dX5_recall_27 : decode cX5_recall 27 = .ok (.iconst 0, 1) := by decide +kernel
theorem dX5_recall_28 : decode cX5_recall 28 = .ok (.sipush 1000, 3) := by decide +kernel
theorem dX5_recall_31 : decode cX5_recall 31 = .ok (.invokestatic 47, 3) := by decide +kernel
theorem dX5_recall_34 : decode cX5_recall 34 = .ok (.ifCond .ne 5, 3) := by decide +kernel
theorem dX5_recall_37 : decode cX5_recall 37 = .ok (.iconst 0, 1) := by decide +kernel
theorem dX5_recall_38 : decode cX5_recall 38 = .ok (.ireturn, 1) := by decide +kernel
theorem dX5_recall_39 : decode cX5_recall 39 = .ok (.aload_n 3, 1) := by decide +kernel
theorem dX5_recall_40 : decode cX5_recall 40 = .ok (.iload_n 2, 1) := by decide +kernel
theorem dX5_recall_41 : decode cX5_recall 41 = .ok (.putfield 138, 3) := by decide +kernel
theorem dX5_recall_44 : decode cX5_recall 44 = .ok (.aload_n 0, 1) := by decide +kernel
theorem dX5_recall_45 : decode cX5_recall 45 = .ok (.aload_n 3, 1) := by decide +kernel
theorem dX5_recall_46 : decode cX5_recall 46 = .ok (.invokevirtual 148, 3) := by decide +kernel
theorem dX5_recall_49 : decode cX5_recall 49 = .ok (.iconst 1, 1) := by decide +kernel
theorem dX5_recall_50 : decode cX5_recall 50 = .ok (.ireturn, 1) := by decide +kernel
set_option maxRecDepth 20000 in
theorem ggX5_bringRecallOn_X5_hasBoardingTurn : GoodIn wsX5_bringRecallOn wsX5_hasBoardingTurn := goodIn_r _ [5, 6, 7, 16, 17, 18, 19, 20, 21, 22, 23, 24, 25, 26, 27, 28, 29, 30, 31, 32, 33, 34, 35, 36, 37, 38, 39, 40, 41, 42, 43, 44, 45, 46, 47, 48, 49, 50, 51, 52] (by decide +kernel) (by decide +kernel)
set_option maxRecDepth 20000 in
theorem gX5_bringRecallOn_X5_hasBoardingTurn : GoodIn wsX5_bringRecallOn (wsV RX5 151 RX5 yX5_hasBoardingTurn wsX5_hasBoardingTurn) := goodIn_app (goodIn_of _ (by decide +kernel)) ggX5_bringRecallOn_X5_hasBoardingTurn
set_option maxRecDepth 20000 in
theorem ggX5_bringRecallOn_X5_latestAboard : GoodIn wsX5_bringRecallOn wsX5_latestAboard := goodIn_r _ [11, 6, 7, 25, 26, 27, 28, 29, 30, 31, 32, 33, 34, 35, 36, 37, 38, 39, 40, 41, 42, 43, 44, 45, 46, 47, 48, 49, 50, 51, 52] (by decide +kernel) (by decide +kernel)
set_option maxRecDepth 20000 in
theorem gX5_bringRecallOn_X5_latestAboard : GoodIn wsX5_bringRecallOn (wsV RX5 225 RX5 yX5_latestAboard wsX5_latestAboard) := goodIn_app (goodIn_of _ (by decide +kernel)) ggX5_bringRecallOn_X5_latestAboard
set_option maxRecDepth 20000 in
theorem ggX5_bringRecallOn_X5_firstToMoveOn : GoodIn wsX5_bringRecallOn wsX5_firstToMoveOn := goodIn_r _ [15, 6, 7, 25, 26, 27, 28, 29, 30, 31, 32, 33, 34, 35, 36, 37, 38, 39, 40, 41, 42, 43, 44, 45, 46, 47, 48, 49, 50, 51, 52] (by decide +kernel) (by decide +kernel)
set_option maxRecDepth 20000 in
theorem gX5_bringRecallOn_X5_firstToMoveOn : GoodIn wsX5_bringRecallOn (wsV RX5 228 RX5 yX5_firstToMoveOn wsX5_firstToMoveOn) := goodIn_app (goodIn_of _ (by decide +kernel)) ggX5_bringRecallOn_X5_firstToMoveOn
theorem dX5_bringRecallOn_0 : decode cX5_bringRecallOn 0 = .ok (.aload_n 1, 1) := by decide +kernel
theorem dX5_bringRecallOn_1 : decode cX5_bringRecallOn 1 = .ok (.getfield 138, 3) := by decide +kernel
theorem dX5_bringRecallOn_4 : decode cX5_bringRecallOn 4 = .ok (.ifCond .le 16, 3) := by decide +kernel
theorem dX5_bringRecallOn_7 : decode cX5_bringRecallOn 7 = .ok (.aload_n 0, 1) := by decide +kernel
theorem dX5_bringRecallOn_8 : decode cX5_bringRecallOn 8 = .ok (.aload_n 1, 1) := by decide +kernel
theorem dX5_bringRecallOn_9 : decode cX5_bringRecallOn 9 = .ok (.invokevirtual 151, 3) := by decide +kernel
theorem dX5_bringRecallOn_12 : decode cX5_bringRecallOn 12 = .ok (.ifCond .ne 8, 3) := by decide +kernel
theorem dX5_bringRecallOn_15 : decode cX5_bringRecallOn 15 = .ok (.aload_n 1, 1) := by decide +kernel
theorem dX5_bringRecallOn_16 : decode cX5_bringRecallOn 16 = .ok (.iconst 0, 1) := by decide +kernel
theorem dX5_bringRecallOn_17 : decode cX5_bringRecallOn 17 = .ok (.putfield 138, 3) := by decide +kernel
theorem dX5_bringRecallOn_20 : decode cX5_bringRecallOn 20 = .ok (.aload_n 1, 1) := by decide +kernel
theorem dX5_bringRecallOn_21 : decode cX5_bringRecallOn 21 = .ok (.getfield 138, 3) := by decide +kernel
theorem dX5_bringRecallOn_24 : decode cX5_bringRecallOn 24 = .ok (.ifCond .eq 4, 3) := by decide +kernel
theorem dX5_bringRecallOn_27 : decode cX5_bringRecallOn 27 = .ok (.return_, 1) := by decide +kernel
theorem dX5_bringRecallOn_28 : decode cX5_bringRecallOn 28 = .ok (.aload_n 1, 1) := by decide +kernel
theorem dX5_bringRecallOn_29 : decode cX5_bringRecallOn 29 = .ok (.aconst_null, 1) := by decide +kernel
theorem dX5_bringRecallOn_30 : decode cX5_bringRecallOn 30 = .ok (.putfield 155, 3) := by decide +kernel
theorem dX5_bringRecallOn_33 : decode cX5_bringRecallOn 33 = .ok (.aload_n 0, 1) := by decide +kernel
theorem dX5_bringRecallOn_34 : decode cX5_bringRecallOn 34 = .ok (.aload_n 1, 1) := by decide +kernel
theorem dX5_bringRecallOn_35 : decode cX5_bringRecallOn 35 = .ok (.invokevirtual 225, 3) := by decide +kernel
theorem dX5_bringRecallOn_38 : decode cX5_bringRecallOn 38 = .ok (.ifnonnull 16, 3) := by decide +kernel
theorem dX5_bringRecallOn_41 : decode cX5_bringRecallOn 41 = .ok (.aload_n 0, 1) := by decide +kernel
theorem dX5_bringRecallOn_42 : decode cX5_bringRecallOn 42 = .ok (.aload_n 1, 1) := by decide +kernel
theorem dX5_bringRecallOn_43 : decode cX5_bringRecallOn 43 = .ok (.invokevirtual 228, 3) := by decide +kernel
theorem dX5_bringRecallOn_46 : decode cX5_bringRecallOn 46 = .ok (.ifnonnull 8, 3) := by decide +kernel
theorem dX5_bringRecallOn_49 : decode cX5_bringRecallOn 49 = .ok (.aload_n 1, 1) := by decide +kernel
theorem dX5_bringRecallOn_50 : decode cX5_bringRecallOn 50 = .ok (.iconst 3, 1) := by decide +kernel
theorem dX5_bringRecallOn_51 : decode cX5_bringRecallOn 51 = .ok (.putfield 80, 3) := by decide +kernel
theorem dX5_bringRecallOn_54 : decode cX5_bringRecallOn 54 = .ok (.return_, 1) := by decide +kernel
set_option maxRecDepth 20000 in
theorem ggX5_doRecallTurn_X5_latestAboard : GoodIn wsX5_doRecallTurn wsX5_latestAboard := goodIn_r _ [5, 6, 7, 89, 90, 91, 92, 93, 94, 95, 96, 97, 98, 99, 100, 73, 74, 75, 76, 77, 78, 79, 80, 81, 82, 83, 84, 85, 86, 87, 88] (by decide +kernel) (by decide +kernel)
set_option maxRecDepth 20000 in
theorem gX5_doRecallTurn_X5_latestAboard : GoodIn wsX5_doRecallTurn (wsV RX5 225 RX5 yX5_latestAboard wsX5_latestAboard) := goodIn_app (goodIn_of _ (by decide +kernel)) ggX5_doRecallTurn_X5_latestAboard
set_option maxRecDepth 20000 in
theorem ggX5_doRecallTurn_X5_bringOff : GoodIn wsX5_doRecallTurn wsX5_bringOff := goodIn_r _ [11, 12, 13, 14, 15, 16, 17, 18, 19, 20, 21, 22, 23, 24, 25, 26, 27, 28, 29, 30, 31, 32, 33, 34, 35, 36, 37, 38, 4, 39, 40, 41, 42, 43, 44, 73, 74, 75, 76, 77, 78, 79, 80, 81, 82, 83, 84, 85, 86, 87, 88, 101, 102, 103, 104, 105, 106, 107, 108, 109, 110, 111, 112, 113, 114, 115, 116, 117, 89, 90, 91, 92, 93, 94, 95, 96, 97, 98, 99, 100, 118, 119, 120] (by decide +kernel) (by decide +kernel)
set_option maxRecDepth 20000 in
theorem gX5_doRecallTurn_X5_bringOff : GoodIn wsX5_doRecallTurn (wsV RX5 231 RX5 yX5_bringOff wsX5_bringOff) := goodIn_app (goodIn_of _ (by decide +kernel)) ggX5_doRecallTurn_X5_bringOff
set_option maxRecDepth 20000 in
theorem ggX5_doRecallTurn_X5_writeLog : GoodIn wsX5_doRecallTurn wsX5_writeLog := goodIn_r _ [48, 49, 50, 51, 52, 89, 90, 91, 92, 93, 94, 95, 96, 97, 98, 99, 100, 73, 74, 75, 76, 77, 78, 79, 80, 81, 82, 83, 84, 85, 86, 87, 88, 101, 102, 103, 104, 105, 106, 107, 108, 109] (by decide +kernel) (by decide +kernel)
set_option maxRecDepth 20000 in
theorem gX5_doRecallTurn_X5_writeLog : GoodIn wsX5_doRecallTurn (wsV RX5 173 RX5 yX5_writeLog wsX5_writeLog) := goodIn_app (goodIn_of _ (by decide +kernel)) ggX5_doRecallTurn_X5_writeLog
set_option maxRecDepth 20000 in
theorem ggX5_doRecallTurn_X5_firstToMoveOn : GoodIn wsX5_doRecallTurn wsX5_firstToMoveOn := goodIn_r _ [56, 6, 7, 89, 90, 91, 92, 93, 94, 95, 96, 97, 98, 99, 100, 73, 74, 75, 76, 77, 78, 79, 80, 81, 82, 83, 84, 85, 86, 87, 88] (by decide +kernel) (by decide +kernel)
set_option maxRecDepth 20000 in
theorem gX5_doRecallTurn_X5_firstToMoveOn : GoodIn wsX5_doRecallTurn (wsV RX5 228 RX5 yX5_firstToMoveOn wsX5_firstToMoveOn) := goodIn_app (goodIn_of _ (by decide +kernel)) ggX5_doRecallTurn_X5_firstToMoveOn
set_option maxRecDepth 20000 in
theorem ggX5_doRecallTurn_X5_nextOfLine : GoodIn wsX5_doRecallTurn wsX5_nextOfLine := goodIn_r _ [60, 61, 62, 63, 64, 65, 66, 67, 68, 69, 70, 71, 72, 89, 90, 91, 92, 93, 94, 95, 96, 97, 98, 99, 100, 101, 102, 103, 104, 105, 106, 107, 108, 109, 110, 111, 112, 113, 114, 115, 116, 117] (by decide +kernel) (by decide +kernel)
set_option maxRecDepth 20000 in
theorem gX5_doRecallTurn_X5_nextOfLine : GoodIn wsX5_doRecallTurn (wsV RX5 235 RX5 yX5_nextOfLine wsX5_nextOfLine) := goodIn_app (goodIn_of _ (by decide +kernel)) ggX5_doRecallTurn_X5_nextOfLine
theorem dX5_doRecallTurn_0 : decode cX5_doRecallTurn 0 = .ok (.aload_n 0, 1) := by decide +kernel
theorem dX5_doRecallTurn_1 : decode cX5_doRecallTurn 1 = .ok (.aload_n 1, 1) := by decide +kernel
theorem dX5_doRecallTurn_2 : decode cX5_doRecallTurn 2 = .ok (.invokevirtual 225, 3) := by decide +kernel
theorem dX5_doRecallTurn_5 : decode cX5_doRecallTurn 5 = .ok (.astore_n 2, 1) := by decide +kernel
theorem dX5_doRecallTurn_6 : decode cX5_doRecallTurn 6 = .ok (.aload_n 2, 1) := by decide +kernel
theorem dX5_doRecallTurn_7 : decode cX5_doRecallTurn 7 = .ok (.ifnull 17, 3) := by decide +kernel
theorem dX5_doRecallTurn_10 : decode cX5_doRecallTurn 10 = .ok (.aload_n 0, 1) := by decide +kernel
theorem dX5_doRecallTurn_11 : decode cX5_doRecallTurn 11 = .ok (.aload_n 2, 1) := by decide +kernel
theorem dX5_doRecallTurn_12 : decode cX5_doRecallTurn 12 = .ok (.invokevirtual 231, 3) := by decide +kernel
theorem dX5_doRecallTurn_15 : decode cX5_doRecallTurn 15 = .ok (.aload_n 0, 1) := by decide +kernel
theorem dX5_doRecallTurn_16 : decode cX5_doRecallTurn 16 = .ok (.bipush 6, 2) := by decide +kernel
theorem dX5_doRecallTurn_18 : decode cX5_doRecallTurn 18 = .ok (.aload_n 2, 1) := by decide +kernel
theorem dX5_doRecallTurn_19 : decode cX5_doRecallTurn 19 = .ok (.aload_n 1, 1) := by decide +kernel
theorem dX5_doRecallTurn_20 : decode cX5_doRecallTurn 20 = .ok (.invokevirtual 173, 3) := by decide +kernel
theorem dX5_doRecallTurn_23 : decode cX5_doRecallTurn 23 = .ok (.return_, 1) := by decide +kernel
theorem dX5_doRecallTurn_24 : decode cX5_doRecallTurn 24 = .ok (.aload_n 0, 1) := by decide +kernel
theorem dX5_doRecallTurn_25 : decode cX5_doRecallTurn 25 = .ok (.aload_n 1, 1) := by decide +kernel
theorem dX5_doRecallTurn_26 : decode cX5_doRecallTurn 26 = .ok (.invokevirtual 228, 3) := by decide +kernel
theorem dX5_doRecallTurn_29 : decode cX5_doRecallTurn 29 = .ok (.astore_n 3, 1) := by decide +kernel
theorem dX5_doRecallTurn_30 : decode cX5_doRecallTurn 30 = .ok (.aload_n 3, 1) := by decide +kernel
theorem dX5_doRecallTurn_31 : decode cX5_doRecallTurn 31 = .ok (.ifnonnull 4, 3) := by decide +kernel
theorem dX5_doRecallTurn_34 : decode cX5_doRecallTurn 34 = .ok (.return_, 1) := by decide +kernel
theorem dX5_doRecallTurn_35 : decode cX5_doRecallTurn 35 = .ok (.aload_n 0, 1) := by decide +kernel
theorem dX5_doRecallTurn_36 : decode cX5_doRecallTurn 36 = .ok (.aload_n 1, 1) := by decide +kernel
theorem dX5_doRecallTurn_37 : decode cX5_doRecallTurn 37 = .ok (.aload_n 3, 1) := by decide +kernel
theorem dX5_doRecallTurn_38 : decode cX5_doRecallTurn 38 = .ok (.getfield 234, 3) := by decide +kernel
theorem dX5_doRecallTurn_41 : decode cX5_doRecallTurn 41 = .ok (.invokevirtual 235, 3) := by decide +kernel
theorem dX5_doRecallTurn_44 : decode cX5_doRecallTurn 44 = .ok (.astore 4, 2) := by decide +kernel
theorem dX5_doRecallTurn_46 : decode cX5_doRecallTurn 46 = .ok (.aload 4, 2) := by decide +kernel
theorem dX5_doRecallTurn_48 : decode cX5_doRecallTurn 48 = .ok (.ifnonnull 27, 3) := by decide +kernel
theorem dX5_doRecallTurn_51 : decode cX5_doRecallTurn 51 = .ok (.aload_n 3, 1) := by decide +kernel
theorem dX5_doRecallTurn_52 : decode cX5_doRecallTurn 52 = .ok (.iconst 5, 1) := by decide +kernel
theorem dX5_doRecallTurn_53 : decode cX5_doRecallTurn 53 = .ok (.putfield 120, 3) := by decide +kernel
theorem dX5_doRecallTurn_56 : decode cX5_doRecallTurn 56 = .ok (.aload_n 3, 1) := by decide +kernel
theorem dX5_doRecallTurn_57 : decode cX5_doRecallTurn 57 = .ok (.aload_n 3, 1) := by decide +kernel
theorem dX5_doRecallTurn_58 : decode cX5_doRecallTurn 58 = .ok (.getfield 239, 3) := by decide +kernel
theorem dX5_doRecallTurn_61 : decode cX5_doRecallTurn 61 = .ok (.putfield 242, 3) := by decide +kernel
theorem dX5_doRecallTurn_64 : decode cX5_doRecallTurn 64 = .ok (.aload_n 0, 1) := by decide +kernel
theorem dX5_doRecallTurn_65 : decode cX5_doRecallTurn 65 = .ok (.bipush 8, 2) := by decide +kernel
theorem dX5_doRecallTurn_67 : decode cX5_doRecallTurn 67 = .ok (.aload_n 3, 1) := by decide +kernel
theorem dX5_doRecallTurn_68 : decode cX5_doRecallTurn 68 = .ok (.aload_n 1, 1) := by decide +kernel
theorem dX5_doRecallTurn_69 : decode cX5_doRecallTurn 69 = .ok (.invokevirtual 173, 3) := by decide +kernel
theorem dX5_doRecallTurn_72 : decode cX5_doRecallTurn 72 = .ok (.goto 43, 3) := by decide +kernel
theorem dX5_doRecallTurn_75 : decode cX5_doRecallTurn 75 = .ok (.aload_n 3, 1) := by decide +kernel
theorem dX5_doRecallTurn_76 : decode cX5_doRecallTurn 76 = .ok (.aload 4, 2) := by decide +kernel
theorem dX5_doRecallTurn_78 : decode cX5_doRecallTurn 78 = .ok (.putfield 122, 3) := by decide +kernel
theorem dX5_doRecallTurn_81 : decode cX5_doRecallTurn 81 = .ok (.aload_n 3, 1) := by decide +kernel
theorem dX5_doRecallTurn_82 : decode cX5_doRecallTurn 82 = .ok (.aload_n 3, 1) := by decide +kernel
theorem dX5_doRecallTurn_83 : decode cX5_doRecallTurn 83 = .ok (.getfield 120, 3) := by decide +kernel
theorem dX5_doRecallTurn_86 : decode cX5_doRecallTurn 86 = .ok (.ifCond .ne 7, 3) := by decide +kernel
theorem dX5_doRecallTurn_89 : decode cX5_doRecallTurn 89 = .ok (.iconst 0, 1) := by decide +kernel
theorem dX5_doRecallTurn_90 : decode cX5_doRecallTurn 90 = .ok (.goto 4, 3) := by decide +kernel
theorem dX5_doRecallTurn_93 : decode cX5_doRecallTurn 93 = .ok (.iconst 1, 1) := by decide +kernel
theorem dX5_doRecallTurn_94 : decode cX5_doRecallTurn 94 = .ok (.putfield 120, 3) := by decide +kernel
theorem dX5_doRecallTurn_97 : decode cX5_doRecallTurn 97 = .ok (.aload_n 3, 1) := by decide +kernel
theorem dX5_doRecallTurn_98 : decode cX5_doRecallTurn 98 = .ok (.dup, 1) := by decide +kernel
theorem dX5_doRecallTurn_99 : decode cX5_doRecallTurn 99 = .ok (.getfield 245, 3) := by decide +kernel
theorem dX5_doRecallTurn_102 : decode cX5_doRecallTurn 102 = .ok (.iconst 1, 1) := by decide +kernel
theorem dX5_doRecallTurn_103 : decode cX5_doRecallTurn 103 = .ok (.iadd, 1) := by decide +kernel
theorem dX5_doRecallTurn_104 : decode cX5_doRecallTurn 104 = .ok (.putfield 245, 3) := by decide +kernel
theorem dX5_doRecallTurn_107 : decode cX5_doRecallTurn 107 = .ok (.aload_n 0, 1) := by decide +kernel
theorem dX5_doRecallTurn_108 : decode cX5_doRecallTurn 108 = .ok (.bipush 7, 2) := by decide +kernel
theorem dX5_doRecallTurn_110 : decode cX5_doRecallTurn 110 = .ok (.aload_n 3, 1) := by decide +kernel
theorem dX5_doRecallTurn_111 : decode cX5_doRecallTurn 111 = .ok (.aload_n 1, 1) := by decide +kernel
theorem dX5_doRecallTurn_112 : decode cX5_doRecallTurn 112 = .ok (.invokevirtual 173, 3) := by decide +kernel
theorem dX5_doRecallTurn_115 : decode cX5_doRecallTurn 115 = .ok (.return_, 1) := by decide +kernel
theorem dX5_latestAboard_0 : decode cX5_latestAboard 0 = .ok (.aconst_null, 1) := by decide +kernel
theorem dX5_latestAboard_1 : decode cX5_latestAboard 1 = .ok (.astore_n 2, 1) := by decide +kernel
theorem dX5_latestAboard_2 : decode cX5_latestAboard 2 = .ok (.iconst 0, 1) := by decide +kernel
theorem dX5_latestAboard_3 : decode cX5_latestAboard 3 = .ok (.istore_n 3, 1) := by decide +kernel
theorem dX5_latestAboard_4 : decode cX5_latestAboard 4 = .ok (.iload_n 3, 1) := by decide +kernel
theorem dX5_latestAboard_5 : decode cX5_latestAboard 5 = .ok (.aload_n 0, 1) := by decide +kernel
theorem dX5_latestAboard_6 : decode cX5_latestAboard 6 = .ok (.getfield 100, 3) := by decide +kernel
theorem dX5_latestAboard_9 : decode cX5_latestAboard 9 = .ok (.if_icmp .ge 54, 3) := by decide +kernel
theorem dX5_latestAboard_12 : decode cX5_latestAboard 12 = .ok (.aload_n 0, 1) := by decide +kernel
theorem dX5_latestAboard_13 : decode cX5_latestAboard 13 = .ok (.getfield 29, 3) := by decide +kernel
theorem dX5_latestAboard_16 : decode cX5_latestAboard 16 = .ok (.iload_n 3, 1) := by decide +kernel
theorem dX5_latestAboard_17 : decode cX5_latestAboard 17 = .ok (.aaload, 1) := by decide +kernel
theorem dX5_latestAboard_18 : decode cX5_latestAboard 18 = .ok (.astore 4, 2) := by decide +kernel
theorem dX5_latestAboard_20 : decode cX5_latestAboard 20 = .ok (.aload 4, 2) := by decide +kernel
theorem dX5_latestAboard_22 : decode cX5_latestAboard 22 = .ok (.getfield 122, 3) := by decide +kernel
theorem dX5_latestAboard_25 : decode cX5_latestAboard 25 = .ok (.aload_n 1, 1) := by decide +kernel
theorem dX5_latestAboard_26 : decode cX5_latestAboard 26 = .ok (.if_acmp .ne 31, 3) := by decide +kernel
theorem dX5_latestAboard_29 : decode cX5_latestAboard 29 = .ok (.aload 4, 2) := by decide +kernel
theorem dX5_latestAboard_31 : decode cX5_latestAboard 31 = .ok (.getfield 120, 3) := by decide +kernel
theorem dX5_latestAboard_34 : decode cX5_latestAboard 34 = .ok (.iconst 3, 1) := by decide +kernel
theorem dX5_latestAboard_35 : decode cX5_latestAboard 35 = .ok (.if_icmp .ne 22, 3) := by decide +kernel
theorem dX5_latestAboard_38 : decode cX5_latestAboard 38 = .ok (.aload_n 2, 1) := by decide +kernel
theorem dX5_latestAboard_39 : decode cX5_latestAboard 39 = .ok (.ifnull 15, 3) := by decide +kernel
theorem dX5_latestAboard_42 : decode cX5_latestAboard 42 = .ok (.aload 4, 2) := by decide +kernel
theorem dX5_latestAboard_44 : decode cX5_latestAboard 44 = .ok (.getfield 194, 3) := by decide +kernel
theorem dX5_latestAboard_47 : decode cX5_latestAboard 47 = .ok (.aload_n 2, 1) := by decide +kernel
theorem dX5_latestAboard_48 : decode cX5_latestAboard 48 = .ok (.getfield 194, 3) := by decide +kernel
theorem dX5_latestAboard_51 : decode cX5_latestAboard 51 = .ok (.if_icmp .le 6, 3) := by decide +kernel
theorem dX5_latestAboard_54 : decode cX5_latestAboard 54 = .ok (.aload 4, 2) := by decide +kernel
theorem dX5_latestAboard_56 : decode cX5_latestAboard 56 = .ok (.astore_n 2, 1) := by decide +kernel
theorem dX5_latestAboard_57 : decode cX5_latestAboard 57 = .ok (.iinc 3 1, 3) := by decide +kernel
theorem dX5_latestAboard_60 : decode cX5_latestAboard 60 = .ok (.goto (-56), 3) := by decide +kernel
theorem dX5_latestAboard_63 : decode cX5_latestAboard 63 = .ok (.aload_n 2, 1) := by decide +kernel
theorem dX5_latestAboard_64 : decode cX5_latestAboard 64 = .ok (.areturn, 1) := by decide +kernel
theorem dX5_firstToMoveOn_0 : decode cX5_firstToMoveOn 0 = .ok (.iconst 0, 1) := by decide +kernel
theorem dX5_firstToMoveOn_1 : decode cX5_firstToMoveOn 1 = .ok (.istore_n 2, 1) := by decide +kernel
theorem dX5_firstToMoveOn_2 : decode cX5_firstToMoveOn 2 = .ok (.iload_n 2, 1) := by decide +kernel
theorem dX5_firstToMoveOn_3 : decode cX5_firstToMoveOn 3 = .ok (.aload_n 0, 1) := by decide +kernel
theorem dX5_firstToMoveOn_4 : decode cX5_firstToMoveOn 4 = .ok (.getfield 100, 3) := by decide +kernel
theorem dX5_firstToMoveOn_7 : decode cX5_firstToMoveOn 7 = .ok (.if_icmp .ge 42, 3) := by decide +kernel
theorem dX5_firstToMoveOn_10 : decode cX5_firstToMoveOn 10 = .ok (.aload_n 0, 1) := by decide +kernel
theorem dX5_firstToMoveOn_11 : decode cX5_firstToMoveOn 11 = .ok (.getfield 29, 3) := by decide +kernel
theorem dX5_firstToMoveOn_14 : decode cX5_firstToMoveOn 14 = .ok (.iload_n 2, 1) := by decide +kernel
theorem dX5_firstToMoveOn_15 : decode cX5_firstToMoveOn 15 = .ok (.aaload, 1) := by decide +kernel
theorem dX5_firstToMoveOn_16 : decode cX5_firstToMoveOn 16 = .ok (.astore_n 3, 1) := by decide +kernel
theorem dX5_firstToMoveOn_17 : decode cX5_firstToMoveOn 17 = .ok (.aload_n 3, 1) := by decide +kernel
theorem dX5_firstToMoveOn_18 : decode cX5_firstToMoveOn 18 = .ok (.getfield 122, 3) := by decide +kernel
theorem dX5_firstToMoveOn_21 : decode cX5_firstToMoveOn 21 = .ok (.aload_n 1, 1) := by decide +kernel
theorem dX5_firstToMoveOn_22 : decode cX5_firstToMoveOn 22 = .ok (.if_acmp .ne 21, 3) := by decide +kernel
theorem dX5_firstToMoveOn_25 : decode cX5_firstToMoveOn 25 = .ok (.aload_n 3, 1) := by decide +kernel
theorem dX5_firstToMoveOn_26 : decode cX5_firstToMoveOn 26 = .ok (.getfield 120, 3) := by decide +kernel
theorem dX5_firstToMoveOn_29 : decode cX5_firstToMoveOn 29 = .ok (.iconst 4, 1) := by decide +kernel
theorem dX5_firstToMoveOn_30 : decode cX5_firstToMoveOn 30 = .ok (.if_icmp .gt 13, 3) := by decide +kernel
theorem dX5_firstToMoveOn_33 : decode cX5_firstToMoveOn 33 = .ok (.aload_n 3, 1) := by decide +kernel
theorem dX5_firstToMoveOn_34 : decode cX5_firstToMoveOn 34 = .ok (.getfield 120, 3) := by decide +kernel
theorem dX5_firstToMoveOn_37 : decode cX5_firstToMoveOn 37 = .ok (.iconst 3, 1) := by decide +kernel
theorem dX5_firstToMoveOn_38 : decode cX5_firstToMoveOn 38 = .ok (.if_icmp .eq 5, 3) := by decide +kernel
theorem dX5_firstToMoveOn_41 : decode cX5_firstToMoveOn 41 = .ok (.aload_n 3, 1) := by decide +kernel
theorem dX5_firstToMoveOn_42 : decode cX5_firstToMoveOn 42 = .ok (.areturn, 1) := by decide +kernel
theorem dX5_firstToMoveOn_43 : decode cX5_firstToMoveOn 43 = .ok (.iinc 2 1, 3) := by decide +kernel
theorem dX5_firstToMoveOn_46 : decode cX5_firstToMoveOn 46 = .ok (.goto (-44), 3) := by decide +kernel
theorem dX5_firstToMoveOn_49 : decode cX5_firstToMoveOn 49 = .ok (.aconst_null, 1) := by decide +kernel
theorem dX5_firstToMoveOn_50 : decode cX5_firstToMoveOn 50 = .ok (.areturn, 1) := by decide +kernel
set_option maxRecDepth 20000 in
theorem ggX5_nextOfLine_X2_takesTickets : GoodIn wsX5_nextOfLine wsX2_takesTickets := goodIn_r _ [6, 7, 8, 9, 10, 4, 11, 12, 25, 26, 27, 28, 29, 30, 31, 32, 33] (by decide +kernel) (by decide +kernel)
set_option maxRecDepth 20000 in
theorem gX5_nextOfLine_X2_takesTickets_n96 : GoodIn wsX5_nextOfLine (wsX2_takesTickets) := ggX5_nextOfLine_X2_takesTickets
theorem dX5_nextOfLine_0 : decode cX5_nextOfLine 0 = .ok (.aconst_null, 1) := by decide +kernel
theorem dX5_nextOfLine_1 : decode cX5_nextOfLine 1 = .ok (.astore_n 3, 1) := by decide +kernel
theorem dX5_nextOfLine_2 : decode cX5_nextOfLine 2 = .ok (.iconst 0, 1) := by decide +kernel
theorem dX5_nextOfLine_3 : decode cX5_nextOfLine 3 = .ok (.istore 4, 2) := by decide +kernel
theorem dX5_nextOfLine_5 : decode cX5_nextOfLine 5 = .ok (.iload 4, 2) := by decide +kernel
theorem dX5_nextOfLine_7 : decode cX5_nextOfLine 7 = .ok (.aload_n 0, 1) := by decide +kernel
theorem dX5_nextOfLine_8 : decode cX5_nextOfLine 8 = .ok (.getfield 65, 3) := by decide +kernel
theorem dX5_nextOfLine_11 : decode cX5_nextOfLine 11 = .ok (.if_icmp .ge 81, 3) := by decide +kernel
theorem dX5_nextOfLine_14 : decode cX5_nextOfLine 14 = .ok (.aload_n 0, 1) := by decide +kernel
theorem dX5_nextOfLine_15 : decode cX5_nextOfLine 15 = .ok (.getfield 23, 3) := by decide +kernel
theorem dX5_nextOfLine_18 : decode cX5_nextOfLine 18 = .ok (.iload 4, 2) := by decide +kernel
theorem dX5_nextOfLine_20 : decode cX5_nextOfLine 20 = .ok (.aaload, 1) := by decide +kernel
theorem dX5_nextOfLine_21 : decode cX5_nextOfLine 21 = .ok (.astore 5, 2) := by decide +kernel
theorem dX5_nextOfLine_23 : decode cX5_nextOfLine 23 = .ok (.aload 5, 2) := by decide +kernel
theorem dX5_nextOfLine_25 : decode cX5_nextOfLine 25 = .ok (.getfield 106, 3) := by decide +kernel
theorem dX5_nextOfLine_28 : decode cX5_nextOfLine 28 = .ok (.aload_n 1, 1) := by decide +kernel
theorem dX5_nextOfLine_29 : decode cX5_nextOfLine 29 = .ok (.getfield 106, 3) := by decide +kernel
theorem dX5_nextOfLine_32 : decode cX5_nextOfLine 32 = .ok (.if_icmp .ne 54, 3) := by decide +kernel
theorem dX5_nextOfLine_35 : decode cX5_nextOfLine 35 = .ok (.aload 5, 2) := by decide +kernel
theorem dX5_nextOfLine_37 : decode cX5_nextOfLine 37 = .ok (.getfield 83, 3) := by decide +kernel
theorem dX5_nextOfLine_40 : decode cX5_nextOfLine 40 = .ok (.aload_n 1, 1) := by decide +kernel
theorem dX5_nextOfLine_41 : decode cX5_nextOfLine 41 = .ok (.getfield 83, 3) := by decide +kernel
theorem dX5_nextOfLine_44 : decode cX5_nextOfLine 44 = .ok (.if_icmp .le 42, 3) := by decide +kernel
theorem dX5_nextOfLine_47 : decode cX5_nextOfLine 47 = .ok (.aload 5, 2) := by decide +kernel
theorem dX5_nextOfLine_49 : decode cX5_nextOfLine 49 = .ok (.invokevirtual 96, 3) := by decide +kernel
theorem dX5_nextOfLine_52 : decode cX5_nextOfLine 52 = .ok (.ifCond .eq 34, 3) := by decide +kernel
theorem dX5_nextOfLine_55 : decode cX5_nextOfLine 55 = .ok (.aload 5, 2) := by decide +kernel
theorem dX5_nextOfLine_57 : decode cX5_nextOfLine 57 = .ok (.getfield 76, 3) := by decide +kernel
theorem dX5_nextOfLine_60 : decode cX5_nextOfLine 60 = .ok (.getfield 103, 3) := by decide +kernel
theorem dX5_nextOfLine_63 : decode cX5_nextOfLine 63 = .ok (.iload_n 2, 1) := by decide +kernel
theorem dX5_nextOfLine_64 : decode cX5_nextOfLine 64 = .ok (.if_icmp .lt 22, 3) := by decide +kernel
theorem dX5_nextOfLine_67 : decode cX5_nextOfLine 67 = .ok (.aload_n 3, 1) := by decide +kernel
theorem dX5_nextOfLine_68 : decode cX5_nextOfLine 68 = .ok (.ifnull 15, 3) := by decide +kernel
theorem dX5_nextOfLine_71 : decode cX5_nextOfLine 71 = .ok (.aload 5, 2) := by decide +kernel
theorem dX5_nextOfLine_73 : decode cX5_nextOfLine 73 = .ok (.getfield 83, 3) := by decide +kernel
theorem dX5_nextOfLine_76 : decode cX5_nextOfLine 76 = .ok (.aload_n 3, 1) := by decide +kernel
theorem dX5_nextOfLine_77 : decode cX5_nextOfLine 77 = .ok (.getfield 83, 3) := by decide +kernel
theorem dX5_nextOfLine_80 : decode cX5_nextOfLine 80 = .ok (.if_icmp .ge 6, 3) := by decide +kernel
theorem dX5_nextOfLine_83 : decode cX5_nextOfLine 83 = .ok (.aload 5, 2) := by decide +kernel
theorem dX5_nextOfLine_85 : decode cX5_nextOfLine 85 = .ok (.astore_n 3, 1) := by decide +kernel
theorem dX5_nextOfLine_86 : decode cX5_nextOfLine 86 = .ok (.iinc 4 1, 3) := by decide +kernel
theorem dX5_nextOfLine_89 : decode cX5_nextOfLine 89 = .ok (.goto (-84), 3) := by decide +kernel
theorem dX5_nextOfLine_92 : decode cX5_nextOfLine 92 = .ok (.aload_n 3, 1) := by decide +kernel
theorem dX5_nextOfLine_93 : decode cX5_nextOfLine 93 = .ok (.areturn, 1) := by decide +kernel
set_option maxRecDepth 20000 in
theorem ggX5_depart_X5_sailingNumbered : GoodIn wsX5_depart wsX5_sailingNumbered := goodIn_r _ [7, 8, 9, 10, 11, 6, 12, 60, 61, 62, 63, 64, 65, 66, 67, 68, 69, 70, 71] (by decide +kernel) (by decide +kernel)
set_option maxRecDepth 20000 in
theorem gX5_depart_X5_sailingNumbered : GoodIn wsX5_depart (wsV RX5 92 RX5 yX5_sailingNumbered wsX5_sailingNumbered) := goodIn_app (goodIn_of _ (by decide +kernel)) ggX5_depart_X5_sailingNumbered
set_option maxRecDepth 20000 in
theorem ggX5_depart_X5_hasBoardingTurn : GoodIn wsX5_depart wsX5_hasBoardingTurn := goodIn_r _ [16, 1, 2, 51, 52, 53, 54, 55, 56, 57, 58, 59, 60, 61, 62, 63, 64, 65, 66, 67, 68, 69, 70, 71, 72, 73, 74, 75, 76, 77, 78, 79, 80, 81, 82, 83, 84, 85, 86, 87] (by decide +kernel) (by decide +kernel)
set_option maxRecDepth 20000 in
theorem gX5_depart_X5_hasBoardingTurn : GoodIn wsX5_depart (wsV RX5 151 RX5 yX5_hasBoardingTurn wsX5_hasBoardingTurn) := goodIn_app (goodIn_of _ (by decide +kernel)) ggX5_depart_X5_hasBoardingTurn
set_option maxRecDepth 20000 in
theorem ggX5_depart_X5_endTicket : GoodIn wsX5_depart wsX5_endTicket := goodIn_r _ [20, 21, 22, 23, 24, 25, 26, 27, 28, 29, 30, 31, 32, 33, 34, 35, 36, 37, 38, 39, 40, 41, 42, 43, 44, 45, 46, 47, 6, 48, 49, 50, 10, 11, 12, 72, 73, 74, 75, 76, 77, 78, 79, 80, 81, 82, 83, 84, 85, 86, 87, 51, 52, 53, 54, 55, 56, 57, 58, 59, 88, 89, 90, 91, 92, 93, 94, 95, 60, 61, 62, 63, 64, 65, 66, 67, 68, 69, 70, 71, 96, 97, 98] (by decide +kernel) (by decide +kernel)
set_option maxRecDepth 20000 in
theorem gX5_depart_X5_endTicket : GoodIn wsX5_depart (wsV RX5 248 RX5 yX5_endTicket wsX5_endTicket) := goodIn_app (goodIn_of _ (by decide +kernel)) ggX5_depart_X5_endTicket
theorem dX5_depart_0 : decode cX5_depart 0 = .ok (.aload_n 0, 1) := by decide +kernel
theorem dX5_depart_1 : decode cX5_depart 1 = .ok (.iload_n 1, 1) := by decide +kernel
theorem dX5_depart_2 : decode cX5_depart 2 = .ok (.invokevirtual 92, 3) := by decide +kernel
theorem dX5_depart_5 : decode cX5_depart 5 = .ok (.astore_n 2, 1) := by decide +kernel
theorem dX5_depart_6 : decode cX5_depart 6 = .ok (.aload_n 2, 1) := by decide +kernel
theorem dX5_depart_7 : decode cX5_depart 7 = .ok (.ifnull 27, 3) := by decide +kernel
theorem dX5_depart_10 : decode cX5_depart 10 = .ok (.aload_n 2, 1) := by decide +kernel
theorem dX5_depart_11 : decode cX5_depart 11 = .ok (.getfield 80, 3) := by decide +kernel
theorem dX5_depart_14 : decode cX5_depart 14 = .ok (.iconst 1, 1) := by decide +kernel
theorem dX5_depart_15 : decode cX5_depart 15 = .ok (.if_icmp .ne 19, 3) := by decide +kernel
theorem dX5_depart_18 : decode cX5_depart 18 = .ok (.aload_n 2, 1) := by decide +kernel
theorem dX5_depart_19 : decode cX5_depart 19 = .ok (.getfield 138, 3) := by decide +kernel
theorem dX5_depart_22 : decode cX5_depart 22 = .ok (.iconst (-1), 1) := by decide +kernel
theorem dX5_depart_23 : decode cX5_depart 23 = .ok (.if_icmp .ne 11, 3) := by decide +kernel
theorem dX5_depart_26 : decode cX5_depart 26 = .ok (.aload_n 0, 1) := by decide +kernel
theorem dX5_depart_27 : decode cX5_depart 27 = .ok (.aload_n 2, 1) := by decide +kernel
theorem dX5_depart_28 : decode cX5_depart 28 = .ok (.invokevirtual 151, 3) := by decide +kernel
theorem dX5_depart_31 : decode cX5_depart 31 = .ok (.ifCond .eq 5, 3) := by decide +kernel
theorem dX5_depart_34 : decode cX5_depart 34 = .ok (.iconst (-1), 1) := by decide +kernel
theorem dX5_depart_35 : decode cX5_depart 35 = .ok (.ireturn, 1) := by decide +kernel
theorem dX5_depart_36 : decode cX5_depart 36 = .ok (.iconst 0, 1) := by decide +kernel
theorem dX5_depart_37 : decode cX5_depart 37 = .ok (.istore_n 3, 1) := by decide +kernel
theorem dX5_depart_38 : decode cX5_depart 38 = .ok (.iconst 0, 1) := by decide +kernel
theorem dX5_depart_39 : decode cX5_depart 39 = .ok (.istore 4, 2) := by decide +kernel
theorem dX5_depart_41 : decode cX5_depart 41 = .ok (.iload 4, 2) := by decide +kernel
theorem dX5_depart_43 : decode cX5_depart 43 = .ok (.aload_n 0, 1) := by decide +kernel
theorem dX5_depart_44 : decode cX5_depart 44 = .ok (.getfield 100, 3) := by decide +kernel
theorem dX5_depart_47 : decode cX5_depart 47 = .ok (.if_icmp .ge 50, 3) := by decide +kernel
theorem dX5_depart_50 : decode cX5_depart 50 = .ok (.aload_n 0, 1) := by decide +kernel
theorem dX5_depart_51 : decode cX5_depart 51 = .ok (.getfield 29, 3) := by decide +kernel
theorem dX5_depart_54 : decode cX5_depart 54 = .ok (.iload 4, 2) := by decide +kernel
theorem dX5_depart_56 : decode cX5_depart 56 = .ok (.aaload, 1) := by decide +kernel
theorem dX5_depart_57 : decode cX5_depart 57 = .ok (.astore 5, 2) := by decide +kernel
theorem dX5_depart_59 : decode cX5_depart 59 = .ok (.aload 5, 2) := by decide +kernel
theorem dX5_depart_61 : decode cX5_depart 61 = .ok (.getfield 122, 3) := by decide +kernel
theorem dX5_depart_64 : decode cX5_depart 64 = .ok (.aload_n 2, 1) := by decide +kernel
theorem dX5_depart_65 : decode cX5_depart 65 = .ok (.if_acmp .ne 26, 3) := by decide +kernel
theorem dX5_depart_68 : decode cX5_depart 68 = .ok (.iload_n 3, 1) := by decide +kernel
theorem dX5_depart_69 : decode cX5_depart 69 = .ok (.aload 5, 2) := by decide +kernel
theorem dX5_depart_71 : decode cX5_depart 71 = .ok (.getfield 120, 3) := by decide +kernel
theorem dX5_depart_74 : decode cX5_depart 74 = .ok (.iconst 3, 1) := by decide +kernel
theorem dX5_depart_75 : decode cX5_depart 75 = .ok (.if_icmp .ne 7, 3) := by decide +kernel
theorem dX5_depart_78 : decode cX5_depart 78 = .ok (.iconst 1, 1) := by decide +kernel
theorem dX5_depart_79 : decode cX5_depart 79 = .ok (.goto 4, 3) := by decide +kernel
theorem dX5_depart_82 : decode cX5_depart 82 = .ok (.iconst 0, 1) := by decide +kernel
theorem dX5_depart_83 : decode cX5_depart 83 = .ok (.iadd, 1) := by decide +kernel
theorem dX5_depart_84 : decode cX5_depart 84 = .ok (.istore_n 3, 1) := by decide +kernel
theorem dX5_depart_85 : decode cX5_depart 85 = .ok (.aload_n 0, 1) := by decide +kernel
theorem dX5_depart_86 : decode cX5_depart 86 = .ok (.aload 5, 2) := by decide +kernel
theorem dX5_depart_88 : decode cX5_depart 88 = .ok (.invokevirtual 248, 3) := by decide +kernel
theorem dX5_depart_91 : decode cX5_depart 91 = .ok (.iinc 4 1, 3) := by decide +kernel
theorem dX5_depart_94 : decode cX5_depart 94 = .ok (.goto (-53), 3) := by decide +kernel
theorem dX5_depart_97 : decode cX5_depart 97 = .ok (.aload_n 2, 1) := by decide +kernel
theorem dX5_depart_98 : decode cX5_depart 98 = .ok (.iconst 2, 1) := by decide +kernel
theorem dX5_depart_99 : decode cX5_depart 99 = .ok (.putfield 80, 3) := by decide +kernel
theorem dX5_depart_102 : decode cX5_depart 102 = .ok (.iload_n 3, 1) := by decide +kernel
theorem dX5_depart_103 : decode cX5_depart 103 = .ok (.ireturn, 1) := by decide +kernel
set_option maxRecDepth 20000 in
theorem ggX5_endTicket_X3_clearPlace : GoodIn wsX5_endTicket wsX3_clearPlace := goodIn_r _ [4, 5, 6, 7, 8, 2, 9, 10, 11, 12, 13, 14, 15, 16, 17, 18, 19, 20, 21, 22, 23, 24, 35, 36, 37, 38, 39, 40, 41, 42, 43, 44, 45, 46, 47, 48, 49, 50, 60, 61, 62, 63, 64, 65, 66, 67] (by decide +kernel) (by decide +kernel)
set_option maxRecDepth 20000 in
theorem gX5_endTicket_X3_clearPlace_n218 : GoodIn wsX5_endTicket (wsX3_clearPlace) := ggX5_endTicket_X3_clearPlace
set_option maxRecDepth 20000 in
theorem ggX5_endTicket_X5_freeCabin : GoodIn wsX5_endTicket wsX5_freeCabin := goodIn_r _ [29, 30, 31, 32, 33, 28, 34, 35, 36, 37, 38, 39, 40, 41, 42, 43, 44, 45, 46, 47, 48, 49, 50, 68, 69, 70, 71, 72, 73, 74, 75, 76, 77, 78, 79, 80, 81, 82] (by decide +kernel) (by decide +kernel)
set_option maxRecDepth 20000 in
theorem gX5_endTicket_X5_freeCabin : GoodIn wsX5_endTicket (wsV RX5 222 RX5 yX5_freeCabin wsX5_freeCabin) := goodIn_app (goodIn_of _ (by decide +kernel)) ggX5_endTicket_X5_freeCabin
theorem dX5_endTicket_0 : decode cX5_endTicket 0 = .ok (.aload_n 1, 1) := by decide +kernel
theorem dX5_endTicket_1 : decode cX5_endTicket 1 = .ok (.getfield 120, 3) := by decide +kernel
theorem dX5_endTicket_4 : decode cX5_endTicket 4 = .ok (.iconst 3, 1) := by decide +kernel
theorem dX5_endTicket_5 : decode cX5_endTicket 5 = .ok (.if_icmp .ne 28, 3) := by decide +kernel
theorem dX5_endTicket_8 : decode cX5_endTicket 8 = .ok (.aload_n 1, 1) := by decide +kernel
theorem dX5_endTicket_9 : decode cX5_endTicket 9 = .ok (.getfield 122, 3) := by decide +kernel
theorem dX5_endTicket_12 : decode cX5_endTicket 12 = .ok (.getfield 76, 3) := by decide +kernel
theorem dX5_endTicket_15 : decode cX5_endTicket 15 = .ok (.aload_n 1, 1) := by decide +kernel
theorem dX5_endTicket_16 : decode cX5_endTicket 16 = .ok (.invokevirtual 218, 3) := by decide +kernel
theorem dX5_endTicket_19 : decode cX5_endTicket 19 = .ok (.aload_n 0, 1) := by decide +kernel
theorem dX5_endTicket_20 : decode cX5_endTicket 20 = .ok (.aload_n 1, 1) := by decide +kernel
theorem dX5_endTicket_21 : decode cX5_endTicket 21 = .ok (.invokevirtual 222, 3) := by decide +kernel
theorem dX5_endTicket_24 : decode cX5_endTicket 24 = .ok (.aload_n 1, 1) := by decide +kernel
theorem dX5_endTicket_25 : decode cX5_endTicket 25 = .ok (.bipush 6, 2) := by decide +kernel
theorem dX5_endTicket_27 : decode cX5_endTicket 27 = .ok (.putfield 120, 3) := by decide +kernel
theorem dX5_endTicket_30 : decode cX5_endTicket 30 = .ok (.goto 50, 3) := by decide +kernel
theorem dX5_endTicket_33 : decode cX5_endTicket 33 = .ok (.aload_n 1, 1) := by decide +kernel
theorem dX5_endTicket_34 : decode cX5_endTicket 34 = .ok (.getfield 120, 3) := by decide +kernel
theorem dX5_endTicket_37 : decode cX5_endTicket 37 = .ok (.iconst 4, 1) := by decide +kernel
theorem dX5_endTicket_38 : decode cX5_endTicket 38 = .ok (.if_icmp .ne 19, 3) := by decide +kernel
theorem dX5_endTicket_41 : decode cX5_endTicket 41 = .ok (.aload_n 1, 1) := by decide +kernel
theorem dX5_endTicket_42 : decode cX5_endTicket 42 = .ok (.iconst 5, 1) := by decide +kernel
theorem dX5_endTicket_43 : decode cX5_endTicket 43 = .ok (.putfield 120, 3) := by decide +kernel
theorem dX5_endTicket_46 : decode cX5_endTicket 46 = .ok (.aload_n 1, 1) := by decide +kernel
theorem dX5_endTicket_47 : decode cX5_endTicket 47 = .ok (.aload_n 1, 1) := by decide +kernel
theorem dX5_endTicket_48 : decode cX5_endTicket 48 = .ok (.getfield 239, 3) := by decide +kernel
theorem dX5_endTicket_51 : decode cX5_endTicket 51 = .ok (.putfield 242, 3) := by decide +kernel
theorem dX5_endTicket_54 : decode cX5_endTicket 54 = .ok (.goto 26, 3) := by decide +kernel
theorem dX5_endTicket_57 : decode cX5_endTicket 57 = .ok (.aload_n 1, 1) := by decide +kernel
theorem dX5_endTicket_58 : decode cX5_endTicket 58 = .ok (.getfield 120, 3) := by decide +kernel
theorem dX5_endTicket_61 : decode cX5_endTicket 61 = .ok (.ifCond .ne 19, 3) := by decide +kernel
theorem dX5_endTicket_64 : decode cX5_endTicket 64 = .ok (.aload_n 1, 1) := by decide +kernel
theorem dX5_endTicket_65 : decode cX5_endTicket 65 = .ok (.bipush 7, 2) := by decide +kernel
theorem dX5_endTicket_67 : decode cX5_endTicket 67 = .ok (.putfield 120, 3) := by decide +kernel
theorem dX5_endTicket_70 : decode cX5_endTicket 70 = .ok (.aload_n 1, 1) := by decide +kernel
theorem dX5_endTicket_71 : decode cX5_endTicket 71 = .ok (.aload_n 1, 1) := by decide +kernel
theorem dX5_endTicket_72 : decode cX5_endTicket 72 = .ok (.getfield 239, 3) := by decide +kernel
theorem dX5_endTicket_75 : decode cX5_endTicket 75 = .ok (.iconst 2, 1) := by decide +kernel
theorem dX5_endTicket_76 : decode cX5_endTicket 76 = .ok (.idiv, 1) := by decide +kernel
theorem dX5_endTicket_77 : decode cX5_endTicket 77 = .ok (.putfield 242, 3) := by decide +kernel
theorem dX5_endTicket_80 : decode cX5_endTicket 80 = .ok (.return_, 1) := by decide +kernel
set_option maxRecDepth 20000 in
theorem ggX5_off_X5_ticketNumbered : GoodIn wsX5_off wsX5_ticketNumbered := goodIn_r _ [5, 6, 7, 8, 9, 4, 10, 70, 71, 72, 73, 74, 75, 76, 77, 78, 79, 80, 81] (by decide +kernel) (by decide +kernel)
set_option maxRecDepth 20000 in
theorem gX5_off_X5_ticketNumbered : GoodIn wsX5_off (wsV RX5 116 RX5 yX5_ticketNumbered wsX5_ticketNumbered) := goodIn_app (goodIn_of _ (by decide +kernel)) ggX5_off_X5_ticketNumbered
set_option maxRecDepth 20000 in
theorem ggX5_off_X5_bringOff : GoodIn wsX5_off wsX5_bringOff := goodIn_r _ [14, 15, 16, 17, 18, 19, 20, 21, 22, 23, 24, 25, 26, 27, 28, 29, 30, 31, 32, 33, 34, 35, 36, 37, 38, 39, 40, 41, 4, 42, 43, 44, 8, 9, 10, 45, 46, 47, 48, 49, 50, 51, 52, 53, 54, 55, 56, 57, 58, 59, 60, 61, 62, 63, 64, 65, 66, 67, 68, 69, 82, 83, 84, 85, 86, 87, 88, 89, 70, 71, 72, 73, 74, 75, 76, 77, 78, 79, 80, 81, 90, 91, 92] (by decide +kernel) (by decide +kernel)
set_option maxRecDepth 20000 in
theorem gX5_off_X5_bringOff : GoodIn wsX5_off (wsV RX5 231 RX5 yX5_bringOff wsX5_bringOff) := goodIn_app (goodIn_of _ (by decide +kernel)) ggX5_off_X5_bringOff
theorem dX5_off_0 : decode cX5_off 0 = .ok (.aload_n 0, 1) := by decide +kernel
theorem dX5_off_1 : decode cX5_off 1 = .ok (.iload_n 1, 1) := by decide +kernel
theorem dX5_off_2 : decode cX5_off 2 = .ok (.invokevirtual 116, 3) := by decide +kernel
theorem dX5_off_5 : decode cX5_off 5 = .ok (.astore_n 2, 1) := by decide +kernel
theorem dX5_off_6 : decode cX5_off 6 = .ok (.aload_n 2, 1) := by decide +kernel
theorem dX5_off_7 : decode cX5_off 7 = .ok (.ifnull 18, 3) := by decide +kernel
theorem dX5_off_10 : decode cX5_off 10 = .ok (.aload_n 2, 1) := by decide +kernel
theorem dX5_off_11 : decode cX5_off 11 = .ok (.getfield 120, 3) := by decide +kernel
theorem dX5_off_14 : decode cX5_off 14 = .ok (.iconst 3, 1) := by decide +kernel
theorem dX5_off_15 : decode cX5_off 15 = .ok (.if_icmp .ne 10, 3) := by decide +kernel
theorem dX5_off_18 : decode cX5_off 18 = .ok (.aload_n 2, 1) := by decide +kernel
theorem dX5_off_19 : decode cX5_off 19 = .ok (.getfield 251, 3) := by decide +kernel
theorem dX5_off_22 : decode cX5_off 22 = .ok (.ifnull 5, 3) := by decide +kernel
theorem dX5_off_25 : decode cX5_off 25 = .ok (.iconst 0, 1) := by decide +kernel
theorem dX5_off_26 : decode cX5_off 26 = .ok (.ireturn, 1) := by decide +kernel
theorem dX5_off_27 : decode cX5_off 27 = .ok (.aload_n 2, 1) := by decide +kernel
theorem dX5_off_28 : decode cX5_off 28 = .ok (.getfield 122, 3) := by decide +kernel
theorem dX5_off_31 : decode cX5_off 31 = .ok (.astore_n 3, 1) := by decide +kernel
theorem dX5_off_32 : decode cX5_off 32 = .ok (.aload_n 3, 1) := by decide +kernel
