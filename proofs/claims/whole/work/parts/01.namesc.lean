theorem inlX0 : ∀ w ∈ wsX00, w ∈ wsL_law := fun _ h => List.mem_append_left _ (List.mem_append_right _ h)
theorem inX0 : ∀ w ∈ wsX00, w ∈ lw_tbl := fun w h => wsL_law_in w (inlX0 w h)
theorem inlX1 : ∀ w ∈ wsX10, w ∈ wsL_law := fun _ h => List.mem_append_left _ (List.mem_append_left _ (List.mem_append_left _ (List.mem_append_left _ (List.mem_append_right _ h))))
theorem inX1 : ∀ w ∈ wsX10, w ∈ lw_tbl := fun w h => wsL_law_in w (inlX1 w h)
theorem inlX2 : ∀ w ∈ wsX20, w ∈ wsL_law := fun _ h => List.mem_append_left _ (List.mem_append_left _ (List.mem_append_left _ (List.mem_append_right _ h)))
theorem inX2 : ∀ w ∈ wsX20, w ∈ lw_tbl := fun w h => wsL_law_in w (inlX2 w h)
theorem inlX3 : ∀ w ∈ wsX30, w ∈ wsL_law := fun _ h => List.mem_append_left _ (List.mem_append_left _ (List.mem_append_left _ (List.mem_append_left _ (List.mem_append_left _ (List.mem_append_right _ h)))))
theorem inX3 : ∀ w ∈ wsX30, w ∈ lw_tbl := fun w h => wsL_law_in w (inlX3 w h)
theorem inlX4 : ∀ w ∈ wsX40, w ∈ wsL_law := fun _ h => List.mem_append_left _ (List.mem_append_left _ (List.mem_append_right _ h))
theorem inX4 : ∀ w ∈ wsX40, w ∈ lw_tbl := fun w h => wsL_law_in w (inlX4 w h)
theorem inlX5 : ∀ w ∈ wsX50, w ∈ wsL_law := fun _ h => List.mem_append_left _ (List.mem_append_left _ (List.mem_append_left _ (List.mem_append_left _ (List.mem_append_left _ (List.mem_append_left _ (List.mem_append_left _ (List.mem_append_right _ h)))))))
theorem inX5 : ∀ w ∈ wsX50, w ∈ lw_tbl := fun w h => wsL_law_in w (inlX5 w h)
theorem inlX6 : ∀ w ∈ wsX60, w ∈ wsL_law := fun _ h => List.mem_append_left _ (List.mem_append_left _ (List.mem_append_left _ (List.mem_append_left _ (List.mem_append_left _ (List.mem_append_left _ (List.mem_append_right _ h))))))
theorem inX6 : ∀ w ∈ wsX60, w ∈ lw_tbl := fun w h => wsL_law_in w (inlX6 w h)
theorem inJ9 : ∀ w ∈ wsJ90, w ∈ lw_tbl := by decide +kernel
theorem dX0_init_0 : decode cX0_init 0 = .ok (.aload_n 0, 1) := by decide +kernel
theorem dX0_init_1 : decode cX0_init 1 = .ok (.invokespecial 3, 3) := by decide +kernel
theorem dX0_init_4 : decode cX0_init 4 = .ok (.aload_n 0, 1) := by decide +kernel
theorem dX0_init_5 : decode cX0_init 5 = .ok (.aload_n 1, 1) := by decide +kernel
theorem dX0_init_6 : decode cX0_init 6 = .ok (.putfield 9, 3) := by decide +kernel
theorem dX0_init_9 : decode cX0_init 9 = .ok (.aload_n 0, 1) := by decide +kernel
theorem dX0_init_10 : decode cX0_init 10 = .ok (.iload_n 2, 1) := by decide +kernel
theorem dX0_init_11 : decode cX0_init 11 = .ok (.putfield 15, 3) := by decide +kernel
theorem dX0_init_14 : decode cX0_init 14 = .ok (.aload_n 0, 1) := by decide +kernel
theorem dX0_init_15 : decode cX0_init 15 = .ok (.iload_n 3, 1) := by decide +kernel
theorem dX0_init_16 : decode cX0_init 16 = .ok (.putfield 19, 3) := by decide +kernel
theorem dX0_init_19 : decode cX0_init 19 = .ok (.return_, 1) := by decide +kernel
set_option maxRecDepth 20000 in
theorem ggX0_number_X4_tell : GoodIn wsX0_number wsX4_tell := goodIn_r _ [7, 8, 9, 10, 11, 12, 13, 14, 15, 16, 17, 18, 19, 20, 24, 25, 26, 27, 28, 29, 30, 31, 32, 33, 34, 35, 36, 37, 38, 39, 40, 41, 42, 43, 44, 45, 46, 47, 48] (by decide +kernel) (by decide +kernel)
set_option maxRecDepth 20000 in
theorem gX0_number_X4_tell_n22 : GoodIn wsX0_number (wsX4_tell) := ggX0_number_X4_tell
theorem dX0_number_0 : decode cX0_number 0 = .ok (.aload_n 1, 1) := by decide +kernel
theorem dX0_number_1 : decode cX0_number 1 = .ok (.iload_n 2, 1) := by decide +kernel
theorem dX0_number_2 : decode cX0_number 2 = .ok (.invokevirtual 22, 3) := by decide +kernel
theorem dX0_number_5 : decode cX0_number 5 = .ok (.istore_n 3, 1) := by decide +kernel
theorem dX0_number_6 : decode cX0_number 6 = .ok (.aload_n 1, 1) := by decide +kernel
theorem dX0_number_7 : decode cX0_number 7 = .ok (.aload_n 0, 1) := by decide +kernel
theorem dX0_number_8 : decode cX0_number 8 = .ok (.getfield 9, 3) := by decide +kernel
theorem dX0_number_11 : decode cX0_number 11 = .ok (.if_acmp .ne 20, 3) := by decide +kernel
theorem dX0_number_14 : decode cX0_number 14 = .ok (.iload_n 2, 1) := by decide +kernel
theorem dX0_number_15 : decode cX0_number 15 = .ok (.aload_n 0, 1) := by decide +kernel
theorem dX0_number_16 : decode cX0_number 16 = .ok (.getfield 15, 3) := by decide +kernel
theorem dX0_number_19 : decode cX0_number 19 = .ok (.if_icmp .ne 12, 3) := by decide +kernel
theorem dX0_number_22 : decode cX0_number 22 = .ok (.iload_n 3, 1) := by decide +kernel
theorem dX0_number_23 : decode cX0_number 23 = .ok (.aload_n 0, 1) := by decide +kernel
theorem dX0_number_24 : decode cX0_number 24 = .ok (.getfield 19, 3) := by decide +kernel
theorem dX0_number_27 : decode cX0_number 27 = .ok (.ixor, 1) := by decide +kernel
theorem dX0_number_28 : decode cX0_number 28 = .ok (.goto 4, 3) := by decide +kernel
theorem dX0_number_31 : decode cX0_number 31 = .ok (.iload_n 3, 1) := by decide +kernel
theorem dX0_number_32 : decode cX0_number 32 = .ok (.ireturn, 1) := by decide +kernel
set_option maxRecDepth 20000 in
theorem ggX0_mayHaveCabin_X0_number : GoodIn wsX0_mayHaveCabin wsX0_number := goodIn_r _ [5, 6, 7, 8, 9, 10, 11, 12, 13, 14, 15, 16, 17, 18, 19, 20, 21, 22, 23, 24, 25, 26, 27, 28, 29, 30, 31, 32, 33, 34, 35, 36, 37, 38, 39, 40, 41, 42, 43, 44, 45, 46, 47, 48, 49, 50, 51, 52, 53] (by decide +kernel) (by decide +kernel)
set_option maxRecDepth 20000 in
theorem gX0_mayHaveCabin_X0_number : GoodIn wsX0_mayHaveCabin (wsV RX0 28 RX0 yX0_number wsX0_number) := goodIn_app (goodIn_of _ (by decide +kernel)) ggX0_mayHaveCabin_X0_number
theorem dX0_mayHaveCabin_0 : decode cX0_mayHaveCabin 0 = .ok (.aload_n 0, 1) := by decide +kernel
theorem dX0_mayHaveCabin_1 : decode cX0_mayHaveCabin 1 = .ok (.aload_n 1, 1) := by decide +kernel
theorem dX0_mayHaveCabin_2 : decode cX0_mayHaveCabin 2 = .ok (.iconst 4, 1) := by decide +kernel
theorem dX0_mayHaveCabin_3 : decode cX0_mayHaveCabin 3 = .ok (.invokevirtual 28, 3) := by decide +kernel
theorem dX0_mayHaveCabin_6 : decode cX0_mayHaveCabin 6 = .ok (.istore_n 2, 1) := by decide +kernel
theorem dX0_mayHaveCabin_7 : decode cX0_mayHaveCabin 7 = .ok (.iload_n 2, 1) := by decide +kernel
theorem dX0_mayHaveCabin_8 : decode cX0_mayHaveCabin 8 = .ok (.iconst 3, 1) := by decide +kernel
theorem dX0_mayHaveCabin_9 : decode cX0_mayHaveCabin 9 = .ok (.if_icmp .eq 9, 3) := by decide +kernel
theorem dX0_mayHaveCabin_12 : decode cX0_mayHaveCabin 12 = .ok (.iload_n 2, 1) := by decide +kernel
theorem dX0_mayHaveCabin_13 : decode cX0_mayHaveCabin 13 = .ok (.bipush 6, 2) := by decide +kernel
theorem dX0_mayHaveCabin_15 : decode cX0_mayHaveCabin 15 = .ok (.if_icmp .ne 7, 3) := by decide +kernel
theorem dX0_mayHaveCabin_18 : decode cX0_mayHaveCabin 18 = .ok (.iconst 1, 1) := by decide +kernel
theorem dX0_mayHaveCabin_19 : decode cX0_mayHaveCabin 19 = .ok (.goto 4, 3) := by decide +kernel
theorem dX0_mayHaveCabin_22 : decode cX0_mayHaveCabin 22 = .ok (.iconst 0, 1) := by decide +kernel
theorem dX0_mayHaveCabin_23 : decode cX0_mayHaveCabin 23 = .ok (.ireturn, 1) := by decide +kernel
theorem dX1_init_0 : decode cX1_init 0 = .ok (.aload_n 0, 1) := by decide +kernel
theorem dX1_init_1 : decode cX1_init 1 = .ok (.invokespecial 1, 3) := by decide +kernel
theorem dX1_init_4 : decode cX1_init 4 = .ok (.aload_n 0, 1) := by decide +kernel
theorem dX1_init_5 : decode cX1_init 5 = .ok (.aload_n 1, 1) := by decide +kernel
theorem dX1_init_6 : decode cX1_init 6 = .ok (.putfield 7, 3) := by decide +kernel
theorem dX1_init_9 : decode cX1_init 9 = .ok (.aload_n 0, 1) := by decide +kernel
theorem dX1_init_10 : decode cX1_init 10 = .ok (.iload_n 2, 1) := by decide +kernel
theorem dX1_init_11 : decode cX1_init 11 = .ok (.putfield 13, 3) := by decide +kernel
theorem dX1_init_14 : decode cX1_init 14 = .ok (.return_, 1) := by decide +kernel
theorem dX2_init_0 : decode cX2_init 0 = .ok (.aload_n 0, 1) := by decide +kernel
theorem dX2_init_1 : decode cX2_init 1 = .ok (.invokespecial 3, 3) := by decide +kernel
theorem dX2_init_4 : decode cX2_init 4 = .ok (.aload_n 0, 1) := by decide +kernel
theorem dX2_init_5 : decode cX2_init 5 = .ok (.iconst 0, 1) := by decide +kernel
theorem dX2_init_6 : decode cX2_init 6 = .ok (.putfield 9, 3) := by decide +kernel
theorem dX2_init_9 : decode cX2_init 9 = .ok (.aload_n 0, 1) := by decide +kernel
theorem dX2_init_10 : decode cX2_init 10 = .ok (.iconst (-1), 1) := by decide +kernel
theorem dX2_init_11 : decode cX2_init 11 = .ok (.putfield 15, 3) := by decide +kernel
theorem dX2_init_14 : decode cX2_init 14 = .ok (.aload_n 0, 1) := by decide +kernel
theorem dX2_init_15 : decode cX2_init 15 = .ok (.iload_n 1, 1) := by decide +kernel
theorem dX2_init_16 : decode cX2_init 16 = .ok (.putfield 18, 3) := by decide +kernel
theorem dX2_init_19 : decode cX2_init 19 = .ok (.aload_n 0, 1) := by decide +kernel
theorem dX2_init_20 : decode cX2_init 20 = .ok (.aload_n 2, 1) := by decide +kernel
theorem dX2_init_21 : decode cX2_init 21 = .ok (.putfield 21, 3) := by decide +kernel
theorem dX2_init_24 : decode cX2_init 24 = .ok (.aload_n 0, 1) := by decide +kernel
theorem dX2_init_25 : decode cX2_init 25 = .ok (.iload_n 3, 1) := by decide +kernel
theorem dX2_init_26 : decode cX2_init 26 = .ok (.putfield 25, 3) := by decide +kernel
theorem dX2_init_29 : decode cX2_init 29 = .ok (.aload_n 0, 1) := by decide +kernel
theorem dX2_init_30 : decode cX2_init 30 = .ok (.iload 4, 2) := by decide +kernel
theorem dX2_init_32 : decode cX2_init 32 = .ok (.putfield 28, 3) := by decide +kernel
theorem dX2_init_35 : decode cX2_init 35 = .ok (.return_, 1) := by decide +kernel
theorem dX2_isPlannedOrOpen_0 : decode cX2_isPlannedOrOpen 0 = .ok (.aload_n 0, 1) := by decide +kernel
theorem dX2_isPlannedOrOpen_1 : decode cX2_isPlannedOrOpen 1 = .ok (.getfield 9, 3) := by decide +kernel
theorem dX2_isPlannedOrOpen_4 : decode cX2_isPlannedOrOpen 4 = .ok (.ifCond .eq 11, 3) := by decide +kernel
theorem dX2_isPlannedOrOpen_7 : decode cX2_isPlannedOrOpen 7 = .ok (.aload_n 0, 1) := by decide +kernel
theorem dX2_isPlannedOrOpen_8 : decode cX2_isPlannedOrOpen 8 = .ok (.getfield 9, 3) := by decide +kernel
theorem dX2_isPlannedOrOpen_11 : decode cX2_isPlannedOrOpen 11 = .ok (.iconst 1, 1) := by decide +kernel
theorem dX2_isPlannedOrOpen_12 : decode cX2_isPlannedOrOpen 12 = .ok (.if_icmp .ne 7, 3) := by decide +kernel
theorem dX2_isPlannedOrOpen_15 : decode cX2_isPlannedOrOpen 15 = .ok (.iconst 1, 1) := by decide +kernel
theorem dX2_isPlannedOrOpen_16 : decode cX2_isPlannedOrOpen 16 = .ok (.goto 4, 3) := by decide +kernel
theorem dX2_isPlannedOrOpen_19 : decode cX2_isPlannedOrOpen 19 = .ok (.iconst 0, 1) := by decide +kernel
theorem dX2_isPlannedOrOpen_20 : decode cX2_isPlannedOrOpen 20 = .ok (.ireturn, 1) := by decide +kernel
set_option maxRecDepth 20000 in
theorem ggX2_takesTickets_X2_isPlannedOrOpen : GoodIn wsX2_takesTickets wsX2_isPlannedOrOpen := goodIn_r _ [6, 7, 8, 9, 10, 11, 12, 13, 14, 15, 16] (by decide +kernel) (by decide +kernel)
set_option maxRecDepth 20000 in
theorem gX2_takesTickets_X2_isPlannedOrOpen : GoodIn wsX2_takesTickets (wsV RX2 31 RX2 yX2_isPlannedOrOpen wsX2_isPlannedOrOpen) := goodIn_app (goodIn_of _ (by decide +kernel)) ggX2_takesTickets_X2_isPlannedOrOpen
theorem dX2_takesTickets_0 : decode cX2_takesTickets 0 = .ok (.aload_n 0, 1) := by decide +kernel
theorem dX2_takesTickets_1 : decode cX2_takesTickets 1 = .ok (.invokevirtual 31, 3) := by decide +kernel
theorem dX2_takesTickets_4 : decode cX2_takesTickets 4 = .ok (.ifCond .eq 15, 3) := by decide +kernel
theorem dX2_takesTickets_7 : decode cX2_takesTickets 7 = .ok (.aload_n 0, 1) := by decide +kernel
theorem dX2_takesTickets_8 : decode cX2_takesTickets 8 = .ok (.getfield 15, 3) := by decide +kernel
theorem dX2_takesTickets_11 : decode cX2_takesTickets 11 = .ok (.iconst (-1), 1) := by decide +kernel
theorem dX2_takesTickets_12 : decode cX2_takesTickets 12 = .ok (.if_icmp .ne 7, 3) := by decide +kernel
theorem dX2_takesTickets_15 : decode cX2_takesTickets 15 = .ok (.iconst 1, 1) := by decide +kernel
theorem dX2_takesTickets_16 : decode cX2_takesTickets 16 = .ok (.goto 4, 3) := by decide +kernel
theorem dX2_takesTickets_19 : decode cX2_takesTickets 19 = .ok (.iconst 0, 1) := by decide +kernel
theorem dX2_takesTickets_20 : decode cX2_takesTickets 20 = .ok (.ireturn, 1) := by decide +kernel
theorem dX3_init_0 : decode cX3_init 0 = .ok (.aload_n 0, 1) := by decide +kernel
theorem dX3_init_1 : decode cX3_init 1 = .ok (.invokespecial 3, 3) := by decide +kernel
theorem dX3_init_4 : decode cX3_init 4 = .ok (.aload_n 0, 1) := by decide +kernel
theorem dX3_init_5 : decode cX3_init 5 = .ok (.iload_n 1, 1) := by decide +kernel
theorem dX3_init_6 : decode cX3_init 6 = .ok (.putfield 9, 3) := by decide +kernel
theorem dX3_init_9 : decode cX3_init 9 = .ok (.aload_n 0, 1) := by decide +kernel
theorem dX3_init_10 : decode cX3_init 10 = .ok (.iload_n 2, 1) := by decide +kernel
theorem dX3_init_11 : decode cX3_init 11 = .ok (.putfield 15, 3) := by decide +kernel
theorem dX3_init_14 : decode cX3_init 14 = .ok (.aload_n 0, 1) := by decide +kernel
theorem dX3_init_15 : decode cX3_init 15 = .ok (.iload_n 3, 1) := by decide +kernel
theorem dX3_init_16 : decode cX3_init 16 = .ok (.putfield 18, 3) := by decide +kernel
theorem dX3_init_19 : decode cX3_init 19 = .ok (.aload_n 0, 1) := by decide +kernel
theorem dX3_init_20 : decode cX3_init 20 = .ok (.iload 4, 2) := by decide +kernel
theorem dX3_init_22 : decode cX3_init 22 = .ok (.putfield 21, 3) := by decide +kernel
theorem dX3_init_25 : decode cX3_init 25 = .ok (.aload_n 0, 1) := by decide +kernel
theorem dX3_init_26 : decode cX3_init 26 = .ok (.iload 5, 2) := by decide +kernel
theorem dX3_init_28 : decode cX3_init 28 = .ok (.putfield 24, 3) := by decide +kernel
theorem dX3_init_31 : decode cX3_init 31 = .ok (.aload_n 0, 1) := by decide +kernel
theorem dX3_init_32 : decode cX3_init 32 = .ok (.iload_n 2, 1) := by decide +kernel
theorem dX3_init_33 : decode cX3_init 33 = .ok (.iload_n 3, 1) := by decide +kernel
theorem dX3_init_34 : decode cX3_init 34 = .ok (.imul, 1) := by decide +kernel
theorem dX3_init_35 : decode cX3_init 35 = .ok (.anewarray 28, 3) := by decide +kernel
theorem dX3_init_38 : decode cX3_init 38 = .ok (.putfield 30, 3) := by decide +kernel
theorem dX3_init_41 : decode cX3_init 41 = .ok (.return_, 1) := by decide +kernel
theorem dX3_hasLane_0 : decode cX3_hasLane 0 = .ok (.iload_n 1, 1) := by decide +kernel
theorem dX3_hasLane_1 : decode cX3_hasLane 1 = .ok (.ifCond .lt 27, 3) := by decide +kernel
theorem dX3_hasLane_4 : decode cX3_hasLane 4 = .ok (.iload_n 1, 1) := by decide +kernel
theorem dX3_hasLane_5 : decode cX3_hasLane 5 = .ok (.aload_n 0, 1) := by decide +kernel
theorem dX3_hasLane_6 : decode cX3_hasLane 6 = .ok (.getfield 15, 3) := by decide +kernel
theorem dX3_hasLane_9 : decode cX3_hasLane 9 = .ok (.if_icmp .ge 19, 3) := by decide +kernel
theorem dX3_hasLane_12 : decode cX3_hasLane 12 = .ok (.iload_n 2, 1) := by decide +kernel
theorem dX3_hasLane_13 : decode cX3_hasLane 13 = .ok (.ifCond .lt 15, 3) := by decide +kernel
theorem dX3_hasLane_16 : decode cX3_hasLane 16 = .ok (.iload_n 2, 1) := by decide +kernel
theorem dX3_hasLane_17 : decode cX3_hasLane 17 = .ok (.aload_n 0, 1) := by decide +kernel
theorem dX3_hasLane_18 : decode cX3_hasLane 18 = .ok (.getfield 18, 3) := by decide +kernel
theorem dX3_hasLane_21 : decode cX3_hasLane 21 = .ok (.if_icmp .ge 7, 3) := by decide +kernel
theorem dX3_hasLane_24 : decode cX3_hasLane 24 = .ok (.iconst 1, 1) := by decide +kernel
theorem dX3_hasLane_25 : decode cX3_hasLane 25 = .ok (.goto 4, 3) := by decide +kernel
theorem dX3_hasLane_28 : decode cX3_hasLane 28 = .ok (.iconst 0, 1) := by decide +kernel
theorem dX3_hasLane_29 : decode cX3_hasLane 29 = .ok (.ireturn, 1) := by decide +kernel
set_option maxRecDepth 20000 in
theorem ggX3_nearestBow_X3_hasLane : GoodIn wsX3_nearestBow wsX3_hasLane := goodIn_r _ [7, 8, 2, 9, 10, 11, 12, 13, 14, 15, 16] (by decide +kernel) (by decide +kernel)
set_option maxRecDepth 20000 in
theorem gX3_nearestBow_X3_hasLane : GoodIn wsX3_nearestBow (wsV RX3 34 RX3 yX3_hasLane wsX3_hasLane) := goodIn_app (goodIn_of _ (by decide +kernel)) ggX3_nearestBow_X3_hasLane
theorem dX3_nearestBow_0 : decode cX3_nearestBow 0 = .ok (.aload_n 0, 1) := by decide +kernel
theorem dX3_nearestBow_1 : decode cX3_nearestBow 1 = .ok (.iload_n 1, 1) := by decide +kernel
theorem dX3_nearestBow_2 : decode cX3_nearestBow 2 = .ok (.iload_n 2, 1) := by decide +kernel
theorem dX3_nearestBow_3 : decode cX3_nearestBow 3 = .ok (.invokevirtual 34, 3) := by decide +kernel
theorem dX3_nearestBow_6 : decode cX3_nearestBow 6 = .ok (.ifCond .eq 19, 3) := by decide +kernel
theorem dX3_nearestBow_9 : decode cX3_nearestBow 9 = .ok (.aload_n 0, 1) := by decide +kernel
theorem dX3_nearestBow_10 : decode cX3_nearestBow 10 = .ok (.getfield 30, 3) := by decide +kernel
theorem dX3_nearestBow_13 : decode cX3_nearestBow 13 = .ok (.iload_n 1, 1) := by decide +kernel
theorem dX3_nearestBow_14 : decode cX3_nearestBow 14 = .ok (.aload_n 0, 1) := by decide +kernel
theorem dX3_nearestBow_15 : decode cX3_nearestBow 15 = .ok (.getfield 18, 3) := by decide +kernel
theorem dX3_nearestBow_18 : decode cX3_nearestBow 18 = .ok (.imul, 1) := by decide +kernel
theorem dX3_nearestBow_19 : decode cX3_nearestBow 19 = .ok (.iload_n 2, 1) := by decide +kernel
theorem dX3_nearestBow_20 : decode cX3_nearestBow 20 = .ok (.iadd, 1) := by decide +kernel
theorem dX3_nearestBow_21 : decode cX3_nearestBow 21 = .ok (.aaload, 1) := by decide +kernel
theorem dX3_nearestBow_22 : decode cX3_nearestBow 22 = .ok (.goto 4, 3) := by decide +kernel
theorem dX3_nearestBow_25 : decode cX3_nearestBow 25 = .ok (.aconst_null, 1) := by decide +kernel
theorem dX3_nearestBow_26 : decode cX3_nearestBow 26 = .ok (.areturn, 1) := by decide +kernel
set_option maxRecDepth 20000 in
theorem ggX3_freePlaces_X3_nearestBow : GoodIn wsX3_freePlaces wsX3_nearestBow := goodIn_r _ [6, 7, 8, 9, 10, 11, 5, 12, 13, 14, 15, 16, 17, 18, 19, 20, 21] (by decide +kernel) (by decide +kernel)
set_option maxRecDepth 20000 in
theorem gX3_freePlaces_X3_nearestBow : GoodIn wsX3_freePlaces (wsV RX3 38 RX3 yX3_nearestBow wsX3_nearestBow) := goodIn_app (goodIn_of _ (by decide +kernel)) ggX3_freePlaces_X3_nearestBow
theorem dX3_freePlaces_0 : decode cX3_freePlaces 0 = .ok (.aload_n 0, 1) := by decide +kernel
theorem dX3_freePlaces_1 : decode cX3_freePlaces 1 = .ok (.getfield 21, 3) := by decide +kernel
theorem dX3_freePlaces_4 : decode cX3_freePlaces 4 = .ok (.istore_n 3, 1) := by decide +kernel
theorem dX3_freePlaces_5 : decode cX3_freePlaces 5 = .ok (.aload_n 0, 1) := by decide +kernel
theorem dX3_freePlaces_6 : decode cX3_freePlaces 6 = .ok (.iload_n 1, 1) := by decide +kernel
theorem dX3_freePlaces_7 : decode cX3_freePlaces 7 = .ok (.iload_n 2, 1) := by decide +kernel
theorem dX3_freePlaces_8 : decode cX3_freePlaces 8 = .ok (.invokevirtual 38, 3) := by decide +kernel
theorem dX3_freePlaces_11 : decode cX3_freePlaces 11 = .ok (.astore 4, 2) := by decide +kernel
theorem dX3_freePlaces_13 : decode cX3_freePlaces 13 = .ok (.aload 4, 2) := by decide +kernel
theorem dX3_freePlaces_15 : decode cX3_freePlaces 15 = .ok (.ifnull 21, 3) := by decide +kernel
theorem dX3_freePlaces_18 : decode cX3_freePlaces 18 = .ok (.iload_n 3, 1) := by decide +kernel
theorem dX3_freePlaces_19 : decode cX3_freePlaces 19 = .ok (.aload 4, 2) := by decide +kernel
theorem dX3_freePlaces_21 : decode cX3_freePlaces 21 = .ok (.getfield 42, 3) := by decide +kernel
theorem dX3_freePlaces_24 : decode cX3_freePlaces 24 = .ok (.isub, 1) := by decide +kernel
theorem dX3_freePlaces_25 : decode cX3_freePlaces 25 = .ok (.istore_n 3, 1) := by decide +kernel
theorem dX3_freePlaces_26 : decode cX3_freePlaces 26 = .ok (.aload 4, 2) := by decide +kernel
theorem dX3_freePlaces_28 : decode cX3_freePlaces 28 = .ok (.getfield 43, 3) := by decide +kernel
theorem dX3_freePlaces_31 : decode cX3_freePlaces 31 = .ok (.astore 4, 2) := by decide +kernel
theorem dX3_freePlaces_33 : decode cX3_freePlaces 33 = .ok (.goto (-20), 3) := by decide +kernel
theorem dX3_freePlaces_36 : decode cX3_freePlaces 36 = .ok (.iload_n 3, 1) := by decide +kernel
theorem dX3_freePlaces_37 : decode cX3_freePlaces 37 = .ok (.ireturn, 1) := by decide +kernel
set_option maxRecDepth 20000 in
theorem ggX3_longestGap_X3_nearestBow : GoodIn wsX3_longestGap wsX3_nearestBow := goodIn_r _ [10, 11, 12, 13, 14, 15, 9, 16, 17, 34, 35, 36, 37, 38, 39, 40, 41] (by decide +kernel) (by decide +kernel)
set_option maxRecDepth 20000 in
theorem gX3_longestGap_X3_nearestBow : GoodIn wsX3_longestGap (wsV RX3 38 RX3 yX3_nearestBow wsX3_nearestBow) := goodIn_app (goodIn_of _ (by decide +kernel)) ggX3_longestGap_X3_nearestBow
theorem dX3_longestGap_0 : decode cX3_longestGap 0 = .ok (.iconst 0, 1) := by decide +kernel
theorem dX3_longestGap_1 : decode cX3_longestGap 1 = .ok (.istore_n 3, 1) := by decide +kernel
theorem dX3_longestGap_2 : decode cX3_longestGap 2 = .ok (.iconst 0, 1) := by decide +kernel
theorem dX3_longestGap_3 : decode cX3_longestGap 3 = .ok (.istore 4, 2) := by decide +kernel
theorem dX3_longestGap_5 : decode cX3_longestGap 5 = .ok (.aload_n 0, 1) := by decide +kernel
theorem dX3_longestGap_6 : decode cX3_longestGap 6 = .ok (.iload_n 1, 1) := by decide +kernel
theorem dX3_longestGap_7 : decode cX3_longestGap 7 = .ok (.iload_n 2, 1) := by decide +kernel
theorem dX3_longestGap_8 : decode cX3_longestGap 8 = .ok (.invokevirtual 38, 3) := by decide +kernel
theorem dX3_longestGap_11 : decode cX3_longestGap 11 = .ok (.astore 5, 2) := by decide +kernel
theorem dX3_longestGap_13 : decode cX3_longestGap 13 = .ok (.aload 5, 2) := by decide +kernel
theorem dX3_longestGap_15 : decode cX3_longestGap 15 = .ok (.ifnull 39, 3) := by decide +kernel
theorem dX3_longestGap_18 : decode cX3_longestGap 18 = .ok (.iload_n 3, 1) := by decide +kernel
theorem dX3_longestGap_19 : decode cX3_longestGap 19 = .ok (.aload 5, 2) := by decide +kernel
theorem dX3_longestGap_21 : decode cX3_longestGap 21 = .ok (.getfield 47, 3) := by decide +kernel
theorem dX3_longestGap_24 : decode cX3_longestGap 24 = .ok (.iload 4, 2) := by decide +kernel
theorem dX3_longestGap_26 : decode cX3_longestGap 26 = .ok (.isub, 1) := by decide +kernel
theorem dX3_longestGap_27 : decode cX3_longestGap 27 = .ok (.invokestatic 50, 3) := by decide +kernel
theorem dX3_longestGap_30 : decode cX3_longestGap 30 = .ok (.istore_n 3, 1) := by decide +kernel
theorem dX3_longestGap_31 : decode cX3_longestGap 31 = .ok (.aload 5, 2) := by decide +kernel
theorem dX3_longestGap_33 : decode cX3_longestGap 33 = .ok (.getfield 47, 3) := by decide +kernel
theorem dX3_longestGap_36 : decode cX3_longestGap 36 = .ok (.aload 5, 2) := by decide +kernel
theorem dX3_longestGap_38 : decode cX3_longestGap 38 = .ok (.getfield 42, 3) := by decide +kernel
theorem dX3_longestGap_41 : decode cX3_longestGap 41 = .ok (.iadd, 1) := by decide +kernel
theorem dX3_longestGap_42 : decode cX3_longestGap 42 = .ok (.istore 4, 2) := by decide +kernel
theorem dX3_longestGap_44 : decode cX3_longestGap 44 = .ok (.aload 5, 2) := by decide +kernel
theorem dX3_longestGap_46 : decode cX3_longestGap 46 = .ok (.getfield 43, 3) := by decide +kernel
theorem dX3_longestGap_49 : decode cX3_longestGap 49 = .ok (.astore 5, 2) := by decide +kernel
theorem dX3_longestGap_51 : decode cX3_longestGap 51 = .ok (.goto (-38), 3) := by decide +kernel
theorem dX3_longestGap_54 : decode cX3_longestGap 54 = .ok (.iload_n 3, 1) := by decide +kernel
theorem dX3_longestGap_55 : decode cX3_longestGap 55 = .ok (.aload_n 0, 1) := by decide +kernel
theorem dX3_longestGap_56 : decode cX3_longestGap 56 = .ok (.getfield 21, 3) := by decide +kernel
theorem dX3_longestGap_59 : decode cX3_longestGap 59 = .ok (.iload 4, 2) := by decide +kernel
theorem dX3_longestGap_61 : decode cX3_longestGap 61 = .ok (.isub, 1) := by decide +kernel
theorem dX3_longestGap_62 : decode cX3_longestGap 62 = .ok (.invokestatic 50, 3) := by decide +kernel
theorem dX3_longestGap_65 : decode cX3_longestGap 65 = .ok (.ireturn, 1) := by decide +kernel
set_option maxRecDepth 20000 in
theorem ggX3_firstGap_X3_nearestBow : GoodIn wsX3_firstGap wsX3_nearestBow := goodIn_r _ [6, 7, 8, 9, 10, 11, 5, 12, 13, 30, 31, 32, 33, 34, 35, 36, 37] (by decide +kernel) (by decide +kernel)
set_option maxRecDepth 20000 in
theorem gX3_firstGap_X3_nearestBow : GoodIn wsX3_firstGap (wsV RX3 38 RX3 yX3_nearestBow wsX3_nearestBow) := goodIn_app (goodIn_of _ (by decide +kernel)) ggX3_firstGap_X3_nearestBow
theorem dX3_firstGap_0 : decode cX3_firstGap 0 = .ok (.iconst 0, 1) := by decide +kernel
theorem dX3_firstGap_1 : decode cX3_firstGap 1 = .ok (.istore 4, 2) := by decide +kernel
theorem dX3_firstGap_3 : decode cX3_firstGap 3 = .ok (.aload_n 0, 1) := by decide +kernel
theorem dX3_firstGap_4 : decode cX3_firstGap 4 = .ok (.iload_n 1, 1) := by decide +kernel
theorem dX3_firstGap_5 : decode cX3_firstGap 5 = .ok (.iload_n 2, 1) := by decide +kernel
theorem dX3_firstGap_6 : decode cX3_firstGap 6 = .ok (.invokevirtual 38, 3) := by decide +kernel
theorem dX3_firstGap_9 : decode cX3_firstGap 9 = .ok (.astore 5, 2) := by decide +kernel
theorem dX3_firstGap_11 : decode cX3_firstGap 11 = .ok (.aload 5, 2) := by decide +kernel
theorem dX3_firstGap_13 : decode cX3_firstGap 13 = .ok (.ifnull 41, 3) := by decide +kernel
theorem dX3_firstGap_16 : decode cX3_firstGap 16 = .ok (.aload 5, 2) := by decide +kernel
theorem dX3_firstGap_18 : decode cX3_firstGap 18 = .ok (.getfield 47, 3) := by decide +kernel
theorem dX3_firstGap_21 : decode cX3_firstGap 21 = .ok (.iload 4, 2) := by decide +kernel
theorem dX3_firstGap_23 : decode cX3_firstGap 23 = .ok (.isub, 1) := by decide +kernel
theorem dX3_firstGap_24 : decode cX3_firstGap 24 = .ok (.iload_n 3, 1) := by decide +kernel
theorem dX3_firstGap_25 : decode cX3_firstGap 25 = .ok (.if_icmp .lt 6, 3) := by decide +kernel
theorem dX3_firstGap_28 : decode cX3_firstGap 28 = .ok (.iload 4, 2) := by decide +kernel
theorem dX3_firstGap_30 : decode cX3_firstGap 30 = .ok (.ireturn, 1) := by decide +kernel
theorem dX3_firstGap_31 : decode cX3_firstGap 31 = .ok (.aload 5, 2) := by decide +kernel
theorem dX3_firstGap_33 : decode cX3_firstGap 33 = .ok (.getfield 47, 3) := by decide +kernel
theorem dX3_firstGap_36 : decode cX3_firstGap 36 = .ok (.aload 5, 2) := by decide +kernel
theorem dX3_firstGap_38 : decode cX3_firstGap 38 = .ok (.getfield 42, 3) := by decide +kernel
theorem dX3_firstGap_41 : decode cX3_firstGap 41 = .ok (.iadd, 1) := by decide +kernel
theorem dX3_firstGap_42 : decode cX3_firstGap 42 = .ok (.istore 4, 2) := by decide +kernel
theorem dX3_firstGap_44 : decode cX3_firstGap 44 = .ok (.aload 5, 2) := by decide +kernel
theorem dX3_firstGap_46 : decode cX3_firstGap 46 = .ok (.getfield 43, 3) := by decide +kernel
theorem dX3_firstGap_49 : decode cX3_firstGap 49 = .ok (.astore 5, 2) := by decide +kernel
theorem dX3_firstGap_51 : decode cX3_firstGap 51 = .ok (.goto (-40), 3) := by decide +kernel
theorem dX3_firstGap_54 : decode cX3_firstGap 54 = .ok (.aload_n 0, 1) := by decide +kernel
theorem dX3_firstGap_55 : decode cX3_firstGap 55 = .ok (.getfield 21, 3) := by decide +kernel
theorem dX3_firstGap_58 : decode cX3_firstGap 58 = .ok (.iload 4, 2) := by decide +kernel
theorem dX3_firstGap_60 : decode cX3_firstGap 60 = .ok (.isub, 1) := by decide +kernel
theorem dX3_firstGap_61 : decode cX3_firstGap 61 = .ok (.iload_n 3, 1) := by decide +kernel
theorem dX3_firstGap_62 : decode cX3_firstGap 62 = .ok (.if_icmp .lt 8, 3) := by decide +kernel
theorem dX3_firstGap_65 : decode cX3_firstGap 65 = .ok (.iload 4, 2) := by decide +kernel
theorem dX3_firstGap_67 : decode cX3_firstGap 67 = .ok (.goto 4, 3) := by decide +kernel
theorem dX3_firstGap_70 : decode cX3_firstGap 70 = .ok (.iconst (-1), 1) := by decide +kernel
theorem dX3_firstGap_71 : decode cX3_firstGap 71 = .ok (.ireturn, 1) := by decide +kernel
set_option maxRecDepth 20000 in
theorem ggX3_mayStand_X3_tallStandsUnder : GoodIn wsX3_mayStand wsX3_tallStandsUnder := goodIn_r _ [6, 7, 8, 9, 5, 10, 11, 12, 13, 14, 15, 16, 17, 30, 31, 32, 33, 34, 35, 36, 37, 38, 39, 40, 41, 42, 43, 44, 45, 22, 23, 24, 25, 26, 27, 28, 29] (by decide +kernel) (by decide +kernel)
set_option maxRecDepth 20000 in
theorem gX3_mayStand_X3_tallStandsUnder : GoodIn wsX3_mayStand (wsV RX3 56 RX3 yX3_tallStandsUnder wsX3_tallStandsUnder) := goodIn_app (goodIn_of _ (by decide +kernel)) ggX3_mayStand_X3_tallStandsUnder
set_option maxRecDepth 20000 in
theorem ggX3_mayStand_X3_somethingOnDeckOne : GoodIn wsX3_mayStand wsX3_somethingOnDeckOne := goodIn_r _ [21, 12, 7, 8, 9, 5, 10, 11, 13, 14, 15, 16, 17, 22, 23, 24, 25, 26, 27, 28, 29] (by decide +kernel) (by decide +kernel)
set_option maxRecDepth 20000 in
theorem gX3_mayStand_X3_somethingOnDeckOne : GoodIn wsX3_mayStand (wsV RX3 60 RX3 yX3_somethingOnDeckOne wsX3_somethingOnDeckOne) := goodIn_app (goodIn_of _ (by decide +kernel)) ggX3_mayStand_X3_somethingOnDeckOne
theorem dX3_mayStand_0 : decode cX3_mayStand 0 = .ok (.iload_n 3, 1) := by decide +kernel
theorem dX3_mayStand_1 : decode cX3_mayStand 1 = .ok (.iconst 2, 1) := by decide +kernel
theorem dX3_mayStand_2 : decode cX3_mayStand 2 = .ok (.if_icmp .ne 7, 3) := by decide +kernel
theorem dX3_mayStand_5 : decode cX3_mayStand 5 = .ok (.iload_n 1, 1) := by decide +kernel
theorem dX3_mayStand_6 : decode cX3_mayStand 6 = .ok (.ifCond .gt 13, 3) := by decide +kernel
theorem dX3_mayStand_9 : decode cX3_mayStand 9 = .ok (.iload_n 3, 1) := by decide +kernel
theorem dX3_mayStand_10 : decode cX3_mayStand 10 = .ok (.iconst 1, 1) := by decide +kernel
theorem dX3_mayStand_11 : decode cX3_mayStand 11 = .ok (.if_icmp .ne 10, 3) := by decide +kernel
theorem dX3_mayStand_14 : decode cX3_mayStand 14 = .ok (.iload_n 1, 1) := by decide +kernel
theorem dX3_mayStand_15 : decode cX3_mayStand 15 = .ok (.iconst 1, 1) := by decide +kernel
theorem dX3_mayStand_16 : decode cX3_mayStand 16 = .ok (.if_icmp .le 5, 3) := by decide +kernel
theorem dX3_mayStand_19 : decode cX3_mayStand 19 = .ok (.iconst 0, 1) := by decide +kernel
theorem dX3_mayStand_20 : decode cX3_mayStand 20 = .ok (.ireturn, 1) := by decide +kernel
theorem dX3_mayStand_21 : decode cX3_mayStand 21 = .ok (.aload_n 0, 1) := by decide +kernel
theorem dX3_mayStand_22 : decode cX3_mayStand 22 = .ok (.getfield 24, 3) := by decide +kernel
theorem dX3_mayStand_25 : decode cX3_mayStand 25 = .ok (.ifCond .ne 5, 3) := by decide +kernel
theorem dX3_mayStand_28 : decode cX3_mayStand 28 = .ok (.iconst 1, 1) := by decide +kernel
theorem dX3_mayStand_29 : decode cX3_mayStand 29 = .ok (.ireturn, 1) := by decide +kernel
theorem dX3_mayStand_30 : decode cX3_mayStand 30 = .ok (.iload_n 1, 1) := by decide +kernel
theorem dX3_mayStand_31 : decode cX3_mayStand 31 = .ok (.iconst 1, 1) := by decide +kernel
theorem dX3_mayStand_32 : decode cX3_mayStand 32 = .ok (.if_icmp .ne 16, 3) := by decide +kernel
theorem dX3_mayStand_35 : decode cX3_mayStand 35 = .ok (.aload_n 0, 1) := by decide +kernel
theorem dX3_mayStand_36 : decode cX3_mayStand 36 = .ok (.invokevirtual 56, 3) := by decide +kernel
theorem dX3_mayStand_39 : decode cX3_mayStand 39 = .ok (.ifCond .ne 7, 3) := by decide +kernel
theorem dX3_mayStand_42 : decode cX3_mayStand 42 = .ok (.iconst 1, 1) := by decide +kernel
theorem dX3_mayStand_43 : decode cX3_mayStand 43 = .ok (.goto 4, 3) := by decide +kernel
theorem dX3_mayStand_46 : decode cX3_mayStand 46 = .ok (.iconst 0, 1) := by decide +kernel
theorem dX3_mayStand_47 : decode cX3_mayStand 47 = .ok (.ireturn, 1) := by decide +kernel
theorem dX3_mayStand_48 : decode cX3_mayStand 48 = .ok (.iload_n 1, 1) := by decide +kernel
theorem dX3_mayStand_49 : decode cX3_mayStand 49 = .ok (.ifCond .ne 17, 3) := by decide +kernel
theorem dX3_mayStand_52 : decode cX3_mayStand 52 = .ok (.iload_n 2, 1) := by decide +kernel
theorem dX3_mayStand_53 : decode cX3_mayStand 53 = .ok (.iconst 2, 1) := by decide +kernel
theorem dX3_mayStand_54 : decode cX3_mayStand 54 = .ok (.if_icmp .ge 12, 3) := by decide +kernel
theorem dX3_mayStand_57 : decode cX3_mayStand 57 = .ok (.iload_n 3, 1) := by decide +kernel
theorem dX3_mayStand_58 : decode cX3_mayStand 58 = .ok (.iconst 2, 1) := by decide +kernel
theorem dX3_mayStand_59 : decode cX3_mayStand 59 = .ok (.if_icmp .ne 7, 3) := by decide +kernel
theorem dX3_mayStand_62 : decode cX3_mayStand 62 = .ok (.iconst 1, 1) := by decide +kernel
theorem dX3_mayStand_63 : decode cX3_mayStand 63 = .ok (.goto 4, 3) := by decide +kernel
theorem dX3_mayStand_66 : decode cX3_mayStand 66 = .ok (.iconst 0, 1) := by decide +kernel
theorem dX3_mayStand_67 : decode cX3_mayStand 67 = .ok (.istore 4, 2) := by decide +kernel
theorem dX3_mayStand_69 : decode cX3_mayStand 69 = .ok (.iload 4, 2) := by decide +kernel
theorem dX3_mayStand_71 : decode cX3_mayStand 71 = .ok (.ifCond .eq 10, 3) := by decide +kernel
theorem dX3_mayStand_74 : decode cX3_mayStand 74 = .ok (.aload_n 0, 1) := by decide +kernel
theorem dX3_mayStand_75 : decode cX3_mayStand 75 = .ok (.invokevirtual 60, 3) := by decide +kernel
theorem dX3_mayStand_78 : decode cX3_mayStand 78 = .ok (.ifCond .ne 7, 3) := by decide +kernel
theorem dX3_mayStand_81 : decode cX3_mayStand 81 = .ok (.iconst 1, 1) := by decide +kernel
theorem dX3_mayStand_82 : decode cX3_mayStand 82 = .ok (.goto 4, 3) := by decide +kernel
theorem dX3_mayStand_85 : decode cX3_mayStand 85 = .ok (.iconst 0, 1) := by decide +kernel
theorem dX3_mayStand_86 : decode cX3_mayStand 86 = .ok (.ireturn, 1) := by decide +kernel
set_option maxRecDepth 20000 in
theorem ggX3_somethingOnDeckOne_X3_nearestBow : GoodIn wsX3_somethingOnDeckOne wsX3_nearestBow := goodIn_r _ [6, 7, 1, 8, 9, 10, 5, 11, 12, 13, 14, 15, 16, 17, 18, 19, 20] (by decide +kernel) (by decide +kernel)
set_option maxRecDepth 20000 in
theorem gX3_somethingOnDeckOne_X3_nearestBow : GoodIn wsX3_somethingOnDeckOne (wsV RX3 38 RX3 yX3_nearestBow wsX3_nearestBow) := goodIn_app (goodIn_of _ (by decide +kernel)) ggX3_somethingOnDeckOne_X3_nearestBow
theorem dX3_somethingOnDeckOne_0 : decode cX3_somethingOnDeckOne 0 = .ok (.iconst 0, 1) := by decide +kernel
theorem dX3_somethingOnDeckOne_1 : decode cX3_somethingOnDeckOne 1 = .ok (.istore_n 1, 1) := by decide +kernel
theorem dX3_somethingOnDeckOne_2 : decode cX3_somethingOnDeckOne 2 = .ok (.iload_n 1, 1) := by decide +kernel
theorem dX3_somethingOnDeckOne_3 : decode cX3_somethingOnDeckOne 3 = .ok (.aload_n 0, 1) := by decide +kernel
theorem dX3_somethingOnDeckOne_4 : decode cX3_somethingOnDeckOne 4 = .ok (.getfield 18, 3) := by decide +kernel
theorem dX3_somethingOnDeckOne_7 : decode cX3_somethingOnDeckOne 7 = .ok (.if_icmp .ge 20, 3) := by decide +kernel
theorem dX3_somethingOnDeckOne_10 : decode cX3_somethingOnDeckOne 10 = .ok (.aload_n 0, 1) := by decide +kernel
theorem dX3_somethingOnDeckOne_11 : decode cX3_somethingOnDeckOne 11 = .ok (.iconst 1, 1) := by decide +kernel
theorem dX3_somethingOnDeckOne_12 : decode cX3_somethingOnDeckOne 12 = .ok (.iload_n 1, 1) := by decide +kernel
theorem dX3_somethingOnDeckOne_13 : decode cX3_somethingOnDeckOne 13 = .ok (.invokevirtual 38, 3) := by decide +kernel
theorem dX3_somethingOnDeckOne_16 : decode cX3_somethingOnDeckOne 16 = .ok (.ifnull 5, 3) := by decide +kernel
theorem dX3_somethingOnDeckOne_19 : decode cX3_somethingOnDeckOne 19 = .ok (.iconst 1, 1) := by decide +kernel
theorem dX3_somethingOnDeckOne_20 : decode cX3_somethingOnDeckOne 20 = .ok (.ireturn, 1) := by decide +kernel
theorem dX3_somethingOnDeckOne_21 : decode cX3_somethingOnDeckOne 21 = .ok (.iinc 1 1, 3) := by decide +kernel
theorem dX3_somethingOnDeckOne_24 : decode cX3_somethingOnDeckOne 24 = .ok (.goto (-22), 3) := by decide +kernel
theorem dX3_somethingOnDeckOne_27 : decode cX3_somethingOnDeckOne 27 = .ok (.iconst 0, 1) := by decide +kernel
theorem dX3_somethingOnDeckOne_28 : decode cX3_somethingOnDeckOne 28 = .ok (.ireturn, 1) := by decide +kernel
set_option maxRecDepth 20000 in
theorem ggX3_tallStandsUnder_X3_nearestBow : GoodIn wsX3_tallStandsUnder wsX3_nearestBow := goodIn_r _ [5, 6, 7, 8, 9, 10, 4, 11, 12, 29, 30, 31, 32, 33, 34, 35, 36] (by decide +kernel) (by decide +kernel)
set_option maxRecDepth 20000 in
theorem gX3_tallStandsUnder_X3_nearestBow : GoodIn wsX3_tallStandsUnder (wsV RX3 38 RX3 yX3_nearestBow wsX3_nearestBow) := goodIn_app (goodIn_of _ (by decide +kernel)) ggX3_tallStandsUnder_X3_nearestBow
theorem dX3_tallStandsUnder_0 : decode cX3_tallStandsUnder 0 = .ok (.iconst 0, 1) := by decide +kernel
theorem dX3_tallStandsUnder_1 : decode cX3_tallStandsUnder 1 = .ok (.istore_n 1, 1) := by decide +kernel
theorem dX3_tallStandsUnder_2 : decode cX3_tallStandsUnder 2 = .ok (.iload_n 1, 1) := by decide +kernel
theorem dX3_tallStandsUnder_3 : decode cX3_tallStandsUnder 3 = .ok (.iconst 2, 1) := by decide +kernel
theorem dX3_tallStandsUnder_4 : decode cX3_tallStandsUnder 4 = .ok (.if_icmp .ge 38, 3) := by decide +kernel
theorem dX3_tallStandsUnder_7 : decode cX3_tallStandsUnder 7 = .ok (.aload_n 0, 1) := by decide +kernel
theorem dX3_tallStandsUnder_8 : decode cX3_tallStandsUnder 8 = .ok (.iconst 0, 1) := by decide +kernel
theorem dX3_tallStandsUnder_9 : decode cX3_tallStandsUnder 9 = .ok (.iload_n 1, 1) := by decide +kernel
theorem dX3_tallStandsUnder_10 : decode cX3_tallStandsUnder 10 = .ok (.invokevirtual 38, 3) := by decide +kernel
theorem dX3_tallStandsUnder_13 : decode cX3_tallStandsUnder 13 = .ok (.astore_n 2, 1) := by decide +kernel
theorem dX3_tallStandsUnder_14 : decode cX3_tallStandsUnder 14 = .ok (.aload_n 2, 1) := by decide +kernel
theorem dX3_tallStandsUnder_15 : decode cX3_tallStandsUnder 15 = .ok (.ifnull 21, 3) := by decide +kernel
theorem dX3_tallStandsUnder_18 : decode cX3_tallStandsUnder 18 = .ok (.aload_n 2, 1) := by decide +kernel
theorem dX3_tallStandsUnder_19 : decode cX3_tallStandsUnder 19 = .ok (.getfield 63, 3) := by decide +kernel
theorem dX3_tallStandsUnder_22 : decode cX3_tallStandsUnder 22 = .ok (.iconst 2, 1) := by decide +kernel
theorem dX3_tallStandsUnder_23 : decode cX3_tallStandsUnder 23 = .ok (.if_icmp .ne 5, 3) := by decide +kernel
theorem dX3_tallStandsUnder_26 : decode cX3_tallStandsUnder 26 = .ok (.iconst 1, 1) := by decide +kernel
theorem dX3_tallStandsUnder_27 : decode cX3_tallStandsUnder 27 = .ok (.ireturn, 1) := by decide +kernel
theorem dX3_tallStandsUnder_28 : decode cX3_tallStandsUnder 28 = .ok (.aload_n 2, 1) := by decide +kernel
theorem dX3_tallStandsUnder_29 : decode cX3_tallStandsUnder 29 = .ok (.getfield 43, 3) := by decide +kernel
theorem dX3_tallStandsUnder_32 : decode cX3_tallStandsUnder 32 = .ok (.astore_n 2, 1) := by decide +kernel
theorem dX3_tallStandsUnder_33 : decode cX3_tallStandsUnder 33 = .ok (.goto (-19), 3) := by decide +kernel
theorem dX3_tallStandsUnder_36 : decode cX3_tallStandsUnder 36 = .ok (.iinc 1 1, 3) := by decide +kernel
theorem dX3_tallStandsUnder_39 : decode cX3_tallStandsUnder 39 = .ok (.goto (-37), 3) := by decide +kernel
theorem dX3_tallStandsUnder_42 : decode cX3_tallStandsUnder 42 = .ok (.iconst 0, 1) := by decide +kernel
theorem dX3_tallStandsUnder_43 : decode cX3_tallStandsUnder 43 = .ok (.ireturn, 1) := by decide +kernel
set_option maxRecDepth 20000 in
theorem ggX3_placeByDeckRule_X3_freePlaces : GoodIn wsX3_placeByDeckRule wsX3_freePlaces := goodIn_r _ [7, 8, 9, 10, 11, 6, 12, 13, 2, 14, 15, 16, 17, 1, 48, 49, 50, 51, 52, 53, 54, 55, 56, 57, 58, 59, 60, 61, 62, 63, 64, 65, 66, 67, 68, 69, 70, 71] (by decide +kernel) (by decide +kernel)
set_option maxRecDepth 20000 in
theorem gX3_placeByDeckRule_X3_freePlaces : GoodIn wsX3_placeByDeckRule (wsV RX3 66 RX3 yX3_freePlaces wsX3_freePlaces) := goodIn_app (goodIn_of _ (by decide +kernel)) ggX3_placeByDeckRule_X3_freePlaces
set_option maxRecDepth 20000 in
theorem ggX3_placeByDeckRule_X3_mayStand : GoodIn wsX3_placeByDeckRule wsX3_mayStand := goodIn_r _ [21, 22, 23, 24, 25, 6, 26, 9, 10, 11, 12, 13, 2, 14, 15, 16, 17, 1, 27, 28, 29, 30, 48, 49, 50, 51, 52, 53, 54, 55, 56, 57, 58, 59, 60, 61, 62, 63, 64, 65, 66, 67, 68, 69, 70, 71] (by decide +kernel) (by decide +kernel)
set_option maxRecDepth 20000 in
theorem gX3_placeByDeckRule_X3_mayStand : GoodIn wsX3_placeByDeckRule (wsV RX3 69 RX3 yX3_mayStand wsX3_mayStand) := goodIn_app (goodIn_of _ (by decide +kernel)) ggX3_placeByDeckRule_X3_mayStand
set_option maxRecDepth 20000 in
theorem ggX3_placeByDeckRule_X3_firstGap : GoodIn wsX3_placeByDeckRule wsX3_firstGap := goodIn_r _ [34, 8, 9, 10, 11, 6, 12, 13, 2, 14, 15, 16, 17, 1, 56, 57, 58, 59, 60, 61, 62, 63, 64, 65, 66, 67, 68, 69, 70, 71, 48, 49, 50, 51, 52, 53, 54, 55] (by decide +kernel) (by decide +kernel)
set_option maxRecDepth 20000 in
theorem gX3_placeByDeckRule_X3_firstGap : GoodIn wsX3_placeByDeckRule (wsV RX3 73 RX3 yX3_firstGap wsX3_firstGap) := goodIn_app (goodIn_of _ (by decide +kernel)) ggX3_placeByDeckRule_X3_firstGap
set_option maxRecDepth 20000 in
theorem ggX3_placeByDeckRule_X3_putInPlace : GoodIn wsX3_placeByDeckRule wsX3_putInPlace := goodIn_r _ [38, 39, 40, 41, 42, 6, 43, 9, 10, 11, 12, 13, 2, 14, 15, 16, 17, 1, 44, 45, 46, 47, 56, 57, 58, 59, 60, 61, 62, 63, 64, 65, 66, 67, 68, 69, 70, 71, 48, 49, 50, 51, 52, 53, 54, 55] (by decide +kernel) (by decide +kernel)
set_option maxRecDepth 20000 in
theorem gX3_placeByDeckRule_X3_putInPlace : GoodIn wsX3_placeByDeckRule (wsV RX3 77 RX3 yX3_putInPlace wsX3_putInPlace) := goodIn_app (goodIn_of _ (by decide +kernel)) ggX3_placeByDeckRule_X3_putInPlace
theorem dX3_placeByDeckRule_0 : decode cX3_placeByDeckRule 0 = .ok (.iconst (-1), 1) := by decide +kernel
theorem dX3_placeByDeckRule_1 : decode cX3_placeByDeckRule 1 = .ok (.istore_n 2, 1) := by decide +kernel
theorem dX3_placeByDeckRule_2 : decode cX3_placeByDeckRule 2 = .ok (.iconst (-1), 1) := by decide +kernel
theorem dX3_placeByDeckRule_3 : decode cX3_placeByDeckRule 3 = .ok (.istore_n 3, 1) := by decide +kernel
theorem dX3_placeByDeckRule_4 : decode cX3_placeByDeckRule 4 = .ok (.iconst 0, 1) := by decide +kernel
theorem dX3_placeByDeckRule_5 : decode cX3_placeByDeckRule 5 = .ok (.istore 4, 2) := by decide +kernel
theorem dX3_placeByDeckRule_7 : decode cX3_placeByDeckRule 7 = .ok (.iconst 0, 1) := by decide +kernel
theorem dX3_placeByDeckRule_8 : decode cX3_placeByDeckRule 8 = .ok (.istore 5, 2) := by decide +kernel
theorem dX3_placeByDeckRule_10 : decode cX3_placeByDeckRule 10 = .ok (.iload 5, 2) := by decide +kernel
theorem dX3_placeByDeckRule_12 : decode cX3_placeByDeckRule 12 = .ok (.aload_n 0, 1) := by decide +kernel
theorem dX3_placeByDeckRule_13 : decode cX3_placeByDeckRule 13 = .ok (.getfield 15, 3) := by decide +kernel
theorem dX3_placeByDeckRule_16 : decode cX3_placeByDeckRule 16 = .ok (.if_icmp .ge 90, 3) := by decide +kernel
theorem dX3_placeByDeckRule_19 : decode cX3_placeByDeckRule 19 = .ok (.iconst 0, 1) := by decide +kernel
theorem dX3_placeByDeckRule_20 : decode cX3_placeByDeckRule 20 = .ok (.istore 6, 2) := by decide +kernel
theorem dX3_placeByDeckRule_22 : decode cX3_placeByDeckRule 22 = .ok (.iload 6, 2) := by decide +kernel
theorem dX3_placeByDeckRule_24 : decode cX3_placeByDeckRule 24 = .ok (.aload_n 0, 1) := by decide +kernel
theorem dX3_placeByDeckRule_25 : decode cX3_placeByDeckRule 25 = .ok (.getfield 18, 3) := by decide +kernel
theorem dX3_placeByDeckRule_28 : decode cX3_placeByDeckRule 28 = .ok (.if_icmp .ge 72, 3) := by decide +kernel
theorem dX3_placeByDeckRule_31 : decode cX3_placeByDeckRule 31 = .ok (.aload_n 0, 1) := by decide +kernel
theorem dX3_placeByDeckRule_32 : decode cX3_placeByDeckRule 32 = .ok (.iload 5, 2) := by decide +kernel
theorem dX3_placeByDeckRule_34 : decode cX3_placeByDeckRule 34 = .ok (.iload 6, 2) := by decide +kernel
theorem dX3_placeByDeckRule_36 : decode cX3_placeByDeckRule 36 = .ok (.invokevirtual 66, 3) := by decide +kernel
theorem dX3_placeByDeckRule_39 : decode cX3_placeByDeckRule 39 = .ok (.istore 7, 2) := by decide +kernel
theorem dX3_placeByDeckRule_41 : decode cX3_placeByDeckRule 41 = .ok (.iload_n 2, 1) := by decide +kernel
theorem dX3_placeByDeckRule_42 : decode cX3_placeByDeckRule 42 = .ok (.iconst (-1), 1) := by decide +kernel
theorem dX3_placeByDeckRule_43 : decode cX3_placeByDeckRule 43 = .ok (.if_icmp .eq 10, 3) := by decide +kernel
theorem dX3_placeByDeckRule_46 : decode cX3_placeByDeckRule 46 = .ok (.iload 7, 2) := by decide +kernel
theorem dX3_placeByDeckRule_48 : decode cX3_placeByDeckRule 48 = .ok (.iload 4, 2) := by decide +kernel
theorem dX3_placeByDeckRule_50 : decode cX3_placeByDeckRule 50 = .ok (.if_icmp .ge 44, 3) := by decide +kernel
theorem dX3_placeByDeckRule_53 : decode cX3_placeByDeckRule 53 = .ok (.aload_n 0, 1) := by decide +kernel
theorem dX3_placeByDeckRule_54 : decode cX3_placeByDeckRule 54 = .ok (.iload 5, 2) := by decide +kernel
theorem dX3_placeByDeckRule_56 : decode cX3_placeByDeckRule 56 = .ok (.iload 6, 2) := by decide +kernel
theorem dX3_placeByDeckRule_58 : decode cX3_placeByDeckRule 58 = .ok (.aload_n 1, 1) := by decide +kernel
theorem dX3_placeByDeckRule_59 : decode cX3_placeByDeckRule 59 = .ok (.getfield 63, 3) := by decide +kernel
theorem dX3_placeByDeckRule_62 : decode cX3_placeByDeckRule 62 = .ok (.invokevirtual 69, 3) := by decide +kernel
theorem dX3_placeByDeckRule_65 : decode cX3_placeByDeckRule 65 = .ok (.ifCond .eq 29, 3) := by decide +kernel
theorem dX3_placeByDeckRule_68 : decode cX3_placeByDeckRule 68 = .ok (.aload_n 0, 1) := by decide +kernel
theorem dX3_placeByDeckRule_69 : decode cX3_placeByDeckRule 69 = .ok (.iload 5, 2) := by decide +kernel
theorem dX3_placeByDeckRule_71 : decode cX3_placeByDeckRule 71 = .ok (.iload 6, 2) := by decide +kernel
theorem dX3_placeByDeckRule_73 : decode cX3_placeByDeckRule 73 = .ok (.aload_n 1, 1) := by decide +kernel
theorem dX3_placeByDeckRule_74 : decode cX3_placeByDeckRule 74 = .ok (.getfield 42, 3) := by decide +kernel
theorem dX3_placeByDeckRule_77 : decode cX3_placeByDeckRule 77 = .ok (.invokevirtual 73, 3) := by decide +kernel
theorem dX3_placeByDeckRule_80 : decode cX3_placeByDeckRule 80 = .ok (.iconst (-1), 1) := by decide +kernel
theorem dX3_placeByDeckRule_81 : decode cX3_placeByDeckRule 81 = .ok (.if_icmp .eq 13, 3) := by decide +kernel
theorem dX3_placeByDeckRule_84 : decode cX3_placeByDeckRule 84 = .ok (.iload 5, 2) := by decide +kernel
theorem dX3_placeByDeckRule_86 : decode cX3_placeByDeckRule 86 = .ok (.istore_n 2, 1) := by decide +kernel
theorem dX3_placeByDeckRule_87 : decode cX3_placeByDeckRule 87 = .ok (.iload 6, 2) := by decide +kernel
theorem dX3_placeByDeckRule_89 : decode cX3_placeByDeckRule 89 = .ok (.istore_n 3, 1) := by decide +kernel
theorem dX3_placeByDeckRule_90 : decode cX3_placeByDeckRule 90 = .ok (.iload 7, 2) := by decide +kernel
theorem dX3_placeByDeckRule_92 : decode cX3_placeByDeckRule 92 = .ok (.istore 4, 2) := by decide +kernel
theorem dX3_placeByDeckRule_94 : decode cX3_placeByDeckRule 94 = .ok (.iinc 6 1, 3) := by decide +kernel
theorem dX3_placeByDeckRule_97 : decode cX3_placeByDeckRule 97 = .ok (.goto (-75), 3) := by decide +kernel
theorem dX3_placeByDeckRule_100 : decode cX3_placeByDeckRule 100 = .ok (.iinc 5 1, 3) := by decide +kernel
theorem dX3_placeByDeckRule_103 : decode cX3_placeByDeckRule 103 = .ok (.goto (-93), 3) := by decide +kernel
theorem dX3_placeByDeckRule_106 : decode cX3_placeByDeckRule 106 = .ok (.iload_n 2, 1) := by decide +kernel
theorem dX3_placeByDeckRule_107 : decode cX3_placeByDeckRule 107 = .ok (.iconst (-1), 1) := by decide +kernel
theorem dX3_placeByDeckRule_108 : decode cX3_placeByDeckRule 108 = .ok (.if_icmp .ne 5, 3) := by decide +kernel
theorem dX3_placeByDeckRule_111 : decode cX3_placeByDeckRule 111 = .ok (.iconst 0, 1) := by decide +kernel
theorem dX3_placeByDeckRule_112 : decode cX3_placeByDeckRule 112 = .ok (.ireturn, 1) := by decide +kernel
theorem dX3_placeByDeckRule_113 : decode cX3_placeByDeckRule 113 = .ok (.aload_n 0, 1) := by decide +kernel
theorem dX3_placeByDeckRule_114 : decode cX3_placeByDeckRule 114 = .ok (.aload_n 1, 1) := by decide +kernel
theorem dX3_placeByDeckRule_115 : decode cX3_placeByDeckRule 115 = .ok (.iload_n 2, 1) := by decide +kernel
theorem dX3_placeByDeckRule_116 : decode cX3_placeByDeckRule 116 = .ok (.iload_n 3, 1) := by decide +kernel
theorem dX3_placeByDeckRule_117 : decode cX3_placeByDeckRule 117 = .ok (.aload_n 0, 1) := by decide +kernel
theorem dX3_placeByDeckRule_118 : decode cX3_placeByDeckRule 118 = .ok (.iload_n 2, 1) := by decide +kernel
theorem dX3_placeByDeckRule_119 : decode cX3_placeByDeckRule 119 = .ok (.iload_n 3, 1) := by decide +kernel
theorem dX3_placeByDeckRule_120 : decode cX3_placeByDeckRule 120 = .ok (.aload_n 1, 1) := by decide +kernel
theorem dX3_placeByDeckRule_121 : decode cX3_placeByDeckRule 121 = .ok (.getfield 42, 3) := by decide +kernel
theorem dX3_placeByDeckRule_124 : decode cX3_placeByDeckRule 124 = .ok (.invokevirtual 73, 3) := by decide +kernel
theorem dX3_placeByDeckRule_127 : decode cX3_placeByDeckRule 127 = .ok (.invokevirtual 77, 3) := by decide +kernel
theorem dX3_placeByDeckRule_130 : decode cX3_placeByDeckRule 130 = .ok (.iconst 1, 1) := by decide +kernel
theorem dX3_placeByDeckRule_131 : decode cX3_placeByDeckRule 131 = .ok (.ireturn, 1) := by decide +kernel
set_option maxRecDepth 20000 in
theorem ggX3_putInPlace_X3_nextAhead : GoodIn wsX3_putInPlace wsX3_nextAhead := goodIn_r _ [6, 7, 8, 9, 5, 10, 11, 12, 13, 14, 15, 16, 17, 22, 23, 24, 25, 26, 27, 28, 29, 30, 31, 32, 33, 34, 35, 36, 37, 38, 39, 40, 41, 42, 43, 44, 45] (by decide +kernel) (by decide +kernel)
set_option maxRecDepth 20000 in
theorem gX3_putInPlace_X3_nextAhead : GoodIn wsX3_putInPlace (wsV RX3 87 RX3 yX3_nextAhead wsX3_nextAhead) := goodIn_app (goodIn_of _ (by decide +kernel)) ggX3_putInPlace_X3_nextAhead
set_option maxRecDepth 20000 in
theorem ggX3_putInPlace_X3_nearestBow : GoodIn wsX3_putInPlace wsX3_nearestBow := goodIn_r _ [10, 11, 12, 13, 14, 15, 5, 16, 17, 38, 39, 40, 41, 42, 43, 44, 45] (by decide +kernel) (by decide +kernel)
set_option maxRecDepth 20000 in
theorem gX3_putInPlace_X3_nearestBow : GoodIn wsX3_putInPlace (wsV RX3 38 RX3 yX3_nearestBow wsX3_nearestBow) := goodIn_app (goodIn_of _ (by decide +kernel)) ggX3_putInPlace_X3_nearestBow
set_option maxRecDepth 20000 in
theorem ggX3_putInPlace_X3_chain : GoodIn wsX3_putInPlace wsX3_chain := goodIn_r _ [21, 11, 12, 13, 14, 15, 5, 16, 17, 22, 23, 24, 25, 26, 27, 28, 29, 30, 31, 32, 33, 34, 35, 36, 37, 38, 39, 40, 41, 42, 43, 44, 45] (by decide +kernel) (by decide +kernel)
set_option maxRecDepth 20000 in
theorem gX3_putInPlace_X3_chain : GoodIn wsX3_putInPlace (wsV RX3 91 RX3 yX3_chain wsX3_chain) := goodIn_app (goodIn_of _ (by decide +kernel)) ggX3_putInPlace_X3_chain
theorem dX3_putInPlace_0 : decode cX3_putInPlace 0 = .ok (.aload_n 1, 1) := by decide +kernel
theorem dX3_putInPlace_1 : decode cX3_putInPlace 1 = .ok (.iload_n 2, 1) := by decide +kernel
theorem dX3_putInPlace_2 : decode cX3_putInPlace 2 = .ok (.putfield 81, 3) := by decide +kernel
theorem dX3_putInPlace_5 : decode cX3_putInPlace 5 = .ok (.aload_n 1, 1) := by decide +kernel
theorem dX3_putInPlace_6 : decode cX3_putInPlace 6 = .ok (.iload_n 3, 1) := by decide +kernel
theorem dX3_putInPlace_7 : decode cX3_putInPlace 7 = .ok (.putfield 84, 3) := by decide +kernel
theorem dX3_putInPlace_10 : decode cX3_putInPlace 10 = .ok (.aload_n 1, 1) := by decide +kernel
theorem dX3_putInPlace_11 : decode cX3_putInPlace 11 = .ok (.iload 4, 2) := by decide +kernel
theorem dX3_putInPlace_13 : decode cX3_putInPlace 13 = .ok (.putfield 47, 3) := by decide +kernel
theorem dX3_putInPlace_16 : decode cX3_putInPlace 16 = .ok (.aload_n 0, 1) := by decide +kernel
theorem dX3_putInPlace_17 : decode cX3_putInPlace 17 = .ok (.aload_n 1, 1) := by decide +kernel
theorem dX3_putInPlace_18 : decode cX3_putInPlace 18 = .ok (.invokevirtual 87, 3) := by decide +kernel
theorem dX3_putInPlace_21 : decode cX3_putInPlace 21 = .ok (.astore 5, 2) := by decide +kernel
theorem dX3_putInPlace_23 : decode cX3_putInPlace 23 = .ok (.aload_n 1, 1) := by decide +kernel
theorem dX3_putInPlace_24 : decode cX3_putInPlace 24 = .ok (.aload 5, 2) := by decide +kernel
theorem dX3_putInPlace_26 : decode cX3_putInPlace 26 = .ok (.ifnonnull 12, 3) := by decide +kernel
theorem dX3_putInPlace_29 : decode cX3_putInPlace 29 = .ok (.aload_n 0, 1) := by decide +kernel
theorem dX3_putInPlace_30 : decode cX3_putInPlace 30 = .ok (.iload_n 2, 1) := by decide +kernel
theorem dX3_putInPlace_31 : decode cX3_putInPlace 31 = .ok (.iload_n 3, 1) := by decide +kernel
theorem dX3_putInPlace_32 : decode cX3_putInPlace 32 = .ok (.invokevirtual 38, 3) := by decide +kernel
theorem dX3_putInPlace_35 : decode cX3_putInPlace 35 = .ok (.goto 8, 3) := by decide +kernel
theorem dX3_putInPlace_38 : decode cX3_putInPlace 38 = .ok (.aload 5, 2) := by decide +kernel
theorem dX3_putInPlace_40 : decode cX3_putInPlace 40 = .ok (.getfield 43, 3) := by decide +kernel
theorem dX3_putInPlace_43 : decode cX3_putInPlace 43 = .ok (.putfield 43, 3) := by decide +kernel
theorem dX3_putInPlace_46 : decode cX3_putInPlace 46 = .ok (.aload_n 0, 1) := by decide +kernel
theorem dX3_putInPlace_47 : decode cX3_putInPlace 47 = .ok (.aload_n 1, 1) := by decide +kernel
theorem dX3_putInPlace_48 : decode cX3_putInPlace 48 = .ok (.aload 5, 2) := by decide +kernel
theorem dX3_putInPlace_50 : decode cX3_putInPlace 50 = .ok (.aload_n 1, 1) := by decide +kernel
theorem dX3_putInPlace_51 : decode cX3_putInPlace 51 = .ok (.invokevirtual 91, 3) := by decide +kernel
theorem dX3_putInPlace_54 : decode cX3_putInPlace 54 = .ok (.aload_n 0, 1) := by decide +kernel
theorem dX3_putInPlace_55 : decode cX3_putInPlace 55 = .ok (.dup, 1) := by decide +kernel
theorem dX3_putInPlace_56 : decode cX3_putInPlace 56 = .ok (.getfield 95, 3) := by decide +kernel
theorem dX3_putInPlace_59 : decode cX3_putInPlace 59 = .ok (.iconst 1, 1) := by decide +kernel
theorem dX3_putInPlace_60 : decode cX3_putInPlace 60 = .ok (.iadd, 1) := by decide +kernel
theorem dX3_putInPlace_61 : decode cX3_putInPlace 61 = .ok (.putfield 95, 3) := by decide +kernel
theorem dX3_putInPlace_64 : decode cX3_putInPlace 64 = .ok (.return_, 1) := by decide +kernel
set_option maxRecDepth 20000 in
theorem ggX3_clearPlace_X3_nextAhead : GoodIn wsX3_clearPlace wsX3_nextAhead := goodIn_r _ [6, 7, 8, 9, 5, 10, 11, 12, 13, 14, 15, 16, 17, 22, 23, 24, 25, 26, 27, 28, 29, 30, 31, 32, 33, 34, 35, 36, 37, 38, 39, 40, 41, 42, 43, 44, 45] (by decide +kernel) (by decide +kernel)
set_option maxRecDepth 20000 in
theorem gX3_clearPlace_X3_nextAhead : GoodIn wsX3_clearPlace (wsV RX3 87 RX3 yX3_nextAhead wsX3_nextAhead) := goodIn_app (goodIn_of _ (by decide +kernel)) ggX3_clearPlace_X3_nextAhead
set_option maxRecDepth 20000 in
theorem ggX3_clearPlace_X3_chain : GoodIn wsX3_clearPlace wsX3_chain := goodIn_r _ [21, 11, 12, 13, 14, 15, 5, 16, 17, 22, 23, 24, 25, 26, 27, 28, 29, 30, 31, 32, 33, 34, 35, 36, 37, 38, 39, 40, 41, 42, 43, 44, 45] (by decide +kernel) (by decide +kernel)
set_option maxRecDepth 20000 in
theorem gX3_clearPlace_X3_chain : GoodIn wsX3_clearPlace (wsV RX3 91 RX3 yX3_chain wsX3_chain) := goodIn_app (goodIn_of _ (by decide +kernel)) ggX3_clearPlace_X3_chain
theorem dX3_clearPlace_0 : decode cX3_clearPlace 0 = .ok (.aload_n 0, 1) := by decide +kernel
theorem dX3_clearPlace_1 : decode cX3_clearPlace 1 = .ok (.aload_n 1, 1) := by decide +kernel
theorem dX3_clearPlace_2 : decode cX3_clearPlace 2 = .ok (.aload_n 0, 1) := by decide +kernel
theorem dX3_clearPlace_3 : decode cX3_clearPlace 3 = .ok (.aload_n 1, 1) := by decide +kernel
theorem dX3_clearPlace_4 : decode cX3_clearPlace 4 = .ok (.invokevirtual 87, 3) := by decide +kernel
theorem dX3_clearPlace_7 : decode cX3_clearPlace 7 = .ok (.aload_n 1, 1) := by decide +kernel
theorem dX3_clearPlace_8 : decode cX3_clearPlace 8 = .ok (.getfield 43, 3) := by decide +kernel
theorem dX3_clearPlace_11 : decode cX3_clearPlace 11 = .ok (.invokevirtual 91, 3) := by decide +kernel
theorem dX3_clearPlace_14 : decode cX3_clearPlace 14 = .ok (.aload_n 1, 1) := by decide +kernel
theorem dX3_clearPlace_15 : decode cX3_clearPlace 15 = .ok (.aconst_null, 1) := by decide +kernel
theorem dX3_clearPlace_16 : decode cX3_clearPlace 16 = .ok (.putfield 43, 3) := by decide +kernel
theorem dX3_clearPlace_19 : decode cX3_clearPlace 19 = .ok (.aload_n 1, 1) := by decide +kernel
theorem dX3_clearPlace_20 : decode cX3_clearPlace 20 = .ok (.iconst (-1), 1) := by decide +kernel
theorem dX3_clearPlace_21 : decode cX3_clearPlace 21 = .ok (.putfield 81, 3) := by decide +kernel
theorem dX3_clearPlace_24 : decode cX3_clearPlace 24 = .ok (.aload_n 1, 1) := by decide +kernel
theorem dX3_clearPlace_25 : decode cX3_clearPlace 25 = .ok (.iconst (-1), 1) := by decide +kernel
theorem dX3_clearPlace_26 : decode cX3_clearPlace 26 = .ok (.putfield 84, 3) := by decide +kernel
theorem dX3_clearPlace_29 : decode cX3_clearPlace 29 = .ok (.aload_n 1, 1) := by decide +kernel
theorem dX3_clearPlace_30 : decode cX3_clearPlace 30 = .ok (.iconst (-1), 1) := by decide +kernel
theorem dX3_clearPlace_31 : decode cX3_clearPlace 31 = .ok (.putfield 47, 3) := by decide +kernel
theorem dX3_clearPlace_34 : decode cX3_clearPlace 34 = .ok (.aload_n 0, 1) := by decide +kernel
theorem dX3_clearPlace_35 : decode cX3_clearPlace 35 = .ok (.dup, 1) := by decide +kernel
theorem dX3_clearPlace_36 : decode cX3_clearPlace 36 = .ok (.getfield 95, 3) := by decide +kernel
theorem dX3_clearPlace_39 : decode cX3_clearPlace 39 = .ok (.iconst 1, 1) := by decide +kernel
theorem dX3_clearPlace_40 : decode cX3_clearPlace 40 = .ok (.isub, 1) := by decide +kernel
theorem dX3_clearPlace_41 : decode cX3_clearPlace 41 = .ok (.putfield 95, 3) := by decide +kernel
theorem dX3_clearPlace_44 : decode cX3_clearPlace 44 = .ok (.return_, 1) := by decide +kernel
set_option maxRecDepth 20000 in
theorem ggX3_nextAhead_X3_nearestBow : GoodIn wsX3_nextAhead wsX3_nearestBow := goodIn_r _ [5, 6, 7, 8, 9, 10, 4, 11, 12, 29, 30, 31, 32, 33, 34, 35, 36] (by decide +kernel) (by decide +kernel)
set_option maxRecDepth 20000 in
theorem gX3_nextAhead_X3_nearestBow : GoodIn wsX3_nextAhead (wsV RX3 38 RX3 yX3_nearestBow wsX3_nearestBow) := goodIn_app (goodIn_of _ (by decide +kernel)) ggX3_nextAhead_X3_nearestBow
theorem dX3_nextAhead_0 : decode cX3_nextAhead 0 = .ok (.aconst_null, 1) := by decide +kernel
theorem dX3_nextAhead_1 : decode cX3_nextAhead 1 = .ok (.astore_n 2, 1) := by decide +kernel
theorem dX3_nextAhead_2 : decode cX3_nextAhead 2 = .ok (.aload_n 0, 1) := by decide +kernel
theorem dX3_nextAhead_3 : decode cX3_nextAhead 3 = .ok (.aload_n 1, 1) := by decide +kernel
theorem dX3_nextAhead_4 : decode cX3_nextAhead 4 = .ok (.getfield 81, 3) := by decide +kernel
theorem dX3_nextAhead_7 : decode cX3_nextAhead 7 = .ok (.aload_n 1, 1) := by decide +kernel
theorem dX3_nextAhead_8 : decode cX3_nextAhead 8 = .ok (.getfield 84, 3) := by decide +kernel
theorem dX3_nextAhead_11 : decode cX3_nextAhead 11 = .ok (.invokevirtual 38, 3) := by decide +kernel
theorem dX3_nextAhead_14 : decode cX3_nextAhead 14 = .ok (.astore_n 3, 1) := by decide +kernel
theorem dX3_nextAhead_15 : decode cX3_nextAhead 15 = .ok (.aload_n 3, 1) := by decide +kernel
theorem dX3_nextAhead_16 : decode cX3_nextAhead 16 = .ok (.ifnull 24, 3) := by decide +kernel
theorem dX3_nextAhead_19 : decode cX3_nextAhead 19 = .ok (.aload_n 3, 1) := by decide +kernel
theorem dX3_nextAhead_20 : decode cX3_nextAhead 20 = .ok (.getfield 47, 3) := by decide +kernel
theorem dX3_nextAhead_23 : decode cX3_nextAhead 23 = .ok (.aload_n 1, 1) := by decide +kernel
theorem dX3_nextAhead_24 : decode cX3_nextAhead 24 = .ok (.getfield 47, 3) := by decide +kernel
theorem dX3_nextAhead_27 : decode cX3_nextAhead 27 = .ok (.if_icmp .ge 13, 3) := by decide +kernel
theorem dX3_nextAhead_30 : decode cX3_nextAhead 30 = .ok (.aload_n 3, 1) := by decide +kernel
theorem dX3_nextAhead_31 : decode cX3_nextAhead 31 = .ok (.astore_n 2, 1) := by decide +kernel
theorem dX3_nextAhead_32 : decode cX3_nextAhead 32 = .ok (.aload_n 3, 1) := by decide +kernel
theorem dX3_nextAhead_33 : decode cX3_nextAhead 33 = .ok (.getfield 43, 3) := by decide +kernel
theorem dX3_nextAhead_36 : decode cX3_nextAhead 36 = .ok (.astore_n 3, 1) := by decide +kernel
theorem dX3_nextAhead_37 : decode cX3_nextAhead 37 = .ok (.goto (-22), 3) := by decide +kernel
theorem dX3_nextAhead_40 : decode cX3_nextAhead 40 = .ok (.aload_n 2, 1) := by decide +kernel
theorem dX3_nextAhead_41 : decode cX3_nextAhead 41 = .ok (.areturn, 1) := by decide +kernel
set_option maxRecDepth 20000 in
theorem ggX3_chain_X3_hasLane : GoodIn wsX3_chain wsX3_hasLane := goodIn_r _ [7, 8, 2, 25, 26, 27, 28, 29, 30, 31, 32] (by decide +kernel) (by decide +kernel)
set_option maxRecDepth 20000 in
theorem gX3_chain_X3_hasLane : GoodIn wsX3_chain (wsV RX3 34 RX3 yX3_hasLane wsX3_hasLane) := goodIn_app (goodIn_of _ (by decide +kernel)) ggX3_chain_X3_hasLane
theorem dX3_chain_0 : decode cX3_chain 0 = .ok (.aload_n 2, 1) := by decide +kernel
theorem dX3_chain_1 : decode cX3_chain 1 = .ok (.ifnull 11, 3) := by decide +kernel
theorem dX3_chain_4 : decode cX3_chain 4 = .ok (.aload_n 2, 1) := by decide +kernel
theorem dX3_chain_5 : decode cX3_chain 5 = .ok (.aload_n 3, 1) := by decide +kernel
theorem dX3_chain_6 : decode cX3_chain 6 = .ok (.putfield 43, 3) := by decide +kernel
theorem dX3_chain_9 : decode cX3_chain 9 = .ok (.goto 38, 3) := by decide +kernel
theorem dX3_chain_12 : decode cX3_chain 12 = .ok (.aload_n 0, 1) := by decide +kernel
theorem dX3_chain_13 : decode cX3_chain 13 = .ok (.aload_n 1, 1) := by decide +kernel
theorem dX3_chain_14 : decode cX3_chain 14 = .ok (.getfield 81, 3) := by decide +kernel
theorem dX3_chain_17 : decode cX3_chain 17 = .ok (.aload_n 1, 1) := by decide +kernel
theorem dX3_chain_18 : decode cX3_chain 18 = .ok (.getfield 84, 3) := by decide +kernel
theorem dX3_chain_21 : decode cX3_chain 21 = .ok (.invokevirtual 34, 3) := by decide +kernel
theorem dX3_chain_24 : decode cX3_chain 24 = .ok (.ifCond .eq 23, 3) := by decide +kernel
theorem dX3_chain_27 : decode cX3_chain 27 = .ok (.aload_n 0, 1) := by decide +kernel
theorem dX3_chain_28 : decode cX3_chain 28 = .ok (.getfield 30, 3) := by decide +kernel
theorem dX3_chain_31 : decode cX3_chain 31 = .ok (.aload_n 1, 1) := by decide +kernel
theorem dX3_chain_32 : decode cX3_chain 32 = .ok (.getfield 81, 3) := by decide +kernel
theorem dX3_chain_35 : decode cX3_chain 35 = .ok (.aload_n 0, 1) := by decide +kernel
theorem dX3_chain_36 : decode cX3_chain 36 = .ok (.getfield 18, 3) := by decide +kernel
theorem dX3_chain_39 : decode cX3_chain 39 = .ok (.imul, 1) := by decide +kernel
theorem dX3_chain_40 : decode cX3_chain 40 = .ok (.aload_n 1, 1) := by decide +kernel
theorem dX3_chain_41 : decode cX3_chain 41 = .ok (.getfield 84, 3) := by decide +kernel
theorem dX3_chain_44 : decode cX3_chain 44 = .ok (.iadd, 1) := by decide +kernel
theorem dX3_chain_45 : decode cX3_chain 45 = .ok (.aload_n 3, 1) := by decide +kernel
theorem dX3_chain_46 : decode cX3_chain 46 = .ok (.aastore, 1) := by decide +kernel
theorem dX3_chain_47 : decode cX3_chain 47 = .ok (.return_, 1) := by decide +kernel
theorem dX4_init_0 : decode cX4_init 0 = .ok (.aload_n 0, 1) := by decide +kernel
theorem dX4_init_1 : decode cX4_init 1 = .ok (.invokespecial 3, 3) := by decide +kernel
theorem dX4_init_4 : decode cX4_init 4 = .ok (.aload_n 0, 1) := by decide +kernel
theorem dX4_init_5 : decode cX4_init 5 = .ok (.iconst 0, 1) := by decide +kernel
theorem dX4_init_6 : decode cX4_init 6 = .ok (.putfield 9, 3) := by decide +kernel
theorem dX4_init_9 : decode cX4_init 9 = .ok (.aload_n 0, 1) := by decide +kernel
theorem dX4_init_10 : decode cX4_init 10 = .ok (.iconst (-1), 1) := by decide +kernel
theorem dX4_init_11 : decode cX4_init 11 = .ok (.putfield 15, 3) := by decide +kernel
theorem dX4_init_14 : decode cX4_init 14 = .ok (.aload_n 0, 1) := by decide +kernel
theorem dX4_init_15 : decode cX4_init 15 = .ok (.iconst (-1), 1) := by decide +kernel
theorem dX4_init_16 : decode cX4_init 16 = .ok (.putfield 18, 3) := by decide +kernel
theorem dX4_init_19 : decode cX4_init 19 = .ok (.aload_n 0, 1) := by decide +kernel
theorem dX4_init_20 : decode cX4_init 20 = .ok (.iconst (-1), 1) := by decide +kernel
theorem dX4_init_21 : decode cX4_init 21 = .ok (.putfield 21, 3) := by decide +kernel
theorem dX4_init_24 : decode cX4_init 24 = .ok (.aload_n 0, 1) := by decide +kernel
theorem dX4_init_25 : decode cX4_init 25 = .ok (.iconst (-1), 1) := by decide +kernel
theorem dX4_init_26 : decode cX4_init 26 = .ok (.putfield 24, 3) := by decide +kernel
theorem dX4_init_29 : decode cX4_init 29 = .ok (.aload_n 0, 1) := by decide +kernel
theorem dX4_init_30 : decode cX4_init 30 = .ok (.iconst (-1), 1) := by decide +kernel
theorem dX4_init_31 : decode cX4_init 31 = .ok (.putfield 27, 3) := by decide +kernel
theorem dX4_init_34 : decode cX4_init 34 = .ok (.aload_n 0, 1) := by decide +kernel
theorem dX4_init_35 : decode cX4_init 35 = .ok (.iload_n 1, 1) := by decide +kernel
theorem dX4_init_36 : decode cX4_init 36 = .ok (.putfield 30, 3) := by decide +kernel
theorem dX4_init_39 : decode cX4_init 39 = .ok (.aload_n 0, 1) := by decide +kernel
theorem dX4_init_40 : decode cX4_init 40 = .ok (.aload_n 2, 1) := by decide +kernel
theorem dX4_init_41 : decode cX4_init 41 = .ok (.putfield 33, 3) := by decide +kernel
theorem dX4_init_44 : decode cX4_init 44 = .ok (.aload_n 0, 1) := by decide +kernel
theorem dX4_init_45 : decode cX4_init 45 = .ok (.iload_n 3, 1) := by decide +kernel
theorem dX4_init_46 : decode cX4_init 46 = .ok (.putfield 37, 3) := by decide +kernel
theorem dX4_init_49 : decode cX4_init 49 = .ok (.aload_n 0, 1) := by decide +kernel
theorem dX4_init_50 : decode cX4_init 50 = .ok (.iload 4, 2) := by decide +kernel
theorem dX4_init_52 : decode cX4_init 52 = .ok (.putfield 40, 3) := by decide +kernel
theorem dX4_init_55 : decode cX4_init 55 = .ok (.aload_n 0, 1) := by decide +kernel
theorem dX4_init_56 : decode cX4_init 56 = .ok (.iload 5, 2) := by decide +kernel
theorem dX4_init_58 : decode cX4_init 58 = .ok (.putfield 43, 3) := by decide +kernel
theorem dX4_init_61 : decode cX4_init 61 = .ok (.aload_n 0, 1) := by decide +kernel
theorem dX4_init_62 : decode cX4_init 62 = .ok (.iload 6, 2) := by decide +kernel
theorem dX4_init_64 : decode cX4_init 64 = .ok (.putfield 46, 3) := by decide +kernel
theorem dX4_init_67 : decode cX4_init 67 = .ok (.return_, 1) := by decide +kernel
theorem dX4_isLate_0 : decode cX4_isLate 0 = .ok (.aload_n 0, 1) := by decide +kernel
theorem dX4_isLate_1 : decode cX4_isLate 1 = .ok (.getfield 15, 3) := by decide +kernel
theorem dX4_isLate_4 : decode cX4_isLate 4 = .ok (.aload_n 0, 1) := by decide +kernel
theorem dX4_isLate_5 : decode cX4_isLate 5 = .ok (.getfield 33, 3) := by decide +kernel
theorem dX4_isLate_8 : decode cX4_isLate 8 = .ok (.getfield 49, 3) := by decide +kernel
theorem dX4_isLate_11 : decode cX4_isLate 11 = .ok (.bipush 30, 2) := by decide +kernel
theorem dX4_isLate_13 : decode cX4_isLate 13 = .ok (.isub, 1) := by decide +kernel
theorem dX4_isLate_14 : decode cX4_isLate 14 = .ok (.if_icmp .le 7, 3) := by decide +kernel
theorem dX4_isLate_17 : decode cX4_isLate 17 = .ok (.iconst 1, 1) := by decide +kernel
theorem dX4_isLate_18 : decode cX4_isLate 18 = .ok (.goto 4, 3) := by decide +kernel
theorem dX4_isLate_21 : decode cX4_isLate 21 = .ok (.iconst 0, 1) := by decide +kernel
theorem dX4_isLate_22 : decode cX4_isLate 22 = .ok (.ireturn, 1) := by decide +kernel
set_option maxRecDepth 20000 in
theorem ggX4_boardsAheadOf_X4_isLate : GoodIn wsX4_boardsAheadOf wsX4_isLate := goodIn_r _ [7, 8, 9, 10, 11, 12, 13, 14, 15, 16, 17, 18, 19, 20, 21, 22, 23, 24, 25, 26, 27, 28, 29, 30, 31, 32, 33, 34] (by decide +kernel) (by decide +kernel)
set_option maxRecDepth 20000 in
theorem gX4_boardsAheadOf_X4_isLate : GoodIn wsX4_boardsAheadOf (wsV RX4 52 RX4 yX4_isLate wsX4_isLate) := goodIn_app (goodIn_of _ (by decide +kernel)) ggX4_boardsAheadOf_X4_isLate
theorem dX4_boardsAheadOf_0 : decode cX4_boardsAheadOf 0 = .ok (.aload_n 0, 1) := by decide +kernel
theorem dX4_boardsAheadOf_1 : decode cX4_boardsAheadOf 1 = .ok (.invokevirtual 52, 3) := by decide +kernel
theorem dX4_boardsAheadOf_4 : decode cX4_boardsAheadOf 4 = .ok (.aload_n 1, 1) := by decide +kernel
theorem dX4_boardsAheadOf_5 : decode cX4_boardsAheadOf 5 = .ok (.invokevirtual 52, 3) := by decide +kernel
theorem dX4_boardsAheadOf_8 : decode cX4_boardsAheadOf 8 = .ok (.if_icmp .eq 8, 3) := by decide +kernel
theorem dX4_boardsAheadOf_11 : decode cX4_boardsAheadOf 11 = .ok (.aload_n 1, 1) := by decide +kernel
theorem dX4_boardsAheadOf_12 : decode cX4_boardsAheadOf 12 = .ok (.invokevirtual 52, 3) := by decide +kernel
theorem dX4_boardsAheadOf_15 : decode cX4_boardsAheadOf 15 = .ok (.ireturn, 1) := by decide +kernel
theorem dX4_boardsAheadOf_16 : decode cX4_boardsAheadOf 16 = .ok (.aload_n 0, 1) := by decide +kernel
theorem dX4_boardsAheadOf_17 : decode cX4_boardsAheadOf 17 = .ok (.getfield 40, 3) := by decide +kernel
theorem dX4_boardsAheadOf_20 : decode cX4_boardsAheadOf 20 = .ok (.aload_n 1, 1) := by decide +kernel
theorem dX4_boardsAheadOf_21 : decode cX4_boardsAheadOf 21 = .ok (.getfield 40, 3) := by decide +kernel
theorem dX4_boardsAheadOf_24 : decode cX4_boardsAheadOf 24 = .ok (.if_icmp .ne 22, 3) := by decide +kernel
theorem dX4_boardsAheadOf_27 : decode cX4_boardsAheadOf 27 = .ok (.aload_n 0, 1) := by decide +kernel
theorem dX4_boardsAheadOf_28 : decode cX4_boardsAheadOf 28 = .ok (.getfield 30, 3) := by decide +kernel
theorem dX4_boardsAheadOf_31 : decode cX4_boardsAheadOf 31 = .ok (.aload_n 1, 1) := by decide +kernel
theorem dX4_boardsAheadOf_32 : decode cX4_boardsAheadOf 32 = .ok (.getfield 30, 3) := by decide +kernel
