theorem dX0_init_0 : decode cX0_init 0 = .ok (.aload_n 0, 1) := by decide +kernel
theorem dX0_init_1 : decode cX0_init 1 = .ok (.invokespecial 3, 3) := by decide +kernel
theorem dX0_init_4 : decode cX0_init 4 = .ok (.aload_n 0, 1) := by decide +kernel
theorem dX0_init_5 : decode cX0_init 5 = .ok (.iconst (-1), 1) := by decide +kernel
theorem dX0_init_6 : decode cX0_init 6 = .ok (.putfield 9, 3) := by decide +kernel
theorem dX0_init_9 : decode cX0_init 9 = .ok (.return_, 1) := by decide +kernel
theorem dX0_hasVersion_0 : decode cX0_hasVersion 0 = .ok (.iload_n 1, 1) := by decide +kernel
theorem dX0_hasVersion_1 : decode cX0_hasVersion 1 = .ok (.bipush (-9), 2) := by decide +kernel
theorem dX0_hasVersion_3 : decode cX0_hasVersion 3 = .ok (.if_icmp .eq 11, 3) := by decide +kernel
theorem dX0_hasVersion_6 : decode cX0_hasVersion 6 = .ok (.iload_n 1, 1) := by decide +kernel
theorem dX0_hasVersion_7 : decode cX0_hasVersion 7 = .ok (.aload_n 0, 1) := by decide +kernel
theorem dX0_hasVersion_8 : decode cX0_hasVersion 8 = .ok (.getfield 15, 3) := by decide +kernel
theorem dX0_hasVersion_11 : decode cX0_hasVersion 11 = .ok (.if_icmp .ne 7, 3) := by decide +kernel
theorem dX0_hasVersion_14 : decode cX0_hasVersion 14 = .ok (.iconst 1, 1) := by decide +kernel
theorem dX0_hasVersion_15 : decode cX0_hasVersion 15 = .ok (.goto 4, 3) := by decide +kernel
theorem dX0_hasVersion_18 : decode cX0_hasVersion 18 = .ok (.iconst 0, 1) := by decide +kernel
theorem dX0_hasVersion_19 : decode cX0_hasVersion 19 = .ok (.ireturn, 1) := by decide +kernel
theorem dX0_release_0 : decode cX0_release 0 = .ok (.aload_n 0, 1) := by decide +kernel
theorem dX0_release_1 : decode cX0_release 1 = .ok (.getfield 9, 3) := by decide +kernel
theorem dX0_release_4 : decode cX0_release 4 = .ok (.istore_n 1, 1) := by decide +kernel
theorem dX0_release_5 : decode cX0_release 5 = .ok (.aload_n 0, 1) := by decide +kernel
theorem dX0_release_6 : decode cX0_release 6 = .ok (.iconst (-1), 1) := by decide +kernel
theorem dX0_release_7 : decode cX0_release 7 = .ok (.putfield 9, 3) := by decide +kernel
theorem dX0_release_10 : decode cX0_release 10 = .ok (.iload_n 1, 1) := by decide +kernel
theorem dX0_release_11 : decode cX0_release 11 = .ok (.ireturn, 1) := by decide +kernel
set_option maxRecDepth 20000 in
theorem ggX1_init_Jx4a65c_init_da8c8 : GoodIn wsX1_init wsJx4a65c_init_da8c8 := goodIn_r _ [15, 16, 17, 18, 19, 20, 21, 22, 23, 24, 25, 26, 27, 2, 3, 41, 42, 43] (by decide +kernel) (by decide +kernel)
set_option maxRecDepth 20000 in
theorem gX1_init_Jx4a65c_init_da8c8 : GoodIn wsX1_init (wsJx4a65c_init_da8c8) := ggX1_init_Jx4a65c_init_da8c8
set_option maxRecDepth 20000 in
theorem ggX1_init_X4_init : GoodIn wsX1_init wsX4_init := goodIn_r _ [30, 31, 2, 3, 32, 33, 34, 35, 36, 37, 38, 39, 40, 51, 52, 53, 54, 55, 56] (by decide +kernel) (by decide +kernel)
set_option maxRecDepth 20000 in
theorem gX1_init_X4_init : GoodIn wsX1_init (wsX4_init) := ggX1_init_X4_init
theorem dX1_init_0 : decode cX1_init 0 = .ok (.aload_n 0, 1) := by decide +kernel
theorem dX1_init_1 : decode cX1_init 1 = .ok (.invokespecial 1, 3) := by decide +kernel
theorem dX1_init_4 : decode cX1_init 4 = .ok (.aload_n 0, 1) := by decide +kernel
theorem dX1_init_5 : decode cX1_init 5 = .ok (.new 7, 3) := by decide +kernel
theorem dX1_init_8 : decode cX1_init 8 = .ok (.dup, 1) := by decide +kernel
theorem dX1_init_9 : decode cX1_init 9 = .ok (.invokespecial 9, 3) := by decide +kernel
theorem dX1_init_12 : decode cX1_init 12 = .ok (.putfield 10, 3) := by decide +kernel
theorem dX1_init_15 : decode cX1_init 15 = .ok (.aload_n 0, 1) := by decide +kernel
theorem dX1_init_16 : decode cX1_init 16 = .ok (.iload_n 1, 1) := by decide +kernel
theorem dX1_init_17 : decode cX1_init 17 = .ok (.putfield 16, 3) := by decide +kernel
theorem dX1_init_20 : decode cX1_init 20 = .ok (.aload_n 0, 1) := by decide +kernel
theorem dX1_init_21 : decode cX1_init 21 = .ok (.new 20, 3) := by decide +kernel
theorem dX1_init_24 : decode cX1_init 24 = .ok (.dup, 1) := by decide +kernel
theorem dX1_init_25 : decode cX1_init 25 = .ok (.iload_n 1, 1) := by decide +kernel
theorem dX1_init_26 : decode cX1_init 26 = .ok (.invokespecial 22, 3) := by decide +kernel
theorem dX1_init_29 : decode cX1_init 29 = .ok (.putfield 25, 3) := by decide +kernel
theorem dX1_init_32 : decode cX1_init 32 = .ok (.return_, 1) := by decide +kernel
set_option maxRecDepth 20000 in
theorem ggX1_startAnew_Jx4a65c_clear_da8c8 : GoodIn wsX1_startAnew wsJx4a65c_clear_da8c8 := goodIn_r _ [11, 12, 13, 14, 15, 30, 31, 32] (by decide +kernel) (by decide +kernel)
set_option maxRecDepth 20000 in
theorem gX1_startAnew_Jx4a65c_clear_da8c8 : GoodIn wsX1_startAnew (wsV RX1 29 RJx4a65c yJx4a65c_clear_da8c8 wsJx4a65c_clear_da8c8) := goodIn_app (goodIn_of _ (by decide +kernel)) ggX1_startAnew_Jx4a65c_clear_da8c8
set_option maxRecDepth 20000 in
theorem ggX1_startAnew_X4_clear : GoodIn wsX1_startAnew wsX4_clear := goodIn_r _ [20, 21, 22, 33, 34, 35, 36, 37, 38] (by decide +kernel) (by decide +kernel)
set_option maxRecDepth 20000 in
theorem gX1_startAnew_X4_clear : GoodIn wsX1_startAnew (wsV RX1 32 RX4 yX4_clear wsX4_clear) := goodIn_app (goodIn_of _ (by decide +kernel)) ggX1_startAnew_X4_clear
theorem dX1_startAnew_0 : decode cX1_startAnew 0 = .ok (.aload_n 0, 1) := by decide +kernel
theorem dX1_startAnew_1 : decode cX1_startAnew 1 = .ok (.getfield 10, 3) := by decide +kernel
theorem dX1_startAnew_4 : decode cX1_startAnew 4 = .ok (.invokevirtual 29, 3) := by decide +kernel
theorem dX1_startAnew_7 : decode cX1_startAnew 7 = .ok (.aload_n 0, 1) := by decide +kernel
theorem dX1_startAnew_8 : decode cX1_startAnew 8 = .ok (.getfield 25, 3) := by decide +kernel
theorem dX1_startAnew_11 : decode cX1_startAnew 11 = .ok (.invokevirtual 32, 3) := by decide +kernel
theorem dX1_startAnew_14 : decode cX1_startAnew 14 = .ok (.aload_n 0, 1) := by decide +kernel
theorem dX1_startAnew_15 : decode cX1_startAnew 15 = .ok (.iload_n 1, 1) := by decide +kernel
theorem dX1_startAnew_16 : decode cX1_startAnew 16 = .ok (.putfield 33, 3) := by decide +kernel
theorem dX1_startAnew_19 : decode cX1_startAnew 19 = .ok (.aload_n 0, 1) := by decide +kernel
theorem dX1_startAnew_20 : decode cX1_startAnew 20 = .ok (.iconst 0, 1) := by decide +kernel
theorem dX1_startAnew_21 : decode cX1_startAnew 21 = .ok (.putfield 37, 3) := by decide +kernel
theorem dX1_startAnew_24 : decode cX1_startAnew 24 = .ok (.aload_n 0, 1) := by decide +kernel
theorem dX1_startAnew_25 : decode cX1_startAnew 25 = .ok (.iconst 0, 1) := by decide +kernel
theorem dX1_startAnew_26 : decode cX1_startAnew 26 = .ok (.putfield 40, 3) := by decide +kernel
theorem dX1_startAnew_29 : decode cX1_startAnew 29 = .ok (.aload_n 0, 1) := by decide +kernel
theorem dX1_startAnew_30 : decode cX1_startAnew 30 = .ok (.iconst 0, 1) := by decide +kernel
theorem dX1_startAnew_31 : decode cX1_startAnew 31 = .ok (.putfield 43, 3) := by decide +kernel
theorem dX1_startAnew_34 : decode cX1_startAnew 34 = .ok (.return_, 1) := by decide +kernel
set_option maxRecDepth 20000 in
theorem ggX1_newestIdentifier_Jx4a65c_isEmpty_aae02 : GoodIn wsX1_newestIdentifier wsJx4a65c_isEmpty_aae02 := goodIn_r _ [8, 9, 43, 44, 45] (by decide +kernel) (by decide +kernel)
set_option maxRecDepth 20000 in
theorem gX1_newestIdentifier_Jx4a65c_isEmpty_aae02 : GoodIn wsX1_newestIdentifier (wsV RX1 46 RJx4a65c yJx4a65c_isEmpty_aae02 wsJx4a65c_isEmpty_aae02) := goodIn_app (goodIn_of _ (by decide +kernel)) ggX1_newestIdentifier_Jx4a65c_isEmpty_aae02
set_option maxRecDepth 20000 in
theorem ggX1_newestIdentifier_Jx4a65c_size_8abf5 : GoodIn wsX1_newestIdentifier wsJx4a65c_size_8abf5 := goodIn_r _ [13, 9, 43, 44, 45] (by decide +kernel) (by decide +kernel)
set_option maxRecDepth 20000 in
theorem gX1_newestIdentifier_Jx4a65c_size_8abf5 : GoodIn wsX1_newestIdentifier (wsV RX1 50 RJx4a65c yJx4a65c_size_8abf5 wsJx4a65c_size_8abf5) := goodIn_app (goodIn_of _ (by decide +kernel)) ggX1_newestIdentifier_Jx4a65c_size_8abf5
set_option maxRecDepth 20000 in
theorem ggX1_newestIdentifier_Jx4a65c_get_915e3 : GoodIn wsX1_newestIdentifier wsJx4a65c_get_915e3 := goodIn_r _ [17, 9, 18, 19, 20, 21, 22, 23, 24, 25, 26, 27, 28, 7, 29, 30, 43, 44, 45] (by decide +kernel) (by decide +kernel)
set_option maxRecDepth 20000 in
theorem gX1_newestIdentifier_Jx4a65c_get_915e3 : GoodIn wsX1_newestIdentifier (wsV RX1 54 RJx4a65c yJx4a65c_get_915e3 wsJx4a65c_get_915e3) := goodIn_app (goodIn_of _ (by decide +kernel)) ggX1_newestIdentifier_Jx4a65c_get_915e3
theorem dX1_newestIdentifier_0 : decode cX1_newestIdentifier 0 = .ok (.aload_n 0, 1) := by decide +kernel
theorem dX1_newestIdentifier_1 : decode cX1_newestIdentifier 1 = .ok (.getfield 10, 3) := by decide +kernel
theorem dX1_newestIdentifier_4 : decode cX1_newestIdentifier 4 = .ok (.invokevirtual 46, 3) := by decide +kernel
theorem dX1_newestIdentifier_7 : decode cX1_newestIdentifier 7 = .ok (.ifCond .eq 7, 3) := by decide +kernel
theorem dX1_newestIdentifier_10 : decode cX1_newestIdentifier 10 = .ok (.iconst 0, 1) := by decide +kernel
theorem dX1_newestIdentifier_11 : decode cX1_newestIdentifier 11 = .ok (.goto 25, 3) := by decide +kernel
theorem dX1_newestIdentifier_14 : decode cX1_newestIdentifier 14 = .ok (.aload_n 0, 1) := by decide +kernel
theorem dX1_newestIdentifier_15 : decode cX1_newestIdentifier 15 = .ok (.getfield 10, 3) := by decide +kernel
theorem dX1_newestIdentifier_18 : decode cX1_newestIdentifier 18 = .ok (.aload_n 0, 1) := by decide +kernel
theorem dX1_newestIdentifier_19 : decode cX1_newestIdentifier 19 = .ok (.getfield 10, 3) := by decide +kernel
theorem dX1_newestIdentifier_22 : decode cX1_newestIdentifier 22 = .ok (.invokevirtual 50, 3) := by decide +kernel
theorem dX1_newestIdentifier_25 : decode cX1_newestIdentifier 25 = .ok (.iconst 1, 1) := by decide +kernel
theorem dX1_newestIdentifier_26 : decode cX1_newestIdentifier 26 = .ok (.isub, 1) := by decide +kernel
theorem dX1_newestIdentifier_27 : decode cX1_newestIdentifier 27 = .ok (.invokevirtual 54, 3) := by decide +kernel
theorem dX1_newestIdentifier_30 : decode cX1_newestIdentifier 30 = .ok (.checkcast 58, 3) := by decide +kernel
theorem dX1_newestIdentifier_33 : decode cX1_newestIdentifier 33 = .ok (.getfield 60, 3) := by decide +kernel
theorem dX1_newestIdentifier_36 : decode cX1_newestIdentifier 36 = .ok (.ireturn, 1) := by decide +kernel
set_option maxRecDepth 20000 in
theorem ggX1_isAheadOf_X1_newestIdentifier : GoodIn wsX1_isAheadOf wsX1_newestIdentifier := goodIn_r _ [6, 7, 8, 9, 10, 11, 12, 13, 14, 15, 16, 17, 18, 19, 20, 21, 22, 23, 24, 25, 26, 27, 28, 29, 30, 31, 32, 33, 34, 35, 36, 37, 38, 39, 40, 41, 42, 43, 44, 45, 46, 47, 48, 49, 50, 51] (by decide +kernel) (by decide +kernel)
set_option maxRecDepth 20000 in
theorem gX1_isAheadOf_X1_newestIdentifier : GoodIn wsX1_isAheadOf (wsV RX1 63 RX1 yX1_newestIdentifier wsX1_newestIdentifier) := goodIn_app (goodIn_of _ (by decide +kernel)) ggX1_isAheadOf_X1_newestIdentifier
theorem dX1_isAheadOf_0 : decode cX1_isAheadOf 0 = .ok (.aload_n 0, 1) := by decide +kernel
theorem dX1_isAheadOf_1 : decode cX1_isAheadOf 1 = .ok (.getfield 40, 3) := by decide +kernel
theorem dX1_isAheadOf_4 : decode cX1_isAheadOf 4 = .ok (.aload_n 1, 1) := by decide +kernel
theorem dX1_isAheadOf_5 : decode cX1_isAheadOf 5 = .ok (.getfield 40, 3) := by decide +kernel
theorem dX1_isAheadOf_8 : decode cX1_isAheadOf 8 = .ok (.if_icmp .eq 20, 3) := by decide +kernel
theorem dX1_isAheadOf_11 : decode cX1_isAheadOf 11 = .ok (.aload_n 0, 1) := by decide +kernel
theorem dX1_isAheadOf_12 : decode cX1_isAheadOf 12 = .ok (.getfield 40, 3) := by decide +kernel
theorem dX1_isAheadOf_15 : decode cX1_isAheadOf 15 = .ok (.aload_n 1, 1) := by decide +kernel
theorem dX1_isAheadOf_16 : decode cX1_isAheadOf 16 = .ok (.getfield 40, 3) := by decide +kernel
theorem dX1_isAheadOf_19 : decode cX1_isAheadOf 19 = .ok (.if_icmp .le 7, 3) := by decide +kernel
theorem dX1_isAheadOf_22 : decode cX1_isAheadOf 22 = .ok (.iconst 1, 1) := by decide +kernel
theorem dX1_isAheadOf_23 : decode cX1_isAheadOf 23 = .ok (.goto 4, 3) := by decide +kernel
theorem dX1_isAheadOf_26 : decode cX1_isAheadOf 26 = .ok (.iconst 0, 1) := by decide +kernel
theorem dX1_isAheadOf_27 : decode cX1_isAheadOf 27 = .ok (.ireturn, 1) := by decide +kernel
theorem dX1_isAheadOf_28 : decode cX1_isAheadOf 28 = .ok (.aload_n 0, 1) := by decide +kernel
theorem dX1_isAheadOf_29 : decode cX1_isAheadOf 29 = .ok (.invokevirtual 63, 3) := by decide +kernel
theorem dX1_isAheadOf_32 : decode cX1_isAheadOf 32 = .ok (.aload_n 1, 1) := by decide +kernel
theorem dX1_isAheadOf_33 : decode cX1_isAheadOf 33 = .ok (.invokevirtual 63, 3) := by decide +kernel
theorem dX1_isAheadOf_36 : decode cX1_isAheadOf 36 = .ok (.if_icmp .le 7, 3) := by decide +kernel
theorem dX1_isAheadOf_39 : decode cX1_isAheadOf 39 = .ok (.iconst 1, 1) := by decide +kernel
theorem dX1_isAheadOf_40 : decode cX1_isAheadOf 40 = .ok (.goto 4, 3) := by decide +kernel
theorem dX1_isAheadOf_43 : decode cX1_isAheadOf 43 = .ok (.iconst 0, 1) := by decide +kernel
theorem dX1_isAheadOf_44 : decode cX1_isAheadOf 44 = .ok (.ireturn, 1) := by decide +kernel
set_option maxRecDepth 20000 in
theorem ggX1_hasClosed_Jx4a65c_size_8abf5 : GoodIn wsX1_hasClosed wsJx4a65c_size_8abf5 := goodIn_r _ [9, 10, 40, 41, 42] (by decide +kernel) (by decide +kernel)
set_option maxRecDepth 20000 in
theorem gX1_hasClosed_Jx4a65c_size_8abf5 : GoodIn wsX1_hasClosed (wsV RX1 50 RJx4a65c yJx4a65c_size_8abf5 wsJx4a65c_size_8abf5) := goodIn_app (goodIn_of _ (by decide +kernel)) ggX1_hasClosed_Jx4a65c_size_8abf5
set_option maxRecDepth 20000 in
theorem ggX1_hasClosed_Jx4a65c_get_915e3 : GoodIn wsX1_hasClosed wsJx4a65c_get_915e3 := goodIn_r _ [14, 10, 15, 16, 17, 18, 19, 20, 21, 22, 23, 24, 25, 8, 26, 27, 40, 41, 42] (by decide +kernel) (by decide +kernel)
set_option maxRecDepth 20000 in
theorem gX1_hasClosed_Jx4a65c_get_915e3 : GoodIn wsX1_hasClosed (wsV RX1 54 RJx4a65c yJx4a65c_get_915e3 wsJx4a65c_get_915e3) := goodIn_app (goodIn_of _ (by decide +kernel)) ggX1_hasClosed_Jx4a65c_get_915e3
theorem dX1_hasClosed_0 : decode cX1_hasClosed 0 = .ok (.iconst 0, 1) := by decide +kernel
theorem dX1_hasClosed_1 : decode cX1_hasClosed 1 = .ok (.istore_n 2, 1) := by decide +kernel
theorem dX1_hasClosed_2 : decode cX1_hasClosed 2 = .ok (.iload_n 2, 1) := by decide +kernel
theorem dX1_hasClosed_3 : decode cX1_hasClosed 3 = .ok (.aload_n 0, 1) := by decide +kernel
theorem dX1_hasClosed_4 : decode cX1_hasClosed 4 = .ok (.getfield 10, 3) := by decide +kernel
theorem dX1_hasClosed_7 : decode cX1_hasClosed 7 = .ok (.invokevirtual 50, 3) := by decide +kernel
theorem dX1_hasClosed_10 : decode cX1_hasClosed 10 = .ok (.if_icmp .ge 39, 3) := by decide +kernel
theorem dX1_hasClosed_13 : decode cX1_hasClosed 13 = .ok (.aload_n 0, 1) := by decide +kernel
theorem dX1_hasClosed_14 : decode cX1_hasClosed 14 = .ok (.getfield 10, 3) := by decide +kernel
theorem dX1_hasClosed_17 : decode cX1_hasClosed 17 = .ok (.iload_n 2, 1) := by decide +kernel
theorem dX1_hasClosed_18 : decode cX1_hasClosed 18 = .ok (.invokevirtual 54, 3) := by decide +kernel
theorem dX1_hasClosed_21 : decode cX1_hasClosed 21 = .ok (.checkcast 58, 3) := by decide +kernel
theorem dX1_hasClosed_24 : decode cX1_hasClosed 24 = .ok (.astore_n 3, 1) := by decide +kernel
theorem dX1_hasClosed_25 : decode cX1_hasClosed 25 = .ok (.aload_n 3, 1) := by decide +kernel
theorem dX1_hasClosed_26 : decode cX1_hasClosed 26 = .ok (.getfield 66, 3) := by decide +kernel
theorem dX1_hasClosed_29 : decode cX1_hasClosed 29 = .ok (.iconst 3, 1) := by decide +kernel
theorem dX1_hasClosed_30 : decode cX1_hasClosed 30 = .ok (.if_icmp .ne 13, 3) := by decide +kernel
theorem dX1_hasClosed_33 : decode cX1_hasClosed 33 = .ok (.aload_n 3, 1) := by decide +kernel
theorem dX1_hasClosed_34 : decode cX1_hasClosed 34 = .ok (.getfield 69, 3) := by decide +kernel
theorem dX1_hasClosed_37 : decode cX1_hasClosed 37 = .ok (.iload_n 1, 1) := by decide +kernel
theorem dX1_hasClosed_38 : decode cX1_hasClosed 38 = .ok (.if_icmp .ne 5, 3) := by decide +kernel
theorem dX1_hasClosed_41 : decode cX1_hasClosed 41 = .ok (.iconst 1, 1) := by decide +kernel
theorem dX1_hasClosed_42 : decode cX1_hasClosed 42 = .ok (.ireturn, 1) := by decide +kernel
theorem dX1_hasClosed_43 : decode cX1_hasClosed 43 = .ok (.iinc 2 1, 3) := by decide +kernel
theorem dX1_hasClosed_46 : decode cX1_hasClosed 46 = .ok (.goto (-44), 3) := by decide +kernel
theorem dX1_hasClosed_49 : decode cX1_hasClosed 49 = .ok (.iconst 0, 1) := by decide +kernel
theorem dX1_hasClosed_50 : decode cX1_hasClosed 50 = .ok (.ireturn, 1) := by decide +kernel
set_option maxRecDepth 20000 in
theorem ggX1_commonLength_Jx4a65c_size_8abf5 : GoodIn wsX1_commonLength wsJx4a65c_size_8abf5 := goodIn_r _ [12, 13, 43, 44, 45] (by decide +kernel) (by decide +kernel)
set_option maxRecDepth 20000 in
theorem gX1_commonLength_Jx4a65c_size_8abf5 : GoodIn wsX1_commonLength (wsV RX1 50 RJx4a65c yJx4a65c_size_8abf5 wsJx4a65c_size_8abf5) := goodIn_app (goodIn_of _ (by decide +kernel)) ggX1_commonLength_Jx4a65c_size_8abf5
set_option maxRecDepth 20000 in
theorem ggX1_commonLength_Jx4a65c_get_915e3 : GoodIn wsX1_commonLength wsJx4a65c_get_915e3 := goodIn_r _ [17, 13, 18, 19, 20, 21, 22, 23, 24, 25, 26, 27, 28, 11, 29, 30, 43, 44, 45] (by decide +kernel) (by decide +kernel)
set_option maxRecDepth 20000 in
theorem gX1_commonLength_Jx4a65c_get_915e3 : GoodIn wsX1_commonLength (wsV RX1 54 RJx4a65c yJx4a65c_get_915e3 wsJx4a65c_get_915e3) := goodIn_app (goodIn_of _ (by decide +kernel)) ggX1_commonLength_Jx4a65c_get_915e3
theorem dX1_commonLength_0 : decode cX1_commonLength 0 = .ok (.aload_n 0, 1) := by decide +kernel
theorem dX1_commonLength_1 : decode cX1_commonLength 1 = .ok (.getfield 10, 3) := by decide +kernel
theorem dX1_commonLength_4 : decode cX1_commonLength 4 = .ok (.invokevirtual 50, 3) := by decide +kernel
theorem dX1_commonLength_7 : decode cX1_commonLength 7 = .ok (.aload_n 1, 1) := by decide +kernel
theorem dX1_commonLength_8 : decode cX1_commonLength 8 = .ok (.getfield 10, 3) := by decide +kernel
theorem dX1_commonLength_11 : decode cX1_commonLength 11 = .ok (.invokevirtual 50, 3) := by decide +kernel
theorem dX1_commonLength_14 : decode cX1_commonLength 14 = .ok (.invokestatic 72, 3) := by decide +kernel
theorem dX1_commonLength_17 : decode cX1_commonLength 17 = .ok (.istore_n 2, 1) := by decide +kernel
theorem dX1_commonLength_18 : decode cX1_commonLength 18 = .ok (.iconst 0, 1) := by decide +kernel
theorem dX1_commonLength_19 : decode cX1_commonLength 19 = .ok (.istore_n 3, 1) := by decide +kernel
theorem dX1_commonLength_20 : decode cX1_commonLength 20 = .ok (.iload_n 3, 1) := by decide +kernel
theorem dX1_commonLength_21 : decode cX1_commonLength 21 = .ok (.iload_n 2, 1) := by decide +kernel
theorem dX1_commonLength_22 : decode cX1_commonLength 22 = .ok (.if_icmp .ge 42, 3) := by decide +kernel
theorem dX1_commonLength_25 : decode cX1_commonLength 25 = .ok (.aload_n 0, 1) := by decide +kernel
theorem dX1_commonLength_26 : decode cX1_commonLength 26 = .ok (.getfield 10, 3) := by decide +kernel
theorem dX1_commonLength_29 : decode cX1_commonLength 29 = .ok (.iload_n 3, 1) := by decide +kernel
theorem dX1_commonLength_30 : decode cX1_commonLength 30 = .ok (.invokevirtual 54, 3) := by decide +kernel
theorem dX1_commonLength_33 : decode cX1_commonLength 33 = .ok (.checkcast 58, 3) := by decide +kernel
theorem dX1_commonLength_36 : decode cX1_commonLength 36 = .ok (.getfield 60, 3) := by decide +kernel
theorem dX1_commonLength_39 : decode cX1_commonLength 39 = .ok (.aload_n 1, 1) := by decide +kernel
theorem dX1_commonLength_40 : decode cX1_commonLength 40 = .ok (.getfield 10, 3) := by decide +kernel
theorem dX1_commonLength_43 : decode cX1_commonLength 43 = .ok (.iload_n 3, 1) := by decide +kernel
theorem dX1_commonLength_44 : decode cX1_commonLength 44 = .ok (.invokevirtual 54, 3) := by decide +kernel
theorem dX1_commonLength_47 : decode cX1_commonLength 47 = .ok (.checkcast 58, 3) := by decide +kernel
theorem dX1_commonLength_50 : decode cX1_commonLength 50 = .ok (.getfield 60, 3) := by decide +kernel
theorem dX1_commonLength_53 : decode cX1_commonLength 53 = .ok (.if_icmp .eq 5, 3) := by decide +kernel
theorem dX1_commonLength_56 : decode cX1_commonLength 56 = .ok (.iload_n 3, 1) := by decide +kernel
theorem dX1_commonLength_57 : decode cX1_commonLength 57 = .ok (.ireturn, 1) := by decide +kernel
theorem dX1_commonLength_58 : decode cX1_commonLength 58 = .ok (.iinc 3 1, 3) := by decide +kernel
theorem dX1_commonLength_61 : decode cX1_commonLength 61 = .ok (.goto (-41), 3) := by decide +kernel
theorem dX1_commonLength_64 : decode cX1_commonLength 64 = .ok (.iload_n 2, 1) := by decide +kernel
theorem dX1_commonLength_65 : decode cX1_commonLength 65 = .ok (.ireturn, 1) := by decide +kernel
set_option maxRecDepth 20000 in
theorem ggX1_copyLogOf_X1_commonLength : GoodIn wsX1_copyLogOf wsX1_commonLength := goodIn_r _ [7, 1, 8, 9, 10, 11, 2, 12, 13, 14, 15, 16, 17, 18, 19, 20, 21, 22, 23, 24, 25, 26, 27, 28, 29, 30, 31, 32, 33, 34, 35, 95, 96, 97, 98, 99, 100, 101, 102, 103, 104, 105, 106, 107, 108, 109] (by decide +kernel) (by decide +kernel)
set_option maxRecDepth 20000 in
theorem gX1_copyLogOf_X1_commonLength : GoodIn wsX1_copyLogOf (wsV RX1 78 RX1 yX1_commonLength wsX1_commonLength) := goodIn_app (goodIn_of _ (by decide +kernel)) ggX1_copyLogOf_X1_commonLength
set_option maxRecDepth 20000 in
theorem ggX1_copyLogOf_Jx4a65c_size_8abf5 : GoodIn wsX1_copyLogOf wsJx4a65c_size_8abf5 := goodIn_r _ [17, 18, 107, 108, 109] (by decide +kernel) (by decide +kernel)
set_option maxRecDepth 20000 in
theorem gX1_copyLogOf_Jx4a65c_size_8abf5 : GoodIn wsX1_copyLogOf (wsV RX1 50 RJx4a65c yJx4a65c_size_8abf5 wsJx4a65c_size_8abf5) := goodIn_app (goodIn_of _ (by decide +kernel)) ggX1_copyLogOf_Jx4a65c_size_8abf5
set_option maxRecDepth 20000 in
theorem ggX1_copyLogOf_Jx4a65c_remove_915e3 : GoodIn wsX1_copyLogOf wsJx4a65c_remove_915e3 := goodIn_r _ [39, 18, 35, 23, 24, 25, 26, 27, 28, 29, 30, 40, 41, 42, 16, 43, 44, 45, 46, 47, 48, 49, 107, 108, 109] (by decide +kernel) (by decide +kernel)
set_option maxRecDepth 20000 in
theorem gX1_copyLogOf_Jx4a65c_remove_915e3 : GoodIn wsX1_copyLogOf (wsV RX1 82 RJx4a65c yJx4a65c_remove_915e3 wsJx4a65c_remove_915e3) := goodIn_app (goodIn_of _ (by decide +kernel)) ggX1_copyLogOf_Jx4a65c_remove_915e3
set_option maxRecDepth 20000 in
theorem ggX1_copyLogOf_Jx4a65c_get_915e3 : GoodIn wsX1_copyLogOf wsJx4a65c_get_915e3 := goodIn_r _ [22, 18, 23, 24, 25, 26, 27, 28, 29, 30, 31, 32, 33, 16, 34, 35, 107, 108, 109] (by decide +kernel) (by decide +kernel)
set_option maxRecDepth 20000 in
theorem gX1_copyLogOf_Jx4a65c_get_915e3 : GoodIn wsX1_copyLogOf (wsV RX1 54 RJx4a65c yJx4a65c_get_915e3 wsJx4a65c_get_915e3) := goodIn_app (goodIn_of _ (by decide +kernel)) ggX1_copyLogOf_Jx4a65c_get_915e3
set_option maxRecDepth 20000 in
theorem ggX1_copyLogOf_Jx4a65c_add_9ea2d : GoodIn wsX1_copyLogOf wsJx4a65c_add_9ea2d := goodIn_r _ [53, 44, 45, 35, 18, 54, 55, 56, 16, 57, 58, 59, 60, 61, 62, 63, 64, 65, 66, 67, 68, 10, 69, 70, 71, 72, 73, 74, 75, 76, 77, 78, 79, 80, 81, 82, 83, 84, 85, 86, 87, 88, 89, 90, 91, 92, 93, 9, 11, 94, 47, 48, 49, 107, 108, 109] (by decide +kernel) (by decide +kernel)
set_option maxRecDepth 20000 in
theorem gX1_copyLogOf_Jx4a65c_add_9ea2d : GoodIn wsX1_copyLogOf (wsV RX1 85 RJx4a65c yJx4a65c_add_9ea2d wsJx4a65c_add_9ea2d) := goodIn_app (goodIn_of _ (by decide +kernel)) ggX1_copyLogOf_Jx4a65c_add_9ea2d
theorem dX1_copyLogOf_0 : decode cX1_copyLogOf 0 = .ok (.aload_n 1, 1) := by decide +kernel
theorem dX1_copyLogOf_1 : decode cX1_copyLogOf 1 = .ok (.aload_n 0, 1) := by decide +kernel
theorem dX1_copyLogOf_2 : decode cX1_copyLogOf 2 = .ok (.if_acmp .ne 5, 3) := by decide +kernel
theorem dX1_copyLogOf_5 : decode cX1_copyLogOf 5 = .ok (.iconst 0, 1) := by decide +kernel
theorem dX1_copyLogOf_6 : decode cX1_copyLogOf 6 = .ok (.ireturn, 1) := by decide +kernel
theorem dX1_copyLogOf_7 : decode cX1_copyLogOf 7 = .ok (.aload_n 0, 1) := by decide +kernel
theorem dX1_copyLogOf_8 : decode cX1_copyLogOf 8 = .ok (.aload_n 1, 1) := by decide +kernel
theorem dX1_copyLogOf_9 : decode cX1_copyLogOf 9 = .ok (.invokevirtual 78, 3) := by decide +kernel
theorem dX1_copyLogOf_12 : decode cX1_copyLogOf 12 = .ok (.istore_n 2, 1) := by decide +kernel
theorem dX1_copyLogOf_13 : decode cX1_copyLogOf 13 = .ok (.aload_n 0, 1) := by decide +kernel
theorem dX1_copyLogOf_14 : decode cX1_copyLogOf 14 = .ok (.getfield 10, 3) := by decide +kernel
theorem dX1_copyLogOf_17 : decode cX1_copyLogOf 17 = .ok (.invokevirtual 50, 3) := by decide +kernel
theorem dX1_copyLogOf_20 : decode cX1_copyLogOf 20 = .ok (.iload_n 2, 1) := by decide +kernel
theorem dX1_copyLogOf_21 : decode cX1_copyLogOf 21 = .ok (.isub, 1) := by decide +kernel
theorem dX1_copyLogOf_22 : decode cX1_copyLogOf 22 = .ok (.istore_n 3, 1) := by decide +kernel
theorem dX1_copyLogOf_23 : decode cX1_copyLogOf 23 = .ok (.aload_n 1, 1) := by decide +kernel
theorem dX1_copyLogOf_24 : decode cX1_copyLogOf 24 = .ok (.getfield 10, 3) := by decide +kernel
theorem dX1_copyLogOf_27 : decode cX1_copyLogOf 27 = .ok (.invokevirtual 50, 3) := by decide +kernel
theorem dX1_copyLogOf_30 : decode cX1_copyLogOf 30 = .ok (.istore 4, 2) := by decide +kernel
theorem dX1_copyLogOf_32 : decode cX1_copyLogOf 32 = .ok (.aload_n 0, 1) := by decide +kernel
theorem dX1_copyLogOf_33 : decode cX1_copyLogOf 33 = .ok (.getfield 10, 3) := by decide +kernel
theorem dX1_copyLogOf_36 : decode cX1_copyLogOf 36 = .ok (.invokevirtual 50, 3) := by decide +kernel
theorem dX1_copyLogOf_39 : decode cX1_copyLogOf 39 = .ok (.iconst 1, 1) := by decide +kernel
theorem dX1_copyLogOf_40 : decode cX1_copyLogOf 40 = .ok (.isub, 1) := by decide +kernel
theorem dX1_copyLogOf_41 : decode cX1_copyLogOf 41 = .ok (.istore 5, 2) := by decide +kernel
theorem dX1_copyLogOf_43 : decode cX1_copyLogOf 43 = .ok (.iload 5, 2) := by decide +kernel
theorem dX1_copyLogOf_45 : decode cX1_copyLogOf 45 = .ok (.iload_n 2, 1) := by decide +kernel
theorem dX1_copyLogOf_46 : decode cX1_copyLogOf 46 = .ok (.if_icmp .lt 19, 3) := by decide +kernel
theorem dX1_copyLogOf_49 : decode cX1_copyLogOf 49 = .ok (.aload_n 0, 1) := by decide +kernel
theorem dX1_copyLogOf_50 : decode cX1_copyLogOf 50 = .ok (.getfield 10, 3) := by decide +kernel
theorem dX1_copyLogOf_53 : decode cX1_copyLogOf 53 = .ok (.iload 5, 2) := by decide +kernel
theorem dX1_copyLogOf_55 : decode cX1_copyLogOf 55 = .ok (.invokevirtual 82, 3) := by decide +kernel
theorem dX1_copyLogOf_58 : decode cX1_copyLogOf 58 = .ok (.pop, 1) := by decide +kernel
theorem dX1_copyLogOf_59 : decode cX1_copyLogOf 59 = .ok (.iinc 5 (-1), 3) := by decide +kernel
theorem dX1_copyLogOf_62 : decode cX1_copyLogOf 62 = .ok (.goto (-19), 3) := by decide +kernel
theorem dX1_copyLogOf_65 : decode cX1_copyLogOf 65 = .ok (.iload_n 2, 1) := by decide +kernel
theorem dX1_copyLogOf_66 : decode cX1_copyLogOf 66 = .ok (.istore 5, 2) := by decide +kernel
theorem dX1_copyLogOf_68 : decode cX1_copyLogOf 68 = .ok (.iload 5, 2) := by decide +kernel
theorem dX1_copyLogOf_70 : decode cX1_copyLogOf 70 = .ok (.iload 4, 2) := by decide +kernel
theorem dX1_copyLogOf_72 : decode cX1_copyLogOf 72 = .ok (.if_icmp .ge 29, 3) := by decide +kernel
theorem dX1_copyLogOf_75 : decode cX1_copyLogOf 75 = .ok (.aload_n 0, 1) := by decide +kernel
theorem dX1_copyLogOf_76 : decode cX1_copyLogOf 76 = .ok (.getfield 10, 3) := by decide +kernel
theorem dX1_copyLogOf_79 : decode cX1_copyLogOf 79 = .ok (.aload_n 1, 1) := by decide +kernel
theorem dX1_copyLogOf_80 : decode cX1_copyLogOf 80 = .ok (.getfield 10, 3) := by decide +kernel
theorem dX1_copyLogOf_83 : decode cX1_copyLogOf 83 = .ok (.iload 5, 2) := by decide +kernel
theorem dX1_copyLogOf_85 : decode cX1_copyLogOf 85 = .ok (.invokevirtual 54, 3) := by decide +kernel
theorem dX1_copyLogOf_88 : decode cX1_copyLogOf 88 = .ok (.checkcast 58, 3) := by decide +kernel
theorem dX1_copyLogOf_91 : decode cX1_copyLogOf 91 = .ok (.invokevirtual 85, 3) := by decide +kernel
theorem dX1_copyLogOf_94 : decode cX1_copyLogOf 94 = .ok (.pop, 1) := by decide +kernel
theorem dX1_copyLogOf_95 : decode cX1_copyLogOf 95 = .ok (.iinc 5 1, 3) := by decide +kernel
theorem dX1_copyLogOf_98 : decode cX1_copyLogOf 98 = .ok (.goto (-30), 3) := by decide +kernel
theorem dX1_copyLogOf_101 : decode cX1_copyLogOf 101 = .ok (.bipush 100, 2) := by decide +kernel
theorem dX1_copyLogOf_103 : decode cX1_copyLogOf 103 = .ok (.iload_n 3, 1) := by decide +kernel
theorem dX1_copyLogOf_104 : decode cX1_copyLogOf 104 = .ok (.imul, 1) := by decide +kernel
theorem dX1_copyLogOf_105 : decode cX1_copyLogOf 105 = .ok (.iload 4, 2) := by decide +kernel
theorem dX1_copyLogOf_107 : decode cX1_copyLogOf 107 = .ok (.iadd, 1) := by decide +kernel
theorem dX1_copyLogOf_108 : decode cX1_copyLogOf 108 = .ok (.iload_n 2, 1) := by decide +kernel
theorem dX1_copyLogOf_109 : decode cX1_copyLogOf 109 = .ok (.isub, 1) := by decide +kernel
theorem dX1_copyLogOf_110 : decode cX1_copyLogOf 110 = .ok (.ireturn, 1) := by decide +kernel
set_option maxRecDepth 20000 in
theorem ggX1_applyUpTo_Jx4a65c_size_8abf5 : GoodIn wsX1_applyUpTo wsJx4a65c_size_8abf5 := goodIn_r _ [13, 14, 126, 127, 128] (by decide +kernel) (by decide +kernel)
set_option maxRecDepth 20000 in
theorem gX1_applyUpTo_Jx4a65c_size_8abf5 : GoodIn wsX1_applyUpTo (wsV RX1 50 RJx4a65c yJx4a65c_size_8abf5 wsJx4a65c_size_8abf5) := goodIn_app (goodIn_of _ (by decide +kernel)) ggX1_applyUpTo_Jx4a65c_size_8abf5
set_option maxRecDepth 20000 in
theorem ggX1_applyUpTo_Jx4a65c_get_915e3 : GoodIn wsX1_applyUpTo wsJx4a65c_get_915e3 := goodIn_r _ [18, 14, 19, 20, 21, 22, 23, 24, 25, 26, 27, 28, 29, 12, 30, 31, 126, 127, 128] (by decide +kernel) (by decide +kernel)
set_option maxRecDepth 20000 in
theorem gX1_applyUpTo_Jx4a65c_get_915e3 : GoodIn wsX1_applyUpTo (wsV RX1 54 RJx4a65c yJx4a65c_get_915e3 wsJx4a65c_get_915e3) := goodIn_app (goodIn_of _ (by decide +kernel)) ggX1_applyUpTo_Jx4a65c_get_915e3
set_option maxRecDepth 20000 in
theorem ggX1_applyUpTo_X4_carryOut : GoodIn wsX1_applyUpTo wsX4_carryOut := goodIn_r _ [36, 37, 38, 39, 40, 35, 41, 42, 43, 44, 45, 46, 47, 48, 49, 50, 51, 52, 53, 54, 55, 56, 57, 58, 59, 60, 61, 62, 63, 64, 10, 11, 12, 13, 14, 65, 16, 17, 18, 19, 20, 21, 22, 23, 24, 25, 26, 27, 28, 29, 30, 31, 66, 67, 68, 69, 70, 71, 72, 73, 74, 75, 76, 77, 78, 79, 80, 81, 82, 83, 84, 85, 86, 87, 88, 89, 90, 91, 92, 93, 94, 95, 96, 97, 98, 99, 100, 101, 102, 103, 104, 105, 106, 107, 108, 109, 110, 111, 112, 113, 114, 115, 116, 117, 118, 129, 130, 131, 132, 133, 134, 135, 136, 137, 138, 139, 140, 141, 142, 143, 126, 127, 128, 144, 145, 146] (by decide +kernel) (by decide +kernel)
set_option maxRecDepth 20000 in
theorem gX1_applyUpTo_X4_carryOut : GoodIn wsX1_applyUpTo (wsV RX1 89 RX4 yX4_carryOut wsX4_carryOut) := goodIn_app (goodIn_of _ (by decide +kernel)) ggX1_applyUpTo_X4_carryOut
theorem dX1_applyUpTo_0 : decode cX1_applyUpTo 0 = .ok (.iload_n 1, 1) := by decide +kernel
theorem dX1_applyUpTo_1 : decode cX1_applyUpTo 1 = .ok (.aload_n 0, 1) := by decide +kernel
theorem dX1_applyUpTo_2 : decode cX1_applyUpTo 2 = .ok (.getfield 10, 3) := by decide +kernel
theorem dX1_applyUpTo_5 : decode cX1_applyUpTo 5 = .ok (.invokevirtual 50, 3) := by decide +kernel
theorem dX1_applyUpTo_8 : decode cX1_applyUpTo 8 = .ok (.invokestatic 72, 3) := by decide +kernel
theorem dX1_applyUpTo_11 : decode cX1_applyUpTo 11 = .ok (.istore_n 3, 1) := by decide +kernel
theorem dX1_applyUpTo_12 : decode cX1_applyUpTo 12 = .ok (.aload_n 0, 1) := by decide +kernel
theorem dX1_applyUpTo_13 : decode cX1_applyUpTo 13 = .ok (.getfield 43, 3) := by decide +kernel
theorem dX1_applyUpTo_16 : decode cX1_applyUpTo 16 = .ok (.istore 4, 2) := by decide +kernel
theorem dX1_applyUpTo_18 : decode cX1_applyUpTo 18 = .ok (.iload 4, 2) := by decide +kernel
theorem dX1_applyUpTo_20 : decode cX1_applyUpTo 20 = .ok (.istore 5, 2) := by decide +kernel
theorem dX1_applyUpTo_22 : decode cX1_applyUpTo 22 = .ok (.iload 5, 2) := by decide +kernel
theorem dX1_applyUpTo_24 : decode cX1_applyUpTo 24 = .ok (.iload_n 3, 1) := by decide +kernel
theorem dX1_applyUpTo_25 : decode cX1_applyUpTo 25 = .ok (.if_icmp .ge 37, 3) := by decide +kernel
theorem dX1_applyUpTo_28 : decode cX1_applyUpTo 28 = .ok (.aload_n 0, 1) := by decide +kernel
theorem dX1_applyUpTo_29 : decode cX1_applyUpTo 29 = .ok (.getfield 25, 3) := by decide +kernel
theorem dX1_applyUpTo_32 : decode cX1_applyUpTo 32 = .ok (.aload_n 0, 1) := by decide +kernel
theorem dX1_applyUpTo_33 : decode cX1_applyUpTo 33 = .ok (.getfield 10, 3) := by decide +kernel
theorem dX1_applyUpTo_36 : decode cX1_applyUpTo 36 = .ok (.iload 5, 2) := by decide +kernel
theorem dX1_applyUpTo_38 : decode cX1_applyUpTo 38 = .ok (.invokevirtual 54, 3) := by decide +kernel
theorem dX1_applyUpTo_41 : decode cX1_applyUpTo 41 = .ok (.checkcast 58, 3) := by decide +kernel
theorem dX1_applyUpTo_44 : decode cX1_applyUpTo 44 = .ok (.aload_n 2, 1) := by decide +kernel
theorem dX1_applyUpTo_45 : decode cX1_applyUpTo 45 = .ok (.invokevirtual 89, 3) := by decide +kernel
theorem dX1_applyUpTo_48 : decode cX1_applyUpTo 48 = .ok (.aload_n 0, 1) := by decide +kernel
theorem dX1_applyUpTo_49 : decode cX1_applyUpTo 49 = .ok (.iload 5, 2) := by decide +kernel
theorem dX1_applyUpTo_51 : decode cX1_applyUpTo 51 = .ok (.iconst 1, 1) := by decide +kernel
theorem dX1_applyUpTo_52 : decode cX1_applyUpTo 52 = .ok (.iadd, 1) := by decide +kernel
theorem dX1_applyUpTo_53 : decode cX1_applyUpTo 53 = .ok (.putfield 43, 3) := by decide +kernel
theorem dX1_applyUpTo_56 : decode cX1_applyUpTo 56 = .ok (.iinc 5 1, 3) := by decide +kernel
theorem dX1_applyUpTo_59 : decode cX1_applyUpTo 59 = .ok (.goto (-37), 3) := by decide +kernel
theorem dX1_applyUpTo_62 : decode cX1_applyUpTo 62 = .ok (.aload_n 0, 1) := by decide +kernel
theorem dX1_applyUpTo_63 : decode cX1_applyUpTo 63 = .ok (.getfield 43, 3) := by decide +kernel
theorem dX1_applyUpTo_66 : decode cX1_applyUpTo 66 = .ok (.iload 4, 2) := by decide +kernel
theorem dX1_applyUpTo_68 : decode cX1_applyUpTo 68 = .ok (.isub, 1) := by decide +kernel
theorem dX1_applyUpTo_69 : decode cX1_applyUpTo 69 = .ok (.ireturn, 1) := by decide +kernel
theorem dX2_init_0 : decode cX2_init 0 = .ok (.aload_n 0, 1) := by decide +kernel
theorem dX2_init_1 : decode cX2_init 1 = .ok (.invokespecial 3, 3) := by decide +kernel
theorem dX2_init_4 : decode cX2_init 4 = .ok (.aload_n 0, 1) := by decide +kernel
theorem dX2_init_5 : decode cX2_init 5 = .ok (.bipush 8, 2) := by decide +kernel
theorem dX2_init_7 : decode cX2_init 7 = .ok (.newarray .int, 2) := by decide +kernel
theorem dX2_init_9 : decode cX2_init 9 = .ok (.putfield 9, 3) := by decide +kernel
theorem dX2_init_12 : decode cX2_init 12 = .ok (.aload_n 0, 1) := by decide +kernel
theorem dX2_init_13 : decode cX2_init 13 = .ok (.iload_n 1, 1) := by decide +kernel
theorem dX2_init_14 : decode cX2_init 14 = .ok (.putfield 15, 3) := by decide +kernel
theorem dX2_init_17 : decode cX2_init 17 = .ok (.return_, 1) := by decide +kernel
theorem dX2_forgetEvents_0 : decode cX2_forgetEvents 0 = .ok (.aload_n 0, 1) := by decide +kernel
theorem dX2_forgetEvents_1 : decode cX2_forgetEvents 1 = .ok (.iconst 0, 1) := by decide +kernel
theorem dX2_forgetEvents_2 : decode cX2_forgetEvents 2 = .ok (.putfield 19, 3) := by decide +kernel
theorem dX2_forgetEvents_5 : decode cX2_forgetEvents 5 = .ok (.return_, 1) := by decide +kernel
theorem dX2_addEvent_0 : decode cX2_addEvent 0 = .ok (.aload_n 0, 1) := by decide +kernel
theorem dX2_addEvent_1 : decode cX2_addEvent 1 = .ok (.getfield 9, 3) := by decide +kernel
theorem dX2_addEvent_4 : decode cX2_addEvent 4 = .ok (.aload_n 0, 1) := by decide +kernel
theorem dX2_addEvent_5 : decode cX2_addEvent 5 = .ok (.getfield 19, 3) := by decide +kernel
theorem dX2_addEvent_8 : decode cX2_addEvent 8 = .ok (.bipush 7, 2) := by decide +kernel
theorem dX2_addEvent_10 : decode cX2_addEvent 10 = .ok (.iand, 1) := by decide +kernel
theorem dX2_addEvent_11 : decode cX2_addEvent 11 = .ok (.bipush 10, 2) := by decide +kernel
theorem dX2_addEvent_13 : decode cX2_addEvent 13 = .ok (.iload_n 2, 1) := by decide +kernel
theorem dX2_addEvent_14 : decode cX2_addEvent 14 = .ok (.imul, 1) := by decide +kernel
theorem dX2_addEvent_15 : decode cX2_addEvent 15 = .ok (.iload_n 1, 1) := by decide +kernel
theorem dX2_addEvent_16 : decode cX2_addEvent 16 = .ok (.iadd, 1) := by decide +kernel
theorem dX2_addEvent_17 : decode cX2_addEvent 17 = .ok (.iastore, 1) := by decide +kernel
theorem dX2_addEvent_18 : decode cX2_addEvent 18 = .ok (.aload_n 0, 1) := by decide +kernel
theorem dX2_addEvent_19 : decode cX2_addEvent 19 = .ok (.dup, 1) := by decide +kernel
theorem dX2_addEvent_20 : decode cX2_addEvent 20 = .ok (.getfield 19, 3) := by decide +kernel
theorem dX2_addEvent_23 : decode cX2_addEvent 23 = .ok (.iconst 1, 1) := by decide +kernel
theorem dX2_addEvent_24 : decode cX2_addEvent 24 = .ok (.iadd, 1) := by decide +kernel
theorem dX2_addEvent_25 : decode cX2_addEvent 25 = .ok (.putfield 19, 3) := by decide +kernel
theorem dX2_addEvent_28 : decode cX2_addEvent 28 = .ok (.return_, 1) := by decide +kernel
theorem dX2_readEvent_0 : decode cX2_readEvent 0 = .ok (.iload_n 1, 1) := by decide +kernel
theorem dX2_readEvent_1 : decode cX2_readEvent 1 = .ok (.aload_n 0, 1) := by decide +kernel
theorem dX2_readEvent_2 : decode cX2_readEvent 2 = .ok (.getfield 19, 3) := by decide +kernel
theorem dX2_readEvent_5 : decode cX2_readEvent 5 = .ok (.if_icmp .ge 14, 3) := by decide +kernel
theorem dX2_readEvent_8 : decode cX2_readEvent 8 = .ok (.iload_n 1, 1) := by decide +kernel
theorem dX2_readEvent_9 : decode cX2_readEvent 9 = .ok (.aload_n 0, 1) := by decide +kernel
theorem dX2_readEvent_10 : decode cX2_readEvent 10 = .ok (.getfield 19, 3) := by decide +kernel
theorem dX2_readEvent_13 : decode cX2_readEvent 13 = .ok (.bipush 8, 2) := by decide +kernel
theorem dX2_readEvent_15 : decode cX2_readEvent 15 = .ok (.isub, 1) := by decide +kernel
theorem dX2_readEvent_16 : decode cX2_readEvent 16 = .ok (.if_icmp .ge 6, 3) := by decide +kernel
theorem dX2_readEvent_19 : decode cX2_readEvent 19 = .ok (.bipush (-3), 2) := by decide +kernel
theorem dX2_readEvent_21 : decode cX2_readEvent 21 = .ok (.ireturn, 1) := by decide +kernel
theorem dX2_readEvent_22 : decode cX2_readEvent 22 = .ok (.aload_n 0, 1) := by decide +kernel
theorem dX2_readEvent_23 : decode cX2_readEvent 23 = .ok (.getfield 9, 3) := by decide +kernel
theorem dX2_readEvent_26 : decode cX2_readEvent 26 = .ok (.iload_n 1, 1) := by decide +kernel
theorem dX2_readEvent_27 : decode cX2_readEvent 27 = .ok (.bipush 7, 2) := by decide +kernel
theorem dX2_readEvent_29 : decode cX2_readEvent 29 = .ok (.iand, 1) := by decide +kernel
theorem dX2_readEvent_30 : decode cX2_readEvent 30 = .ok (.iaload, 1) := by decide +kernel
theorem dX2_readEvent_31 : decode cX2_readEvent 31 = .ok (.ireturn, 1) := by decide +kernel
theorem dX3_init_0 : decode cX3_init 0 = .ok (.aload_n 0, 1) := by decide +kernel
theorem dX3_init_1 : decode cX3_init 1 = .ok (.invokespecial 1, 3) := by decide +kernel
theorem dX3_init_4 : decode cX3_init 4 = .ok (.aload_n 0, 1) := by decide +kernel
theorem dX3_init_5 : decode cX3_init 5 = .ok (.iload_n 1, 1) := by decide +kernel
theorem dX3_init_6 : decode cX3_init 6 = .ok (.putfield 7, 3) := by decide +kernel
theorem dX3_init_9 : decode cX3_init 9 = .ok (.aload_n 0, 1) := by decide +kernel
theorem dX3_init_10 : decode cX3_init 10 = .ok (.iload_n 2, 1) := by decide +kernel
theorem dX3_init_11 : decode cX3_init 11 = .ok (.putfield 13, 3) := by decide +kernel
theorem dX3_init_14 : decode cX3_init 14 = .ok (.aload_n 0, 1) := by decide +kernel
theorem dX3_init_15 : decode cX3_init 15 = .ok (.iload_n 3, 1) := by decide +kernel
theorem dX3_init_16 : decode cX3_init 16 = .ok (.putfield 16, 3) := by decide +kernel
theorem dX3_init_19 : decode cX3_init 19 = .ok (.aload_n 0, 1) := by decide +kernel
theorem dX3_init_20 : decode cX3_init 20 = .ok (.iload 4, 2) := by decide +kernel
theorem dX3_init_22 : decode cX3_init 22 = .ok (.putfield 19, 3) := by decide +kernel
theorem dX3_init_25 : decode cX3_init 25 = .ok (.aload_n 0, 1) := by decide +kernel
theorem dX3_init_26 : decode cX3_init 26 = .ok (.iload 5, 2) := by decide +kernel
theorem dX3_init_28 : decode cX3_init 28 = .ok (.putfield 22, 3) := by decide +kernel
theorem dX3_init_31 : decode cX3_init 31 = .ok (.return_, 1) := by decide +kernel
set_option maxRecDepth 20000 in
theorem ggX4_init_X0_init : GoodIn wsX4_init wsX0_init := goodIn_r _ [10, 11, 2, 3, 12, 15, 16, 17, 18] (by decide +kernel) (by decide +kernel)
set_option maxRecDepth 20000 in
theorem gX4_init_X0_init_n21 : GoodIn wsX4_init (wsX0_init) := ggX4_init_X0_init
theorem dX4_init_0 : decode cX4_init 0 = .ok (.aload_n 0, 1) := by decide +kernel
theorem dX4_init_1 : decode cX4_init 1 = .ok (.invokespecial 3, 3) := by decide +kernel
theorem dX4_init_4 : decode cX4_init 4 = .ok (.aload_n 0, 1) := by decide +kernel
theorem dX4_init_5 : decode cX4_init 5 = .ok (.bipush 12, 2) := by decide +kernel
theorem dX4_init_7 : decode cX4_init 7 = .ok (.anewarray 9, 3) := by decide +kernel
theorem dX4_init_10 : decode cX4_init 10 = .ok (.putfield 11, 3) := by decide +kernel
theorem dX4_init_13 : decode cX4_init 13 = .ok (.aload_n 0, 1) := by decide +kernel
theorem dX4_init_14 : decode cX4_init 14 = .ok (.iload_n 1, 1) := by decide +kernel
theorem dX4_init_15 : decode cX4_init 15 = .ok (.putfield 17, 3) := by decide +kernel
theorem dX4_init_18 : decode cX4_init 18 = .ok (.iconst 0, 1) := by decide +kernel
theorem dX4_init_19 : decode cX4_init 19 = .ok (.istore_n 2, 1) := by decide +kernel
theorem dX4_init_20 : decode cX4_init 20 = .ok (.iload_n 2, 1) := by decide +kernel
theorem dX4_init_21 : decode cX4_init 21 = .ok (.aload_n 0, 1) := by decide +kernel
theorem dX4_init_22 : decode cX4_init 22 = .ok (.getfield 11, 3) := by decide +kernel
theorem dX4_init_25 : decode cX4_init 25 = .ok (.arraylength, 1) := by decide +kernel
theorem dX4_init_26 : decode cX4_init 26 = .ok (.if_icmp .ge 22, 3) := by decide +kernel
theorem dX4_init_29 : decode cX4_init 29 = .ok (.aload_n 0, 1) := by decide +kernel
theorem dX4_init_30 : decode cX4_init 30 = .ok (.getfield 11, 3) := by decide +kernel
theorem dX4_init_33 : decode cX4_init 33 = .ok (.iload_n 2, 1) := by decide +kernel
theorem dX4_init_34 : decode cX4_init 34 = .ok (.new 9, 3) := by decide +kernel
theorem dX4_init_37 : decode cX4_init 37 = .ok (.dup, 1) := by decide +kernel
theorem dX4_init_38 : decode cX4_init 38 = .ok (.invokespecial 21, 3) := by decide +kernel
theorem dX4_init_41 : decode cX4_init 41 = .ok (.aastore, 1) := by decide +kernel
theorem dX4_init_42 : decode cX4_init 42 = .ok (.iinc 2 1, 3) := by decide +kernel
theorem dX4_init_45 : decode cX4_init 45 = .ok (.goto (-25), 3) := by decide +kernel
theorem dX4_init_48 : decode cX4_init 48 = .ok (.return_, 1) := by decide +kernel
theorem dX4_clear_0 : decode cX4_clear 0 = .ok (.aload_n 0, 1) := by decide +kernel
theorem dX4_clear_1 : decode cX4_clear 1 = .ok (.getfield 11, 3) := by decide +kernel
theorem dX4_clear_4 : decode cX4_clear 4 = .ok (.astore_n 1, 1) := by decide +kernel
theorem dX4_clear_5 : decode cX4_clear 5 = .ok (.aload_n 1, 1) := by decide +kernel
theorem dX4_clear_6 : decode cX4_clear 6 = .ok (.arraylength, 1) := by decide +kernel
theorem dX4_clear_7 : decode cX4_clear 7 = .ok (.istore_n 2, 1) := by decide +kernel
theorem dX4_clear_8 : decode cX4_clear 8 = .ok (.iconst 0, 1) := by decide +kernel
theorem dX4_clear_9 : decode cX4_clear 9 = .ok (.istore_n 3, 1) := by decide +kernel
theorem dX4_clear_10 : decode cX4_clear 10 = .ok (.iload_n 3, 1) := by decide +kernel
theorem dX4_clear_11 : decode cX4_clear 11 = .ok (.iload_n 2, 1) := by decide +kernel
theorem dX4_clear_12 : decode cX4_clear 12 = .ok (.if_icmp .ge 20, 3) := by decide +kernel
theorem dX4_clear_15 : decode cX4_clear 15 = .ok (.aload_n 1, 1) := by decide +kernel
theorem dX4_clear_16 : decode cX4_clear 16 = .ok (.iload_n 3, 1) := by decide +kernel
theorem dX4_clear_17 : decode cX4_clear 17 = .ok (.aaload, 1) := by decide +kernel
theorem dX4_clear_18 : decode cX4_clear 18 = .ok (.astore 4, 2) := by decide +kernel
theorem dX4_clear_20 : decode cX4_clear 20 = .ok (.aload 4, 2) := by decide +kernel
theorem dX4_clear_22 : decode cX4_clear 22 = .ok (.iconst (-1), 1) := by decide +kernel
theorem dX4_clear_23 : decode cX4_clear 23 = .ok (.putfield 22, 3) := by decide +kernel
theorem dX4_clear_26 : decode cX4_clear 26 = .ok (.iinc 3 1, 3) := by decide +kernel
theorem dX4_clear_29 : decode cX4_clear 29 = .ok (.goto (-19), 3) := by decide +kernel
theorem dX4_clear_32 : decode cX4_clear 32 = .ok (.return_, 1) := by decide +kernel
theorem dX4_find_0 : decode cX4_find 0 = .ok (.aload_n 0, 1) := by decide +kernel
theorem dX4_find_1 : decode cX4_find 1 = .ok (.getfield 11, 3) := by decide +kernel
theorem dX4_find_4 : decode cX4_find 4 = .ok (.astore_n 2, 1) := by decide +kernel
theorem dX4_find_5 : decode cX4_find 5 = .ok (.aload_n 2, 1) := by decide +kernel
theorem dX4_find_6 : decode cX4_find 6 = .ok (.arraylength, 1) := by decide +kernel
theorem dX4_find_7 : decode cX4_find 7 = .ok (.istore_n 3, 1) := by decide +kernel
theorem dX4_find_8 : decode cX4_find 8 = .ok (.iconst 0, 1) := by decide +kernel
theorem dX4_find_9 : decode cX4_find 9 = .ok (.istore 4, 2) := by decide +kernel
theorem dX4_find_11 : decode cX4_find 11 = .ok (.iload 4, 2) := by decide +kernel
theorem dX4_find_13 : decode cX4_find 13 = .ok (.iload_n 3, 1) := by decide +kernel
theorem dX4_find_14 : decode cX4_find 14 = .ok (.if_icmp .ge 27, 3) := by decide +kernel
theorem dX4_find_17 : decode cX4_find 17 = .ok (.aload_n 2, 1) := by decide +kernel
theorem dX4_find_18 : decode cX4_find 18 = .ok (.iload 4, 2) := by decide +kernel
theorem dX4_find_20 : decode cX4_find 20 = .ok (.aaload, 1) := by decide +kernel
theorem dX4_find_21 : decode cX4_find 21 = .ok (.astore 5, 2) := by decide +kernel
theorem dX4_find_23 : decode cX4_find 23 = .ok (.aload 5, 2) := by decide +kernel
theorem dX4_find_25 : decode cX4_find 25 = .ok (.getfield 22, 3) := by decide +kernel
theorem dX4_find_28 : decode cX4_find 28 = .ok (.iload_n 1, 1) := by decide +kernel
theorem dX4_find_29 : decode cX4_find 29 = .ok (.if_icmp .ne 6, 3) := by decide +kernel
theorem dX4_find_32 : decode cX4_find 32 = .ok (.aload 5, 2) := by decide +kernel
theorem dX4_find_34 : decode cX4_find 34 = .ok (.areturn, 1) := by decide +kernel
theorem dX4_find_35 : decode cX4_find 35 = .ok (.iinc 4 1, 3) := by decide +kernel
theorem dX4_find_38 : decode cX4_find 38 = .ok (.goto (-27), 3) := by decide +kernel
theorem dX4_find_41 : decode cX4_find 41 = .ok (.aconst_null, 1) := by decide +kernel
theorem dX4_find_42 : decode cX4_find 42 = .ok (.areturn, 1) := by decide +kernel
theorem dX4_size_0 : decode cX4_size 0 = .ok (.iconst 0, 1) := by decide +kernel
theorem dX4_size_1 : decode cX4_size 1 = .ok (.istore_n 1, 1) := by decide +kernel
theorem dX4_size_2 : decode cX4_size 2 = .ok (.aload_n 0, 1) := by decide +kernel
theorem dX4_size_3 : decode cX4_size 3 = .ok (.getfield 11, 3) := by decide +kernel
theorem dX4_size_6 : decode cX4_size 6 = .ok (.astore_n 2, 1) := by decide +kernel
theorem dX4_size_7 : decode cX4_size 7 = .ok (.aload_n 2, 1) := by decide +kernel
theorem dX4_size_8 : decode cX4_size 8 = .ok (.arraylength, 1) := by decide +kernel
theorem dX4_size_9 : decode cX4_size 9 = .ok (.istore_n 3, 1) := by decide +kernel
theorem dX4_size_10 : decode cX4_size 10 = .ok (.iconst 0, 1) := by decide +kernel
theorem dX4_size_11 : decode cX4_size 11 = .ok (.istore 4, 2) := by decide +kernel
theorem dX4_size_13 : decode cX4_size 13 = .ok (.iload 4, 2) := by decide +kernel
theorem dX4_size_15 : decode cX4_size 15 = .ok (.iload_n 3, 1) := by decide +kernel
theorem dX4_size_16 : decode cX4_size 16 = .ok (.if_icmp .ge 27, 3) := by decide +kernel
theorem dX4_size_19 : decode cX4_size 19 = .ok (.aload_n 2, 1) := by decide +kernel
theorem dX4_size_20 : decode cX4_size 20 = .ok (.iload 4, 2) := by decide +kernel
theorem dX4_size_22 : decode cX4_size 22 = .ok (.aaload, 1) := by decide +kernel
theorem dX4_size_23 : decode cX4_size 23 = .ok (.astore 5, 2) := by decide +kernel
theorem dX4_size_25 : decode cX4_size 25 = .ok (.aload 5, 2) := by decide +kernel
theorem dX4_size_27 : decode cX4_size 27 = .ok (.getfield 22, 3) := by decide +kernel
theorem dX4_size_30 : decode cX4_size 30 = .ok (.iconst (-1), 1) := by decide +kernel
theorem dX4_size_31 : decode cX4_size 31 = .ok (.if_icmp .eq 6, 3) := by decide +kernel
theorem dX4_size_34 : decode cX4_size 34 = .ok (.iinc 1 1, 3) := by decide +kernel
theorem dX4_size_37 : decode cX4_size 37 = .ok (.iinc 4 1, 3) := by decide +kernel
theorem dX4_size_40 : decode cX4_size 40 = .ok (.goto (-27), 3) := by decide +kernel
theorem dX4_size_43 : decode cX4_size 43 = .ok (.iload_n 1, 1) := by decide +kernel
theorem dX4_size_44 : decode cX4_size 44 = .ok (.ireturn, 1) := by decide +kernel
set_option maxRecDepth 20000 in
theorem ggX4_countChildren_X7_parentOf : GoodIn wsX4_countChildren wsX7_parentOf := goodIn_r _ [5] (by decide +kernel) (by decide +kernel)
set_option maxRecDepth 20000 in
theorem gX4_countChildren_X7_parentOf_n25 : GoodIn wsX4_countChildren (wsX7_parentOf) := ggX4_countChildren_X7_parentOf
theorem dX4_countChildren_0 : decode cX4_countChildren 0 = .ok (.iconst 0, 1) := by decide +kernel
theorem dX4_countChildren_1 : decode cX4_countChildren 1 = .ok (.istore_n 2, 1) := by decide +kernel
theorem dX4_countChildren_2 : decode cX4_countChildren 2 = .ok (.aload_n 0, 1) := by decide +kernel
theorem dX4_countChildren_3 : decode cX4_countChildren 3 = .ok (.getfield 11, 3) := by decide +kernel
theorem dX4_countChildren_6 : decode cX4_countChildren 6 = .ok (.astore_n 3, 1) := by decide +kernel
theorem dX4_countChildren_7 : decode cX4_countChildren 7 = .ok (.aload_n 3, 1) := by decide +kernel
theorem dX4_countChildren_8 : decode cX4_countChildren 8 = .ok (.arraylength, 1) := by decide +kernel
theorem dX4_countChildren_9 : decode cX4_countChildren 9 = .ok (.istore 4, 2) := by decide +kernel
theorem dX4_countChildren_11 : decode cX4_countChildren 11 = .ok (.iconst 0, 1) := by decide +kernel
theorem dX4_countChildren_12 : decode cX4_countChildren 12 = .ok (.istore 5, 2) := by decide +kernel
theorem dX4_countChildren_14 : decode cX4_countChildren 14 = .ok (.iload 5, 2) := by decide +kernel
theorem dX4_countChildren_16 : decode cX4_countChildren 16 = .ok (.iload 4, 2) := by decide +kernel
theorem dX4_countChildren_18 : decode cX4_countChildren 18 = .ok (.if_icmp .ge 39, 3) := by decide +kernel
theorem dX4_countChildren_21 : decode cX4_countChildren 21 = .ok (.aload_n 3, 1) := by decide +kernel
theorem dX4_countChildren_22 : decode cX4_countChildren 22 = .ok (.iload 5, 2) := by decide +kernel
theorem dX4_countChildren_24 : decode cX4_countChildren 24 = .ok (.aaload, 1) := by decide +kernel
theorem dX4_countChildren_25 : decode cX4_countChildren 25 = .ok (.astore 6, 2) := by decide +kernel
theorem dX4_countChildren_27 : decode cX4_countChildren 27 = .ok (.aload 6, 2) := by decide +kernel
theorem dX4_countChildren_29 : decode cX4_countChildren 29 = .ok (.getfield 22, 3) := by decide +kernel
theorem dX4_countChildren_32 : decode cX4_countChildren 32 = .ok (.iconst (-1), 1) := by decide +kernel
theorem dX4_countChildren_33 : decode cX4_countChildren 33 = .ok (.if_icmp .eq 18, 3) := by decide +kernel
theorem dX4_countChildren_36 : decode cX4_countChildren 36 = .ok (.aload 6, 2) := by decide +kernel
theorem dX4_countChildren_38 : decode cX4_countChildren 38 = .ok (.getfield 22, 3) := by decide +kernel
theorem dX4_countChildren_41 : decode cX4_countChildren 41 = .ok (.invokestatic 25, 3) := by decide +kernel
theorem dX4_countChildren_44 : decode cX4_countChildren 44 = .ok (.iload_n 1, 1) := by decide +kernel
theorem dX4_countChildren_45 : decode cX4_countChildren 45 = .ok (.if_icmp .ne 6, 3) := by decide +kernel
theorem dX4_countChildren_48 : decode cX4_countChildren 48 = .ok (.iinc 2 1, 3) := by decide +kernel
theorem dX4_countChildren_51 : decode cX4_countChildren 51 = .ok (.iinc 5 1, 3) := by decide +kernel
theorem dX4_countChildren_54 : decode cX4_countChildren 54 = .ok (.goto (-40), 3) := by decide +kernel
theorem dX4_countChildren_57 : decode cX4_countChildren 57 = .ok (.iload_n 2, 1) := by decide +kernel
theorem dX4_countChildren_58 : decode cX4_countChildren 58 = .ok (.ireturn, 1) := by decide +kernel
set_option maxRecDepth 20000 in
theorem ggX4_canHaveChildren_X4_find : GoodIn wsX4_canHaveChildren wsX4_find := goodIn_r _ [6, 7, 8, 13, 14, 9, 10, 11, 12] (by decide +kernel) (by decide +kernel)
set_option maxRecDepth 20000 in
theorem gX4_canHaveChildren_X4_find : GoodIn wsX4_canHaveChildren (wsV RX4 29 RX4 yX4_find wsX4_find) := goodIn_app (goodIn_of _ (by decide +kernel)) ggX4_canHaveChildren_X4_find
theorem dX4_canHaveChildren_0 : decode cX4_canHaveChildren 0 = .ok (.iload_n 1, 1) := by decide +kernel
theorem dX4_canHaveChildren_1 : decode cX4_canHaveChildren 1 = .ok (.ifCond .ne 5, 3) := by decide +kernel
theorem dX4_canHaveChildren_4 : decode cX4_canHaveChildren 4 = .ok (.iconst 1, 1) := by decide +kernel
theorem dX4_canHaveChildren_5 : decode cX4_canHaveChildren 5 = .ok (.ireturn, 1) := by decide +kernel
theorem dX4_canHaveChildren_6 : decode cX4_canHaveChildren 6 = .ok (.aload_n 0, 1) := by decide +kernel
theorem dX4_canHaveChildren_7 : decode cX4_canHaveChildren 7 = .ok (.iload_n 1, 1) := by decide +kernel
theorem dX4_canHaveChildren_8 : decode cX4_canHaveChildren 8 = .ok (.invokevirtual 29, 3) := by decide +kernel
theorem dX4_canHaveChildren_11 : decode cX4_canHaveChildren 11 = .ok (.astore_n 2, 1) := by decide +kernel
theorem dX4_canHaveChildren_12 : decode cX4_canHaveChildren 12 = .ok (.aload_n 2, 1) := by decide +kernel
theorem dX4_canHaveChildren_13 : decode cX4_canHaveChildren 13 = .ok (.ifnull 16, 3) := by decide +kernel
theorem dX4_canHaveChildren_16 : decode cX4_canHaveChildren 16 = .ok (.aload_n 2, 1) := by decide +kernel
theorem dX4_canHaveChildren_17 : decode cX4_canHaveChildren 17 = .ok (.getfield 33, 3) := by decide +kernel
theorem dX4_canHaveChildren_20 : decode cX4_canHaveChildren 20 = .ok (.bipush (-8), 2) := by decide +kernel
theorem dX4_canHaveChildren_22 : decode cX4_canHaveChildren 22 = .ok (.if_icmp .ne 7, 3) := by decide +kernel
theorem dX4_canHaveChildren_25 : decode cX4_canHaveChildren 25 = .ok (.iconst 1, 1) := by decide +kernel
theorem dX4_canHaveChildren_26 : decode cX4_canHaveChildren 26 = .ok (.goto 4, 3) := by decide +kernel
theorem dX4_canHaveChildren_29 : decode cX4_canHaveChildren 29 = .ok (.iconst 0, 1) := by decide +kernel
theorem dX4_canHaveChildren_30 : decode cX4_canHaveChildren 30 = .ok (.ireturn, 1) := by decide +kernel
set_option maxRecDepth 20000 in
theorem ggX4_carryOut_X4_addNode : GoodIn wsX4_carryOut wsX4_addNode := goodIn_r _ [6, 7, 8, 9, 10, 11, 12, 13, 14, 15, 16, 17, 18, 5, 19, 20, 21, 22, 23, 24, 25, 26, 27, 28, 29, 30, 31, 32, 33, 34, 35, 36, 37, 38, 39, 40, 41, 42, 43, 44, 45, 46, 47, 48, 49, 50, 51, 52, 53, 54, 55, 56, 57, 58, 59, 60, 61, 62, 63, 64, 65, 66, 67, 68, 69, 70, 71, 72, 73, 74, 75, 76, 77, 78, 79, 105, 106, 107, 108, 109, 110, 111, 112, 113, 114, 115, 116, 117, 118, 119, 120, 121, 122, 123, 124, 125] (by decide +kernel) (by decide +kernel)
set_option maxRecDepth 20000 in
theorem gX4_carryOut_X4_addNode : GoodIn wsX4_carryOut (wsV RX4 41 RX4 yX4_addNode wsX4_addNode) := goodIn_app (goodIn_of _ (by decide +kernel)) ggX4_carryOut_X4_addNode
set_option maxRecDepth 20000 in
theorem ggX4_carryOut_X4_changeNode : GoodIn wsX4_carryOut wsX4_changeNode := goodIn_r _ [83, 7, 9, 10, 11, 14, 8, 15, 16, 17, 18, 5, 19, 20, 21, 22, 23, 24, 25, 26, 27, 28, 29, 30, 31, 32, 33, 34, 35, 36, 37, 38, 39, 40, 41, 42, 43, 44, 45, 46, 47, 48, 49, 50, 51, 52, 53, 54, 55, 56, 57, 58, 59, 60, 61, 62, 63, 64, 65, 66, 67, 68, 69, 70, 71, 72, 73, 74, 75, 76, 77, 78, 79, 105, 106, 107, 108, 109, 110, 111, 112, 113, 114, 115, 116, 117, 118, 119, 120, 121, 122, 123, 124, 125] (by decide +kernel) (by decide +kernel)
set_option maxRecDepth 20000 in
theorem gX4_carryOut_X4_changeNode : GoodIn wsX4_carryOut (wsV RX4 45 RX4 yX4_changeNode wsX4_changeNode) := goodIn_app (goodIn_of _ (by decide +kernel)) ggX4_carryOut_X4_changeNode
set_option maxRecDepth 20000 in
theorem ggX4_carryOut_X4_removeNode : GoodIn wsX4_carryOut wsX4_removeNode := goodIn_r _ [87, 7, 14, 15, 16, 17, 18, 5, 19, 20, 8, 88, 89, 90, 91, 92, 93, 21, 22, 23, 24, 25, 26, 27, 28, 29, 30, 31, 32, 33, 34, 35, 36, 37, 38, 39, 40, 41, 42, 43, 44, 45, 46, 47, 48, 49, 50, 51, 52, 53, 54, 55, 56, 57, 58, 59, 60, 61, 62, 63, 64, 65, 66, 67, 68, 69, 70, 71, 72, 73, 74, 75, 76, 77, 78, 79, 105, 106, 107, 108, 109, 114, 115, 110, 111, 112, 113, 116, 117, 118, 119, 120, 121, 122, 123, 124, 125] (by decide +kernel) (by decide +kernel)
set_option maxRecDepth 20000 in
theorem gX4_carryOut_X4_removeNode : GoodIn wsX4_carryOut (wsV RX4 48 RX4 yX4_removeNode wsX4_removeNode) := goodIn_app (goodIn_of _ (by decide +kernel)) ggX4_carryOut_X4_removeNode
set_option maxRecDepth 20000 in
theorem ggX4_carryOut_X4_removeNodesOfSession : GoodIn wsX4_carryOut wsX4_removeNodesOfSession := goodIn_r _ [97, 20, 12, 14, 15, 98, 99, 100, 5, 101, 8, 13, 102, 103, 104, 88, 89, 90, 91, 92, 93, 21, 22, 23, 24, 25, 26, 27, 28, 29, 30, 31, 32, 33, 34, 35, 36, 37, 38, 39, 40, 41, 42, 43, 44, 45, 46, 47, 48, 49, 50, 51, 52, 53, 54, 55, 56, 57, 58, 59, 60, 61, 62, 63, 64, 65, 66, 67, 68, 69, 70, 71, 72, 73, 74, 75, 76, 77, 78, 79, 114, 115, 105, 106, 107, 108, 109, 110, 111, 112, 113, 116, 117, 118, 119, 120, 121, 122, 123, 124, 125] (by decide +kernel) (by decide +kernel)
set_option maxRecDepth 20000 in
theorem gX4_carryOut_X4_removeNodesOfSession : GoodIn wsX4_carryOut (wsV RX4 51 RX4 yX4_removeNodesOfSession wsX4_removeNodesOfSession) := goodIn_app (goodIn_of _ (by decide +kernel)) ggX4_carryOut_X4_removeNodesOfSession
theorem dX4_carryOut_0 : decode cX4_carryOut 0 = .ok (.aload_n 1, 1) := by decide +kernel
theorem dX4_carryOut_1 : decode cX4_carryOut 1 = .ok (.getfield 36, 3) := by decide +kernel
theorem dX4_carryOut_4 : decode cX4_carryOut 4 = .ok (.tableswitch 55 0 2 #[28, 37, 46], 28) := by decide +kernel
theorem dX4_carryOut_32 : decode cX4_carryOut 32 = .ok (.aload_n 0, 1) := by decide +kernel
theorem dX4_carryOut_33 : decode cX4_carryOut 33 = .ok (.aload_n 1, 1) := by decide +kernel
theorem dX4_carryOut_34 : decode cX4_carryOut 34 = .ok (.aload_n 2, 1) := by decide +kernel
theorem dX4_carryOut_35 : decode cX4_carryOut 35 = .ok (.invokevirtual 41, 3) := by decide +kernel
theorem dX4_carryOut_38 : decode cX4_carryOut 38 = .ok (.goto 27, 3) := by decide +kernel
theorem dX4_carryOut_41 : decode cX4_carryOut 41 = .ok (.aload_n 0, 1) := by decide +kernel
theorem dX4_carryOut_42 : decode cX4_carryOut 42 = .ok (.aload_n 1, 1) := by decide +kernel
theorem dX4_carryOut_43 : decode cX4_carryOut 43 = .ok (.aload_n 2, 1) := by decide +kernel
theorem dX4_carryOut_44 : decode cX4_carryOut 44 = .ok (.invokevirtual 45, 3) := by decide +kernel
theorem dX4_carryOut_47 : decode cX4_carryOut 47 = .ok (.goto 18, 3) := by decide +kernel
theorem dX4_carryOut_50 : decode cX4_carryOut 50 = .ok (.aload_n 0, 1) := by decide +kernel
theorem dX4_carryOut_51 : decode cX4_carryOut 51 = .ok (.aload_n 1, 1) := by decide +kernel
theorem dX4_carryOut_52 : decode cX4_carryOut 52 = .ok (.aload_n 2, 1) := by decide +kernel
theorem dX4_carryOut_53 : decode cX4_carryOut 53 = .ok (.invokevirtual 48, 3) := by decide +kernel
theorem dX4_carryOut_56 : decode cX4_carryOut 56 = .ok (.goto 9, 3) := by decide +kernel
theorem dX4_carryOut_59 : decode cX4_carryOut 59 = .ok (.aload_n 0, 1) := by decide +kernel
theorem dX4_carryOut_60 : decode cX4_carryOut 60 = .ok (.aload_n 1, 1) := by decide +kernel
theorem dX4_carryOut_61 : decode cX4_carryOut 61 = .ok (.aload_n 2, 1) := by decide +kernel
theorem dX4_carryOut_62 : decode cX4_carryOut 62 = .ok (.invokevirtual 51, 3) := by decide +kernel
theorem dX4_carryOut_65 : decode cX4_carryOut 65 = .ok (.return_, 1) := by decide +kernel
set_option maxRecDepth 20000 in
theorem ggX4_addNode_X4_find : GoodIn wsX4_addNode wsX4_find := goodIn_r _ [14, 15, 2, 84, 85, 80, 81, 82, 83] (by decide +kernel) (by decide +kernel)
set_option maxRecDepth 20000 in
theorem gX4_addNode_X4_find : GoodIn wsX4_addNode (wsV RX4 29 RX4 yX4_find wsX4_find) := goodIn_app (goodIn_of _ (by decide +kernel)) ggX4_addNode_X4_find
set_option maxRecDepth 20000 in
theorem ggX4_addNode_X6_fire : GoodIn wsX4_addNode wsX6_fire := goodIn_r _ [20, 21, 22, 23, 24, 25, 26, 27, 28, 29, 30, 31, 32, 33, 34, 35, 36, 37, 38, 39, 40, 41, 42, 43, 44, 45, 46, 47, 48, 49, 50, 51, 52, 53, 54, 55, 56, 57, 58, 59, 60, 61, 62, 63, 64, 65, 66, 67, 68, 69, 70, 71, 72, 73, 74, 86, 87, 88, 89, 90, 91, 92, 93, 94, 95] (by decide +kernel) (by decide +kernel)
set_option maxRecDepth 20000 in
theorem gX4_addNode_X6_fire : GoodIn wsX4_addNode (wsV RX4 68 RX6 yX6_fire wsX6_fire) := goodIn_app (goodIn_of _ (by decide +kernel)) ggX4_addNode_X6_fire
theorem dX4_addNode_0 : decode cX4_addNode 0 = .ok (.aload_n 0, 1) := by decide +kernel
theorem dX4_addNode_1 : decode cX4_addNode 1 = .ok (.iconst (-1), 1) := by decide +kernel
theorem dX4_addNode_2 : decode cX4_addNode 2 = .ok (.invokevirtual 29, 3) := by decide +kernel
theorem dX4_addNode_5 : decode cX4_addNode 5 = .ok (.astore_n 3, 1) := by decide +kernel
theorem dX4_addNode_6 : decode cX4_addNode 6 = .ok (.aload_n 3, 1) := by decide +kernel
theorem dX4_addNode_7 : decode cX4_addNode 7 = .ok (.ifnonnull 4, 3) := by decide +kernel
theorem dX4_addNode_10 : decode cX4_addNode 10 = .ok (.return_, 1) := by decide +kernel
theorem dX4_addNode_11 : decode cX4_addNode 11 = .ok (.aload_n 3, 1) := by decide +kernel
theorem dX4_addNode_12 : decode cX4_addNode 12 = .ok (.aload_n 1, 1) := by decide +kernel
theorem dX4_addNode_13 : decode cX4_addNode 13 = .ok (.getfield 54, 3) := by decide +kernel
theorem dX4_addNode_16 : decode cX4_addNode 16 = .ok (.putfield 22, 3) := by decide +kernel
theorem dX4_addNode_19 : decode cX4_addNode 19 = .ok (.aload_n 3, 1) := by decide +kernel
theorem dX4_addNode_20 : decode cX4_addNode 20 = .ok (.aload_n 1, 1) := by decide +kernel
theorem dX4_addNode_21 : decode cX4_addNode 21 = .ok (.getfield 55, 3) := by decide +kernel
theorem dX4_addNode_24 : decode cX4_addNode 24 = .ok (.putfield 58, 3) := by decide +kernel
theorem dX4_addNode_27 : decode cX4_addNode 27 = .ok (.aload_n 3, 1) := by decide +kernel
theorem dX4_addNode_28 : decode cX4_addNode 28 = .ok (.iconst 0, 1) := by decide +kernel
theorem dX4_addNode_29 : decode cX4_addNode 29 = .ok (.putfield 59, 3) := by decide +kernel
theorem dX4_addNode_32 : decode cX4_addNode 32 = .ok (.aload_n 3, 1) := by decide +kernel
theorem dX4_addNode_33 : decode cX4_addNode 33 = .ok (.aload_n 1, 1) := by decide +kernel
theorem dX4_addNode_34 : decode cX4_addNode 34 = .ok (.getfield 62, 3) := by decide +kernel
theorem dX4_addNode_37 : decode cX4_addNode 37 = .ok (.putfield 33, 3) := by decide +kernel
theorem dX4_addNode_40 : decode cX4_addNode 40 = .ok (.aload_n 2, 1) := by decide +kernel
theorem dX4_addNode_41 : decode cX4_addNode 41 = .ok (.aload_n 0, 1) := by decide +kernel
theorem dX4_addNode_42 : decode cX4_addNode 42 = .ok (.getfield 17, 3) := by decide +kernel
theorem dX4_addNode_45 : decode cX4_addNode 45 = .ok (.aload_n 3, 1) := by decide +kernel
theorem dX4_addNode_46 : decode cX4_addNode 46 = .ok (.getfield 22, 3) := by decide +kernel
theorem dX4_addNode_49 : decode cX4_addNode 49 = .ok (.iconst 0, 1) := by decide +kernel
theorem dX4_addNode_50 : decode cX4_addNode 50 = .ok (.aload_n 1, 1) := by decide +kernel
theorem dX4_addNode_51 : decode cX4_addNode 51 = .ok (.getfield 65, 3) := by decide +kernel
theorem dX4_addNode_54 : decode cX4_addNode 54 = .ok (.invokevirtual 68, 3) := by decide +kernel
theorem dX4_addNode_57 : decode cX4_addNode 57 = .ok (.return_, 1) := by decide +kernel
set_option maxRecDepth 20000 in
theorem ggX4_changeNode_X4_find : GoodIn wsX4_changeNode wsX4_find := goodIn_r _ [12, 13, 6, 82, 83, 78, 79, 80, 81] (by decide +kernel) (by decide +kernel)
set_option maxRecDepth 20000 in
theorem gX4_changeNode_X4_find : GoodIn wsX4_changeNode (wsV RX4 29 RX4 yX4_find wsX4_find) := goodIn_app (goodIn_of _ (by decide +kernel)) ggX4_changeNode_X4_find
set_option maxRecDepth 20000 in
theorem ggX4_changeNode_X6_fire : GoodIn wsX4_changeNode wsX6_fire := goodIn_r _ [18, 19, 20, 21, 22, 23, 24, 25, 26, 27, 28, 29, 30, 31, 32, 33, 34, 35, 36, 37, 38, 39, 40, 41, 42, 43, 44, 45, 46, 47, 48, 49, 50, 51, 52, 53, 54, 55, 56, 57, 58, 59, 60, 61, 62, 63, 64, 65, 66, 67, 68, 69, 70, 71, 72, 84, 85, 86, 87, 88, 89, 90, 91, 92, 93] (by decide +kernel) (by decide +kernel)
set_option maxRecDepth 20000 in
theorem gX4_changeNode_X6_fire : GoodIn wsX4_changeNode (wsV RX4 68 RX6 yX6_fire wsX6_fire) := goodIn_app (goodIn_of _ (by decide +kernel)) ggX4_changeNode_X6_fire
theorem dX4_changeNode_0 : decode cX4_changeNode 0 = .ok (.aload_n 0, 1) := by decide +kernel
theorem dX4_changeNode_1 : decode cX4_changeNode 1 = .ok (.aload_n 1, 1) := by decide +kernel
theorem dX4_changeNode_2 : decode cX4_changeNode 2 = .ok (.getfield 54, 3) := by decide +kernel
theorem dX4_changeNode_5 : decode cX4_changeNode 5 = .ok (.invokevirtual 29, 3) := by decide +kernel
theorem dX4_changeNode_8 : decode cX4_changeNode 8 = .ok (.astore_n 3, 1) := by decide +kernel
theorem dX4_changeNode_9 : decode cX4_changeNode 9 = .ok (.aload_n 3, 1) := by decide +kernel
theorem dX4_changeNode_10 : decode cX4_changeNode 10 = .ok (.ifnonnull 4, 3) := by decide +kernel
theorem dX4_changeNode_13 : decode cX4_changeNode 13 = .ok (.return_, 1) := by decide +kernel
theorem dX4_changeNode_14 : decode cX4_changeNode 14 = .ok (.aload_n 3, 1) := by decide +kernel
theorem dX4_changeNode_15 : decode cX4_changeNode 15 = .ok (.aload_n 1, 1) := by decide +kernel
theorem dX4_changeNode_16 : decode cX4_changeNode 16 = .ok (.getfield 55, 3) := by decide +kernel
theorem dX4_changeNode_19 : decode cX4_changeNode 19 = .ok (.putfield 58, 3) := by decide +kernel
theorem dX4_changeNode_22 : decode cX4_changeNode 22 = .ok (.aload_n 3, 1) := by decide +kernel
theorem dX4_changeNode_23 : decode cX4_changeNode 23 = .ok (.dup, 1) := by decide +kernel
theorem dX4_changeNode_24 : decode cX4_changeNode 24 = .ok (.getfield 59, 3) := by decide +kernel
theorem dX4_changeNode_27 : decode cX4_changeNode 27 = .ok (.iconst 1, 1) := by decide +kernel
theorem dX4_changeNode_28 : decode cX4_changeNode 28 = .ok (.iadd, 1) := by decide +kernel
theorem dX4_changeNode_29 : decode cX4_changeNode 29 = .ok (.putfield 59, 3) := by decide +kernel
theorem dX4_changeNode_32 : decode cX4_changeNode 32 = .ok (.aload_n 2, 1) := by decide +kernel
theorem dX4_changeNode_33 : decode cX4_changeNode 33 = .ok (.aload_n 0, 1) := by decide +kernel
theorem dX4_changeNode_34 : decode cX4_changeNode 34 = .ok (.getfield 17, 3) := by decide +kernel
theorem dX4_changeNode_37 : decode cX4_changeNode 37 = .ok (.aload_n 3, 1) := by decide +kernel
theorem dX4_changeNode_38 : decode cX4_changeNode 38 = .ok (.getfield 22, 3) := by decide +kernel
theorem dX4_changeNode_41 : decode cX4_changeNode 41 = .ok (.iconst 1, 1) := by decide +kernel
theorem dX4_changeNode_42 : decode cX4_changeNode 42 = .ok (.aload_n 1, 1) := by decide +kernel
theorem dX4_changeNode_43 : decode cX4_changeNode 43 = .ok (.getfield 65, 3) := by decide +kernel
theorem dX4_changeNode_46 : decode cX4_changeNode 46 = .ok (.invokevirtual 68, 3) := by decide +kernel
theorem dX4_changeNode_49 : decode cX4_changeNode 49 = .ok (.return_, 1) := by decide +kernel
set_option maxRecDepth 20000 in
theorem ggX4_removeNode_X4_find : GoodIn wsX4_removeNode wsX4_find := goodIn_r _ [8, 9, 10, 81, 82, 83, 84, 85, 86] (by decide +kernel) (by decide +kernel)
set_option maxRecDepth 20000 in
theorem gX4_removeNode_X4_find : GoodIn wsX4_removeNode (wsV RX4 29 RX4 yX4_find wsX4_find) := goodIn_app (goodIn_of _ (by decide +kernel)) ggX4_removeNode_X4_find
set_option maxRecDepth 20000 in
theorem ggX4_removeNode_X0_release : GoodIn wsX4_removeNode wsX0_release := goodIn_r _ [15, 16, 83, 84, 85, 86] (by decide +kernel) (by decide +kernel)
set_option maxRecDepth 20000 in
theorem gX4_removeNode_X0_release : GoodIn wsX4_removeNode (wsV RX4 74 RX0 yX0_release wsX0_release) := goodIn_app (goodIn_of _ (by decide +kernel)) ggX4_removeNode_X0_release
set_option maxRecDepth 20000 in
theorem ggX4_removeNode_X6_fire : GoodIn wsX4_removeNode wsX6_fire := goodIn_r _ [21, 22, 23, 24, 25, 26, 27, 28, 29, 30, 31, 32, 33, 34, 35, 36, 37, 38, 39, 40, 41, 42, 43, 44, 45, 46, 47, 48, 49, 50, 51, 52, 53, 54, 55, 56, 57, 58, 59, 60, 61, 62, 63, 64, 65, 66, 67, 68, 69, 70, 71, 72, 73, 74, 75, 87, 88, 89, 90, 91, 92, 93, 94, 95, 96] (by decide +kernel) (by decide +kernel)
set_option maxRecDepth 20000 in
theorem gX4_removeNode_X6_fire : GoodIn wsX4_removeNode (wsV RX4 68 RX6 yX6_fire wsX6_fire) := goodIn_app (goodIn_of _ (by decide +kernel)) ggX4_removeNode_X6_fire
theorem dX4_removeNode_0 : decode cX4_removeNode 0 = .ok (.aload_n 0, 1) := by decide +kernel
theorem dX4_removeNode_1 : decode cX4_removeNode 1 = .ok (.aload_n 1, 1) := by decide +kernel
theorem dX4_removeNode_2 : decode cX4_removeNode 2 = .ok (.getfield 54, 3) := by decide +kernel
theorem dX4_removeNode_5 : decode cX4_removeNode 5 = .ok (.invokevirtual 29, 3) := by decide +kernel
theorem dX4_removeNode_8 : decode cX4_removeNode 8 = .ok (.astore_n 3, 1) := by decide +kernel
theorem dX4_removeNode_9 : decode cX4_removeNode 9 = .ok (.aload_n 3, 1) := by decide +kernel
theorem dX4_removeNode_10 : decode cX4_removeNode 10 = .ok (.ifnonnull 4, 3) := by decide +kernel
theorem dX4_removeNode_13 : decode cX4_removeNode 13 = .ok (.return_, 1) := by decide +kernel
theorem dX4_removeNode_14 : decode cX4_removeNode 14 = .ok (.aload_n 2, 1) := by decide +kernel
theorem dX4_removeNode_15 : decode cX4_removeNode 15 = .ok (.aload_n 0, 1) := by decide +kernel
theorem dX4_removeNode_16 : decode cX4_removeNode 16 = .ok (.getfield 17, 3) := by decide +kernel
theorem dX4_removeNode_19 : decode cX4_removeNode 19 = .ok (.aload_n 3, 1) := by decide +kernel
theorem dX4_removeNode_20 : decode cX4_removeNode 20 = .ok (.invokevirtual 74, 3) := by decide +kernel
theorem dX4_removeNode_23 : decode cX4_removeNode 23 = .ok (.iconst 2, 1) := by decide +kernel
theorem dX4_removeNode_24 : decode cX4_removeNode 24 = .ok (.aload_n 1, 1) := by decide +kernel
theorem dX4_removeNode_25 : decode cX4_removeNode 25 = .ok (.getfield 65, 3) := by decide +kernel
theorem dX4_removeNode_28 : decode cX4_removeNode 28 = .ok (.invokevirtual 68, 3) := by decide +kernel
theorem dX4_removeNode_31 : decode cX4_removeNode 31 = .ok (.return_, 1) := by decide +kernel
set_option maxRecDepth 20000 in
theorem ggX4_removeNodesOfSession_X4_firstNodeOf : GoodIn wsX4_removeNodesOfSession wsX4_firstNodeOf := goodIn_r _ [9, 1, 10, 11, 12, 13, 14, 80, 81, 87, 88, 89, 90] (by decide +kernel) (by decide +kernel)
set_option maxRecDepth 20000 in
theorem gX4_removeNodesOfSession_X4_firstNodeOf : GoodIn wsX4_removeNodesOfSession (wsV RX4 78 RX4 yX4_firstNodeOf wsX4_firstNodeOf) := goodIn_app (goodIn_of _ (by decide +kernel)) ggX4_removeNodesOfSession_X4_firstNodeOf
set_option maxRecDepth 20000 in
theorem ggX4_removeNodesOfSession_X0_release : GoodIn wsX4_removeNodesOfSession wsX0_release := goodIn_r _ [19, 20, 87, 88, 89, 90] (by decide +kernel) (by decide +kernel)
set_option maxRecDepth 20000 in
theorem gX4_removeNodesOfSession_X0_release : GoodIn wsX4_removeNodesOfSession (wsV RX4 74 RX0 yX0_release wsX0_release) := goodIn_app (goodIn_of _ (by decide +kernel)) ggX4_removeNodesOfSession_X0_release
set_option maxRecDepth 20000 in
theorem ggX4_removeNodesOfSession_X6_fire : GoodIn wsX4_removeNodesOfSession wsX6_fire := goodIn_r _ [25, 26, 27, 28, 29, 30, 31, 32, 33, 34, 35, 36, 37, 38, 39, 40, 41, 42, 43, 44, 45, 46, 47, 48, 49, 50, 51, 52, 53, 54, 55, 56, 57, 58, 59, 60, 61, 62, 63, 64, 65, 66, 67, 68, 69, 70, 71, 72, 73, 74, 75, 76, 77, 78, 79, 91, 92, 93, 94, 95, 96, 97, 98, 99, 100] (by decide +kernel) (by decide +kernel)
set_option maxRecDepth 20000 in
theorem gX4_removeNodesOfSession_X6_fire : GoodIn wsX4_removeNodesOfSession (wsV RX4 68 RX6 yX6_fire wsX6_fire) := goodIn_app (goodIn_of _ (by decide +kernel)) ggX4_removeNodesOfSession_X6_fire
theorem dX4_removeNodesOfSession_0 : decode cX4_removeNodesOfSession 0 = .ok (.iconst 0, 1) := by decide +kernel
theorem dX4_removeNodesOfSession_1 : decode cX4_removeNodesOfSession 1 = .ok (.istore_n 3, 1) := by decide +kernel
theorem dX4_removeNodesOfSession_2 : decode cX4_removeNodesOfSession 2 = .ok (.iload_n 3, 1) := by decide +kernel
theorem dX4_removeNodesOfSession_3 : decode cX4_removeNodesOfSession 3 = .ok (.aload_n 0, 1) := by decide +kernel
theorem dX4_removeNodesOfSession_4 : decode cX4_removeNodesOfSession 4 = .ok (.getfield 11, 3) := by decide +kernel
theorem dX4_removeNodesOfSession_7 : decode cX4_removeNodesOfSession 7 = .ok (.arraylength, 1) := by decide +kernel
theorem dX4_removeNodesOfSession_8 : decode cX4_removeNodesOfSession 8 = .ok (.if_icmp .ge 43, 3) := by decide +kernel
theorem dX4_removeNodesOfSession_11 : decode cX4_removeNodesOfSession 11 = .ok (.aload_n 0, 1) := by decide +kernel
theorem dX4_removeNodesOfSession_12 : decode cX4_removeNodesOfSession 12 = .ok (.aload_n 1, 1) := by decide +kernel
theorem dX4_removeNodesOfSession_13 : decode cX4_removeNodesOfSession 13 = .ok (.getfield 62, 3) := by decide +kernel
theorem dX4_removeNodesOfSession_16 : decode cX4_removeNodesOfSession 16 = .ok (.invokevirtual 78, 3) := by decide +kernel
theorem dX4_removeNodesOfSession_19 : decode cX4_removeNodesOfSession 19 = .ok (.astore 4, 2) := by decide +kernel
theorem dX4_removeNodesOfSession_21 : decode cX4_removeNodesOfSession 21 = .ok (.aload 4, 2) := by decide +kernel
theorem dX4_removeNodesOfSession_23 : decode cX4_removeNodesOfSession 23 = .ok (.ifnonnull 4, 3) := by decide +kernel
theorem dX4_removeNodesOfSession_26 : decode cX4_removeNodesOfSession 26 = .ok (.return_, 1) := by decide +kernel
theorem dX4_removeNodesOfSession_27 : decode cX4_removeNodesOfSession 27 = .ok (.aload_n 2, 1) := by decide +kernel
theorem dX4_removeNodesOfSession_28 : decode cX4_removeNodesOfSession 28 = .ok (.aload_n 0, 1) := by decide +kernel
theorem dX4_removeNodesOfSession_29 : decode cX4_removeNodesOfSession 29 = .ok (.getfield 17, 3) := by decide +kernel
theorem dX4_removeNodesOfSession_32 : decode cX4_removeNodesOfSession 32 = .ok (.aload 4, 2) := by decide +kernel
theorem dX4_removeNodesOfSession_34 : decode cX4_removeNodesOfSession 34 = .ok (.invokevirtual 74, 3) := by decide +kernel
theorem dX4_removeNodesOfSession_37 : decode cX4_removeNodesOfSession 37 = .ok (.iconst 2, 1) := by decide +kernel
theorem dX4_removeNodesOfSession_38 : decode cX4_removeNodesOfSession 38 = .ok (.aload_n 1, 1) := by decide +kernel
theorem dX4_removeNodesOfSession_39 : decode cX4_removeNodesOfSession 39 = .ok (.getfield 65, 3) := by decide +kernel
theorem dX4_removeNodesOfSession_42 : decode cX4_removeNodesOfSession 42 = .ok (.invokevirtual 68, 3) := by decide +kernel
theorem dX4_removeNodesOfSession_45 : decode cX4_removeNodesOfSession 45 = .ok (.iinc 3 1, 3) := by decide +kernel
theorem dX4_removeNodesOfSession_48 : decode cX4_removeNodesOfSession 48 = .ok (.goto (-46), 3) := by decide +kernel
theorem dX4_removeNodesOfSession_51 : decode cX4_removeNodesOfSession 51 = .ok (.return_, 1) := by decide +kernel
set_option maxRecDepth 20000 in
theorem ggX4_firstNodeOf_X7_rankOf : GoodIn wsX4_firstNodeOf wsX7_rankOf := goodIn_r _ [6] (by decide +kernel) (by decide +kernel)
set_option maxRecDepth 20000 in
theorem gX4_firstNodeOf_X7_rankOf_n81 : GoodIn wsX4_firstNodeOf (wsX7_rankOf) := ggX4_firstNodeOf_X7_rankOf
theorem dX4_firstNodeOf_0 : decode cX4_firstNodeOf 0 = .ok (.aconst_null, 1) := by decide +kernel
theorem dX4_firstNodeOf_1 : decode cX4_firstNodeOf 1 = .ok (.astore_n 2, 1) := by decide +kernel
theorem dX4_firstNodeOf_2 : decode cX4_firstNodeOf 2 = .ok (.aload_n 0, 1) := by decide +kernel
theorem dX4_firstNodeOf_3 : decode cX4_firstNodeOf 3 = .ok (.getfield 11, 3) := by decide +kernel
theorem dX4_firstNodeOf_6 : decode cX4_firstNodeOf 6 = .ok (.astore_n 3, 1) := by decide +kernel
theorem dX4_firstNodeOf_7 : decode cX4_firstNodeOf 7 = .ok (.aload_n 3, 1) := by decide +kernel
theorem dX4_firstNodeOf_8 : decode cX4_firstNodeOf 8 = .ok (.arraylength, 1) := by decide +kernel
theorem dX4_firstNodeOf_9 : decode cX4_firstNodeOf 9 = .ok (.istore 4, 2) := by decide +kernel
theorem dX4_firstNodeOf_11 : decode cX4_firstNodeOf 11 = .ok (.iconst 0, 1) := by decide +kernel
theorem dX4_firstNodeOf_12 : decode cX4_firstNodeOf 12 = .ok (.istore 5, 2) := by decide +kernel
theorem dX4_firstNodeOf_14 : decode cX4_firstNodeOf 14 = .ok (.iload 5, 2) := by decide +kernel
theorem dX4_firstNodeOf_16 : decode cX4_firstNodeOf 16 = .ok (.iload 4, 2) := by decide +kernel
theorem dX4_firstNodeOf_18 : decode cX4_firstNodeOf 18 = .ok (.if_icmp .ge 58, 3) := by decide +kernel
theorem dX4_firstNodeOf_21 : decode cX4_firstNodeOf 21 = .ok (.aload_n 3, 1) := by decide +kernel
theorem dX4_firstNodeOf_22 : decode cX4_firstNodeOf 22 = .ok (.iload 5, 2) := by decide +kernel
theorem dX4_firstNodeOf_24 : decode cX4_firstNodeOf 24 = .ok (.aaload, 1) := by decide +kernel
theorem dX4_firstNodeOf_25 : decode cX4_firstNodeOf 25 = .ok (.astore 6, 2) := by decide +kernel
theorem dX4_firstNodeOf_27 : decode cX4_firstNodeOf 27 = .ok (.aload 6, 2) := by decide +kernel
theorem dX4_firstNodeOf_29 : decode cX4_firstNodeOf 29 = .ok (.getfield 22, 3) := by decide +kernel
theorem dX4_firstNodeOf_32 : decode cX4_firstNodeOf 32 = .ok (.iconst (-1), 1) := by decide +kernel
theorem dX4_firstNodeOf_33 : decode cX4_firstNodeOf 33 = .ok (.if_icmp .eq 37, 3) := by decide +kernel
theorem dX4_firstNodeOf_36 : decode cX4_firstNodeOf 36 = .ok (.aload 6, 2) := by decide +kernel
theorem dX4_firstNodeOf_38 : decode cX4_firstNodeOf 38 = .ok (.getfield 33, 3) := by decide +kernel
theorem dX4_firstNodeOf_41 : decode cX4_firstNodeOf 41 = .ok (.iload_n 1, 1) := by decide +kernel
theorem dX4_firstNodeOf_42 : decode cX4_firstNodeOf 42 = .ok (.if_icmp .ne 28, 3) := by decide +kernel
theorem dX4_firstNodeOf_45 : decode cX4_firstNodeOf 45 = .ok (.aload_n 2, 1) := by decide +kernel
theorem dX4_firstNodeOf_46 : decode cX4_firstNodeOf 46 = .ok (.ifnull 21, 3) := by decide +kernel
theorem dX4_firstNodeOf_49 : decode cX4_firstNodeOf 49 = .ok (.aload 6, 2) := by decide +kernel
theorem dX4_firstNodeOf_51 : decode cX4_firstNodeOf 51 = .ok (.getfield 22, 3) := by decide +kernel
theorem dX4_firstNodeOf_54 : decode cX4_firstNodeOf 54 = .ok (.invokestatic 81, 3) := by decide +kernel
theorem dX4_firstNodeOf_57 : decode cX4_firstNodeOf 57 = .ok (.aload_n 2, 1) := by decide +kernel
theorem dX4_firstNodeOf_58 : decode cX4_firstNodeOf 58 = .ok (.getfield 22, 3) := by decide +kernel
theorem dX4_firstNodeOf_61 : decode cX4_firstNodeOf 61 = .ok (.invokestatic 81, 3) := by decide +kernel
theorem dX4_firstNodeOf_64 : decode cX4_firstNodeOf 64 = .ok (.if_icmp .ge 6, 3) := by decide +kernel
theorem dX4_firstNodeOf_67 : decode cX4_firstNodeOf 67 = .ok (.aload 6, 2) := by decide +kernel
theorem dX4_firstNodeOf_69 : decode cX4_firstNodeOf 69 = .ok (.astore_n 2, 1) := by decide +kernel
theorem dX4_firstNodeOf_70 : decode cX4_firstNodeOf 70 = .ok (.iinc 5 1, 3) := by decide +kernel
theorem dX4_firstNodeOf_73 : decode cX4_firstNodeOf 73 = .ok (.goto (-59), 3) := by decide +kernel
theorem dX4_firstNodeOf_76 : decode cX4_firstNodeOf 76 = .ok (.aload_n 2, 1) := by decide +kernel
theorem dX4_firstNodeOf_77 : decode cX4_firstNodeOf 77 = .ok (.areturn, 1) := by decide +kernel
theorem dX5_init_0 : decode cX5_init 0 = .ok (.aload_n 0, 1) := by decide +kernel
theorem dX5_init_1 : decode cX5_init 1 = .ok (.invokespecial 1, 3) := by decide +kernel
theorem dX5_init_4 : decode cX5_init 4 = .ok (.aload_n 0, 1) := by decide +kernel
theorem dX5_init_5 : decode cX5_init 5 = .ok (.iload_n 1, 1) := by decide +kernel
theorem dX5_init_6 : decode cX5_init 6 = .ok (.putfield 7, 3) := by decide +kernel
theorem dX5_init_9 : decode cX5_init 9 = .ok (.aload_n 0, 1) := by decide +kernel
theorem dX5_init_10 : decode cX5_init 10 = .ok (.aload_n 2, 1) := by decide +kernel
theorem dX5_init_11 : decode cX5_init 11 = .ok (.putfield 13, 3) := by decide +kernel
theorem dX5_init_14 : decode cX5_init 14 = .ok (.aload_n 0, 1) := by decide +kernel
theorem dX5_init_15 : decode cX5_init 15 = .ok (.iload_n 3, 1) := by decide +kernel
theorem dX5_init_16 : decode cX5_init 16 = .ok (.putfield 17, 3) := by decide +kernel
theorem dX5_init_19 : decode cX5_init 19 = .ok (.return_, 1) := by decide +kernel
theorem dX5_isFor_0 : decode cX5_isFor 0 = .ok (.aload_n 0, 1) := by decide +kernel
theorem dX5_isFor_1 : decode cX5_isFor 1 = .ok (.getfield 7, 3) := by decide +kernel
theorem dX5_isFor_4 : decode cX5_isFor 4 = .ok (.iload_n 1, 1) := by decide +kernel
theorem dX5_isFor_5 : decode cX5_isFor 5 = .ok (.if_icmp .ne 15, 3) := by decide +kernel
theorem dX5_isFor_8 : decode cX5_isFor 8 = .ok (.aload_n 0, 1) := by decide +kernel
theorem dX5_isFor_9 : decode cX5_isFor 9 = .ok (.getfield 17, 3) := by decide +kernel
theorem dX5_isFor_12 : decode cX5_isFor 12 = .ok (.iload_n 2, 1) := by decide +kernel
theorem dX5_isFor_13 : decode cX5_isFor 13 = .ok (.if_icmp .ne 7, 3) := by decide +kernel
theorem dX5_isFor_16 : decode cX5_isFor 16 = .ok (.iconst 1, 1) := by decide +kernel
theorem dX5_isFor_17 : decode cX5_isFor 17 = .ok (.goto 4, 3) := by decide +kernel
theorem dX5_isFor_20 : decode cX5_isFor 20 = .ok (.iconst 0, 1) := by decide +kernel
theorem dX5_isFor_21 : decode cX5_isFor 21 = .ok (.ireturn, 1) := by decide +kernel
set_option maxRecDepth 20000 in
theorem ggX6_init_Jx4a65c_init_da8c8 : GoodIn wsX6_init wsJx4a65c_init_da8c8 := goodIn_r _ [10, 11, 12, 13, 14, 15, 16, 17, 18, 19, 20, 21, 22, 2, 3, 23, 24, 25] (by decide +kernel) (by decide +kernel)
set_option maxRecDepth 20000 in
theorem gX6_init_Jx4a65c_init_da8c8 : GoodIn wsX6_init (wsJx4a65c_init_da8c8) := ggX6_init_Jx4a65c_init_da8c8
theorem dX6_init_0 : decode cX6_init 0 = .ok (.aload_n 0, 1) := by decide +kernel
theorem dX6_init_1 : decode cX6_init 1 = .ok (.invokespecial 1, 3) := by decide +kernel
theorem dX6_init_4 : decode cX6_init 4 = .ok (.aload_n 0, 1) := by decide +kernel
theorem dX6_init_5 : decode cX6_init 5 = .ok (.new 7, 3) := by decide +kernel
theorem dX6_init_8 : decode cX6_init 8 = .ok (.dup, 1) := by decide +kernel
theorem dX6_init_9 : decode cX6_init 9 = .ok (.invokespecial 9, 3) := by decide +kernel
theorem dX6_init_12 : decode cX6_init 12 = .ok (.putfield 10, 3) := by decide +kernel
theorem dX6_init_15 : decode cX6_init 15 = .ok (.return_, 1) := by decide +kernel
set_option maxRecDepth 20000 in
theorem ggX6_size_Jx4a65c_size_8abf5 : GoodIn wsX6_size wsJx4a65c_size_8abf5 := goodIn_r _ [6, 7, 9, 10, 11] (by decide +kernel) (by decide +kernel)
set_option maxRecDepth 20000 in
theorem gX6_size_Jx4a65c_size_8abf5 : GoodIn wsX6_size (wsV RX6 16 RJx4a65c yJx4a65c_size_8abf5 wsJx4a65c_size_8abf5) := goodIn_app (goodIn_of _ (by decide +kernel)) ggX6_size_Jx4a65c_size_8abf5
theorem dX6_size_0 : decode cX6_size 0 = .ok (.aload_n 0, 1) := by decide +kernel
theorem dX6_size_1 : decode cX6_size 1 = .ok (.getfield 10, 3) := by decide +kernel
theorem dX6_size_4 : decode cX6_size 4 = .ok (.invokevirtual 16, 3) := by decide +kernel
theorem dX6_size_7 : decode cX6_size 7 = .ok (.ireturn, 1) := by decide +kernel
set_option maxRecDepth 20000 in
theorem ggX6_add_Jx4a65c_add_9ea2d : GoodIn wsX6_add wsJx4a65c_add_9ea2d := goodIn_r _ [6, 7, 8, 9, 10, 11, 12, 13, 5, 14, 15, 16, 17, 18, 19, 20, 21, 22, 23, 24, 25, 26, 27, 28, 29, 30, 31, 32, 33, 34, 35, 36, 37, 38, 39, 40, 41, 42, 43, 44, 45, 46, 47, 48, 49, 50, 51, 52, 53, 54, 55, 56, 57, 59, 60, 61] (by decide +kernel) (by decide +kernel)
set_option maxRecDepth 20000 in
theorem gX6_add_Jx4a65c_add_9ea2d : GoodIn wsX6_add (wsV RX6 20 RJx4a65c yJx4a65c_add_9ea2d wsJx4a65c_add_9ea2d) := goodIn_app (goodIn_of _ (by decide +kernel)) ggX6_add_Jx4a65c_add_9ea2d
theorem dX6_add_0 : decode cX6_add 0 = .ok (.aload_n 0, 1) := by decide +kernel
theorem dX6_add_1 : decode cX6_add 1 = .ok (.getfield 10, 3) := by decide +kernel
theorem dX6_add_4 : decode cX6_add 4 = .ok (.aload_n 1, 1) := by decide +kernel
theorem dX6_add_5 : decode cX6_add 5 = .ok (.invokevirtual 20, 3) := by decide +kernel
theorem dX6_add_8 : decode cX6_add 8 = .ok (.pop, 1) := by decide +kernel
theorem dX6_add_9 : decode cX6_add 9 = .ok (.return_, 1) := by decide +kernel
set_option maxRecDepth 20000 in
theorem ggX6_dropAll_Jx4a65c_clear_da8c8 : GoodIn wsX6_dropAll wsJx4a65c_clear_da8c8 := goodIn_r _ [6, 7, 8, 9, 10, 12, 13, 14] (by decide +kernel) (by decide +kernel)
set_option maxRecDepth 20000 in
theorem gX6_dropAll_Jx4a65c_clear_da8c8 : GoodIn wsX6_dropAll (wsV RX6 24 RJx4a65c yJx4a65c_clear_da8c8 wsJx4a65c_clear_da8c8) := goodIn_app (goodIn_of _ (by decide +kernel)) ggX6_dropAll_Jx4a65c_clear_da8c8
theorem dX6_dropAll_0 : decode cX6_dropAll 0 = .ok (.aload_n 0, 1) := by decide +kernel
theorem dX6_dropAll_1 : decode cX6_dropAll 1 = .ok (.getfield 10, 3) := by decide +kernel
theorem dX6_dropAll_4 : decode cX6_dropAll 4 = .ok (.invokevirtual 24, 3) := by decide +kernel
theorem dX6_dropAll_7 : decode cX6_dropAll 7 = .ok (.return_, 1) := by decide +kernel
set_option maxRecDepth 20000 in
theorem ggX6_dropAllOf_Jx4a65c_size_8abf5 : GoodIn wsX6_dropAllOf wsJx4a65c_size_8abf5 := goodIn_r _ [8, 9, 45, 46, 47] (by decide +kernel) (by decide +kernel)
set_option maxRecDepth 20000 in
theorem gX6_dropAllOf_Jx4a65c_size_8abf5 : GoodIn wsX6_dropAllOf (wsV RX6 16 RJx4a65c yJx4a65c_size_8abf5 wsJx4a65c_size_8abf5) := goodIn_app (goodIn_of _ (by decide +kernel)) ggX6_dropAllOf_Jx4a65c_size_8abf5
set_option maxRecDepth 20000 in
theorem ggX6_dropAllOf_Jx4a65c_get_915e3 : GoodIn wsX6_dropAllOf wsJx4a65c_get_915e3 := goodIn_r _ [13, 9, 14, 15, 16, 17, 18, 19, 20, 21, 22, 23, 24, 7, 25, 26, 45, 46, 47] (by decide +kernel) (by decide +kernel)
set_option maxRecDepth 20000 in
theorem gX6_dropAllOf_Jx4a65c_get_915e3 : GoodIn wsX6_dropAllOf (wsV RX6 27 RJx4a65c yJx4a65c_get_915e3 wsJx4a65c_get_915e3) := goodIn_app (goodIn_of _ (by decide +kernel)) ggX6_dropAllOf_Jx4a65c_get_915e3
set_option maxRecDepth 20000 in
theorem ggX6_dropAllOf_Jx4a65c_remove_915e3 : GoodIn wsX6_dropAllOf wsJx4a65c_remove_915e3 := goodIn_r _ [30, 9, 26, 14, 15, 16, 17, 18, 19, 20, 21, 31, 32, 33, 7, 34, 35, 36, 37, 38, 39, 40, 45, 46, 47] (by decide +kernel) (by decide +kernel)
set_option maxRecDepth 20000 in
theorem gX6_dropAllOf_Jx4a65c_remove_915e3 : GoodIn wsX6_dropAllOf (wsV RX6 37 RJx4a65c yJx4a65c_remove_915e3 wsJx4a65c_remove_915e3) := goodIn_app (goodIn_of _ (by decide +kernel)) ggX6_dropAllOf_Jx4a65c_remove_915e3
theorem dX6_dropAllOf_0 : decode cX6_dropAllOf 0 = .ok (.aload_n 0, 1) := by decide +kernel
theorem dX6_dropAllOf_1 : decode cX6_dropAllOf 1 = .ok (.getfield 10, 3) := by decide +kernel
theorem dX6_dropAllOf_4 : decode cX6_dropAllOf 4 = .ok (.invokevirtual 16, 3) := by decide +kernel
theorem dX6_dropAllOf_7 : decode cX6_dropAllOf 7 = .ok (.iconst 1, 1) := by decide +kernel
theorem dX6_dropAllOf_8 : decode cX6_dropAllOf 8 = .ok (.isub, 1) := by decide +kernel
theorem dX6_dropAllOf_9 : decode cX6_dropAllOf 9 = .ok (.istore_n 2, 1) := by decide +kernel
theorem dX6_dropAllOf_10 : decode cX6_dropAllOf 10 = .ok (.iload_n 2, 1) := by decide +kernel
theorem dX6_dropAllOf_11 : decode cX6_dropAllOf 11 = .ok (.ifCond .lt 36, 3) := by decide +kernel
theorem dX6_dropAllOf_14 : decode cX6_dropAllOf 14 = .ok (.aload_n 0, 1) := by decide +kernel
theorem dX6_dropAllOf_15 : decode cX6_dropAllOf 15 = .ok (.getfield 10, 3) := by decide +kernel
theorem dX6_dropAllOf_18 : decode cX6_dropAllOf 18 = .ok (.iload_n 2, 1) := by decide +kernel
theorem dX6_dropAllOf_19 : decode cX6_dropAllOf 19 = .ok (.invokevirtual 27, 3) := by decide +kernel
theorem dX6_dropAllOf_22 : decode cX6_dropAllOf 22 = .ok (.checkcast 31, 3) := by decide +kernel
theorem dX6_dropAllOf_25 : decode cX6_dropAllOf 25 = .ok (.getfield 33, 3) := by decide +kernel
theorem dX6_dropAllOf_28 : decode cX6_dropAllOf 28 = .ok (.iload_n 1, 1) := by decide +kernel
theorem dX6_dropAllOf_29 : decode cX6_dropAllOf 29 = .ok (.if_icmp .ne 12, 3) := by decide +kernel
theorem dX6_dropAllOf_32 : decode cX6_dropAllOf 32 = .ok (.aload_n 0, 1) := by decide +kernel
theorem dX6_dropAllOf_33 : decode cX6_dropAllOf 33 = .ok (.getfield 10, 3) := by decide +kernel
theorem dX6_dropAllOf_36 : decode cX6_dropAllOf 36 = .ok (.iload_n 2, 1) := by decide +kernel
theorem dX6_dropAllOf_37 : decode cX6_dropAllOf 37 = .ok (.invokevirtual 37, 3) := by decide +kernel
theorem dX6_dropAllOf_40 : decode cX6_dropAllOf 40 = .ok (.pop, 1) := by decide +kernel
theorem dX6_dropAllOf_41 : decode cX6_dropAllOf 41 = .ok (.iinc 2 (-1), 3) := by decide +kernel
theorem dX6_dropAllOf_44 : decode cX6_dropAllOf 44 = .ok (.goto (-34), 3) := by decide +kernel
theorem dX6_dropAllOf_47 : decode cX6_dropAllOf 47 = .ok (.return_, 1) := by decide +kernel
set_option maxRecDepth 20000 in
theorem ggX6_fire_Jx4a65c_size_8abf5 : GoodIn wsX6_fire wsJx4a65c_size_8abf5 := goodIn_r _ [8, 9, 59, 60, 61] (by decide +kernel) (by decide +kernel)
set_option maxRecDepth 20000 in
theorem gX6_fire_Jx4a65c_size_8abf5 : GoodIn wsX6_fire (wsV RX6 16 RJx4a65c yJx4a65c_size_8abf5 wsJx4a65c_size_8abf5) := goodIn_app (goodIn_of _ (by decide +kernel)) ggX6_fire_Jx4a65c_size_8abf5
set_option maxRecDepth 20000 in
theorem ggX6_fire_Jx4a65c_get_915e3 : GoodIn wsX6_fire wsJx4a65c_get_915e3 := goodIn_r _ [13, 9, 14, 15, 16, 17, 18, 19, 20, 21, 22, 23, 24, 7, 25, 26, 59, 60, 61] (by decide +kernel) (by decide +kernel)
set_option maxRecDepth 20000 in
theorem gX6_fire_Jx4a65c_get_915e3 : GoodIn wsX6_fire (wsV RX6 27 RJx4a65c yJx4a65c_get_915e3 wsJx4a65c_get_915e3) := goodIn_app (goodIn_of _ (by decide +kernel)) ggX6_fire_Jx4a65c_get_915e3
set_option maxRecDepth 20000 in
theorem ggX6_fire_X5_isFor : GoodIn wsX6_fire wsX5_isFor := goodIn_r _ [31, 32, 33, 56, 57, 58] (by decide +kernel) (by decide +kernel)
set_option maxRecDepth 20000 in
theorem gX6_fire_X5_isFor : GoodIn wsX6_fire (wsV RX6 40 RX5 yX5_isFor wsX5_isFor) := goodIn_app (goodIn_of _ (by decide +kernel)) ggX6_fire_X5_isFor
set_option maxRecDepth 20000 in
theorem ggX6_fire_X2_addEvent : GoodIn wsX6_fire wsX2_addEvent := goodIn_r _ [38, 39, 40, 62, 63, 64] (by decide +kernel) (by decide +kernel)
set_option maxRecDepth 20000 in
theorem gX6_fire_X2_addEvent : GoodIn wsX6_fire (wsV RX6 48 RX2 yX2_addEvent wsX2_addEvent) := goodIn_app (goodIn_of _ (by decide +kernel)) ggX6_fire_X2_addEvent
set_option maxRecDepth 20000 in
theorem ggX6_fire_Jx4a65c_remove_915e3 : GoodIn wsX6_fire wsJx4a65c_remove_915e3 := goodIn_r _ [44, 9, 26, 14, 15, 16, 17, 18, 19, 20, 21, 45, 46, 47, 7, 48, 49, 50, 51, 52, 53, 54, 59, 60, 61] (by decide +kernel) (by decide +kernel)
set_option maxRecDepth 20000 in
theorem gX6_fire_Jx4a65c_remove_915e3 : GoodIn wsX6_fire (wsV RX6 37 RJx4a65c yJx4a65c_remove_915e3 wsJx4a65c_remove_915e3) := goodIn_app (goodIn_of _ (by decide +kernel)) ggX6_fire_Jx4a65c_remove_915e3
theorem dX6_fire_0 : decode cX6_fire 0 = .ok (.iconst 0, 1) := by decide +kernel
theorem dX6_fire_1 : decode cX6_fire 1 = .ok (.istore 5, 2) := by decide +kernel
theorem dX6_fire_3 : decode cX6_fire 3 = .ok (.iload 5, 2) := by decide +kernel
theorem dX6_fire_5 : decode cX6_fire 5 = .ok (.aload_n 0, 1) := by decide +kernel
theorem dX6_fire_6 : decode cX6_fire 6 = .ok (.getfield 10, 3) := by decide +kernel
theorem dX6_fire_9 : decode cX6_fire 9 = .ok (.invokevirtual 16, 3) := by decide +kernel
theorem dX6_fire_12 : decode cX6_fire 12 = .ok (.if_icmp .ge 44, 3) := by decide +kernel
theorem dX6_fire_15 : decode cX6_fire 15 = .ok (.aload_n 0, 1) := by decide +kernel
theorem dX6_fire_16 : decode cX6_fire 16 = .ok (.getfield 10, 3) := by decide +kernel
theorem dX6_fire_19 : decode cX6_fire 19 = .ok (.iload 5, 2) := by decide +kernel
theorem dX6_fire_21 : decode cX6_fire 21 = .ok (.invokevirtual 27, 3) := by decide +kernel
theorem dX6_fire_24 : decode cX6_fire 24 = .ok (.checkcast 31, 3) := by decide +kernel
theorem dX6_fire_27 : decode cX6_fire 27 = .ok (.astore 6, 2) := by decide +kernel
theorem dX6_fire_29 : decode cX6_fire 29 = .ok (.aload 6, 2) := by decide +kernel
theorem dX6_fire_31 : decode cX6_fire 31 = .ok (.iload_n 1, 1) := by decide +kernel
theorem dX6_fire_32 : decode cX6_fire 32 = .ok (.iload_n 2, 1) := by decide +kernel
theorem dX6_fire_33 : decode cX6_fire 33 = .ok (.invokevirtual 40, 3) := by decide +kernel
theorem dX6_fire_36 : decode cX6_fire 36 = .ok (.ifCond .eq 14, 3) := by decide +kernel
theorem dX6_fire_39 : decode cX6_fire 39 = .ok (.aload 6, 2) := by decide +kernel
theorem dX6_fire_41 : decode cX6_fire 41 = .ok (.getfield 44, 3) := by decide +kernel
theorem dX6_fire_44 : decode cX6_fire 44 = .ok (.iload_n 3, 1) := by decide +kernel
theorem dX6_fire_45 : decode cX6_fire 45 = .ok (.iload 4, 2) := by decide +kernel
theorem dX6_fire_47 : decode cX6_fire 47 = .ok (.invokevirtual 48, 3) := by decide +kernel
theorem dX6_fire_50 : decode cX6_fire 50 = .ok (.iinc 5 1, 3) := by decide +kernel
theorem dX6_fire_53 : decode cX6_fire 53 = .ok (.goto (-50), 3) := by decide +kernel
theorem dX6_fire_56 : decode cX6_fire 56 = .ok (.aload_n 0, 1) := by decide +kernel
theorem dX6_fire_57 : decode cX6_fire 57 = .ok (.getfield 10, 3) := by decide +kernel
theorem dX6_fire_60 : decode cX6_fire 60 = .ok (.invokevirtual 16, 3) := by decide +kernel
theorem dX6_fire_63 : decode cX6_fire 63 = .ok (.iconst 1, 1) := by decide +kernel
theorem dX6_fire_64 : decode cX6_fire 64 = .ok (.isub, 1) := by decide +kernel
theorem dX6_fire_65 : decode cX6_fire 65 = .ok (.istore 5, 2) := by decide +kernel
theorem dX6_fire_67 : decode cX6_fire 67 = .ok (.iload 5, 2) := by decide +kernel
theorem dX6_fire_69 : decode cX6_fire 69 = .ok (.ifCond .lt 39, 3) := by decide +kernel
theorem dX6_fire_72 : decode cX6_fire 72 = .ok (.aload_n 0, 1) := by decide +kernel
theorem dX6_fire_73 : decode cX6_fire 73 = .ok (.getfield 10, 3) := by decide +kernel
theorem dX6_fire_76 : decode cX6_fire 76 = .ok (.iload 5, 2) := by decide +kernel
theorem dX6_fire_78 : decode cX6_fire 78 = .ok (.invokevirtual 27, 3) := by decide +kernel
theorem dX6_fire_81 : decode cX6_fire 81 = .ok (.checkcast 31, 3) := by decide +kernel
theorem dX6_fire_84 : decode cX6_fire 84 = .ok (.iload_n 1, 1) := by decide +kernel
theorem dX6_fire_85 : decode cX6_fire 85 = .ok (.iload_n 2, 1) := by decide +kernel
theorem dX6_fire_86 : decode cX6_fire 86 = .ok (.invokevirtual 40, 3) := by decide +kernel
theorem dX6_fire_89 : decode cX6_fire 89 = .ok (.ifCond .eq 13, 3) := by decide +kernel
theorem dX6_fire_92 : decode cX6_fire 92 = .ok (.aload_n 0, 1) := by decide +kernel
theorem dX6_fire_93 : decode cX6_fire 93 = .ok (.getfield 10, 3) := by decide +kernel
theorem dX6_fire_96 : decode cX6_fire 96 = .ok (.iload 5, 2) := by decide +kernel
theorem dX6_fire_98 : decode cX6_fire 98 = .ok (.invokevirtual 37, 3) := by decide +kernel
theorem dX6_fire_101 : decode cX6_fire 101 = .ok (.pop, 1) := by decide +kernel
theorem dX6_fire_102 : decode cX6_fire 102 = .ok (.iinc 5 (-1), 3) := by decide +kernel
theorem dX6_fire_105 : decode cX6_fire 105 = .ok (.goto (-38), 3) := by decide +kernel
theorem dX6_fire_108 : decode cX6_fire 108 = .ok (.return_, 1) := by decide +kernel
set_option maxRecDepth 20000 in
theorem ggX7_init_X6_init : GoodIn wsX7_init wsX6_init := goodIn_r _ [21, 22, 2, 3, 23, 24, 25, 26, 27, 28, 29, 30, 31, 32, 33, 34, 35, 36, 37, 38, 39, 40, 41, 137, 138, 139, 124] (by decide +kernel) (by decide +kernel)
set_option maxRecDepth 20000 in
theorem gX7_init_X6_init_n23 : GoodIn wsX7_init (wsX6_init) := ggX7_init_X6_init
set_option maxRecDepth 20000 in
theorem ggX7_init_X4_init : GoodIn wsX7_init wsX4_init := goodIn_r _ [44, 45, 2, 3, 46, 47, 48, 49, 50, 51, 52, 53, 54, 125, 126, 140, 141, 142, 143] (by decide +kernel) (by decide +kernel)
set_option maxRecDepth 20000 in
theorem gX7_init_X4_init : GoodIn wsX7_init (wsX4_init) := ggX7_init_X4_init
set_option maxRecDepth 20000 in
theorem ggX7_init_X1_init : GoodIn wsX7_init wsX1_init := goodIn_r _ [57, 58, 2, 3, 59, 24, 25, 60, 61, 62, 13, 14, 63, 64, 28, 29, 30, 31, 32, 33, 34, 35, 36, 37, 38, 39, 40, 41, 65, 43, 44, 45, 46, 47, 48, 49, 50, 51, 52, 53, 54, 137, 138, 139, 127, 128, 129, 130, 131, 132, 133, 125, 126, 140, 141, 142, 143] (by decide +kernel) (by decide +kernel)
set_option maxRecDepth 20000 in
theorem gX7_init_X1_init : GoodIn wsX7_init (wsX1_init) := ggX7_init_X1_init
set_option maxRecDepth 20000 in
theorem ggX7_init_X2_init : GoodIn wsX7_init wsX2_init := goodIn_r _ [68, 69, 2, 3, 70, 71, 72, 134, 135, 136] (by decide +kernel) (by decide +kernel)
set_option maxRecDepth 20000 in
theorem gX7_init_X2_init : GoodIn wsX7_init (wsX2_init) := ggX7_init_X2_init
set_option maxRecDepth 20000 in
theorem ggX7_init_X7_startAnew : GoodIn wsX7_init wsX7_startAnew := goodIn_r _ [77, 78, 5, 79, 80, 11, 81, 82, 83, 84, 85, 86, 87, 88, 89, 17, 90, 60, 63, 91, 92, 93, 94, 95, 96, 97, 25, 98, 99, 100, 31, 101, 102, 103, 104, 14, 105, 47, 106, 107, 108, 109, 10, 110, 26, 111, 112, 113, 114, 115, 116, 117, 118, 119, 120, 121, 122, 123, 127, 128, 129, 130, 131, 132, 133, 137, 138, 139, 125, 126, 140, 141, 142, 143, 124] (by decide +kernel) (by decide +kernel)
set_option maxRecDepth 20000 in
theorem gX7_init_X7_startAnew : GoodIn wsX7_init (wsV RX7 39 RX7 yX7_startAnew wsX7_startAnew) := goodIn_app (goodIn_of _ (by decide +kernel)) ggX7_init_X7_startAnew
theorem dX7_init_0 : decode cX7_init 0 = .ok (.aload_n 0, 1) := by decide +kernel
theorem dX7_init_1 : decode cX7_init 1 = .ok (.invokespecial 3, 3) := by decide +kernel
theorem dX7_init_4 : decode cX7_init 4 = .ok (.aload_n 0, 1) := by decide +kernel
theorem dX7_init_5 : decode cX7_init 5 = .ok (.iconst 5, 1) := by decide +kernel
theorem dX7_init_6 : decode cX7_init 6 = .ok (.anewarray 9, 3) := by decide +kernel
theorem dX7_init_9 : decode cX7_init 9 = .ok (.putfield 11, 3) := by decide +kernel
theorem dX7_init_12 : decode cX7_init 12 = .ok (.aload_n 0, 1) := by decide +kernel
theorem dX7_init_13 : decode cX7_init 13 = .ok (.bipush 6, 2) := by decide +kernel
theorem dX7_init_15 : decode cX7_init 15 = .ok (.anewarray 15, 3) := by decide +kernel
theorem dX7_init_18 : decode cX7_init 18 = .ok (.putfield 17, 3) := by decide +kernel
theorem dX7_init_21 : decode cX7_init 21 = .ok (.aload_n 0, 1) := by decide +kernel
theorem dX7_init_22 : decode cX7_init 22 = .ok (.new 21, 3) := by decide +kernel
theorem dX7_init_25 : decode cX7_init 25 = .ok (.dup, 1) := by decide +kernel
theorem dX7_init_26 : decode cX7_init 26 = .ok (.invokespecial 23, 3) := by decide +kernel
theorem dX7_init_29 : decode cX7_init 29 = .ok (.putfield 24, 3) := by decide +kernel
theorem dX7_init_32 : decode cX7_init 32 = .ok (.aload_n 0, 1) := by decide +kernel
theorem dX7_init_33 : decode cX7_init 33 = .ok (.new 28, 3) := by decide +kernel
theorem dX7_init_36 : decode cX7_init 36 = .ok (.dup, 1) := by decide +kernel
theorem dX7_init_37 : decode cX7_init 37 = .ok (.iconst (-1), 1) := by decide +kernel
theorem dX7_init_38 : decode cX7_init 38 = .ok (.invokespecial 30, 3) := by decide +kernel
theorem dX7_init_41 : decode cX7_init 41 = .ok (.putfield 33, 3) := by decide +kernel
theorem dX7_init_44 : decode cX7_init 44 = .ok (.iconst 0, 1) := by decide +kernel
theorem dX7_init_45 : decode cX7_init 45 = .ok (.istore_n 1, 1) := by decide +kernel
theorem dX7_init_46 : decode cX7_init 46 = .ok (.iload_n 1, 1) := by decide +kernel
theorem dX7_init_47 : decode cX7_init 47 = .ok (.aload_n 0, 1) := by decide +kernel
theorem dX7_init_48 : decode cX7_init 48 = .ok (.getfield 11, 3) := by decide +kernel
theorem dX7_init_51 : decode cX7_init 51 = .ok (.arraylength, 1) := by decide +kernel
theorem dX7_init_52 : decode cX7_init 52 = .ok (.if_icmp .ge 23, 3) := by decide +kernel
theorem dX7_init_55 : decode cX7_init 55 = .ok (.aload_n 0, 1) := by decide +kernel
theorem dX7_init_56 : decode cX7_init 56 = .ok (.getfield 11, 3) := by decide +kernel
theorem dX7_init_59 : decode cX7_init 59 = .ok (.iload_n 1, 1) := by decide +kernel
theorem dX7_init_60 : decode cX7_init 60 = .ok (.new 9, 3) := by decide +kernel
theorem dX7_init_63 : decode cX7_init 63 = .ok (.dup, 1) := by decide +kernel
theorem dX7_init_64 : decode cX7_init 64 = .ok (.iload_n 1, 1) := by decide +kernel
theorem dX7_init_65 : decode cX7_init 65 = .ok (.invokespecial 37, 3) := by decide +kernel
theorem dX7_init_68 : decode cX7_init 68 = .ok (.aastore, 1) := by decide +kernel
theorem dX7_init_69 : decode cX7_init 69 = .ok (.iinc 1 1, 3) := by decide +kernel
theorem dX7_init_72 : decode cX7_init 72 = .ok (.goto (-26), 3) := by decide +kernel
theorem dX7_init_75 : decode cX7_init 75 = .ok (.iconst 0, 1) := by decide +kernel
theorem dX7_init_76 : decode cX7_init 76 = .ok (.istore_n 1, 1) := by decide +kernel
theorem dX7_init_77 : decode cX7_init 77 = .ok (.iload_n 1, 1) := by decide +kernel
theorem dX7_init_78 : decode cX7_init 78 = .ok (.aload_n 0, 1) := by decide +kernel
theorem dX7_init_79 : decode cX7_init 79 = .ok (.getfield 17, 3) := by decide +kernel
theorem dX7_init_82 : decode cX7_init 82 = .ok (.arraylength, 1) := by decide +kernel
theorem dX7_init_83 : decode cX7_init 83 = .ok (.if_icmp .ge 23, 3) := by decide +kernel
theorem dX7_init_86 : decode cX7_init 86 = .ok (.aload_n 0, 1) := by decide +kernel
theorem dX7_init_87 : decode cX7_init 87 = .ok (.getfield 17, 3) := by decide +kernel
theorem dX7_init_90 : decode cX7_init 90 = .ok (.iload_n 1, 1) := by decide +kernel
theorem dX7_init_91 : decode cX7_init 91 = .ok (.new 15, 3) := by decide +kernel
theorem dX7_init_94 : decode cX7_init 94 = .ok (.dup, 1) := by decide +kernel
theorem dX7_init_95 : decode cX7_init 95 = .ok (.iload_n 1, 1) := by decide +kernel
theorem dX7_init_96 : decode cX7_init 96 = .ok (.invokespecial 38, 3) := by decide +kernel
theorem dX7_init_99 : decode cX7_init 99 = .ok (.aastore, 1) := by decide +kernel
theorem dX7_init_100 : decode cX7_init 100 = .ok (.iinc 1 1, 3) := by decide +kernel
theorem dX7_init_103 : decode cX7_init 103 = .ok (.goto (-26), 3) := by decide +kernel
theorem dX7_init_106 : decode cX7_init 106 = .ok (.aload_n 0, 1) := by decide +kernel
theorem dX7_init_107 : decode cX7_init 107 = .ok (.iconst 3, 1) := by decide +kernel
theorem dX7_init_108 : decode cX7_init 108 = .ok (.invokevirtual 39, 3) := by decide +kernel
theorem dX7_init_111 : decode cX7_init 111 = .ok (.return_, 1) := by decide +kernel
set_option maxRecDepth 20000 in
theorem ggX7_reset_X7_startAnew : GoodIn wsX7_reset wsX7_startAnew := goodIn_r _ [6, 1, 7, 8, 9, 10, 11, 12, 13, 14, 15, 16, 17, 18, 19, 20, 21, 22, 23, 24, 25, 26, 27, 28, 29, 30, 31, 32, 33, 34, 35, 36, 37, 38, 39, 40, 41, 42, 43, 44, 45, 46, 47, 48, 49, 50, 51, 52, 53, 54, 55, 56, 57, 58, 59, 60, 61, 62, 63, 64, 65, 66, 67, 68, 69, 70, 71, 72, 73, 74, 75, 76, 77, 78, 79] (by decide +kernel) (by decide +kernel)
set_option maxRecDepth 20000 in
theorem gX7_reset_X7_startAnew : GoodIn wsX7_reset (wsV RX7 39 RX7 yX7_startAnew wsX7_startAnew) := goodIn_app (goodIn_of _ (by decide +kernel)) ggX7_reset_X7_startAnew
theorem dX7_reset_0 : decode cX7_reset 0 = .ok (.iload_n 1, 1) := by decide +kernel
theorem dX7_reset_1 : decode cX7_reset 1 = .ok (.iconst 3, 1) := by decide +kernel
theorem dX7_reset_2 : decode cX7_reset 2 = .ok (.if_icmp .lt 8, 3) := by decide +kernel
theorem dX7_reset_5 : decode cX7_reset 5 = .ok (.iload_n 1, 1) := by decide +kernel
theorem dX7_reset_6 : decode cX7_reset 6 = .ok (.iconst 5, 1) := by decide +kernel
theorem dX7_reset_7 : decode cX7_reset 7 = .ok (.if_icmp .le 5, 3) := by decide +kernel
theorem dX7_reset_10 : decode cX7_reset 10 = .ok (.iconst (-1), 1) := by decide +kernel
theorem dX7_reset_11 : decode cX7_reset 11 = .ok (.ireturn, 1) := by decide +kernel
theorem dX7_reset_12 : decode cX7_reset 12 = .ok (.aload_n 0, 1) := by decide +kernel
theorem dX7_reset_13 : decode cX7_reset 13 = .ok (.getfield 42, 3) := by decide +kernel
theorem dX7_reset_16 : decode cX7_reset 16 = .ok (.istore_n 2, 1) := by decide +kernel
theorem dX7_reset_17 : decode cX7_reset 17 = .ok (.aload_n 0, 1) := by decide +kernel
theorem dX7_reset_18 : decode cX7_reset 18 = .ok (.iload_n 1, 1) := by decide +kernel
theorem dX7_reset_19 : decode cX7_reset 19 = .ok (.invokevirtual 39, 3) := by decide +kernel
theorem dX7_reset_22 : decode cX7_reset 22 = .ok (.iload_n 2, 1) := by decide +kernel
theorem dX7_reset_23 : decode cX7_reset 23 = .ok (.ireturn, 1) := by decide +kernel
set_option maxRecDepth 20000 in
theorem ggX7_crash_X7_findServer : GoodIn wsX7_crash wsX7_findServer := goodIn_r _ [9, 10, 11, 86, 87, 88, 89, 90, 91, 92, 93, 94, 95, 96, 97] (by decide +kernel) (by decide +kernel)
set_option maxRecDepth 20000 in
theorem gX7_crash_X7_findServer : GoodIn wsX7_crash (wsV RX7 46 RX7 yX7_findServer wsX7_findServer) := goodIn_app (goodIn_of _ (by decide +kernel)) ggX7_crash_X7_findServer
set_option maxRecDepth 20000 in
theorem ggX7_crash_X6_dropAllOf : GoodIn wsX7_crash wsX6_dropAllOf := goodIn_r _ [16, 17, 18, 19, 20, 21, 22, 23, 24, 25, 26, 27, 28, 29, 30, 31, 32, 33, 34, 35, 36, 37, 38, 39, 40, 41, 42, 43, 44, 45, 46, 47, 48, 49, 50, 51, 52, 53, 54, 55, 56, 98, 99, 100, 101, 102, 103, 104] (by decide +kernel) (by decide +kernel)
set_option maxRecDepth 20000 in
theorem gX7_crash_X6_dropAllOf : GoodIn wsX7_crash (wsV RX7 57 RX6 yX6_dropAllOf wsX6_dropAllOf) := goodIn_app (goodIn_of _ (by decide +kernel)) ggX7_crash_X6_dropAllOf
set_option maxRecDepth 20000 in
theorem ggX7_crash_X7_countActive : GoodIn wsX7_crash wsX7_countActive := goodIn_r _ [60, 61, 62, 63, 8, 64, 11, 2, 65, 66, 21, 22, 23, 24, 25, 86, 87, 88, 89, 90, 91, 92, 93, 94, 95, 96, 97, 79, 80, 81, 82, 83, 84, 85, 102, 103, 104] (by decide +kernel) (by decide +kernel)
set_option maxRecDepth 20000 in
theorem gX7_crash_X7_countActive : GoodIn wsX7_crash (wsV RX7 64 RX7 yX7_countActive wsX7_countActive) := goodIn_app (goodIn_of _ (by decide +kernel)) ggX7_crash_X7_countActive
set_option maxRecDepth 20000 in
theorem ggX7_crash_X7_quorum : GoodIn wsX7_crash wsX7_quorum := goodIn_r _ [70, 10, 86, 87, 88, 89, 90, 91, 92, 93, 94, 95, 96, 97] (by decide +kernel) (by decide +kernel)
set_option maxRecDepth 20000 in
theorem gX7_crash_X7_quorum : GoodIn wsX7_crash (wsV RX7 68 RX7 yX7_quorum wsX7_quorum) := goodIn_app (goodIn_of _ (by decide +kernel)) ggX7_crash_X7_quorum
set_option maxRecDepth 20000 in
theorem ggX7_crash_X7_endLeadership : GoodIn wsX7_crash wsX7_endLeadership := goodIn_r _ [74, 4, 11, 2, 86, 87, 88, 89, 90, 91, 92, 93, 94, 95, 96, 97, 79, 80, 81, 82, 83, 84, 85] (by decide +kernel) (by decide +kernel)
set_option maxRecDepth 20000 in
theorem gX7_crash_X7_endLeadership : GoodIn wsX7_crash (wsV RX7 71 RX7 yX7_endLeadership wsX7_endLeadership) := goodIn_app (goodIn_of _ (by decide +kernel)) ggX7_crash_X7_endLeadership
set_option maxRecDepth 20000 in
theorem ggX7_crash_X7_countUp : GoodIn wsX7_crash wsX7_countUp := goodIn_r _ [78, 11, 1, 86, 87, 88, 89, 90, 91, 92, 93, 94, 95, 96, 97, 79, 80, 81, 82, 83, 84, 85] (by decide +kernel) (by decide +kernel)
set_option maxRecDepth 20000 in
theorem gX7_crash_X7_countUp : GoodIn wsX7_crash (wsV RX7 74 RX7 yX7_countUp wsX7_countUp) := goodIn_app (goodIn_of _ (by decide +kernel)) ggX7_crash_X7_countUp
theorem dX7_crash_0 : decode cX7_crash 0 = .ok (.aload_n 0, 1) := by decide +kernel
theorem dX7_crash_1 : decode cX7_crash 1 = .ok (.iload_n 1, 1) := by decide +kernel
theorem dX7_crash_2 : decode cX7_crash 2 = .ok (.invokevirtual 46, 3) := by decide +kernel
theorem dX7_crash_5 : decode cX7_crash 5 = .ok (.astore_n 2, 1) := by decide +kernel
theorem dX7_crash_6 : decode cX7_crash 6 = .ok (.aload_n 2, 1) := by decide +kernel
theorem dX7_crash_7 : decode cX7_crash 7 = .ok (.ifnonnull 5, 3) := by decide +kernel
theorem dX7_crash_10 : decode cX7_crash 10 = .ok (.iconst (-1), 1) := by decide +kernel
theorem dX7_crash_11 : decode cX7_crash 11 = .ok (.ireturn, 1) := by decide +kernel
theorem dX7_crash_12 : decode cX7_crash 12 = .ok (.aload_n 2, 1) := by decide +kernel
theorem dX7_crash_13 : decode cX7_crash 13 = .ok (.getfield 50, 3) := by decide +kernel
theorem dX7_crash_16 : decode cX7_crash 16 = .ok (.ifCond .ne 6, 3) := by decide +kernel
theorem dX7_crash_19 : decode cX7_crash 19 = .ok (.bipush (-2), 2) := by decide +kernel
theorem dX7_crash_21 : decode cX7_crash 21 = .ok (.ireturn, 1) := by decide +kernel
theorem dX7_crash_22 : decode cX7_crash 22 = .ok (.aload_n 2, 1) := by decide +kernel
theorem dX7_crash_23 : decode cX7_crash 23 = .ok (.iconst 0, 1) := by decide +kernel
theorem dX7_crash_24 : decode cX7_crash 24 = .ok (.putfield 50, 3) := by decide +kernel
theorem dX7_crash_27 : decode cX7_crash 27 = .ok (.aload_n 2, 1) := by decide +kernel
theorem dX7_crash_28 : decode cX7_crash 28 = .ok (.iconst 0, 1) := by decide +kernel
theorem dX7_crash_29 : decode cX7_crash 29 = .ok (.putfield 54, 3) := by decide +kernel
theorem dX7_crash_32 : decode cX7_crash 32 = .ok (.aload_n 0, 1) := by decide +kernel
theorem dX7_crash_33 : decode cX7_crash 33 = .ok (.getfield 24, 3) := by decide +kernel
theorem dX7_crash_36 : decode cX7_crash 36 = .ok (.iload_n 1, 1) := by decide +kernel
theorem dX7_crash_37 : decode cX7_crash 37 = .ok (.invokevirtual 57, 3) := by decide +kernel
theorem dX7_crash_40 : decode cX7_crash 40 = .ok (.aload_n 2, 1) := by decide +kernel
theorem dX7_crash_41 : decode cX7_crash 41 = .ok (.aload_n 0, 1) := by decide +kernel
theorem dX7_crash_42 : decode cX7_crash 42 = .ok (.getfield 60, 3) := by decide +kernel
theorem dX7_crash_45 : decode cX7_crash 45 = .ok (.if_acmp .eq 14, 3) := by decide +kernel
theorem dX7_crash_48 : decode cX7_crash 48 = .ok (.aload_n 0, 1) := by decide +kernel
theorem dX7_crash_49 : decode cX7_crash 49 = .ok (.invokevirtual 64, 3) := by decide +kernel
theorem dX7_crash_52 : decode cX7_crash 52 = .ok (.aload_n 0, 1) := by decide +kernel
theorem dX7_crash_53 : decode cX7_crash 53 = .ok (.invokevirtual 68, 3) := by decide +kernel
theorem dX7_crash_56 : decode cX7_crash 56 = .ok (.if_icmp .ge 7, 3) := by decide +kernel
theorem dX7_crash_59 : decode cX7_crash 59 = .ok (.aload_n 0, 1) := by decide +kernel
theorem dX7_crash_60 : decode cX7_crash 60 = .ok (.invokevirtual 71, 3) := by decide +kernel
theorem dX7_crash_63 : decode cX7_crash 63 = .ok (.aload_n 0, 1) := by decide +kernel
theorem dX7_crash_64 : decode cX7_crash 64 = .ok (.invokevirtual 74, 3) := by decide +kernel
theorem dX7_crash_67 : decode cX7_crash 67 = .ok (.ireturn, 1) := by decide +kernel
set_option maxRecDepth 20000 in
theorem ggX7_restart_X7_findServer : GoodIn wsX7_restart wsX7_findServer := goodIn_r _ [6, 7, 8, 20, 21, 22, 23, 24, 25, 26, 27, 28, 29, 30, 31] (by decide +kernel) (by decide +kernel)
set_option maxRecDepth 20000 in
theorem gX7_restart_X7_findServer : GoodIn wsX7_restart (wsV RX7 46 RX7 yX7_findServer wsX7_findServer) := goodIn_app (goodIn_of _ (by decide +kernel)) ggX7_restart_X7_findServer
set_option maxRecDepth 20000 in
theorem ggX7_restart_X7_countUp : GoodIn wsX7_restart wsX7_countUp := goodIn_r _ [12, 8, 1, 20, 21, 22, 23, 24, 25, 26, 27, 28, 29, 30, 31, 13, 14, 15, 16, 17, 18, 19] (by decide +kernel) (by decide +kernel)
set_option maxRecDepth 20000 in
theorem gX7_restart_X7_countUp : GoodIn wsX7_restart (wsV RX7 74 RX7 yX7_countUp wsX7_countUp) := goodIn_app (goodIn_of _ (by decide +kernel)) ggX7_restart_X7_countUp
theorem dX7_restart_0 : decode cX7_restart 0 = .ok (.aload_n 0, 1) := by decide +kernel
theorem dX7_restart_1 : decode cX7_restart 1 = .ok (.iload_n 1, 1) := by decide +kernel
theorem dX7_restart_2 : decode cX7_restart 2 = .ok (.invokevirtual 46, 3) := by decide +kernel
theorem dX7_restart_5 : decode cX7_restart 5 = .ok (.astore_n 2, 1) := by decide +kernel
theorem dX7_restart_6 : decode cX7_restart 6 = .ok (.aload_n 2, 1) := by decide +kernel
theorem dX7_restart_7 : decode cX7_restart 7 = .ok (.ifnonnull 5, 3) := by decide +kernel
theorem dX7_restart_10 : decode cX7_restart 10 = .ok (.iconst (-1), 1) := by decide +kernel
theorem dX7_restart_11 : decode cX7_restart 11 = .ok (.ireturn, 1) := by decide +kernel
theorem dX7_restart_12 : decode cX7_restart 12 = .ok (.aload_n 2, 1) := by decide +kernel
theorem dX7_restart_13 : decode cX7_restart 13 = .ok (.getfield 50, 3) := by decide +kernel
theorem dX7_restart_16 : decode cX7_restart 16 = .ok (.ifCond .eq 6, 3) := by decide +kernel
theorem dX7_restart_19 : decode cX7_restart 19 = .ok (.bipush (-2), 2) := by decide +kernel
theorem dX7_restart_21 : decode cX7_restart 21 = .ok (.ireturn, 1) := by decide +kernel
theorem dX7_restart_22 : decode cX7_restart 22 = .ok (.aload_n 2, 1) := by decide +kernel
theorem dX7_restart_23 : decode cX7_restart 23 = .ok (.iconst 1, 1) := by decide +kernel
theorem dX7_restart_24 : decode cX7_restart 24 = .ok (.putfield 50, 3) := by decide +kernel
theorem dX7_restart_27 : decode cX7_restart 27 = .ok (.aload_n 0, 1) := by decide +kernel
theorem dX7_restart_28 : decode cX7_restart 28 = .ok (.invokevirtual 74, 3) := by decide +kernel
theorem dX7_restart_31 : decode cX7_restart 31 = .ok (.ireturn, 1) := by decide +kernel
set_option maxRecDepth 20000 in
theorem ggX7_elect_X7_countUp : GoodIn wsX7_elect wsX7_countUp := goodIn_r _ [7, 8, 9, 233, 234, 235, 236, 237, 238, 239, 240, 241, 242, 243, 244, 245, 246, 247, 248, 249, 250, 251] (by decide +kernel) (by decide +kernel)
set_option maxRecDepth 20000 in
theorem gX7_elect_X7_countUp : GoodIn wsX7_elect (wsV RX7 74 RX7 yX7_countUp wsX7_countUp) := goodIn_app (goodIn_of _ (by decide +kernel)) ggX7_elect_X7_countUp
set_option maxRecDepth 20000 in
theorem ggX7_elect_X7_quorum : GoodIn wsX7_elect wsX7_quorum := goodIn_r _ [13, 14, 233, 234, 235, 236, 237, 238, 239, 240, 241, 242, 243, 244] (by decide +kernel) (by decide +kernel)
set_option maxRecDepth 20000 in
theorem gX7_elect_X7_quorum : GoodIn wsX7_elect (wsV RX7 68 RX7 yX7_quorum wsX7_quorum) := goodIn_app (goodIn_of _ (by decide +kernel)) ggX7_elect_X7_quorum
set_option maxRecDepth 20000 in
theorem ggX7_elect_X7_bestCandidate : GoodIn wsX7_elect wsX7_bestCandidate := goodIn_r _ [18, 8, 9, 19, 20, 21, 22, 23, 24, 25, 26, 27, 28, 29, 30, 31, 32, 33, 34, 35, 36, 37, 38, 39, 40, 41, 42, 43, 44, 45, 46, 47, 48, 49, 50, 51, 52, 53, 54, 55, 56, 57, 58, 233, 234, 235, 236, 237, 238, 239, 240, 241, 242, 243, 244, 245, 246, 247, 248, 249, 250, 251, 252, 253, 254, 255, 256, 257, 258, 259] (by decide +kernel) (by decide +kernel)
set_option maxRecDepth 20000 in
theorem gX7_elect_X7_bestCandidate : GoodIn wsX7_elect (wsV RX7 77 RX7 yX7_bestCandidate wsX7_bestCandidate) := goodIn_app (goodIn_of _ (by decide +kernel)) ggX7_elect_X7_bestCandidate
set_option maxRecDepth 20000 in
theorem ggX7_elect_X7_beginEpoch : GoodIn wsX7_elect wsX7_beginEpoch := goodIn_r _ [62, 1, 63, 64, 65, 8, 9, 66, 67, 68, 69, 70, 71, 72, 22, 73, 29, 30, 74, 75, 76, 77, 78, 79, 80, 81, 31, 38, 39, 40, 35, 41, 37, 42, 43, 44, 45, 46, 47, 48, 49, 50, 51, 52, 53, 54, 55, 56, 57, 58, 82, 83, 84, 85, 86, 87, 88, 89, 90, 91, 92, 93, 94, 95, 96, 97, 98, 99, 100, 101, 102, 103, 104, 105, 106, 107, 108, 109, 110, 111, 112, 113, 114, 115, 116, 117, 118, 119, 120, 121, 122, 123, 124, 125, 126, 127, 128, 129, 130, 131, 132, 133, 134, 135, 136, 137, 138, 139, 140, 141, 142, 143, 144, 145, 146, 147, 148, 149, 150, 151, 152, 153, 154, 155, 156, 157, 158, 159, 160, 161, 162, 163, 164, 165, 166, 167, 168, 169, 170, 171, 172, 173, 174, 175, 176, 177, 178, 179, 180, 181, 182, 183, 184, 185, 186, 187, 188, 189, 190, 191, 192, 193, 194, 195, 196, 197, 198, 199, 200, 201, 202, 203, 204, 205, 206, 207, 208, 209, 210, 211, 212, 213, 214, 215, 216, 217, 218, 219, 6, 220, 221, 222, 223, 224, 225, 226, 227, 228, 229, 230, 231, 232, 233, 234, 235, 236, 237, 238, 239, 240, 241, 242, 243, 244, 245, 246, 247, 248, 249, 250, 251, 252, 253, 254, 255, 256, 257, 258, 259, 260, 261, 262, 263, 264, 265, 266, 267, 268, 269, 270, 271, 272] (by decide +kernel) (by decide +kernel)
set_option maxRecDepth 20000 in
theorem gX7_elect_X7_beginEpoch : GoodIn wsX7_elect (wsV RX7 81 RX7 yX7_beginEpoch wsX7_beginEpoch) := goodIn_app (goodIn_of _ (by decide +kernel)) ggX7_elect_X7_beginEpoch
theorem dX7_elect_0 : decode cX7_elect 0 = .ok (.aload_n 0, 1) := by decide +kernel
theorem dX7_elect_1 : decode cX7_elect 1 = .ok (.getfield 60, 3) := by decide +kernel
theorem dX7_elect_4 : decode cX7_elect 4 = .ok (.ifnonnull 14, 3) := by decide +kernel
theorem dX7_elect_7 : decode cX7_elect 7 = .ok (.aload_n 0, 1) := by decide +kernel
theorem dX7_elect_8 : decode cX7_elect 8 = .ok (.invokevirtual 74, 3) := by decide +kernel
theorem dX7_elect_11 : decode cX7_elect 11 = .ok (.aload_n 0, 1) := by decide +kernel
theorem dX7_elect_12 : decode cX7_elect 12 = .ok (.invokevirtual 68, 3) := by decide +kernel
theorem dX7_elect_15 : decode cX7_elect 15 = .ok (.if_icmp .ge 6, 3) := by decide +kernel
theorem dX7_elect_18 : decode cX7_elect 18 = .ok (.bipush (-2), 2) := by decide +kernel
theorem dX7_elect_20 : decode cX7_elect 20 = .ok (.ireturn, 1) := by decide +kernel
theorem dX7_elect_21 : decode cX7_elect 21 = .ok (.aload_n 0, 1) := by decide +kernel
theorem dX7_elect_22 : decode cX7_elect 22 = .ok (.invokevirtual 77, 3) := by decide +kernel
theorem dX7_elect_25 : decode cX7_elect 25 = .ok (.astore_n 1, 1) := by decide +kernel
theorem dX7_elect_26 : decode cX7_elect 26 = .ok (.aload_n 1, 1) := by decide +kernel
theorem dX7_elect_27 : decode cX7_elect 27 = .ok (.ifnonnull 6, 3) := by decide +kernel
theorem dX7_elect_30 : decode cX7_elect 30 = .ok (.bipush (-2), 2) := by decide +kernel
theorem dX7_elect_32 : decode cX7_elect 32 = .ok (.ireturn, 1) := by decide +kernel
theorem dX7_elect_33 : decode cX7_elect 33 = .ok (.aload_n 0, 1) := by decide +kernel
theorem dX7_elect_34 : decode cX7_elect 34 = .ok (.aload_n 1, 1) := by decide +kernel
theorem dX7_elect_35 : decode cX7_elect 35 = .ok (.invokevirtual 81, 3) := by decide +kernel
theorem dX7_elect_38 : decode cX7_elect 38 = .ok (.aload_n 1, 1) := by decide +kernel
theorem dX7_elect_39 : decode cX7_elect 39 = .ok (.getfield 85, 3) := by decide +kernel
theorem dX7_elect_42 : decode cX7_elect 42 = .ok (.ireturn, 1) := by decide +kernel
set_option maxRecDepth 20000 in
theorem ggX7_synchronize_X7_findServer : GoodIn wsX7_synchronize wsX7_findServer := goodIn_r _ [12, 13, 14, 206, 207, 208, 209, 210, 211, 212, 213, 214, 215, 216, 217] (by decide +kernel) (by decide +kernel)
set_option maxRecDepth 20000 in
theorem gX7_synchronize_X7_findServer : GoodIn wsX7_synchronize (wsV RX7 46 RX7 yX7_findServer wsX7_findServer) := goodIn_app (goodIn_of _ (by decide +kernel)) ggX7_synchronize_X7_findServer
set_option maxRecDepth 20000 in
theorem ggX7_synchronize_X1_copyLogOf : GoodIn wsX7_synchronize wsX1_copyLogOf := goodIn_r _ [19, 20, 21, 22, 23, 24, 18, 25, 26, 27, 28, 29, 30, 31, 32, 33, 34, 35, 36, 37, 38, 39, 40, 41, 42, 43, 44, 45, 46, 47, 48, 49, 50, 51, 52, 53, 54, 55, 56, 57, 58, 59, 60, 61, 62, 63, 64, 65, 66, 67, 68, 69, 70, 71, 72, 73, 74, 75, 76, 77, 78, 79, 80, 81, 82, 83, 84, 85, 86, 87, 88, 89, 90, 91, 92, 93, 94, 95, 96, 97, 98, 99, 100, 101, 102, 103, 104, 105, 106, 107, 108, 109, 110, 111, 112, 218, 219, 220, 221, 222, 223, 224, 225, 226, 227, 228, 229, 230, 231, 232] (by decide +kernel) (by decide +kernel)
set_option maxRecDepth 20000 in
theorem gX7_synchronize_X1_copyLogOf : GoodIn wsX7_synchronize (wsV RX7 88 RX1 yX1_copyLogOf wsX1_copyLogOf) := goodIn_app (goodIn_of _ (by decide +kernel)) ggX7_synchronize_X1_copyLogOf
set_option maxRecDepth 20000 in
theorem ggX7_synchronize_X7_commitWhatAQuorumHas : GoodIn wsX7_synchronize wsX7_commitWhatAQuorumHas := goodIn_r _ [116, 6, 117, 7, 118, 32, 33, 34, 35, 36, 119, 120, 121, 11, 122, 14, 3, 123, 124, 125, 126, 13, 127, 128, 129, 18, 130, 20, 26, 27, 28, 29, 131, 132, 21, 31, 37, 38, 39, 40, 41, 42, 43, 44, 45, 46, 47, 48, 49, 50, 51, 52, 53, 133, 134, 135, 136, 137, 138, 139, 140, 141, 142, 143, 144, 145, 146, 147, 148, 149, 150, 151, 152, 153, 154, 155, 156, 157, 158, 159, 160, 161, 162, 163, 164, 165, 166, 167, 168, 169, 170, 171, 172, 173, 174, 175, 176, 177, 178, 179, 180, 181, 55, 56, 57, 58, 59, 60, 61, 62, 63, 64, 65, 66, 67, 182, 183, 184, 185, 186, 187, 188, 189, 190, 191, 192, 193, 194, 195, 196, 197, 198, 199, 200, 201, 202, 203, 204, 205, 206, 207, 208, 209, 210, 211, 212, 213, 214, 215, 216, 217, 218, 219, 220, 221, 222, 223, 224, 230, 231, 232, 225, 226, 227, 228, 229, 233, 234, 235, 236, 237, 238, 239, 240, 241, 242, 243, 244, 245] (by decide +kernel) (by decide +kernel)
set_option maxRecDepth 20000 in
theorem gX7_synchronize_X7_commitWhatAQuorumHas : GoodIn wsX7_synchronize (wsV RX7 96 RX7 yX7_commitWhatAQuorumHas wsX7_commitWhatAQuorumHas) := goodIn_app (goodIn_of _ (by decide +kernel)) ggX7_synchronize_X7_commitWhatAQuorumHas
set_option maxRecDepth 20000 in
theorem ggX7_synchronize_X1_applyUpTo : GoodIn wsX7_synchronize wsX1_applyUpTo := goodIn_r _ [130, 20, 26, 27, 28, 29, 131, 132, 21, 31, 32, 33, 34, 35, 36, 37, 38, 39, 40, 41, 42, 43, 44, 45, 46, 47, 48, 49, 50, 51, 52, 53, 133, 134, 135, 136, 137, 138, 139, 140, 141, 142, 143, 144, 145, 146, 147, 148, 149, 150, 151, 152, 153, 154, 155, 156, 157, 158, 159, 160, 161, 162, 163, 164, 165, 166, 167, 168, 169, 170, 171, 172, 173, 174, 175, 176, 177, 178, 179, 180, 181, 55, 56, 57, 58, 59, 60, 61, 62, 63, 64, 65, 66, 67, 182, 183, 184, 185, 186, 187, 188, 189, 190, 191, 192, 193, 194, 195, 196, 197, 198, 199, 200, 201, 202, 203, 204, 11, 205, 218, 219, 220, 221, 222, 223, 224, 230, 231, 232, 225, 226, 227, 228, 229, 233, 234, 235, 236, 237, 238, 239, 240, 241, 242, 243, 244, 245] (by decide +kernel) (by decide +kernel)
set_option maxRecDepth 20000 in
theorem gX7_synchronize_X1_applyUpTo : GoodIn wsX7_synchronize (wsV RX7 102 RX1 yX1_applyUpTo wsX1_applyUpTo) := goodIn_app (goodIn_of _ (by decide +kernel)) ggX7_synchronize_X1_applyUpTo
theorem dX7_synchronize_0 : decode cX7_synchronize 0 = .ok (.aload_n 0, 1) := by decide +kernel
theorem dX7_synchronize_1 : decode cX7_synchronize 1 = .ok (.iload_n 1, 1) := by decide +kernel
theorem dX7_synchronize_2 : decode cX7_synchronize 2 = .ok (.invokevirtual 46, 3) := by decide +kernel
theorem dX7_synchronize_5 : decode cX7_synchronize 5 = .ok (.astore_n 2, 1) := by decide +kernel
theorem dX7_synchronize_6 : decode cX7_synchronize 6 = .ok (.aload_n 2, 1) := by decide +kernel
theorem dX7_synchronize_7 : decode cX7_synchronize 7 = .ok (.ifnonnull 5, 3) := by decide +kernel
theorem dX7_synchronize_10 : decode cX7_synchronize 10 = .ok (.iconst (-1), 1) := by decide +kernel
theorem dX7_synchronize_11 : decode cX7_synchronize 11 = .ok (.ireturn, 1) := by decide +kernel
theorem dX7_synchronize_12 : decode cX7_synchronize 12 = .ok (.aload_n 0, 1) := by decide +kernel
theorem dX7_synchronize_13 : decode cX7_synchronize 13 = .ok (.getfield 60, 3) := by decide +kernel
theorem dX7_synchronize_16 : decode cX7_synchronize 16 = .ok (.ifnull 17, 3) := by decide +kernel
theorem dX7_synchronize_19 : decode cX7_synchronize 19 = .ok (.aload_n 2, 1) := by decide +kernel
theorem dX7_synchronize_20 : decode cX7_synchronize 20 = .ok (.getfield 50, 3) := by decide +kernel
theorem dX7_synchronize_23 : decode cX7_synchronize 23 = .ok (.ifCond .eq 10, 3) := by decide +kernel
theorem dX7_synchronize_26 : decode cX7_synchronize 26 = .ok (.aload_n 2, 1) := by decide +kernel
theorem dX7_synchronize_27 : decode cX7_synchronize 27 = .ok (.getfield 54, 3) := by decide +kernel
theorem dX7_synchronize_30 : decode cX7_synchronize 30 = .ok (.ifCond .eq 6, 3) := by decide +kernel
theorem dX7_synchronize_33 : decode cX7_synchronize 33 = .ok (.bipush (-2), 2) := by decide +kernel
theorem dX7_synchronize_35 : decode cX7_synchronize 35 = .ok (.ireturn, 1) := by decide +kernel
theorem dX7_synchronize_36 : decode cX7_synchronize 36 = .ok (.aload_n 2, 1) := by decide +kernel
theorem dX7_synchronize_37 : decode cX7_synchronize 37 = .ok (.aload_n 0, 1) := by decide +kernel
theorem dX7_synchronize_38 : decode cX7_synchronize 38 = .ok (.getfield 60, 3) := by decide +kernel
theorem dX7_synchronize_41 : decode cX7_synchronize 41 = .ok (.invokevirtual 88, 3) := by decide +kernel
theorem dX7_synchronize_44 : decode cX7_synchronize 44 = .ok (.istore_n 3, 1) := by decide +kernel
theorem dX7_synchronize_45 : decode cX7_synchronize 45 = .ok (.aload_n 2, 1) := by decide +kernel
theorem dX7_synchronize_46 : decode cX7_synchronize 46 = .ok (.iconst 1, 1) := by decide +kernel
theorem dX7_synchronize_47 : decode cX7_synchronize 47 = .ok (.putfield 54, 3) := by decide +kernel
theorem dX7_synchronize_50 : decode cX7_synchronize 50 = .ok (.aload_n 2, 1) := by decide +kernel
theorem dX7_synchronize_51 : decode cX7_synchronize 51 = .ok (.aload_n 0, 1) := by decide +kernel
theorem dX7_synchronize_52 : decode cX7_synchronize 52 = .ok (.getfield 92, 3) := by decide +kernel
theorem dX7_synchronize_55 : decode cX7_synchronize 55 = .ok (.putfield 95, 3) := by decide +kernel
theorem dX7_synchronize_58 : decode cX7_synchronize 58 = .ok (.aload_n 0, 1) := by decide +kernel
theorem dX7_synchronize_59 : decode cX7_synchronize 59 = .ok (.aload_n 0, 1) := by decide +kernel
theorem dX7_synchronize_60 : decode cX7_synchronize 60 = .ok (.getfield 60, 3) := by decide +kernel
theorem dX7_synchronize_63 : decode cX7_synchronize 63 = .ok (.invokevirtual 96, 3) := by decide +kernel
theorem dX7_synchronize_66 : decode cX7_synchronize 66 = .ok (.aload_n 2, 1) := by decide +kernel
theorem dX7_synchronize_67 : decode cX7_synchronize 67 = .ok (.aload_n 0, 1) := by decide +kernel
theorem dX7_synchronize_68 : decode cX7_synchronize 68 = .ok (.getfield 99, 3) := by decide +kernel
theorem dX7_synchronize_71 : decode cX7_synchronize 71 = .ok (.aload_n 0, 1) := by decide +kernel
theorem dX7_synchronize_72 : decode cX7_synchronize 72 = .ok (.getfield 24, 3) := by decide +kernel
theorem dX7_synchronize_75 : decode cX7_synchronize 75 = .ok (.invokevirtual 102, 3) := by decide +kernel
theorem dX7_synchronize_78 : decode cX7_synchronize 78 = .ok (.pop, 1) := by decide +kernel
theorem dX7_synchronize_79 : decode cX7_synchronize 79 = .ok (.iload_n 3, 1) := by decide +kernel
theorem dX7_synchronize_80 : decode cX7_synchronize 80 = .ok (.ireturn, 1) := by decide +kernel
set_option maxRecDepth 20000 in
theorem ggX7_accept_X7_findServer : GoodIn wsX7_accept wsX7_findServer := goodIn_r _ [9, 10, 11, 200, 201, 202, 203, 204, 205, 206, 207, 208, 209, 210, 211] (by decide +kernel) (by decide +kernel)
set_option maxRecDepth 20000 in
theorem gX7_accept_X7_findServer : GoodIn wsX7_accept (wsV RX7 46 RX7 yX7_findServer wsX7_findServer) := goodIn_app (goodIn_of _ (by decide +kernel)) ggX7_accept_X7_findServer
set_option maxRecDepth 20000 in
theorem ggX7_accept_X7_isFollower : GoodIn wsX7_accept wsX7_isFollower := goodIn_r _ [15, 16, 1, 212, 213, 214, 215, 216, 217, 218, 200, 201, 202, 203, 204, 205, 206, 207, 208, 209, 210, 211] (by decide +kernel) (by decide +kernel)
set_option maxRecDepth 20000 in
theorem gX7_accept_X7_isFollower : GoodIn wsX7_accept (wsV RX7 106 RX7 yX7_isFollower wsX7_isFollower) := goodIn_app (goodIn_of _ (by decide +kernel)) ggX7_accept_X7_isFollower
set_option maxRecDepth 20000 in
theorem ggX7_accept_Jx4a65c_size_8abf5 : GoodIn wsX7_accept wsJx4a65c_size_8abf5 := goodIn_r _ [21, 22, 224, 225, 226] (by decide +kernel) (by decide +kernel)
set_option maxRecDepth 20000 in
theorem gX7_accept_Jx4a65c_size_8abf5 : GoodIn wsX7_accept (wsV RX7 114 RJx4a65c yJx4a65c_size_8abf5 wsJx4a65c_size_8abf5) := goodIn_app (goodIn_of _ (by decide +kernel)) ggX7_accept_Jx4a65c_size_8abf5
set_option maxRecDepth 20000 in
theorem ggX7_accept_Jx4a65c_get_915e3 : GoodIn wsX7_accept wsJx4a65c_get_915e3 := goodIn_r _ [26, 22, 27, 28, 29, 30, 31, 32, 33, 34, 35, 36, 37, 20, 38, 39, 224, 225, 226] (by decide +kernel) (by decide +kernel)
set_option maxRecDepth 20000 in
theorem gX7_accept_Jx4a65c_get_915e3 : GoodIn wsX7_accept (wsV RX7 119 RJx4a65c yJx4a65c_get_915e3 wsJx4a65c_get_915e3) := goodIn_app (goodIn_of _ (by decide +kernel)) ggX7_accept_Jx4a65c_get_915e3
set_option maxRecDepth 20000 in
theorem ggX7_accept_Jx4a65c_add_9ea2d : GoodIn wsX7_accept wsJx4a65c_add_9ea2d := goodIn_r _ [43, 44, 45, 39, 22, 46, 47, 48, 20, 49, 50, 51, 52, 53, 54, 55, 56, 57, 58, 59, 60, 61, 62, 63, 64, 65, 66, 67, 68, 69, 70, 71, 72, 73, 74, 75, 76, 77, 78, 79, 80, 81, 82, 83, 84, 85, 86, 87, 88, 89, 90, 91, 92, 224, 225, 226] (by decide +kernel) (by decide +kernel)
set_option maxRecDepth 20000 in
theorem gX7_accept_Jx4a65c_add_9ea2d : GoodIn wsX7_accept (wsV RX7 125 RJx4a65c yJx4a65c_add_9ea2d wsJx4a65c_add_9ea2d) := goodIn_app (goodIn_of _ (by decide +kernel)) ggX7_accept_Jx4a65c_add_9ea2d
set_option maxRecDepth 20000 in
theorem ggX7_accept_X7_commitWhatAQuorumHas : GoodIn wsX7_accept wsX7_commitWhatAQuorumHas := goodIn_r _ [96, 97, 2, 98, 17, 18, 19, 20, 21, 22, 99, 100, 101, 8, 102, 11, 16, 103, 104, 105, 106, 10, 107, 108, 109, 110, 111, 112, 113, 87, 61, 88, 114, 115, 116, 117, 118, 24, 25, 26, 27, 28, 29, 30, 31, 32, 33, 34, 35, 36, 37, 38, 39, 119, 120, 121, 122, 123, 124, 125, 126, 127, 128, 129, 130, 131, 132, 133, 134, 135, 136, 137, 138, 139, 140, 141, 142, 143, 144, 145, 146, 147, 148, 149, 150, 151, 152, 153, 154, 155, 156, 157, 158, 159, 160, 161, 162, 163, 164, 165, 166, 167, 168, 169, 170, 171, 172, 173, 174, 44, 45, 175, 90, 91, 92, 176, 177, 178, 179, 180, 181, 182, 183, 184, 185, 186, 187, 188, 189, 190, 191, 192, 193, 194, 195, 196, 197, 198, 199, 200, 201, 202, 203, 204, 205, 206, 207, 208, 209, 210, 211, 212, 213, 214, 215, 216, 217, 218, 224, 225, 226, 219, 220, 221, 222, 223, 227, 228, 229, 230, 231, 232, 233, 234, 235, 236, 237, 238, 239] (by decide +kernel) (by decide +kernel)
set_option maxRecDepth 20000 in
theorem gX7_accept_X7_commitWhatAQuorumHas : GoodIn wsX7_accept (wsV RX7 96 RX7 yX7_commitWhatAQuorumHas wsX7_commitWhatAQuorumHas) := goodIn_app (goodIn_of _ (by decide +kernel)) ggX7_accept_X7_commitWhatAQuorumHas
theorem dX7_accept_0 : decode cX7_accept 0 = .ok (.aload_n 0, 1) := by decide +kernel
theorem dX7_accept_1 : decode cX7_accept 1 = .ok (.iload_n 1, 1) := by decide +kernel
theorem dX7_accept_2 : decode cX7_accept 2 = .ok (.invokevirtual 46, 3) := by decide +kernel
theorem dX7_accept_5 : decode cX7_accept 5 = .ok (.astore_n 2, 1) := by decide +kernel
theorem dX7_accept_6 : decode cX7_accept 6 = .ok (.aload_n 2, 1) := by decide +kernel
theorem dX7_accept_7 : decode cX7_accept 7 = .ok (.ifnonnull 5, 3) := by decide +kernel
theorem dX7_accept_10 : decode cX7_accept 10 = .ok (.iconst (-1), 1) := by decide +kernel
theorem dX7_accept_11 : decode cX7_accept 11 = .ok (.ireturn, 1) := by decide +kernel
theorem dX7_accept_12 : decode cX7_accept 12 = .ok (.aload_n 0, 1) := by decide +kernel
theorem dX7_accept_13 : decode cX7_accept 13 = .ok (.getfield 60, 3) := by decide +kernel
theorem dX7_accept_16 : decode cX7_accept 16 = .ok (.ifnull 11, 3) := by decide +kernel
theorem dX7_accept_19 : decode cX7_accept 19 = .ok (.aload_n 0, 1) := by decide +kernel
theorem dX7_accept_20 : decode cX7_accept 20 = .ok (.aload_n 2, 1) := by decide +kernel
theorem dX7_accept_21 : decode cX7_accept 21 = .ok (.invokevirtual 106, 3) := by decide +kernel
theorem dX7_accept_24 : decode cX7_accept 24 = .ok (.ifCond .ne 6, 3) := by decide +kernel
theorem dX7_accept_27 : decode cX7_accept 27 = .ok (.bipush (-2), 2) := by decide +kernel
theorem dX7_accept_29 : decode cX7_accept 29 = .ok (.ireturn, 1) := by decide +kernel
theorem dX7_accept_30 : decode cX7_accept 30 = .ok (.aload_n 2, 1) := by decide +kernel
theorem dX7_accept_31 : decode cX7_accept 31 = .ok (.getfield 110, 3) := by decide +kernel
theorem dX7_accept_34 : decode cX7_accept 34 = .ok (.invokevirtual 114, 3) := by decide +kernel
theorem dX7_accept_37 : decode cX7_accept 37 = .ok (.istore_n 3, 1) := by decide +kernel
theorem dX7_accept_38 : decode cX7_accept 38 = .ok (.iload_n 3, 1) := by decide +kernel
theorem dX7_accept_39 : decode cX7_accept 39 = .ok (.aload_n 0, 1) := by decide +kernel
theorem dX7_accept_40 : decode cX7_accept 40 = .ok (.getfield 60, 3) := by decide +kernel
theorem dX7_accept_43 : decode cX7_accept 43 = .ok (.getfield 110, 3) := by decide +kernel
theorem dX7_accept_46 : decode cX7_accept 46 = .ok (.invokevirtual 114, 3) := by decide +kernel
theorem dX7_accept_49 : decode cX7_accept 49 = .ok (.if_icmp .lt 6, 3) := by decide +kernel
theorem dX7_accept_52 : decode cX7_accept 52 = .ok (.bipush (-2), 2) := by decide +kernel
theorem dX7_accept_54 : decode cX7_accept 54 = .ok (.ireturn, 1) := by decide +kernel
theorem dX7_accept_55 : decode cX7_accept 55 = .ok (.aload_n 0, 1) := by decide +kernel
theorem dX7_accept_56 : decode cX7_accept 56 = .ok (.getfield 60, 3) := by decide +kernel
theorem dX7_accept_59 : decode cX7_accept 59 = .ok (.getfield 110, 3) := by decide +kernel
theorem dX7_accept_62 : decode cX7_accept 62 = .ok (.iload_n 3, 1) := by decide +kernel
theorem dX7_accept_63 : decode cX7_accept 63 = .ok (.invokevirtual 119, 3) := by decide +kernel
theorem dX7_accept_66 : decode cX7_accept 66 = .ok (.checkcast 123, 3) := by decide +kernel
theorem dX7_accept_69 : decode cX7_accept 69 = .ok (.astore 4, 2) := by decide +kernel
theorem dX7_accept_71 : decode cX7_accept 71 = .ok (.aload_n 2, 1) := by decide +kernel
theorem dX7_accept_72 : decode cX7_accept 72 = .ok (.getfield 110, 3) := by decide +kernel
theorem dX7_accept_75 : decode cX7_accept 75 = .ok (.aload 4, 2) := by decide +kernel
theorem dX7_accept_77 : decode cX7_accept 77 = .ok (.invokevirtual 125, 3) := by decide +kernel
theorem dX7_accept_80 : decode cX7_accept 80 = .ok (.pop, 1) := by decide +kernel
theorem dX7_accept_81 : decode cX7_accept 81 = .ok (.aload_n 0, 1) := by decide +kernel
theorem dX7_accept_82 : decode cX7_accept 82 = .ok (.aload_n 0, 1) := by decide +kernel
theorem dX7_accept_83 : decode cX7_accept 83 = .ok (.getfield 60, 3) := by decide +kernel
theorem dX7_accept_86 : decode cX7_accept 86 = .ok (.invokevirtual 96, 3) := by decide +kernel
theorem dX7_accept_89 : decode cX7_accept 89 = .ok (.aload 4, 2) := by decide +kernel
theorem dX7_accept_91 : decode cX7_accept 91 = .ok (.getfield 129, 3) := by decide +kernel
theorem dX7_accept_94 : decode cX7_accept 94 = .ok (.ireturn, 1) := by decide +kernel
set_option maxRecDepth 20000 in
theorem ggX7_heartbeat_X7_findServer : GoodIn wsX7_heartbeat wsX7_findServer := goodIn_r _ [7, 8, 9, 138, 139, 140, 141, 142, 143, 144, 145, 146, 147, 148, 149] (by decide +kernel) (by decide +kernel)
set_option maxRecDepth 20000 in
theorem gX7_heartbeat_X7_findServer : GoodIn wsX7_heartbeat (wsV RX7 46 RX7 yX7_findServer wsX7_findServer) := goodIn_app (goodIn_of _ (by decide +kernel)) ggX7_heartbeat_X7_findServer
set_option maxRecDepth 20000 in
theorem ggX7_heartbeat_X7_isFollower : GoodIn wsX7_heartbeat wsX7_isFollower := goodIn_r _ [13, 14, 15, 150, 151, 152, 153, 154, 155, 156, 138, 139, 140, 141, 142, 143, 144, 145, 146, 147, 148, 149] (by decide +kernel) (by decide +kernel)
set_option maxRecDepth 20000 in
theorem gX7_heartbeat_X7_isFollower : GoodIn wsX7_heartbeat (wsV RX7 106 RX7 yX7_isFollower wsX7_isFollower) := goodIn_app (goodIn_of _ (by decide +kernel)) ggX7_heartbeat_X7_isFollower
set_option maxRecDepth 20000 in
theorem ggX7_heartbeat_X1_applyUpTo : GoodIn wsX7_heartbeat wsX1_applyUpTo := goodIn_r _ [20, 21, 22, 23, 24, 25, 26, 27, 28, 29, 30, 31, 32, 33, 34, 35, 36, 37, 38, 39, 40, 41, 42, 43, 44, 45, 46, 47, 48, 49, 50, 51, 52, 53, 54, 55, 56, 57, 58, 59, 60, 61, 62, 63, 64, 65, 66, 67, 68, 69, 70, 71, 72, 73, 74, 75, 76, 77, 78, 79, 80, 81, 82, 83, 84, 85, 86, 87, 88, 89, 90, 91, 92, 93, 94, 95, 96, 97, 98, 99, 100, 101, 102, 103, 104, 105, 106, 107, 108, 109, 110, 111, 112, 113, 114, 115, 116, 117, 118, 119, 120, 121, 122, 123, 124, 125, 126, 127, 128, 129, 130, 131, 132, 133, 134, 135, 136, 6, 137, 150, 151, 152, 153, 154, 155, 156, 157, 158, 159, 160, 161, 162, 163, 164, 165, 166, 167, 168, 169, 170, 171, 172, 173, 174, 175, 176, 177] (by decide +kernel) (by decide +kernel)
set_option maxRecDepth 20000 in
theorem gX7_heartbeat_X1_applyUpTo : GoodIn wsX7_heartbeat (wsV RX7 102 RX1 yX1_applyUpTo wsX1_applyUpTo) := goodIn_app (goodIn_of _ (by decide +kernel)) ggX7_heartbeat_X1_applyUpTo
theorem dX7_heartbeat_0 : decode cX7_heartbeat 0 = .ok (.aload_n 0, 1) := by decide +kernel
theorem dX7_heartbeat_1 : decode cX7_heartbeat 1 = .ok (.iload_n 1, 1) := by decide +kernel
theorem dX7_heartbeat_2 : decode cX7_heartbeat 2 = .ok (.invokevirtual 46, 3) := by decide +kernel
theorem dX7_heartbeat_5 : decode cX7_heartbeat 5 = .ok (.astore_n 2, 1) := by decide +kernel
theorem dX7_heartbeat_6 : decode cX7_heartbeat 6 = .ok (.aload_n 2, 1) := by decide +kernel
theorem dX7_heartbeat_7 : decode cX7_heartbeat 7 = .ok (.ifnonnull 5, 3) := by decide +kernel
theorem dX7_heartbeat_10 : decode cX7_heartbeat 10 = .ok (.iconst (-1), 1) := by decide +kernel
theorem dX7_heartbeat_11 : decode cX7_heartbeat 11 = .ok (.ireturn, 1) := by decide +kernel
theorem dX7_heartbeat_12 : decode cX7_heartbeat 12 = .ok (.aload_n 0, 1) := by decide +kernel
theorem dX7_heartbeat_13 : decode cX7_heartbeat 13 = .ok (.aload_n 2, 1) := by decide +kernel
theorem dX7_heartbeat_14 : decode cX7_heartbeat 14 = .ok (.invokevirtual 106, 3) := by decide +kernel
theorem dX7_heartbeat_17 : decode cX7_heartbeat 17 = .ok (.ifCond .ne 6, 3) := by decide +kernel
theorem dX7_heartbeat_20 : decode cX7_heartbeat 20 = .ok (.bipush (-2), 2) := by decide +kernel
theorem dX7_heartbeat_22 : decode cX7_heartbeat 22 = .ok (.ireturn, 1) := by decide +kernel
theorem dX7_heartbeat_23 : decode cX7_heartbeat 23 = .ok (.aload_n 2, 1) := by decide +kernel
theorem dX7_heartbeat_24 : decode cX7_heartbeat 24 = .ok (.aload_n 0, 1) := by decide +kernel
theorem dX7_heartbeat_25 : decode cX7_heartbeat 25 = .ok (.getfield 99, 3) := by decide +kernel
theorem dX7_heartbeat_28 : decode cX7_heartbeat 28 = .ok (.aload_n 0, 1) := by decide +kernel
theorem dX7_heartbeat_29 : decode cX7_heartbeat 29 = .ok (.getfield 24, 3) := by decide +kernel
theorem dX7_heartbeat_32 : decode cX7_heartbeat 32 = .ok (.invokevirtual 102, 3) := by decide +kernel
theorem dX7_heartbeat_35 : decode cX7_heartbeat 35 = .ok (.ireturn, 1) := by decide +kernel
theorem dX7_leader_0 : decode cX7_leader 0 = .ok (.aload_n 0, 1) := by decide +kernel
theorem dX7_leader_1 : decode cX7_leader 1 = .ok (.getfield 60, 3) := by decide +kernel
theorem dX7_leader_4 : decode cX7_leader 4 = .ok (.ifnonnull 8, 3) := by decide +kernel
theorem dX7_leader_7 : decode cX7_leader 7 = .ok (.bipush (-3), 2) := by decide +kernel
theorem dX7_leader_9 : decode cX7_leader 9 = .ok (.goto 10, 3) := by decide +kernel
theorem dX7_leader_12 : decode cX7_leader 12 = .ok (.aload_n 0, 1) := by decide +kernel
theorem dX7_leader_13 : decode cX7_leader 13 = .ok (.getfield 60, 3) := by decide +kernel
theorem dX7_leader_16 : decode cX7_leader 16 = .ok (.getfield 85, 3) := by decide +kernel
theorem dX7_leader_19 : decode cX7_leader 19 = .ok (.ireturn, 1) := by decide +kernel
set_option maxRecDepth 20000 in
theorem ggX7_lastIdentifier_X7_findServer : GoodIn wsX7_lastIdentifier wsX7_findServer := goodIn_r _ [5, 6, 7, 43, 44, 45, 46, 47, 48, 49, 50, 51, 52, 53, 54] (by decide +kernel) (by decide +kernel)
set_option maxRecDepth 20000 in
theorem gX7_lastIdentifier_X7_findServer : GoodIn wsX7_lastIdentifier (wsV RX7 46 RX7 yX7_findServer wsX7_findServer) := goodIn_app (goodIn_of _ (by decide +kernel)) ggX7_lastIdentifier_X7_findServer
set_option maxRecDepth 20000 in
theorem ggX7_lastIdentifier_X1_newestIdentifier : GoodIn wsX7_lastIdentifier wsX1_newestIdentifier := goodIn_r _ [12, 13, 14, 15, 16, 17, 18, 19, 20, 21, 22, 23, 24, 25, 26, 27, 28, 29, 30, 31, 32, 33, 34, 35, 36, 37, 38, 39, 40, 41, 42, 55, 56, 57, 58, 59, 60, 61, 62, 63, 64, 65, 66, 67, 68, 69] (by decide +kernel) (by decide +kernel)
set_option maxRecDepth 20000 in
theorem gX7_lastIdentifier_X1_newestIdentifier : GoodIn wsX7_lastIdentifier (wsV RX7 132 RX1 yX1_newestIdentifier wsX1_newestIdentifier) := goodIn_app (goodIn_of _ (by decide +kernel)) ggX7_lastIdentifier_X1_newestIdentifier
theorem dX7_lastIdentifier_0 : decode cX7_lastIdentifier 0 = .ok (.aload_n 0, 1) := by decide +kernel
theorem dX7_lastIdentifier_1 : decode cX7_lastIdentifier 1 = .ok (.iload_n 1, 1) := by decide +kernel
theorem dX7_lastIdentifier_2 : decode cX7_lastIdentifier 2 = .ok (.invokevirtual 46, 3) := by decide +kernel
theorem dX7_lastIdentifier_5 : decode cX7_lastIdentifier 5 = .ok (.astore_n 2, 1) := by decide +kernel
theorem dX7_lastIdentifier_6 : decode cX7_lastIdentifier 6 = .ok (.aload_n 2, 1) := by decide +kernel
theorem dX7_lastIdentifier_7 : decode cX7_lastIdentifier 7 = .ok (.ifnonnull 7, 3) := by decide +kernel
theorem dX7_lastIdentifier_10 : decode cX7_lastIdentifier 10 = .ok (.iconst (-1), 1) := by decide +kernel
theorem dX7_lastIdentifier_11 : decode cX7_lastIdentifier 11 = .ok (.goto 7, 3) := by decide +kernel
theorem dX7_lastIdentifier_14 : decode cX7_lastIdentifier 14 = .ok (.aload_n 2, 1) := by decide +kernel
theorem dX7_lastIdentifier_15 : decode cX7_lastIdentifier 15 = .ok (.invokevirtual 132, 3) := by decide +kernel
theorem dX7_lastIdentifier_18 : decode cX7_lastIdentifier 18 = .ok (.ireturn, 1) := by decide +kernel
set_option maxRecDepth 20000 in
theorem ggX7_appliedCount_X7_findServer : GoodIn wsX7_appliedCount wsX7_findServer := goodIn_r _ [6, 7, 8, 16, 17, 18, 19, 20, 21, 22, 23, 24, 25, 26, 27] (by decide +kernel) (by decide +kernel)
set_option maxRecDepth 20000 in
theorem gX7_appliedCount_X7_findServer : GoodIn wsX7_appliedCount (wsV RX7 46 RX7 yX7_findServer wsX7_findServer) := goodIn_app (goodIn_of _ (by decide +kernel)) ggX7_appliedCount_X7_findServer
theorem dX7_appliedCount_0 : decode cX7_appliedCount 0 = .ok (.aload_n 0, 1) := by decide +kernel
theorem dX7_appliedCount_1 : decode cX7_appliedCount 1 = .ok (.iload_n 1, 1) := by decide +kernel
theorem dX7_appliedCount_2 : decode cX7_appliedCount 2 = .ok (.invokevirtual 46, 3) := by decide +kernel
theorem dX7_appliedCount_5 : decode cX7_appliedCount 5 = .ok (.astore_n 2, 1) := by decide +kernel
theorem dX7_appliedCount_6 : decode cX7_appliedCount 6 = .ok (.aload_n 2, 1) := by decide +kernel
theorem dX7_appliedCount_7 : decode cX7_appliedCount 7 = .ok (.ifnonnull 7, 3) := by decide +kernel
theorem dX7_appliedCount_10 : decode cX7_appliedCount 10 = .ok (.iconst (-1), 1) := by decide +kernel
theorem dX7_appliedCount_11 : decode cX7_appliedCount 11 = .ok (.goto 7, 3) := by decide +kernel
theorem dX7_appliedCount_14 : decode cX7_appliedCount 14 = .ok (.aload_n 2, 1) := by decide +kernel
theorem dX7_appliedCount_15 : decode cX7_appliedCount 15 = .ok (.getfield 135, 3) := by decide +kernel
theorem dX7_appliedCount_18 : decode cX7_appliedCount 18 = .ok (.ireturn, 1) := by decide +kernel
theorem dX7_committedCount_0 : decode cX7_committedCount 0 = .ok (.aload_n 0, 1) := by decide +kernel
theorem dX7_committedCount_1 : decode cX7_committedCount 1 = .ok (.getfield 60, 3) := by decide +kernel
theorem dX7_committedCount_4 : decode cX7_committedCount 4 = .ok (.ifnonnull 8, 3) := by decide +kernel
theorem dX7_committedCount_7 : decode cX7_committedCount 7 = .ok (.bipush (-2), 2) := by decide +kernel
theorem dX7_committedCount_9 : decode cX7_committedCount 9 = .ok (.goto 7, 3) := by decide +kernel
theorem dX7_committedCount_12 : decode cX7_committedCount 12 = .ok (.aload_n 0, 1) := by decide +kernel
theorem dX7_committedCount_13 : decode cX7_committedCount 13 = .ok (.getfield 99, 3) := by decide +kernel
theorem dX7_committedCount_16 : decode cX7_committedCount 16 = .ok (.ireturn, 1) := by decide +kernel
set_option maxRecDepth 20000 in
theorem ggX7_acceptedEpoch_X7_findServer : GoodIn wsX7_acceptedEpoch wsX7_findServer := goodIn_r _ [6, 7, 8, 16, 17, 18, 19, 20, 21, 22, 23, 24, 25, 26, 27] (by decide +kernel) (by decide +kernel)
set_option maxRecDepth 20000 in
theorem gX7_acceptedEpoch_X7_findServer : GoodIn wsX7_acceptedEpoch (wsV RX7 46 RX7 yX7_findServer wsX7_findServer) := goodIn_app (goodIn_of _ (by decide +kernel)) ggX7_acceptedEpoch_X7_findServer
theorem dX7_acceptedEpoch_0 : decode cX7_acceptedEpoch 0 = .ok (.aload_n 0, 1) := by decide +kernel
theorem dX7_acceptedEpoch_1 : decode cX7_acceptedEpoch 1 = .ok (.iload_n 1, 1) := by decide +kernel
theorem dX7_acceptedEpoch_2 : decode cX7_acceptedEpoch 2 = .ok (.invokevirtual 46, 3) := by decide +kernel
theorem dX7_acceptedEpoch_5 : decode cX7_acceptedEpoch 5 = .ok (.astore_n 2, 1) := by decide +kernel
theorem dX7_acceptedEpoch_6 : decode cX7_acceptedEpoch 6 = .ok (.aload_n 2, 1) := by decide +kernel
theorem dX7_acceptedEpoch_7 : decode cX7_acceptedEpoch 7 = .ok (.ifnonnull 7, 3) := by decide +kernel
theorem dX7_acceptedEpoch_10 : decode cX7_acceptedEpoch 10 = .ok (.iconst (-1), 1) := by decide +kernel
theorem dX7_acceptedEpoch_11 : decode cX7_acceptedEpoch 11 = .ok (.goto 7, 3) := by decide +kernel
theorem dX7_acceptedEpoch_14 : decode cX7_acceptedEpoch 14 = .ok (.aload_n 2, 1) := by decide +kernel
theorem dX7_acceptedEpoch_15 : decode cX7_acceptedEpoch 15 = .ok (.getfield 95, 3) := by decide +kernel
theorem dX7_acceptedEpoch_18 : decode cX7_acceptedEpoch 18 = .ok (.ireturn, 1) := by decide +kernel
theorem dX7_appendName_0 : decode cX7_appendName 0 = .ok (.iload_n 1, 1) := by decide +kernel
theorem dX7_appendName_1 : decode cX7_appendName 1 = .ok (.ifCond .lt 8, 3) := by decide +kernel
theorem dX7_appendName_4 : decode cX7_appendName 4 = .ok (.iload_n 1, 1) := by decide +kernel
theorem dX7_appendName_5 : decode cX7_appendName 5 = .ok (.iconst 5, 1) := by decide +kernel
theorem dX7_appendName_6 : decode cX7_appendName 6 = .ok (.if_icmp .le 5, 3) := by decide +kernel
theorem dX7_appendName_9 : decode cX7_appendName 9 = .ok (.iconst (-1), 1) := by decide +kernel
theorem dX7_appendName_10 : decode cX7_appendName 10 = .ok (.ireturn, 1) := by decide +kernel
theorem dX7_appendName_11 : decode cX7_appendName 11 = .ok (.aload_n 0, 1) := by decide +kernel
theorem dX7_appendName_12 : decode cX7_appendName 12 = .ok (.getfield 138, 3) := by decide +kernel
theorem dX7_appendName_15 : decode cX7_appendName 15 = .ok (.iconst 4, 1) := by decide +kernel
theorem dX7_appendName_16 : decode cX7_appendName 16 = .ok (.if_icmp .lt 6, 3) := by decide +kernel
theorem dX7_appendName_19 : decode cX7_appendName 19 = .ok (.bipush (-7), 2) := by decide +kernel
theorem dX7_appendName_21 : decode cX7_appendName 21 = .ok (.ireturn, 1) := by decide +kernel
theorem dX7_appendName_22 : decode cX7_appendName 22 = .ok (.aload_n 0, 1) := by decide +kernel
theorem dX7_appendName_23 : decode cX7_appendName 23 = .ok (.aload_n 0, 1) := by decide +kernel
theorem dX7_appendName_24 : decode cX7_appendName 24 = .ok (.getfield 141, 3) := by decide +kernel
theorem dX7_appendName_27 : decode cX7_appendName 27 = .ok (.iconst 3, 1) := by decide +kernel
theorem dX7_appendName_28 : decode cX7_appendName 28 = .ok (.ishl, 1) := by decide +kernel
theorem dX7_appendName_29 : decode cX7_appendName 29 = .ok (.iload_n 1, 1) := by decide +kernel
theorem dX7_appendName_30 : decode cX7_appendName 30 = .ok (.iadd, 1) := by decide +kernel
theorem dX7_appendName_31 : decode cX7_appendName 31 = .ok (.iconst 1, 1) := by decide +kernel
theorem dX7_appendName_32 : decode cX7_appendName 32 = .ok (.iadd, 1) := by decide +kernel
theorem dX7_appendName_33 : decode cX7_appendName 33 = .ok (.putfield 141, 3) := by decide +kernel
theorem dX7_appendName_36 : decode cX7_appendName 36 = .ok (.aload_n 0, 1) := by decide +kernel
theorem dX7_appendName_37 : decode cX7_appendName 37 = .ok (.dup, 1) := by decide +kernel
theorem dX7_appendName_38 : decode cX7_appendName 38 = .ok (.getfield 138, 3) := by decide +kernel
theorem dX7_appendName_41 : decode cX7_appendName 41 = .ok (.iconst 1, 1) := by decide +kernel
theorem dX7_appendName_42 : decode cX7_appendName 42 = .ok (.iadd, 1) := by decide +kernel
theorem dX7_appendName_43 : decode cX7_appendName 43 = .ok (.putfield 138, 3) := by decide +kernel
theorem dX7_appendName_46 : decode cX7_appendName 46 = .ok (.aload_n 0, 1) := by decide +kernel
theorem dX7_appendName_47 : decode cX7_appendName 47 = .ok (.getfield 138, 3) := by decide +kernel
theorem dX7_appendName_50 : decode cX7_appendName 50 = .ok (.ireturn, 1) := by decide +kernel
theorem dX7_clearPath_0 : decode cX7_clearPath 0 = .ok (.aload_n 0, 1) := by decide +kernel
theorem dX7_clearPath_1 : decode cX7_clearPath 1 = .ok (.getfield 138, 3) := by decide +kernel
theorem dX7_clearPath_4 : decode cX7_clearPath 4 = .ok (.istore_n 1, 1) := by decide +kernel
theorem dX7_clearPath_5 : decode cX7_clearPath 5 = .ok (.aload_n 0, 1) := by decide +kernel
theorem dX7_clearPath_6 : decode cX7_clearPath 6 = .ok (.iconst 0, 1) := by decide +kernel
theorem dX7_clearPath_7 : decode cX7_clearPath 7 = .ok (.putfield 141, 3) := by decide +kernel
theorem dX7_clearPath_10 : decode cX7_clearPath 10 = .ok (.aload_n 0, 1) := by decide +kernel
theorem dX7_clearPath_11 : decode cX7_clearPath 11 = .ok (.iconst 0, 1) := by decide +kernel
theorem dX7_clearPath_12 : decode cX7_clearPath 12 = .ok (.putfield 138, 3) := by decide +kernel
theorem dX7_clearPath_15 : decode cX7_clearPath 15 = .ok (.iload_n 1, 1) := by decide +kernel
theorem dX7_clearPath_16 : decode cX7_clearPath 16 = .ok (.ireturn, 1) := by decide +kernel
set_option maxRecDepth 20000 in
theorem ggX7_create_X7_isData : GoodIn wsX7_create wsX7_isData := goodIn_r _ [7] (by decide +kernel) (by decide +kernel)
set_option maxRecDepth 20000 in
theorem gX7_create_X7_isData : GoodIn wsX7_create (va_wsS RX7 144 yX7_isData wsX7_isData) := goodIn_app (goodIn_of _ (by decide +kernel)) ggX7_create_X7_isData
set_option maxRecDepth 20000 in
theorem ggX7_create_X7_findSession : GoodIn wsX7_create wsX7_findSession := goodIn_r _ [11, 12, 13, 215, 216, 217, 218, 219, 220, 221, 222, 223, 224, 225, 226] (by decide +kernel) (by decide +kernel)
set_option maxRecDepth 20000 in
theorem gX7_create_X7_findSession : GoodIn wsX7_create (wsV RX7 148 RX7 yX7_findSession wsX7_findSession) := goodIn_app (goodIn_of _ (by decide +kernel)) ggX7_create_X7_findSession
set_option maxRecDepth 20000 in
theorem ggX7_create_X1_hasClosed : GoodIn wsX7_create wsX1_hasClosed := goodIn_r _ [18, 19, 20, 21, 22, 23, 24, 25, 26, 27, 28, 29, 30, 31, 32, 33, 34, 35, 36, 37, 38, 39, 40, 41, 42, 43, 44, 45, 227, 228, 229, 230, 231, 232, 233, 234, 235, 236, 237, 238, 239, 240, 241] (by decide +kernel) (by decide +kernel)
set_option maxRecDepth 20000 in
theorem gX7_create_X1_hasClosed : GoodIn wsX7_create (wsV RX7 152 RX1 yX1_hasClosed wsX1_hasClosed) := goodIn_app (goodIn_of _ (by decide +kernel)) ggX7_create_X1_hasClosed
set_option maxRecDepth 20000 in
theorem ggX7_create_X4_find : GoodIn wsX7_create wsX4_find := goodIn_r _ [50, 51, 52, 242, 243, 244, 245, 246, 247] (by decide +kernel) (by decide +kernel)
set_option maxRecDepth 20000 in
theorem gX7_create_X4_find : GoodIn wsX7_create (wsV RX7 155 RX4 yX4_find wsX4_find) := goodIn_app (goodIn_of _ (by decide +kernel)) ggX7_create_X4_find
set_option maxRecDepth 20000 in
theorem ggX7_create_X7_parentOf : GoodIn wsX7_create wsX7_parentOf := goodIn_r _ [55] (by decide +kernel) (by decide +kernel)
set_option maxRecDepth 20000 in
theorem gX7_create_X7_parentOf : GoodIn wsX7_create (va_wsS RX7 159 yX7_parentOf wsX7_parentOf) := goodIn_app (goodIn_of _ (by decide +kernel)) ggX7_create_X7_parentOf
set_option maxRecDepth 20000 in
theorem ggX7_create_X4_canHaveChildren : GoodIn wsX7_create wsX4_canHaveChildren := goodIn_r _ [59, 60, 61, 47, 48, 49, 50, 51, 52, 244, 245, 246, 247, 242, 243] (by decide +kernel) (by decide +kernel)
set_option maxRecDepth 20000 in
theorem gX7_create_X4_canHaveChildren : GoodIn wsX7_create (wsV RX7 163 RX4 yX4_canHaveChildren wsX4_canHaveChildren) := goodIn_app (goodIn_of _ (by decide +kernel)) ggX7_create_X4_canHaveChildren
set_option maxRecDepth 20000 in
theorem ggX7_create_X4_size : GoodIn wsX7_create wsX4_size := goodIn_r _ [65, 51, 52, 242, 243, 244, 245, 246, 247] (by decide +kernel) (by decide +kernel)
set_option maxRecDepth 20000 in
theorem gX7_create_X4_size : GoodIn wsX7_create (wsV RX7 166 RX4 yX4_size wsX4_size) := goodIn_app (goodIn_of _ (by decide +kernel)) ggX7_create_X4_size
set_option maxRecDepth 20000 in
theorem ggX7_create_X7_propose : GoodIn wsX7_create wsX7_propose := goodIn_r _ [69, 1, 70, 71, 72, 73, 74, 75, 3, 76, 77, 24, 25, 26, 27, 28, 78, 79, 80, 81, 82, 83, 84, 85, 86, 87, 88, 89, 90, 91, 92, 93, 94, 45, 95, 96, 97, 98, 99, 100, 101, 102, 103, 104, 105, 106, 107, 108, 109, 110, 111, 112, 113, 114, 115, 116, 117, 118, 119, 120, 121, 122, 123, 124, 125, 126, 127, 128, 129, 130, 131, 132, 133, 134, 135, 136, 137, 138, 139, 140, 141, 142, 143, 144, 49, 145, 146, 147, 148, 149, 150, 151, 52, 152, 153, 154, 155, 60, 156, 157, 61, 47, 48, 50, 51, 158, 159, 160, 161, 162, 163, 164, 165, 166, 167, 30, 31, 32, 33, 34, 35, 36, 37, 38, 39, 40, 41, 42, 43, 44, 168, 169, 170, 171, 172, 173, 174, 175, 176, 177, 178, 179, 180, 181, 182, 183, 184, 185, 186, 187, 188, 189, 190, 191, 192, 193, 194, 195, 196, 197, 198, 199, 200, 201, 202, 203, 204, 205, 206, 207, 208, 209, 210, 211, 212, 213, 6, 214, 215, 216, 217, 218, 219, 220, 221, 222, 223, 224, 225, 226, 227, 228, 229, 230, 231, 232, 233, 234, 235, 236, 237, 238, 239, 240, 241, 244, 245, 246, 247, 242, 243, 248, 249, 250, 251, 252, 253, 254] (by decide +kernel) (by decide +kernel)
set_option maxRecDepth 20000 in
theorem gX7_create_X7_propose : GoodIn wsX7_create (wsV RX7 167 RX7 yX7_propose wsX7_propose) := goodIn_app (goodIn_of _ (by decide +kernel)) ggX7_create_X7_propose
theorem dX7_create_0 : decode cX7_create 0 = .ok (.iload_n 1, 1) := by decide +kernel
theorem dX7_create_1 : decode cX7_create 1 = .ok (.invokestatic 144, 3) := by decide +kernel
theorem dX7_create_4 : decode cX7_create 4 = .ok (.ifCond .eq 17, 3) := by decide +kernel
theorem dX7_create_7 : decode cX7_create 7 = .ok (.iload_n 2, 1) := by decide +kernel
theorem dX7_create_8 : decode cX7_create 8 = .ok (.bipush (-8), 2) := by decide +kernel
theorem dX7_create_10 : decode cX7_create 10 = .ok (.if_icmp .eq 13, 3) := by decide +kernel
theorem dX7_create_13 : decode cX7_create 13 = .ok (.aload_n 0, 1) := by decide +kernel
theorem dX7_create_14 : decode cX7_create 14 = .ok (.iload_n 2, 1) := by decide +kernel
theorem dX7_create_15 : decode cX7_create 15 = .ok (.invokevirtual 148, 3) := by decide +kernel
theorem dX7_create_18 : decode cX7_create 18 = .ok (.ifnonnull 5, 3) := by decide +kernel
theorem dX7_create_21 : decode cX7_create 21 = .ok (.iconst (-1), 1) := by decide +kernel
theorem dX7_create_22 : decode cX7_create 22 = .ok (.ireturn, 1) := by decide +kernel
theorem dX7_create_23 : decode cX7_create 23 = .ok (.aload_n 0, 1) := by decide +kernel
theorem dX7_create_24 : decode cX7_create 24 = .ok (.getfield 60, 3) := by decide +kernel
theorem dX7_create_27 : decode cX7_create 27 = .ok (.ifnull 14, 3) := by decide +kernel
theorem dX7_create_30 : decode cX7_create 30 = .ok (.aload_n 0, 1) := by decide +kernel
theorem dX7_create_31 : decode cX7_create 31 = .ok (.getfield 60, 3) := by decide +kernel
theorem dX7_create_34 : decode cX7_create 34 = .ok (.iload_n 2, 1) := by decide +kernel
theorem dX7_create_35 : decode cX7_create 35 = .ok (.invokevirtual 152, 3) := by decide +kernel
theorem dX7_create_38 : decode cX7_create 38 = .ok (.ifCond .eq 6, 3) := by decide +kernel
theorem dX7_create_41 : decode cX7_create 41 = .ok (.bipush (-2), 2) := by decide +kernel
theorem dX7_create_43 : decode cX7_create 43 = .ok (.ireturn, 1) := by decide +kernel
theorem dX7_create_44 : decode cX7_create 44 = .ok (.aload_n 0, 1) := by decide +kernel
theorem dX7_create_45 : decode cX7_create 45 = .ok (.getfield 141, 3) := by decide +kernel
theorem dX7_create_48 : decode cX7_create 48 = .ok (.ifCond .eq 17, 3) := by decide +kernel
theorem dX7_create_51 : decode cX7_create 51 = .ok (.aload_n 0, 1) := by decide +kernel
theorem dX7_create_52 : decode cX7_create 52 = .ok (.getfield 33, 3) := by decide +kernel
theorem dX7_create_55 : decode cX7_create 55 = .ok (.aload_n 0, 1) := by decide +kernel
theorem dX7_create_56 : decode cX7_create 56 = .ok (.getfield 141, 3) := by decide +kernel
theorem dX7_create_59 : decode cX7_create 59 = .ok (.invokevirtual 155, 3) := by decide +kernel
theorem dX7_create_62 : decode cX7_create 62 = .ok (.ifnull 6, 3) := by decide +kernel
theorem dX7_create_65 : decode cX7_create 65 = .ok (.bipush (-4), 2) := by decide +kernel
theorem dX7_create_67 : decode cX7_create 67 = .ok (.ireturn, 1) := by decide +kernel
theorem dX7_create_68 : decode cX7_create 68 = .ok (.aload_n 0, 1) := by decide +kernel
theorem dX7_create_69 : decode cX7_create 69 = .ok (.getfield 33, 3) := by decide +kernel
theorem dX7_create_72 : decode cX7_create 72 = .ok (.aload_n 0, 1) := by decide +kernel
theorem dX7_create_73 : decode cX7_create 73 = .ok (.getfield 141, 3) := by decide +kernel
theorem dX7_create_76 : decode cX7_create 76 = .ok (.invokestatic 159, 3) := by decide +kernel
theorem dX7_create_79 : decode cX7_create 79 = .ok (.invokevirtual 163, 3) := by decide +kernel
theorem dX7_create_82 : decode cX7_create 82 = .ok (.ifCond .ne 6, 3) := by decide +kernel
theorem dX7_create_85 : decode cX7_create 85 = .ok (.bipush (-3), 2) := by decide +kernel
theorem dX7_create_87 : decode cX7_create 87 = .ok (.ireturn, 1) := by decide +kernel
theorem dX7_create_88 : decode cX7_create 88 = .ok (.aload_n 0, 1) := by decide +kernel
theorem dX7_create_89 : decode cX7_create 89 = .ok (.getfield 33, 3) := by decide +kernel
theorem dX7_create_92 : decode cX7_create 92 = .ok (.invokevirtual 166, 3) := by decide +kernel
theorem dX7_create_95 : decode cX7_create 95 = .ok (.bipush 12, 2) := by decide +kernel
theorem dX7_create_97 : decode cX7_create 97 = .ok (.if_icmp .lt 6, 3) := by decide +kernel
theorem dX7_create_100 : decode cX7_create 100 = .ok (.bipush (-7), 2) := by decide +kernel
theorem dX7_create_102 : decode cX7_create 102 = .ok (.ireturn, 1) := by decide +kernel
theorem dX7_create_103 : decode cX7_create 103 = .ok (.aload_n 0, 1) := by decide +kernel
theorem dX7_create_104 : decode cX7_create 104 = .ok (.iconst 0, 1) := by decide +kernel
theorem dX7_create_105 : decode cX7_create 105 = .ok (.aload_n 0, 1) := by decide +kernel
theorem dX7_create_106 : decode cX7_create 106 = .ok (.getfield 141, 3) := by decide +kernel
theorem dX7_create_109 : decode cX7_create 109 = .ok (.iload_n 1, 1) := by decide +kernel
theorem dX7_create_110 : decode cX7_create 110 = .ok (.iload_n 2, 1) := by decide +kernel
theorem dX7_create_111 : decode cX7_create 111 = .ok (.invokevirtual 167, 3) := by decide +kernel
theorem dX7_create_114 : decode cX7_create 114 = .ok (.ireturn, 1) := by decide +kernel
set_option maxRecDepth 20000 in
theorem ggX7_setData_X7_isData : GoodIn wsX7_setData wsX7_isData := goodIn_r _ [7] (by decide +kernel) (by decide +kernel)
set_option maxRecDepth 20000 in
theorem gX7_setData_X7_isData : GoodIn wsX7_setData (va_wsS RX7 144 yX7_isData wsX7_isData) := goodIn_app (goodIn_of _ (by decide +kernel)) ggX7_setData_X7_isData
set_option maxRecDepth 20000 in
theorem ggX7_setData_X7_isVersion : GoodIn wsX7_setData wsX7_isVersion := goodIn_r _ [10] (by decide +kernel) (by decide +kernel)
set_option maxRecDepth 20000 in
theorem gX7_setData_X7_isVersion : GoodIn wsX7_setData (va_wsS RX7 171 yX7_isVersion wsX7_isVersion) := goodIn_app (goodIn_of _ (by decide +kernel)) ggX7_setData_X7_isVersion
set_option maxRecDepth 20000 in
theorem ggX7_setData_X4_find : GoodIn wsX7_setData wsX4_find := goodIn_r _ [15, 16, 17, 207, 208, 209, 210, 211, 212] (by decide +kernel) (by decide +kernel)
set_option maxRecDepth 20000 in
theorem gX7_setData_X4_find : GoodIn wsX7_setData (wsV RX7 155 RX4 yX4_find wsX4_find) := goodIn_app (goodIn_of _ (by decide +kernel)) ggX7_setData_X4_find
set_option maxRecDepth 20000 in
theorem ggX7_setData_X0_hasVersion : GoodIn wsX7_setData wsX0_hasVersion := goodIn_r _ [22, 23, 209, 210, 211, 212] (by decide +kernel) (by decide +kernel)
set_option maxRecDepth 20000 in
theorem gX7_setData_X0_hasVersion : GoodIn wsX7_setData (wsV RX7 174 RX0 yX0_hasVersion wsX0_hasVersion) := goodIn_app (goodIn_of _ (by decide +kernel)) ggX7_setData_X0_hasVersion
set_option maxRecDepth 20000 in
theorem ggX7_setData_X7_propose : GoodIn wsX7_setData wsX7_propose := goodIn_r _ [27, 1, 28, 29, 30, 31, 32, 33, 3, 34, 35, 36, 37, 38, 39, 40, 41, 42, 43, 44, 45, 46, 47, 48, 49, 50, 51, 52, 53, 54, 55, 56, 57, 58, 59, 60, 61, 62, 63, 64, 65, 66, 67, 68, 69, 70, 71, 72, 73, 74, 75, 76, 77, 78, 79, 80, 81, 82, 83, 84, 85, 86, 87, 88, 89, 90, 91, 92, 93, 94, 95, 96, 97, 98, 99, 100, 101, 102, 103, 104, 105, 106, 107, 108, 14, 109, 110, 111, 112, 113, 114, 115, 17, 116, 117, 118, 119, 120, 121, 122, 123, 12, 13, 15, 16, 124, 125, 126, 127, 128, 129, 130, 131, 132, 133, 134, 135, 136, 137, 138, 139, 140, 141, 142, 143, 144, 145, 146, 147, 148, 149, 150, 151, 152, 153, 154, 155, 156, 157, 158, 159, 160, 161, 162, 163, 164, 165, 166, 167, 168, 169, 170, 171, 172, 173, 174, 175, 176, 177, 178, 179, 180, 181, 182, 21, 183, 184, 185, 186, 187, 188, 189, 190, 191, 192, 193, 6, 194, 195, 196, 197, 198, 199, 200, 201, 202, 203, 204, 205, 206, 213, 214, 215, 216, 217, 218, 219, 220, 221, 222, 223, 224, 225, 226, 227, 209, 210, 211, 212, 207, 208, 228, 229, 230, 231, 232, 233, 234] (by decide +kernel) (by decide +kernel)
set_option maxRecDepth 20000 in
theorem gX7_setData_X7_propose : GoodIn wsX7_setData (wsV RX7 167 RX7 yX7_propose wsX7_propose) := goodIn_app (goodIn_of _ (by decide +kernel)) ggX7_setData_X7_propose
