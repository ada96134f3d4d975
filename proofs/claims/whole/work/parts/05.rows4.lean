theorem dX8_setData_0 : decode cX8_setData 0 = .ok (.iload_n 1, 1) := by decide +kernel
theorem dX8_setData_1 : decode cX8_setData 1 = .ok (.i2l, 1) := by decide +kernel
theorem dX8_setData_2 : decode cX8_setData 2 = .ok (.lconst 0, 1) := by decide +kernel
theorem dX8_setData_3 : decode cX8_setData 3 = .ok (.ldc2_w 174, 3) := by decide +kernel
theorem dX8_setData_6 : decode cX8_setData 6 = .ok (.invokestatic 103, 3) := by decide +kernel
theorem dX8_setData_9 : decode cX8_setData 9 = .ok (.ifCond .eq 10, 3) := by decide +kernel
theorem dX8_setData_12 : decode cX8_setData 12 = .ok (.iload_n 2, 1) := by decide +kernel
theorem dX8_setData_13 : decode cX8_setData 13 = .ok (.invokestatic 192, 3) := by decide +kernel
theorem dX8_setData_16 : decode cX8_setData 16 = .ok (.ifCond .ne 5, 3) := by decide +kernel
theorem dX8_setData_19 : decode cX8_setData 19 = .ok (.iconst (-1), 1) := by decide +kernel
theorem dX8_setData_20 : decode cX8_setData 20 = .ok (.ireturn, 1) := by decide +kernel
theorem dX8_setData_21 : decode cX8_setData 21 = .ok (.aload_n 0, 1) := by decide +kernel
theorem dX8_setData_22 : decode cX8_setData 22 = .ok (.iload_n 2, 1) := by decide +kernel
theorem dX8_setData_23 : decode cX8_setData 23 = .ok (.invokevirtual 195, 3) := by decide +kernel
theorem dX8_setData_26 : decode cX8_setData 26 = .ok (.istore_n 3, 1) := by decide +kernel
theorem dX8_setData_27 : decode cX8_setData 27 = .ok (.iload_n 3, 1) := by decide +kernel
theorem dX8_setData_28 : decode cX8_setData 28 = .ok (.ifCond .eq 7, 3) := by decide +kernel
theorem dX8_setData_31 : decode cX8_setData 31 = .ok (.iload_n 3, 1) := by decide +kernel
theorem dX8_setData_32 : decode cX8_setData 32 = .ok (.goto 15, 3) := by decide +kernel
theorem dX8_setData_35 : decode cX8_setData 35 = .ok (.aload_n 0, 1) := by decide +kernel
theorem dX8_setData_36 : decode cX8_setData 36 = .ok (.iconst 1, 1) := by decide +kernel
theorem dX8_setData_37 : decode cX8_setData 37 = .ok (.aload_n 0, 1) := by decide +kernel
theorem dX8_setData_38 : decode cX8_setData 38 = .ok (.invokevirtual 185, 3) := by decide +kernel
theorem dX8_setData_41 : decode cX8_setData 41 = .ok (.iload_n 1, 1) := by decide +kernel
theorem dX8_setData_42 : decode cX8_setData 42 = .ok (.bipush (-8), 2) := by decide +kernel
theorem dX8_setData_44 : decode cX8_setData 44 = .ok (.invokevirtual 188, 3) := by decide +kernel
theorem dX8_setData_47 : decode cX8_setData 47 = .ok (.ireturn, 1) := by decide +kernel
set_option maxRecDepth 20000 in
theorem ggX8_delete_X8_isVersion : GoodIn wsX8_delete wsX8_isVersion := goodIn_r _ [4] (by decide +kernel) (by decide +kernel)
set_option maxRecDepth 20000 in
theorem gX8_delete_X8_isVersion : GoodIn wsX8_delete (va_wsS RX8 192 yX8_isVersion wsX8_isVersion) := goodIn_app (goodIn_of _ (by decide +kernel)) ggX8_delete_X8_isVersion
set_option maxRecDepth 20000 in
theorem ggX8_delete_X8_against : GoodIn wsX8_delete wsX8_against := goodIn_r _ [8, 9, 10, 11, 12, 13, 14, 3, 15, 16, 17, 18, 19, 20, 21, 22, 23, 24, 25, 26, 27, 28, 29, 30, 31, 32, 33, 34, 35, 36, 37, 38, 39, 40, 41, 42, 43, 44, 45, 46, 47, 48, 49, 50, 51, 52, 53, 54, 55, 56, 73, 74, 75, 76, 77, 78, 79, 80, 81, 82, 83, 84, 85, 86, 87, 88, 89, 90, 91, 92, 93, 94, 95, 96, 97, 98, 99, 100, 101] (by decide +kernel) (by decide +kernel)
set_option maxRecDepth 20000 in
theorem gX8_delete_X8_against : GoodIn wsX8_delete (wsV RX8 195 RX8 yX8_against wsX8_against) := goodIn_app (goodIn_of _ (by decide +kernel)) ggX8_delete_X8_against
set_option maxRecDepth 20000 in
theorem ggX8_delete_X8_path : GoodIn wsX8_delete wsX8_path := goodIn_r _ [55, 10, 56, 73, 74, 75, 76, 77, 78, 79, 80, 81, 82, 83, 84, 85, 86, 87, 88, 89, 90, 91, 92, 93, 94, 95, 96, 97, 98, 99, 100, 101] (by decide +kernel) (by decide +kernel)
set_option maxRecDepth 20000 in
theorem gX8_delete_X8_path : GoodIn wsX8_delete (wsV RX8 185 RX8 yX8_path wsX8_path) := goodIn_app (goodIn_of _ (by decide +kernel)) ggX8_delete_X8_path
set_option maxRecDepth 20000 in
theorem ggX8_delete_X8_children : GoodIn wsX8_delete wsX8_children := goodIn_r _ [60, 16, 24, 61, 62, 3, 63, 64, 65, 66, 73, 74, 75, 76, 77, 78, 79, 80, 81, 82, 83, 84, 85, 86, 87, 88, 89, 90, 91, 92, 93, 94, 95, 96, 97, 98, 99, 100, 101] (by decide +kernel) (by decide +kernel)
set_option maxRecDepth 20000 in
theorem gX8_delete_X8_children : GoodIn wsX8_delete (wsV RX8 198 RX8 yX8_children wsX8_children) := goodIn_app (goodIn_of _ (by decide +kernel)) ggX8_delete_X8_children
set_option maxRecDepth 20000 in
theorem ggX8_delete_X8_proposes : GoodIn wsX8_delete wsX8_proposes := goodIn_r _ [70, 17, 9, 71, 29, 72, 23, 22, 26, 28, 73, 74, 75, 76, 77, 78, 79, 80, 81, 82, 83, 84, 85, 86, 87, 88, 89, 90, 91, 92, 93, 94, 95, 96, 97, 98, 99, 100, 101] (by decide +kernel) (by decide +kernel)
set_option maxRecDepth 20000 in
theorem gX8_delete_X8_proposes : GoodIn wsX8_delete (wsV RX8 188 RX8 yX8_proposes wsX8_proposes) := goodIn_app (goodIn_of _ (by decide +kernel)) ggX8_delete_X8_proposes
theorem dX8_delete_0 : decode cX8_delete 0 = .ok (.iload_n 1, 1) := by decide +kernel
theorem dX8_delete_1 : decode cX8_delete 1 = .ok (.invokestatic 192, 3) := by decide +kernel
theorem dX8_delete_4 : decode cX8_delete 4 = .ok (.ifCond .ne 5, 3) := by decide +kernel
theorem dX8_delete_7 : decode cX8_delete 7 = .ok (.iconst (-1), 1) := by decide +kernel
theorem dX8_delete_8 : decode cX8_delete 8 = .ok (.ireturn, 1) := by decide +kernel
theorem dX8_delete_9 : decode cX8_delete 9 = .ok (.aload_n 0, 1) := by decide +kernel
theorem dX8_delete_10 : decode cX8_delete 10 = .ok (.iload_n 1, 1) := by decide +kernel
theorem dX8_delete_11 : decode cX8_delete 11 = .ok (.invokevirtual 195, 3) := by decide +kernel
theorem dX8_delete_14 : decode cX8_delete 14 = .ok (.istore_n 2, 1) := by decide +kernel
theorem dX8_delete_15 : decode cX8_delete 15 = .ok (.iload_n 2, 1) := by decide +kernel
theorem dX8_delete_16 : decode cX8_delete 16 = .ok (.ifCond .eq 5, 3) := by decide +kernel
theorem dX8_delete_19 : decode cX8_delete 19 = .ok (.iload_n 2, 1) := by decide +kernel
theorem dX8_delete_20 : decode cX8_delete 20 = .ok (.ireturn, 1) := by decide +kernel
theorem dX8_delete_21 : decode cX8_delete 21 = .ok (.aload_n 0, 1) := by decide +kernel
theorem dX8_delete_22 : decode cX8_delete 22 = .ok (.iconst 5, 1) := by decide +kernel
theorem dX8_delete_23 : decode cX8_delete 23 = .ok (.aload_n 0, 1) := by decide +kernel
theorem dX8_delete_24 : decode cX8_delete 24 = .ok (.invokevirtual 185, 3) := by decide +kernel
theorem dX8_delete_27 : decode cX8_delete 27 = .ok (.invokevirtual 198, 3) := by decide +kernel
theorem dX8_delete_30 : decode cX8_delete 30 = .ok (.ifCond .le 8, 3) := by decide +kernel
theorem dX8_delete_33 : decode cX8_delete 33 = .ok (.bipush (-6), 2) := by decide +kernel
theorem dX8_delete_35 : decode cX8_delete 35 = .ok (.goto 15, 3) := by decide +kernel
theorem dX8_delete_38 : decode cX8_delete 38 = .ok (.aload_n 0, 1) := by decide +kernel
theorem dX8_delete_39 : decode cX8_delete 39 = .ok (.iconst 2, 1) := by decide +kernel
theorem dX8_delete_40 : decode cX8_delete 40 = .ok (.aload_n 0, 1) := by decide +kernel
theorem dX8_delete_41 : decode cX8_delete 41 = .ok (.invokevirtual 185, 3) := by decide +kernel
theorem dX8_delete_44 : decode cX8_delete 44 = .ok (.iconst 0, 1) := by decide +kernel
theorem dX8_delete_45 : decode cX8_delete 45 = .ok (.bipush (-8), 2) := by decide +kernel
theorem dX8_delete_47 : decode cX8_delete 47 = .ok (.invokevirtual 188, 3) := by decide +kernel
theorem dX8_delete_50 : decode cX8_delete 50 = .ok (.ireturn, 1) := by decide +kernel
theorem dX8_openSession_0 : decode cX8_openSession 0 = .ok (.aload_n 0, 1) := by decide +kernel
theorem dX8_openSession_1 : decode cX8_openSession 1 = .ok (.getfield 97, 3) := by decide +kernel
theorem dX8_openSession_4 : decode cX8_openSession 4 = .ok (.bipush 6, 2) := by decide +kernel
theorem dX8_openSession_6 : decode cX8_openSession 6 = .ok (.if_icmp .ne 6, 3) := by decide +kernel
theorem dX8_openSession_9 : decode cX8_openSession 9 = .ok (.bipush (-7), 2) := by decide +kernel
theorem dX8_openSession_11 : decode cX8_openSession 11 = .ok (.ireturn, 1) := by decide +kernel
theorem dX8_openSession_12 : decode cX8_openSession 12 = .ok (.aload_n 0, 1) := by decide +kernel
theorem dX8_openSession_13 : decode cX8_openSession 13 = .ok (.dup, 1) := by decide +kernel
theorem dX8_openSession_14 : decode cX8_openSession 14 = .ok (.getfield 97, 3) := by decide +kernel
theorem dX8_openSession_17 : decode cX8_openSession 17 = .ok (.iconst 1, 1) := by decide +kernel
theorem dX8_openSession_18 : decode cX8_openSession 18 = .ok (.iadd, 1) := by decide +kernel
theorem dX8_openSession_19 : decode cX8_openSession 19 = .ok (.putfield 97, 3) := by decide +kernel
theorem dX8_openSession_22 : decode cX8_openSession 22 = .ok (.aload_n 0, 1) := by decide +kernel
theorem dX8_openSession_23 : decode cX8_openSession 23 = .ok (.getfield 97, 3) := by decide +kernel
theorem dX8_openSession_26 : decode cX8_openSession 26 = .ok (.iconst 1, 1) := by decide +kernel
theorem dX8_openSession_27 : decode cX8_openSession 27 = .ok (.isub, 1) := by decide +kernel
theorem dX8_openSession_28 : decode cX8_openSession 28 = .ok (.ireturn, 1) := by decide +kernel
set_option maxRecDepth 20000 in
theorem ggX8_closeSession_X8_isSession : GoodIn wsX8_closeSession wsX8_isSession := goodIn_r _ [6, 7, 8, 9, 5, 10, 27, 28, 29, 30, 31, 32, 33, 34, 35, 36, 37, 38, 39, 40, 41, 42, 43, 44, 45, 46, 47, 48, 49, 50, 51, 52, 53, 54, 55] (by decide +kernel) (by decide +kernel)
set_option maxRecDepth 20000 in
theorem gX8_closeSession_X8_isSession : GoodIn wsX8_closeSession (wsV RX8 176 RX8 yX8_isSession wsX8_isSession) := goodIn_app (goodIn_of _ (by decide +kernel)) ggX8_closeSession_X8_isSession
set_option maxRecDepth 20000 in
theorem ggX8_closeSession_X8_isClosed : GoodIn wsX8_closeSession wsX8_isClosed := goodIn_r _ [14, 15, 1, 16, 17, 27, 28, 29, 30, 31, 32, 33, 34, 35, 36, 37, 38, 39, 40, 41, 42, 43, 44, 45, 46, 47, 48, 49, 50, 51, 52, 53, 54, 55] (by decide +kernel) (by decide +kernel)
set_option maxRecDepth 20000 in
theorem gX8_closeSession_X8_isClosed : GoodIn wsX8_closeSession (wsV RX8 179 RX8 yX8_isClosed wsX8_isClosed) := goodIn_app (goodIn_of _ (by decide +kernel)) ggX8_closeSession_X8_isClosed
set_option maxRecDepth 20000 in
theorem ggX8_closeSession_X8_proposes : GoodIn wsX8_closeSession wsX8_proposes := goodIn_r _ [21, 15, 1, 22, 23, 24, 16, 25, 26, 17, 27, 28, 29, 30, 31, 32, 33, 34, 35, 36, 37, 38, 39, 40, 41, 42, 43, 44, 45, 46, 47, 48, 49, 50, 51, 52, 53, 54, 55] (by decide +kernel) (by decide +kernel)
set_option maxRecDepth 20000 in
theorem gX8_closeSession_X8_proposes : GoodIn wsX8_closeSession (wsV RX8 188 RX8 yX8_proposes wsX8_proposes) := goodIn_app (goodIn_of _ (by decide +kernel)) ggX8_closeSession_X8_proposes
theorem dX8_closeSession_0 : decode cX8_closeSession 0 = .ok (.aload_n 0, 1) := by decide +kernel
theorem dX8_closeSession_1 : decode cX8_closeSession 1 = .ok (.iload_n 1, 1) := by decide +kernel
theorem dX8_closeSession_2 : decode cX8_closeSession 2 = .ok (.invokevirtual 176, 3) := by decide +kernel
theorem dX8_closeSession_5 : decode cX8_closeSession 5 = .ok (.ifCond .ne 5, 3) := by decide +kernel
theorem dX8_closeSession_8 : decode cX8_closeSession 8 = .ok (.iconst (-1), 1) := by decide +kernel
theorem dX8_closeSession_9 : decode cX8_closeSession 9 = .ok (.ireturn, 1) := by decide +kernel
theorem dX8_closeSession_10 : decode cX8_closeSession 10 = .ok (.aload_n 0, 1) := by decide +kernel
theorem dX8_closeSession_11 : decode cX8_closeSession 11 = .ok (.getfield 82, 3) := by decide +kernel
theorem dX8_closeSession_14 : decode cX8_closeSession 14 = .ok (.bipush (-8), 2) := by decide +kernel
theorem dX8_closeSession_16 : decode cX8_closeSession 16 = .ok (.if_icmp .eq 11, 3) := by decide +kernel
theorem dX8_closeSession_19 : decode cX8_closeSession 19 = .ok (.aload_n 0, 1) := by decide +kernel
theorem dX8_closeSession_20 : decode cX8_closeSession 20 = .ok (.iload_n 1, 1) := by decide +kernel
theorem dX8_closeSession_21 : decode cX8_closeSession 21 = .ok (.invokevirtual 179, 3) := by decide +kernel
theorem dX8_closeSession_24 : decode cX8_closeSession 24 = .ok (.ifCond .eq 6, 3) := by decide +kernel
theorem dX8_closeSession_27 : decode cX8_closeSession 27 = .ok (.bipush (-2), 2) := by decide +kernel
theorem dX8_closeSession_29 : decode cX8_closeSession 29 = .ok (.ireturn, 1) := by decide +kernel
theorem dX8_closeSession_30 : decode cX8_closeSession 30 = .ok (.aload_n 0, 1) := by decide +kernel
theorem dX8_closeSession_31 : decode cX8_closeSession 31 = .ok (.iconst 3, 1) := by decide +kernel
theorem dX8_closeSession_32 : decode cX8_closeSession 32 = .ok (.iconst 0, 1) := by decide +kernel
theorem dX8_closeSession_33 : decode cX8_closeSession 33 = .ok (.iconst 0, 1) := by decide +kernel
theorem dX8_closeSession_34 : decode cX8_closeSession 34 = .ok (.iload_n 1, 1) := by decide +kernel
theorem dX8_closeSession_35 : decode cX8_closeSession 35 = .ok (.invokevirtual 188, 3) := by decide +kernel
theorem dX8_closeSession_38 : decode cX8_closeSession 38 = .ok (.ireturn, 1) := by decide +kernel
set_option maxRecDepth 20000 in
theorem ggX8_watch_X8_isServer : GoodIn wsX8_watch wsX8_isServer := goodIn_r _ [11, 12, 13, 14, 10, 15, 26, 27, 28, 29, 30, 31, 32, 33, 34, 35, 36, 37, 38, 39, 40, 41, 42, 43, 44, 45, 46, 47, 48, 49, 50, 51, 52, 53, 54] (by decide +kernel) (by decide +kernel)
set_option maxRecDepth 20000 in
theorem gX8_watch_X8_isServer : GoodIn wsX8_watch (wsV RX8 149 RX8 yX8_isServer wsX8_isServer) := goodIn_app (goodIn_of _ (by decide +kernel)) ggX8_watch_X8_isServer
set_option maxRecDepth 20000 in
theorem ggX8_watch_X8_isSession : GoodIn wsX8_watch wsX8_isSession := goodIn_r _ [19, 20, 13, 14, 10, 15, 26, 27, 28, 29, 30, 31, 32, 33, 34, 35, 36, 37, 38, 39, 40, 41, 42, 43, 44, 45, 46, 47, 48, 49, 50, 51, 52, 53, 54] (by decide +kernel) (by decide +kernel)
set_option maxRecDepth 20000 in
theorem gX8_watch_X8_isSession : GoodIn wsX8_watch (wsV RX8 176 RX8 yX8_isSession wsX8_isSession) := goodIn_app (goodIn_of _ (by decide +kernel)) ggX8_watch_X8_isSession
set_option maxRecDepth 20000 in
theorem ggX8_watch_X8_path : GoodIn wsX8_watch wsX8_path := goodIn_r _ [24, 2, 25, 26, 27, 28, 29, 30, 31, 32, 33, 34, 35, 36, 37, 38, 39, 40, 41, 42, 43, 44, 45, 46, 47, 48, 49, 50, 51, 52, 53, 54] (by decide +kernel) (by decide +kernel)
set_option maxRecDepth 20000 in
theorem gX8_watch_X8_path : GoodIn wsX8_watch (wsV RX8 185 RX8 yX8_path wsX8_path) := goodIn_app (goodIn_of _ (by decide +kernel)) ggX8_watch_X8_path
theorem dX8_watch_0 : decode cX8_watch 0 = .ok (.aload_n 0, 1) := by decide +kernel
theorem dX8_watch_1 : decode cX8_watch 1 = .ok (.iload_n 1, 1) := by decide +kernel
theorem dX8_watch_2 : decode cX8_watch 2 = .ok (.invokevirtual 149, 3) := by decide +kernel
theorem dX8_watch_5 : decode cX8_watch 5 = .ok (.ifCond .eq 11, 3) := by decide +kernel
theorem dX8_watch_8 : decode cX8_watch 8 = .ok (.aload_n 0, 1) := by decide +kernel
theorem dX8_watch_9 : decode cX8_watch 9 = .ok (.iload_n 2, 1) := by decide +kernel
theorem dX8_watch_10 : decode cX8_watch 10 = .ok (.invokevirtual 176, 3) := by decide +kernel
theorem dX8_watch_13 : decode cX8_watch 13 = .ok (.ifCond .ne 5, 3) := by decide +kernel
theorem dX8_watch_16 : decode cX8_watch 16 = .ok (.iconst (-1), 1) := by decide +kernel
theorem dX8_watch_17 : decode cX8_watch 17 = .ok (.ireturn, 1) := by decide +kernel
theorem dX8_watch_18 : decode cX8_watch 18 = .ok (.aload_n 0, 1) := by decide +kernel
theorem dX8_watch_19 : decode cX8_watch 19 = .ok (.getfield 13, 3) := by decide +kernel
theorem dX8_watch_22 : decode cX8_watch 22 = .ok (.iload_n 1, 1) := by decide +kernel
theorem dX8_watch_23 : decode cX8_watch 23 = .ok (.baload, 1) := by decide +kernel
theorem dX8_watch_24 : decode cX8_watch 24 = .ok (.ifCond .eq 10, 3) := by decide +kernel
theorem dX8_watch_27 : decode cX8_watch 27 = .ok (.aload_n 0, 1) := by decide +kernel
theorem dX8_watch_28 : decode cX8_watch 28 = .ok (.getfield 94, 3) := by decide +kernel
theorem dX8_watch_31 : decode cX8_watch 31 = .ok (.ifCond .ne 6, 3) := by decide +kernel
theorem dX8_watch_34 : decode cX8_watch 34 = .ok (.bipush (-2), 2) := by decide +kernel
theorem dX8_watch_36 : decode cX8_watch 36 = .ok (.ireturn, 1) := by decide +kernel
theorem dX8_watch_37 : decode cX8_watch 37 = .ok (.aload_n 0, 1) := by decide +kernel
theorem dX8_watch_38 : decode cX8_watch 38 = .ok (.getfield 100, 3) := by decide +kernel
theorem dX8_watch_41 : decode cX8_watch 41 = .ok (.bipush 10, 2) := by decide +kernel
theorem dX8_watch_43 : decode cX8_watch 43 = .ok (.if_icmp .ne 6, 3) := by decide +kernel
theorem dX8_watch_46 : decode cX8_watch 46 = .ok (.bipush (-7), 2) := by decide +kernel
theorem dX8_watch_48 : decode cX8_watch 48 = .ok (.ireturn, 1) := by decide +kernel
theorem dX8_watch_49 : decode cX8_watch 49 = .ok (.aload_n 0, 1) := by decide +kernel
theorem dX8_watch_50 : decode cX8_watch 50 = .ok (.getfield 69, 3) := by decide +kernel
theorem dX8_watch_53 : decode cX8_watch 53 = .ok (.aload_n 0, 1) := by decide +kernel
theorem dX8_watch_54 : decode cX8_watch 54 = .ok (.getfield 100, 3) := by decide +kernel
theorem dX8_watch_57 : decode cX8_watch 57 = .ok (.iload_n 1, 1) := by decide +kernel
theorem dX8_watch_58 : decode cX8_watch 58 = .ok (.iastore, 1) := by decide +kernel
theorem dX8_watch_59 : decode cX8_watch 59 = .ok (.aload_n 0, 1) := by decide +kernel
theorem dX8_watch_60 : decode cX8_watch 60 = .ok (.getfield 72, 3) := by decide +kernel
theorem dX8_watch_63 : decode cX8_watch 63 = .ok (.aload_n 0, 1) := by decide +kernel
theorem dX8_watch_64 : decode cX8_watch 64 = .ok (.getfield 100, 3) := by decide +kernel
theorem dX8_watch_67 : decode cX8_watch 67 = .ok (.iload_n 2, 1) := by decide +kernel
theorem dX8_watch_68 : decode cX8_watch 68 = .ok (.iastore, 1) := by decide +kernel
theorem dX8_watch_69 : decode cX8_watch 69 = .ok (.aload_n 0, 1) := by decide +kernel
theorem dX8_watch_70 : decode cX8_watch 70 = .ok (.getfield 75, 3) := by decide +kernel
theorem dX8_watch_73 : decode cX8_watch 73 = .ok (.aload_n 0, 1) := by decide +kernel
theorem dX8_watch_74 : decode cX8_watch 74 = .ok (.getfield 100, 3) := by decide +kernel
theorem dX8_watch_77 : decode cX8_watch 77 = .ok (.aload_n 0, 1) := by decide +kernel
theorem dX8_watch_78 : decode cX8_watch 78 = .ok (.invokevirtual 185, 3) := by decide +kernel
theorem dX8_watch_81 : decode cX8_watch 81 = .ok (.iastore, 1) := by decide +kernel
theorem dX8_watch_82 : decode cX8_watch 82 = .ok (.aload_n 0, 1) := by decide +kernel
theorem dX8_watch_83 : decode cX8_watch 83 = .ok (.dup, 1) := by decide +kernel
theorem dX8_watch_84 : decode cX8_watch 84 = .ok (.getfield 100, 3) := by decide +kernel
theorem dX8_watch_87 : decode cX8_watch 87 = .ok (.iconst 1, 1) := by decide +kernel
theorem dX8_watch_88 : decode cX8_watch 88 = .ok (.iadd, 1) := by decide +kernel
theorem dX8_watch_89 : decode cX8_watch 89 = .ok (.putfield 100, 3) := by decide +kernel
theorem dX8_watch_92 : decode cX8_watch 92 = .ok (.aload_n 0, 1) := by decide +kernel
theorem dX8_watch_93 : decode cX8_watch 93 = .ok (.getfield 100, 3) := by decide +kernel
theorem dX8_watch_96 : decode cX8_watch 96 = .ok (.ireturn, 1) := by decide +kernel
set_option maxRecDepth 20000 in
theorem ggX8_eventCount_X8_isSession : GoodIn wsX8_eventCount wsX8_isSession := goodIn_r _ [6, 7, 8, 9, 5, 10, 11, 12, 13, 14, 15, 16, 17, 18, 19, 20, 21, 22, 23, 24, 25, 26, 27, 28, 29, 30, 31, 32, 33, 34, 35, 36, 37, 38, 39] (by decide +kernel) (by decide +kernel)
set_option maxRecDepth 20000 in
theorem gX8_eventCount_X8_isSession : GoodIn wsX8_eventCount (wsV RX8 176 RX8 yX8_isSession wsX8_isSession) := goodIn_app (goodIn_of _ (by decide +kernel)) ggX8_eventCount_X8_isSession
theorem dX8_eventCount_0 : decode cX8_eventCount 0 = .ok (.aload_n 0, 1) := by decide +kernel
theorem dX8_eventCount_1 : decode cX8_eventCount 1 = .ok (.iload_n 1, 1) := by decide +kernel
theorem dX8_eventCount_2 : decode cX8_eventCount 2 = .ok (.invokevirtual 176, 3) := by decide +kernel
theorem dX8_eventCount_5 : decode cX8_eventCount 5 = .ok (.ifCond .eq 12, 3) := by decide +kernel
theorem dX8_eventCount_8 : decode cX8_eventCount 8 = .ok (.aload_n 0, 1) := by decide +kernel
theorem dX8_eventCount_9 : decode cX8_eventCount 9 = .ok (.getfield 63, 3) := by decide +kernel
theorem dX8_eventCount_12 : decode cX8_eventCount 12 = .ok (.iload_n 1, 1) := by decide +kernel
theorem dX8_eventCount_13 : decode cX8_eventCount 13 = .ok (.iaload, 1) := by decide +kernel
theorem dX8_eventCount_14 : decode cX8_eventCount 14 = .ok (.goto 4, 3) := by decide +kernel
theorem dX8_eventCount_17 : decode cX8_eventCount 17 = .ok (.iconst (-1), 1) := by decide +kernel
theorem dX8_eventCount_18 : decode cX8_eventCount 18 = .ok (.ireturn, 1) := by decide +kernel
set_option maxRecDepth 20000 in
theorem ggX8_eventAt_X8_isSession : GoodIn wsX8_eventAt wsX8_isSession := goodIn_r _ [7, 8, 9, 10, 6, 11, 12, 13, 14, 15, 16, 17, 18, 19, 20, 21, 22, 23, 24, 25, 26, 27, 28, 29, 30, 31, 32, 33, 34, 35, 36, 37, 38, 39, 40] (by decide +kernel) (by decide +kernel)
set_option maxRecDepth 20000 in
theorem gX8_eventAt_X8_isSession : GoodIn wsX8_eventAt (wsV RX8 176 RX8 yX8_isSession wsX8_isSession) := goodIn_app (goodIn_of _ (by decide +kernel)) ggX8_eventAt_X8_isSession
theorem dX8_eventAt_0 : decode cX8_eventAt 0 = .ok (.aload_n 0, 1) := by decide +kernel
theorem dX8_eventAt_1 : decode cX8_eventAt 1 = .ok (.iload_n 1, 1) := by decide +kernel
theorem dX8_eventAt_2 : decode cX8_eventAt 2 = .ok (.invokevirtual 176, 3) := by decide +kernel
theorem dX8_eventAt_5 : decode cX8_eventAt 5 = .ok (.ifCond .eq 7, 3) := by decide +kernel
theorem dX8_eventAt_8 : decode cX8_eventAt 8 = .ok (.iload_n 2, 1) := by decide +kernel
theorem dX8_eventAt_9 : decode cX8_eventAt 9 = .ok (.ifCond .ge 5, 3) := by decide +kernel
theorem dX8_eventAt_12 : decode cX8_eventAt 12 = .ok (.iconst (-1), 1) := by decide +kernel
theorem dX8_eventAt_13 : decode cX8_eventAt 13 = .ok (.ireturn, 1) := by decide +kernel
theorem dX8_eventAt_14 : decode cX8_eventAt 14 = .ok (.iload_n 2, 1) := by decide +kernel
theorem dX8_eventAt_15 : decode cX8_eventAt 15 = .ok (.aload_n 0, 1) := by decide +kernel
theorem dX8_eventAt_16 : decode cX8_eventAt 16 = .ok (.getfield 63, 3) := by decide +kernel
theorem dX8_eventAt_19 : decode cX8_eventAt 19 = .ok (.iload_n 1, 1) := by decide +kernel
theorem dX8_eventAt_20 : decode cX8_eventAt 20 = .ok (.iaload, 1) := by decide +kernel
theorem dX8_eventAt_21 : decode cX8_eventAt 21 = .ok (.if_icmp .ge 33, 3) := by decide +kernel
theorem dX8_eventAt_24 : decode cX8_eventAt 24 = .ok (.iload_n 2, 1) := by decide +kernel
theorem dX8_eventAt_25 : decode cX8_eventAt 25 = .ok (.aload_n 0, 1) := by decide +kernel
theorem dX8_eventAt_26 : decode cX8_eventAt 26 = .ok (.getfield 63, 3) := by decide +kernel
theorem dX8_eventAt_29 : decode cX8_eventAt 29 = .ok (.iload_n 1, 1) := by decide +kernel
theorem dX8_eventAt_30 : decode cX8_eventAt 30 = .ok (.iaload, 1) := by decide +kernel
theorem dX8_eventAt_31 : decode cX8_eventAt 31 = .ok (.bipush 8, 2) := by decide +kernel
theorem dX8_eventAt_33 : decode cX8_eventAt 33 = .ok (.isub, 1) := by decide +kernel
theorem dX8_eventAt_34 : decode cX8_eventAt 34 = .ok (.if_icmp .lt 20, 3) := by decide +kernel
theorem dX8_eventAt_37 : decode cX8_eventAt 37 = .ok (.aload_n 0, 1) := by decide +kernel
theorem dX8_eventAt_38 : decode cX8_eventAt 38 = .ok (.getfield 66, 3) := by decide +kernel
theorem dX8_eventAt_41 : decode cX8_eventAt 41 = .ok (.bipush 8, 2) := by decide +kernel
theorem dX8_eventAt_43 : decode cX8_eventAt 43 = .ok (.iload_n 1, 1) := by decide +kernel
theorem dX8_eventAt_44 : decode cX8_eventAt 44 = .ok (.imul, 1) := by decide +kernel
theorem dX8_eventAt_45 : decode cX8_eventAt 45 = .ok (.iload_n 2, 1) := by decide +kernel
theorem dX8_eventAt_46 : decode cX8_eventAt 46 = .ok (.bipush 8, 2) := by decide +kernel
theorem dX8_eventAt_48 : decode cX8_eventAt 48 = .ok (.irem, 1) := by decide +kernel
theorem dX8_eventAt_49 : decode cX8_eventAt 49 = .ok (.iadd, 1) := by decide +kernel
theorem dX8_eventAt_50 : decode cX8_eventAt 50 = .ok (.iaload, 1) := by decide +kernel
theorem dX8_eventAt_51 : decode cX8_eventAt 51 = .ok (.goto 5, 3) := by decide +kernel
theorem dX8_eventAt_54 : decode cX8_eventAt 54 = .ok (.bipush (-3), 2) := by decide +kernel
theorem dX8_eventAt_56 : decode cX8_eventAt 56 = .ok (.ireturn, 1) := by decide +kernel
set_option maxRecDepth 20000 in
theorem ggX8_nodeOf_X8_isServer : GoodIn wsX8_nodeOf wsX8_isServer := goodIn_r _ [6, 7, 8, 9, 5, 10, 22, 23, 24, 25, 26, 27, 28, 29, 30, 31, 32, 33, 34, 35, 36, 37, 38, 39, 40, 41, 42, 43, 44, 45, 46, 47, 48, 49, 50] (by decide +kernel) (by decide +kernel)
set_option maxRecDepth 20000 in
theorem gX8_nodeOf_X8_isServer : GoodIn wsX8_nodeOf (wsV RX8 149 RX8 yX8_isServer wsX8_isServer) := goodIn_app (goodIn_of _ (by decide +kernel)) ggX8_nodeOf_X8_isServer
set_option maxRecDepth 20000 in
theorem ggX8_nodeOf_X8_path : GoodIn wsX8_nodeOf wsX8_path := goodIn_r _ [14, 1, 15, 22, 23, 24, 25, 26, 27, 28, 29, 30, 31, 32, 33, 34, 35, 36, 37, 38, 39, 40, 41, 42, 43, 44, 45, 46, 47, 48, 49, 50] (by decide +kernel) (by decide +kernel)
set_option maxRecDepth 20000 in
theorem gX8_nodeOf_X8_path : GoodIn wsX8_nodeOf (wsV RX8 185 RX8 yX8_path wsX8_path) := goodIn_app (goodIn_of _ (by decide +kernel)) ggX8_nodeOf_X8_path
set_option maxRecDepth 20000 in
theorem ggX8_nodeOf_X8_find : GoodIn wsX8_nodeOf wsX8_find := goodIn_r _ [19, 20, 21, 22, 23, 24, 25, 26, 27, 28, 29, 30, 31, 32, 33, 34, 35, 36, 37, 38, 39, 40, 41, 42, 43, 44, 45, 46, 47, 48, 49, 50] (by decide +kernel) (by decide +kernel)
set_option maxRecDepth 20000 in
theorem gX8_nodeOf_X8_find : GoodIn wsX8_nodeOf (wsV RX8 118 RX8 yX8_find wsX8_find) := goodIn_app (goodIn_of _ (by decide +kernel)) ggX8_nodeOf_X8_find
theorem dX8_nodeOf_0 : decode cX8_nodeOf 0 = .ok (.aload_n 0, 1) := by decide +kernel
theorem dX8_nodeOf_1 : decode cX8_nodeOf 1 = .ok (.iload_n 1, 1) := by decide +kernel
theorem dX8_nodeOf_2 : decode cX8_nodeOf 2 = .ok (.invokevirtual 149, 3) := by decide +kernel
theorem dX8_nodeOf_5 : decode cX8_nodeOf 5 = .ok (.ifCond .ne 5, 3) := by decide +kernel
theorem dX8_nodeOf_8 : decode cX8_nodeOf 8 = .ok (.iconst (-1), 1) := by decide +kernel
theorem dX8_nodeOf_9 : decode cX8_nodeOf 9 = .ok (.ireturn, 1) := by decide +kernel
theorem dX8_nodeOf_10 : decode cX8_nodeOf 10 = .ok (.aload_n 0, 1) := by decide +kernel
theorem dX8_nodeOf_11 : decode cX8_nodeOf 11 = .ok (.getfield 94, 3) := by decide +kernel
theorem dX8_nodeOf_14 : decode cX8_nodeOf 14 = .ok (.ifCond .ne 6, 3) := by decide +kernel
theorem dX8_nodeOf_17 : decode cX8_nodeOf 17 = .ok (.bipush (-2), 2) := by decide +kernel
theorem dX8_nodeOf_19 : decode cX8_nodeOf 19 = .ok (.ireturn, 1) := by decide +kernel
theorem dX8_nodeOf_20 : decode cX8_nodeOf 20 = .ok (.aload_n 0, 1) := by decide +kernel
theorem dX8_nodeOf_21 : decode cX8_nodeOf 21 = .ok (.iload_n 1, 1) := by decide +kernel
theorem dX8_nodeOf_22 : decode cX8_nodeOf 22 = .ok (.aload_n 0, 1) := by decide +kernel
theorem dX8_nodeOf_23 : decode cX8_nodeOf 23 = .ok (.invokevirtual 185, 3) := by decide +kernel
theorem dX8_nodeOf_26 : decode cX8_nodeOf 26 = .ok (.invokevirtual 118, 3) := by decide +kernel
theorem dX8_nodeOf_29 : decode cX8_nodeOf 29 = .ok (.istore_n 2, 1) := by decide +kernel
theorem dX8_nodeOf_30 : decode cX8_nodeOf 30 = .ok (.iload_n 2, 1) := by decide +kernel
theorem dX8_nodeOf_31 : decode cX8_nodeOf 31 = .ok (.bipush (-8), 2) := by decide +kernel
theorem dX8_nodeOf_33 : decode cX8_nodeOf 33 = .ok (.if_icmp .ne 8, 3) := by decide +kernel
theorem dX8_nodeOf_36 : decode cX8_nodeOf 36 = .ok (.bipush (-3), 2) := by decide +kernel
theorem dX8_nodeOf_38 : decode cX8_nodeOf 38 = .ok (.goto 4, 3) := by decide +kernel
theorem dX8_nodeOf_41 : decode cX8_nodeOf 41 = .ok (.iload_n 2, 1) := by decide +kernel
theorem dX8_nodeOf_42 : decode cX8_nodeOf 42 = .ok (.ireturn, 1) := by decide +kernel
set_option maxRecDepth 20000 in
theorem ggX8_dataAt_X8_nodeOf : GoodIn wsX8_dataAt wsX8_nodeOf := goodIn_r _ [6, 7, 8, 9, 10, 5, 11, 12, 13, 14, 15, 16, 17, 18, 19, 20, 21, 22, 23, 24, 25, 26, 27, 28, 29, 30, 31, 32, 33, 34, 35, 36, 37, 38, 39, 40, 41, 42, 43, 44, 45, 46, 47, 48, 49, 50, 51, 52, 53, 54, 55] (by decide +kernel) (by decide +kernel)
set_option maxRecDepth 20000 in
theorem gX8_dataAt_X8_nodeOf : GoodIn wsX8_dataAt (wsV RX8 201 RX8 yX8_nodeOf wsX8_nodeOf) := goodIn_app (goodIn_of _ (by decide +kernel)) ggX8_dataAt_X8_nodeOf
theorem dX8_dataAt_0 : decode cX8_dataAt 0 = .ok (.aload_n 0, 1) := by decide +kernel
theorem dX8_dataAt_1 : decode cX8_dataAt 1 = .ok (.iload_n 1, 1) := by decide +kernel
theorem dX8_dataAt_2 : decode cX8_dataAt 2 = .ok (.invokevirtual 201, 3) := by decide +kernel
theorem dX8_dataAt_5 : decode cX8_dataAt 5 = .ok (.istore_n 2, 1) := by decide +kernel
theorem dX8_dataAt_6 : decode cX8_dataAt 6 = .ok (.iload_n 2, 1) := by decide +kernel
theorem dX8_dataAt_7 : decode cX8_dataAt 7 = .ok (.ifCond .ge 7, 3) := by decide +kernel
theorem dX8_dataAt_10 : decode cX8_dataAt 10 = .ok (.iload_n 2, 1) := by decide +kernel
theorem dX8_dataAt_11 : decode cX8_dataAt 11 = .ok (.goto 9, 3) := by decide +kernel
theorem dX8_dataAt_14 : decode cX8_dataAt 14 = .ok (.aload_n 0, 1) := by decide +kernel
theorem dX8_dataAt_15 : decode cX8_dataAt 15 = .ok (.getfield 51, 3) := by decide +kernel
theorem dX8_dataAt_18 : decode cX8_dataAt 18 = .ok (.iload_n 2, 1) := by decide +kernel
theorem dX8_dataAt_19 : decode cX8_dataAt 19 = .ok (.iaload, 1) := by decide +kernel
theorem dX8_dataAt_20 : decode cX8_dataAt 20 = .ok (.ireturn, 1) := by decide +kernel
set_option maxRecDepth 20000 in
theorem ggX8_versionAt_X8_nodeOf : GoodIn wsX8_versionAt wsX8_nodeOf := goodIn_r _ [6, 7, 8, 9, 10, 5, 11, 12, 13, 14, 15, 16, 17, 18, 19, 20, 21, 22, 23, 24, 25, 26, 27, 28, 29, 30, 31, 32, 33, 34, 35, 36, 37, 38, 39, 40, 41, 42, 43, 44, 45, 46, 47, 48, 49, 50, 51, 52, 53, 54, 55] (by decide +kernel) (by decide +kernel)
set_option maxRecDepth 20000 in
theorem gX8_versionAt_X8_nodeOf : GoodIn wsX8_versionAt (wsV RX8 201 RX8 yX8_nodeOf wsX8_nodeOf) := goodIn_app (goodIn_of _ (by decide +kernel)) ggX8_versionAt_X8_nodeOf
theorem dX8_versionAt_0 : decode cX8_versionAt 0 = .ok (.aload_n 0, 1) := by decide +kernel
theorem dX8_versionAt_1 : decode cX8_versionAt 1 = .ok (.iload_n 1, 1) := by decide +kernel
theorem dX8_versionAt_2 : decode cX8_versionAt 2 = .ok (.invokevirtual 201, 3) := by decide +kernel
theorem dX8_versionAt_5 : decode cX8_versionAt 5 = .ok (.istore_n 2, 1) := by decide +kernel
theorem dX8_versionAt_6 : decode cX8_versionAt 6 = .ok (.iload_n 2, 1) := by decide +kernel
theorem dX8_versionAt_7 : decode cX8_versionAt 7 = .ok (.ifCond .ge 7, 3) := by decide +kernel
theorem dX8_versionAt_10 : decode cX8_versionAt 10 = .ok (.iload_n 2, 1) := by decide +kernel
theorem dX8_versionAt_11 : decode cX8_versionAt 11 = .ok (.goto 9, 3) := by decide +kernel
theorem dX8_versionAt_14 : decode cX8_versionAt 14 = .ok (.aload_n 0, 1) := by decide +kernel
theorem dX8_versionAt_15 : decode cX8_versionAt 15 = .ok (.getfield 54, 3) := by decide +kernel
theorem dX8_versionAt_18 : decode cX8_versionAt 18 = .ok (.iload_n 2, 1) := by decide +kernel
theorem dX8_versionAt_19 : decode cX8_versionAt 19 = .ok (.iaload, 1) := by decide +kernel
theorem dX8_versionAt_20 : decode cX8_versionAt 20 = .ok (.ireturn, 1) := by decide +kernel
set_option maxRecDepth 20000 in
theorem ggX8_ownerAt_X8_nodeOf : GoodIn wsX8_ownerAt wsX8_nodeOf := goodIn_r _ [6, 7, 8, 9, 10, 5, 11, 12, 13, 14, 15, 16, 17, 18, 19, 20, 21, 22, 23, 24, 25, 26, 27, 28, 29, 30, 31, 32, 33, 34, 35, 36, 37, 38, 39, 40, 41, 42, 43, 44, 45, 46, 47, 48, 49, 50, 51, 52, 53, 54, 55] (by decide +kernel) (by decide +kernel)
set_option maxRecDepth 20000 in
theorem gX8_ownerAt_X8_nodeOf : GoodIn wsX8_ownerAt (wsV RX8 201 RX8 yX8_nodeOf wsX8_nodeOf) := goodIn_app (goodIn_of _ (by decide +kernel)) ggX8_ownerAt_X8_nodeOf
theorem dX8_ownerAt_0 : decode cX8_ownerAt 0 = .ok (.aload_n 0, 1) := by decide +kernel
theorem dX8_ownerAt_1 : decode cX8_ownerAt 1 = .ok (.iload_n 1, 1) := by decide +kernel
theorem dX8_ownerAt_2 : decode cX8_ownerAt 2 = .ok (.invokevirtual 201, 3) := by decide +kernel
theorem dX8_ownerAt_5 : decode cX8_ownerAt 5 = .ok (.istore_n 2, 1) := by decide +kernel
theorem dX8_ownerAt_6 : decode cX8_ownerAt 6 = .ok (.iload_n 2, 1) := by decide +kernel
theorem dX8_ownerAt_7 : decode cX8_ownerAt 7 = .ok (.ifCond .ge 7, 3) := by decide +kernel
theorem dX8_ownerAt_10 : decode cX8_ownerAt 10 = .ok (.iload_n 2, 1) := by decide +kernel
theorem dX8_ownerAt_11 : decode cX8_ownerAt 11 = .ok (.goto 9, 3) := by decide +kernel
theorem dX8_ownerAt_14 : decode cX8_ownerAt 14 = .ok (.aload_n 0, 1) := by decide +kernel
theorem dX8_ownerAt_15 : decode cX8_ownerAt 15 = .ok (.getfield 57, 3) := by decide +kernel
theorem dX8_ownerAt_18 : decode cX8_ownerAt 18 = .ok (.iload_n 2, 1) := by decide +kernel
theorem dX8_ownerAt_19 : decode cX8_ownerAt 19 = .ok (.iaload, 1) := by decide +kernel
theorem dX8_ownerAt_20 : decode cX8_ownerAt 20 = .ok (.ireturn, 1) := by decide +kernel
set_option maxRecDepth 20000 in
theorem ggX8_childCount_X8_isServer : GoodIn wsX8_childCount wsX8_isServer := goodIn_r _ [5, 6, 7, 8, 4, 9, 32, 33, 34, 35, 36, 37, 38, 39, 40, 41, 42, 43, 44, 45, 46, 47, 48, 49, 50, 51, 52, 53, 54, 55, 56, 57, 58, 59, 60] (by decide +kernel) (by decide +kernel)
set_option maxRecDepth 20000 in
theorem gX8_childCount_X8_isServer : GoodIn wsX8_childCount (wsV RX8 149 RX8 yX8_isServer wsX8_isServer) := goodIn_app (goodIn_of _ (by decide +kernel)) ggX8_childCount_X8_isServer
set_option maxRecDepth 20000 in
theorem ggX8_childCount_X8_path : GoodIn wsX8_childCount wsX8_path := goodIn_r _ [13, 14, 15, 32, 33, 34, 35, 36, 37, 38, 39, 40, 41, 42, 43, 44, 45, 46, 47, 48, 49, 50, 51, 52, 53, 54, 55, 56, 57, 58, 59, 60] (by decide +kernel) (by decide +kernel)
set_option maxRecDepth 20000 in
theorem gX8_childCount_X8_path : GoodIn wsX8_childCount (wsV RX8 185 RX8 yX8_path wsX8_path) := goodIn_app (goodIn_of _ (by decide +kernel)) ggX8_childCount_X8_path
set_option maxRecDepth 20000 in
theorem ggX8_childCount_X8_find : GoodIn wsX8_childCount wsX8_find := goodIn_r _ [19, 20, 21, 32, 33, 34, 35, 36, 37, 38, 39, 40, 41, 42, 43, 44, 45, 46, 47, 48, 49, 50, 51, 52, 53, 54, 55, 56, 57, 58, 59, 60] (by decide +kernel) (by decide +kernel)
set_option maxRecDepth 20000 in
theorem gX8_childCount_X8_find : GoodIn wsX8_childCount (wsV RX8 118 RX8 yX8_find wsX8_find) := goodIn_app (goodIn_of _ (by decide +kernel)) ggX8_childCount_X8_find
set_option maxRecDepth 20000 in
theorem ggX8_childCount_X8_children : GoodIn wsX8_childCount wsX8_children := goodIn_r _ [25, 20, 21, 26, 27, 4, 28, 29, 30, 31, 32, 33, 34, 35, 36, 37, 38, 39, 40, 41, 42, 43, 44, 45, 46, 47, 48, 49, 50, 51, 52, 53, 54, 55, 56, 57, 58, 59, 60] (by decide +kernel) (by decide +kernel)
set_option maxRecDepth 20000 in
theorem gX8_childCount_X8_children : GoodIn wsX8_childCount (wsV RX8 198 RX8 yX8_children wsX8_children) := goodIn_app (goodIn_of _ (by decide +kernel)) ggX8_childCount_X8_children
theorem dX8_childCount_0 : decode cX8_childCount 0 = .ok (.aload_n 0, 1) := by decide +kernel
theorem dX8_childCount_1 : decode cX8_childCount 1 = .ok (.iload_n 1, 1) := by decide +kernel
theorem dX8_childCount_2 : decode cX8_childCount 2 = .ok (.invokevirtual 149, 3) := by decide +kernel
theorem dX8_childCount_5 : decode cX8_childCount 5 = .ok (.ifCond .ne 5, 3) := by decide +kernel
theorem dX8_childCount_8 : decode cX8_childCount 8 = .ok (.iconst (-1), 1) := by decide +kernel
theorem dX8_childCount_9 : decode cX8_childCount 9 = .ok (.ireturn, 1) := by decide +kernel
theorem dX8_childCount_10 : decode cX8_childCount 10 = .ok (.aload_n 0, 1) := by decide +kernel
theorem dX8_childCount_11 : decode cX8_childCount 11 = .ok (.invokevirtual 185, 3) := by decide +kernel
theorem dX8_childCount_14 : decode cX8_childCount 14 = .ok (.istore_n 2, 1) := by decide +kernel
theorem dX8_childCount_15 : decode cX8_childCount 15 = .ok (.iload_n 2, 1) := by decide +kernel
theorem dX8_childCount_16 : decode cX8_childCount 16 = .ok (.ifCond .eq 19, 3) := by decide +kernel
theorem dX8_childCount_19 : decode cX8_childCount 19 = .ok (.aload_n 0, 1) := by decide +kernel
theorem dX8_childCount_20 : decode cX8_childCount 20 = .ok (.iload_n 1, 1) := by decide +kernel
theorem dX8_childCount_21 : decode cX8_childCount 21 = .ok (.iload_n 2, 1) := by decide +kernel
theorem dX8_childCount_22 : decode cX8_childCount 22 = .ok (.invokevirtual 118, 3) := by decide +kernel
theorem dX8_childCount_25 : decode cX8_childCount 25 = .ok (.bipush (-8), 2) := by decide +kernel
theorem dX8_childCount_27 : decode cX8_childCount 27 = .ok (.if_icmp .ne 8, 3) := by decide +kernel
theorem dX8_childCount_30 : decode cX8_childCount 30 = .ok (.bipush (-3), 2) := by decide +kernel
theorem dX8_childCount_32 : decode cX8_childCount 32 = .ok (.goto 9, 3) := by decide +kernel
theorem dX8_childCount_35 : decode cX8_childCount 35 = .ok (.aload_n 0, 1) := by decide +kernel
theorem dX8_childCount_36 : decode cX8_childCount 36 = .ok (.iload_n 1, 1) := by decide +kernel
theorem dX8_childCount_37 : decode cX8_childCount 37 = .ok (.iload_n 2, 1) := by decide +kernel
theorem dX8_childCount_38 : decode cX8_childCount 38 = .ok (.invokevirtual 198, 3) := by decide +kernel
theorem dX8_childCount_41 : decode cX8_childCount 41 = .ok (.ireturn, 1) := by decide +kernel
set_option maxRecDepth 20000 in
theorem ggX8_nodeCount_X8_isServer : GoodIn wsX8_nodeCount wsX8_isServer := goodIn_r _ [6, 7, 8, 9, 5, 10, 11, 12, 13, 14, 15, 16, 17, 18, 19, 20, 21, 22, 23, 24, 25, 26, 27, 28, 29, 30, 31, 32, 33, 34, 35, 36, 37, 38, 39] (by decide +kernel) (by decide +kernel)
set_option maxRecDepth 20000 in
theorem gX8_nodeCount_X8_isServer : GoodIn wsX8_nodeCount (wsV RX8 149 RX8 yX8_isServer wsX8_isServer) := goodIn_app (goodIn_of _ (by decide +kernel)) ggX8_nodeCount_X8_isServer
theorem dX8_nodeCount_0 : decode cX8_nodeCount 0 = .ok (.aload_n 0, 1) := by decide +kernel
theorem dX8_nodeCount_1 : decode cX8_nodeCount 1 = .ok (.iload_n 1, 1) := by decide +kernel
theorem dX8_nodeCount_2 : decode cX8_nodeCount 2 = .ok (.invokevirtual 149, 3) := by decide +kernel
theorem dX8_nodeCount_5 : decode cX8_nodeCount 5 = .ok (.ifCond .eq 12, 3) := by decide +kernel
theorem dX8_nodeCount_8 : decode cX8_nodeCount 8 = .ok (.aload_n 0, 1) := by decide +kernel
theorem dX8_nodeCount_9 : decode cX8_nodeCount 9 = .ok (.getfield 45, 3) := by decide +kernel
theorem dX8_nodeCount_12 : decode cX8_nodeCount 12 = .ok (.iload_n 1, 1) := by decide +kernel
theorem dX8_nodeCount_13 : decode cX8_nodeCount 13 = .ok (.iaload, 1) := by decide +kernel
theorem dX8_nodeCount_14 : decode cX8_nodeCount 14 = .ok (.goto 4, 3) := by decide +kernel
theorem dX8_nodeCount_17 : decode cX8_nodeCount 17 = .ok (.iconst (-1), 1) := by decide +kernel
theorem dX8_nodeCount_18 : decode cX8_nodeCount 18 = .ok (.ireturn, 1) := by decide +kernel
set_option maxRecDepth 20000 in
theorem ggX8_commonLog_X8_isServer : GoodIn wsX8_commonLog wsX8_isServer := goodIn_r _ [5, 6, 7, 8, 4, 9, 16, 17, 18, 19, 20, 21, 22, 23, 24, 25, 26, 27, 28, 29, 30, 31, 32, 33, 34, 35, 36, 37, 38, 39, 40, 41, 42, 43, 44] (by decide +kernel) (by decide +kernel)
set_option maxRecDepth 20000 in
theorem gX8_commonLog_X8_isServer : GoodIn wsX8_commonLog (wsV RX8 149 RX8 yX8_isServer wsX8_isServer) := goodIn_app (goodIn_of _ (by decide +kernel)) ggX8_commonLog_X8_isServer
set_option maxRecDepth 20000 in
theorem ggX8_commonLog_X8_common : GoodIn wsX8_commonLog wsX8_common := goodIn_r _ [13, 14, 15, 16, 17, 18, 19, 20, 21, 22, 23, 24, 25, 26, 27, 28, 29, 30, 31, 32, 33, 34, 35, 36, 37, 38, 39, 40, 41, 42, 43, 44] (by decide +kernel) (by decide +kernel)
set_option maxRecDepth 20000 in
theorem gX8_commonLog_X8_common : GoodIn wsX8_commonLog (wsV RX8 136 RX8 yX8_common wsX8_common) := goodIn_app (goodIn_of _ (by decide +kernel)) ggX8_commonLog_X8_common
theorem dX8_commonLog_0 : decode cX8_commonLog 0 = .ok (.aload_n 0, 1) := by decide +kernel
theorem dX8_commonLog_1 : decode cX8_commonLog 1 = .ok (.iload_n 1, 1) := by decide +kernel
theorem dX8_commonLog_2 : decode cX8_commonLog 2 = .ok (.invokevirtual 149, 3) := by decide +kernel
theorem dX8_commonLog_5 : decode cX8_commonLog 5 = .ok (.ifCond .eq 20, 3) := by decide +kernel
theorem dX8_commonLog_8 : decode cX8_commonLog 8 = .ok (.aload_n 0, 1) := by decide +kernel
theorem dX8_commonLog_9 : decode cX8_commonLog 9 = .ok (.iload_n 2, 1) := by decide +kernel
theorem dX8_commonLog_10 : decode cX8_commonLog 10 = .ok (.invokevirtual 149, 3) := by decide +kernel
theorem dX8_commonLog_13 : decode cX8_commonLog 13 = .ok (.ifCond .eq 12, 3) := by decide +kernel
theorem dX8_commonLog_16 : decode cX8_commonLog 16 = .ok (.aload_n 0, 1) := by decide +kernel
theorem dX8_commonLog_17 : decode cX8_commonLog 17 = .ok (.iload_n 1, 1) := by decide +kernel
theorem dX8_commonLog_18 : decode cX8_commonLog 18 = .ok (.iload_n 2, 1) := by decide +kernel
theorem dX8_commonLog_19 : decode cX8_commonLog 19 = .ok (.invokevirtual 136, 3) := by decide +kernel
theorem dX8_commonLog_22 : decode cX8_commonLog 22 = .ok (.goto 4, 3) := by decide +kernel
theorem dX8_commonLog_25 : decode cX8_commonLog 25 = .ok (.iconst (-1), 1) := by decide +kernel
theorem dX8_commonLog_26 : decode cX8_commonLog 26 = .ok (.ireturn, 1) := by decide +kernel
theorem dJ9_max_7cf53_0 : decode cJ9_max_7cf53 0 = .ok (.iload_n 0, 1) := by decide +kernel
theorem dJ9_max_7cf53_1 : decode cJ9_max_7cf53 1 = .ok (.iload_n 1, 1) := by decide +kernel
theorem dJ9_max_7cf53_2 : decode cJ9_max_7cf53 2 = .ok (.if_icmp .lt 7, 3) := by decide +kernel
theorem dJ9_max_7cf53_5 : decode cJ9_max_7cf53 5 = .ok (.iload_n 0, 1) := by decide +kernel
theorem dJ9_max_7cf53_6 : decode cJ9_max_7cf53 6 = .ok (.goto 4, 3) := by decide +kernel
theorem dJ9_max_7cf53_9 : decode cJ9_max_7cf53 9 = .ok (.iload_n 1, 1) := by decide +kernel
theorem dJ9_max_7cf53_10 : decode cJ9_max_7cf53 10 = .ok (.ireturn, 1) := by decide +kernel
theorem dJ9_min_7cf53_0 : decode cJ9_min_7cf53 0 = .ok (.iload_n 0, 1) := by decide +kernel
theorem dJ9_min_7cf53_1 : decode cJ9_min_7cf53 1 = .ok (.iload_n 1, 1) := by decide +kernel
theorem dJ9_min_7cf53_2 : decode cJ9_min_7cf53 2 = .ok (.if_icmp .gt 7, 3) := by decide +kernel
theorem dJ9_min_7cf53_5 : decode cJ9_min_7cf53 5 = .ok (.iload_n 0, 1) := by decide +kernel
theorem dJ9_min_7cf53_6 : decode cJ9_min_7cf53 6 = .ok (.goto 4, 3) := by decide +kernel
theorem dJ9_min_7cf53_9 : decode cJ9_min_7cf53 9 = .ok (.iload_n 1, 1) := by decide +kernel
theorem dJ9_min_7cf53_10 : decode cJ9_min_7cf53 10 = .ok (.ireturn, 1) := by decide +kernel
theorem dJxa1e45_init_da8c8_0 : decode cJxa1e45_init_da8c8 0 = .ok (.aload_n 0, 1) := by decide +kernel
theorem dJxa1e45_init_da8c8_1 : decode cJxa1e45_init_da8c8 1 = .ok (.invokespecial 1, 3) := by decide +kernel
theorem dJxa1e45_init_da8c8_4 : decode cJxa1e45_init_da8c8 4 = .ok (.return_, 1) := by decide +kernel
set_option maxRecDepth 20000 in
theorem ggJxc12de_init_da8c8_Jxa1e45_init_da8c8 : GoodIn wsJxc12de_init_da8c8 wsJxa1e45_init_da8c8 := goodIn_r _ [5, 6, 7, 8] (by decide +kernel) (by decide +kernel)
set_option maxRecDepth 20000 in
theorem gJxc12de_init_da8c8_Jxa1e45_init_da8c8 : GoodIn wsJxc12de_init_da8c8 (wsJxa1e45_init_da8c8) := ggJxc12de_init_da8c8_Jxa1e45_init_da8c8
theorem dJxc12de_init_da8c8_0 : decode cJxc12de_init_da8c8 0 = .ok (.aload_n 0, 1) := by decide +kernel
theorem dJxc12de_init_da8c8_1 : decode cJxc12de_init_da8c8 1 = .ok (.invokespecial 1, 3) := by decide +kernel
theorem dJxc12de_init_da8c8_4 : decode cJxc12de_init_da8c8 4 = .ok (.aload_n 0, 1) := by decide +kernel
theorem dJxc12de_init_da8c8_5 : decode cJxc12de_init_da8c8 5 = .ok (.iconst 0, 1) := by decide +kernel
theorem dJxc12de_init_da8c8_6 : decode cJxc12de_init_da8c8 6 = .ok (.putfield 7, 3) := by decide +kernel
theorem dJxc12de_init_da8c8_9 : decode cJxc12de_init_da8c8 9 = .ok (.return_, 1) := by decide +kernel
set_option maxRecDepth 20000 in
theorem ggJx4a65c_init_da8c8_Jxc12de_init_da8c8 : GoodIn wsJx4a65c_init_da8c8 wsJxc12de_init_da8c8 := goodIn_r _ [6, 7, 8, 9, 10, 11, 12, 13, 14, 15, 16, 17] (by decide +kernel) (by decide +kernel)
set_option maxRecDepth 20000 in
theorem gJx4a65c_init_da8c8_Jxc12de_init_da8c8 : GoodIn wsJx4a65c_init_da8c8 (wsJxc12de_init_da8c8) := ggJx4a65c_init_da8c8_Jxc12de_init_da8c8
theorem dJx4a65c_init_da8c8_0 : decode cJx4a65c_init_da8c8 0 = .ok (.aload_n 0, 1) := by decide +kernel
theorem dJx4a65c_init_da8c8_1 : decode cJx4a65c_init_da8c8 1 = .ok (.invokespecial 1, 3) := by decide +kernel
theorem dJx4a65c_init_da8c8_4 : decode cJx4a65c_init_da8c8 4 = .ok (.aload_n 0, 1) := by decide +kernel
theorem dJx4a65c_init_da8c8_5 : decode cJx4a65c_init_da8c8 5 = .ok (.getstatic 39, 3) := by decide +kernel
theorem dJx4a65c_init_da8c8_8 : decode cJx4a65c_init_da8c8 8 = .ok (.putfield 9, 3) := by decide +kernel
theorem dJx4a65c_init_da8c8_11 : decode cJx4a65c_init_da8c8 11 = .ok (.return_, 1) := by decide +kernel
set_option maxRecDepth 20000 in
theorem ggJx4a65c_grow_92f84_J8_newLength_cabcc : GoodIn wsJx4a65c_grow_92f84 wsJ8_newLength_cabcc := goodIn_r _ [11, 12, 4, 5, 6, 13, 14, 15, 10, 16] (by decide +kernel) (by decide +kernel)
set_option maxRecDepth 20000 in
theorem gJx4a65c_grow_92f84_J8_newLength_cabcc : GoodIn wsJx4a65c_grow_92f84 (va_wsS RJx4a65c 73 yJ8_newLength_cabcc wsJ8_newLength_cabcc) := goodIn_app (goodIn_of _ (by decide +kernel)) ggJx4a65c_grow_92f84_J8_newLength_cabcc
set_option maxRecDepth 20000 in
theorem ggJx4a65c_grow_92f84_J7_copyOf_1904c : GoodIn wsJx4a65c_grow_92f84 wsJ7_copyOf_1904c := goodIn_r _ [20, 21, 22, 23, 24, 25, 26, 19, 27, 28, 29, 30, 31, 5, 32, 33, 34, 35, 36] (by decide +kernel) (by decide +kernel)
set_option maxRecDepth 20000 in
theorem gJx4a65c_grow_92f84_J7_copyOf_1904c : GoodIn wsJx4a65c_grow_92f84 (va_wsS RJx4a65c 66 yJ7_copyOf_1904c wsJ7_copyOf_1904c) := goodIn_app (goodIn_of _ (by decide +kernel)) ggJx4a65c_grow_92f84_J7_copyOf_1904c
theorem dJx4a65c_grow_92f84_0 : decode cJx4a65c_grow_92f84 0 = .ok (.aload_n 0, 1) := by decide +kernel
theorem dJx4a65c_grow_92f84_1 : decode cJx4a65c_grow_92f84 1 = .ok (.getfield 9, 3) := by decide +kernel
theorem dJx4a65c_grow_92f84_4 : decode cJx4a65c_grow_92f84 4 = .ok (.arraylength, 1) := by decide +kernel
theorem dJx4a65c_grow_92f84_5 : decode cJx4a65c_grow_92f84 5 = .ok (.istore_n 2, 1) := by decide +kernel
theorem dJx4a65c_grow_92f84_6 : decode cJx4a65c_grow_92f84 6 = .ok (.iload_n 2, 1) := by decide +kernel
theorem dJx4a65c_grow_92f84_7 : decode cJx4a65c_grow_92f84 7 = .ok (.ifCond .gt 13, 3) := by decide +kernel
theorem dJx4a65c_grow_92f84_10 : decode cJx4a65c_grow_92f84 10 = .ok (.aload_n 0, 1) := by decide +kernel
theorem dJx4a65c_grow_92f84_11 : decode cJx4a65c_grow_92f84 11 = .ok (.getfield 9, 3) := by decide +kernel
theorem dJx4a65c_grow_92f84_14 : decode cJx4a65c_grow_92f84 14 = .ok (.getstatic 39, 3) := by decide +kernel
theorem dJx4a65c_grow_92f84_17 : decode cJx4a65c_grow_92f84 17 = .ok (.if_acmp .eq 28, 3) := by decide +kernel
theorem dJx4a65c_grow_92f84_20 : decode cJx4a65c_grow_92f84 20 = .ok (.iload_n 2, 1) := by decide +kernel
theorem dJx4a65c_grow_92f84_21 : decode cJx4a65c_grow_92f84 21 = .ok (.iload_n 1, 1) := by decide +kernel
theorem dJx4a65c_grow_92f84_22 : decode cJx4a65c_grow_92f84 22 = .ok (.iload_n 2, 1) := by decide +kernel
theorem dJx4a65c_grow_92f84_23 : decode cJx4a65c_grow_92f84 23 = .ok (.isub, 1) := by decide +kernel
theorem dJx4a65c_grow_92f84_24 : decode cJx4a65c_grow_92f84 24 = .ok (.iload_n 2, 1) := by decide +kernel
theorem dJx4a65c_grow_92f84_25 : decode cJx4a65c_grow_92f84 25 = .ok (.iconst 1, 1) := by decide +kernel
theorem dJx4a65c_grow_92f84_26 : decode cJx4a65c_grow_92f84 26 = .ok (.ishr, 1) := by decide +kernel
theorem dJx4a65c_grow_92f84_27 : decode cJx4a65c_grow_92f84 27 = .ok (.invokestatic 73, 3) := by decide +kernel
theorem dJx4a65c_grow_92f84_30 : decode cJx4a65c_grow_92f84 30 = .ok (.istore_n 3, 1) := by decide +kernel
theorem dJx4a65c_grow_92f84_31 : decode cJx4a65c_grow_92f84 31 = .ok (.aload_n 0, 1) := by decide +kernel
theorem dJx4a65c_grow_92f84_32 : decode cJx4a65c_grow_92f84 32 = .ok (.aload_n 0, 1) := by decide +kernel
theorem dJx4a65c_grow_92f84_33 : decode cJx4a65c_grow_92f84 33 = .ok (.getfield 9, 3) := by decide +kernel
theorem dJx4a65c_grow_92f84_36 : decode cJx4a65c_grow_92f84 36 = .ok (.iload_n 3, 1) := by decide +kernel
theorem dJx4a65c_grow_92f84_37 : decode cJx4a65c_grow_92f84 37 = .ok (.invokestatic 66, 3) := by decide +kernel
theorem dJx4a65c_grow_92f84_40 : decode cJx4a65c_grow_92f84 40 = .ok (.dup_x1, 1) := by decide +kernel
theorem dJx4a65c_grow_92f84_41 : decode cJx4a65c_grow_92f84 41 = .ok (.putfield 9, 3) := by decide +kernel
theorem dJx4a65c_grow_92f84_44 : decode cJx4a65c_grow_92f84 44 = .ok (.areturn, 1) := by decide +kernel
theorem dJx4a65c_grow_92f84_45 : decode cJx4a65c_grow_92f84 45 = .ok (.aload_n 0, 1) := by decide +kernel
theorem dJx4a65c_grow_92f84_46 : decode cJx4a65c_grow_92f84 46 = .ok (.bipush 10, 2) := by decide +kernel
theorem dJx4a65c_grow_92f84_48 : decode cJx4a65c_grow_92f84 48 = .ok (.iload_n 1, 1) := by decide +kernel
theorem dJx4a65c_grow_92f84_49 : decode cJx4a65c_grow_92f84 49 = .ok (.invokestatic 79, 3) := by decide +kernel
theorem dJx4a65c_grow_92f84_52 : decode cJx4a65c_grow_92f84 52 = .ok (.anewarray 7, 3) := by decide +kernel
theorem dJx4a65c_grow_92f84_55 : decode cJx4a65c_grow_92f84 55 = .ok (.dup_x1, 1) := by decide +kernel
theorem dJx4a65c_grow_92f84_56 : decode cJx4a65c_grow_92f84 56 = .ok (.putfield 9, 3) := by decide +kernel
theorem dJx4a65c_grow_92f84_59 : decode cJx4a65c_grow_92f84 59 = .ok (.areturn, 1) := by decide +kernel
set_option maxRecDepth 20000 in
theorem ggJx4a65c_grow_d5877_Jx4a65c_grow_92f84 : GoodIn wsJx4a65c_grow_d5877 wsJx4a65c_grow_92f84 := goodIn_r _ [6, 7, 8, 9, 10, 11, 12, 13, 14, 15, 16, 17, 18, 19, 20, 21, 22, 23, 24, 25, 26, 27, 28, 29, 30, 31, 32, 33, 34, 35, 36, 37, 38, 39, 40, 41, 42, 43, 44, 45] (by decide +kernel) (by decide +kernel)
set_option maxRecDepth 20000 in
theorem gJx4a65c_grow_d5877_Jx4a65c_grow_92f84 : GoodIn wsJx4a65c_grow_d5877 (wsV RJx4a65c 69 RJx4a65c yJx4a65c_grow_92f84 wsJx4a65c_grow_92f84) := goodIn_app (goodIn_of _ (by decide +kernel)) ggJx4a65c_grow_d5877_Jx4a65c_grow_92f84
theorem dJx4a65c_grow_d5877_0 : decode cJx4a65c_grow_d5877 0 = .ok (.aload_n 0, 1) := by decide +kernel
theorem dJx4a65c_grow_d5877_1 : decode cJx4a65c_grow_d5877 1 = .ok (.aload_n 0, 1) := by decide +kernel
theorem dJx4a65c_grow_d5877_2 : decode cJx4a65c_grow_d5877 2 = .ok (.getfield 48, 3) := by decide +kernel
theorem dJx4a65c_grow_d5877_5 : decode cJx4a65c_grow_d5877 5 = .ok (.iconst 1, 1) := by decide +kernel
theorem dJx4a65c_grow_d5877_6 : decode cJx4a65c_grow_d5877 6 = .ok (.iadd, 1) := by decide +kernel
theorem dJx4a65c_grow_d5877_7 : decode cJx4a65c_grow_d5877 7 = .ok (.invokevirtual 69, 3) := by decide +kernel
theorem dJx4a65c_grow_d5877_10 : decode cJx4a65c_grow_d5877 10 = .ok (.areturn, 1) := by decide +kernel
theorem dJx4a65c_size_8abf5_0 : decode cJx4a65c_size_8abf5 0 = .ok (.aload_n 0, 1) := by decide +kernel
theorem dJx4a65c_size_8abf5_1 : decode cJx4a65c_size_8abf5 1 = .ok (.getfield 48, 3) := by decide +kernel
theorem dJx4a65c_size_8abf5_4 : decode cJx4a65c_size_8abf5 4 = .ok (.ireturn, 1) := by decide +kernel
theorem dJx4a65c_isEmpty_aae02_0 : decode cJx4a65c_isEmpty_aae02 0 = .ok (.aload_n 0, 1) := by decide +kernel
theorem dJx4a65c_isEmpty_aae02_1 : decode cJx4a65c_isEmpty_aae02 1 = .ok (.getfield 48, 3) := by decide +kernel
theorem dJx4a65c_isEmpty_aae02_4 : decode cJx4a65c_isEmpty_aae02 4 = .ok (.ifCond .ne 7, 3) := by decide +kernel
theorem dJx4a65c_isEmpty_aae02_7 : decode cJx4a65c_isEmpty_aae02 7 = .ok (.iconst 1, 1) := by decide +kernel
theorem dJx4a65c_isEmpty_aae02_8 : decode cJx4a65c_isEmpty_aae02 8 = .ok (.goto 4, 3) := by decide +kernel
theorem dJx4a65c_isEmpty_aae02_11 : decode cJx4a65c_isEmpty_aae02 11 = .ok (.iconst 0, 1) := by decide +kernel
theorem dJx4a65c_isEmpty_aae02_12 : decode cJx4a65c_isEmpty_aae02 12 = .ok (.ireturn, 1) := by decide +kernel
theorem dJx4a65c_elementData_915e3_0 : decode cJx4a65c_elementData_915e3 0 = .ok (.aload_n 0, 1) := by decide +kernel
theorem dJx4a65c_elementData_915e3_1 : decode cJx4a65c_elementData_915e3 1 = .ok (.getfield 9, 3) := by decide +kernel
theorem dJx4a65c_elementData_915e3_4 : decode cJx4a65c_elementData_915e3 4 = .ok (.iload_n 1, 1) := by decide +kernel
theorem dJx4a65c_elementData_915e3_5 : decode cJx4a65c_elementData_915e3 5 = .ok (.aaload, 1) := by decide +kernel
theorem dJx4a65c_elementData_915e3_6 : decode cJx4a65c_elementData_915e3 6 = .ok (.areturn, 1) := by decide +kernel
set_option maxRecDepth 20000 in
theorem ggJx4a65c_get_915e3_J15_checkIndex_7cf53 : GoodIn wsJx4a65c_get_915e3 wsJ15_checkIndex_7cf53 := goodIn_r _ [5, 6, 7, 8, 9] (by decide +kernel) (by decide +kernel)
set_option maxRecDepth 20000 in
theorem gJx4a65c_get_915e3_J15_checkIndex_7cf53 : GoodIn wsJx4a65c_get_915e3 (va_wsS RJx4a65c 118 yJ15_checkIndex_7cf53 wsJ15_checkIndex_7cf53) := goodIn_app (goodIn_of _ (by decide +kernel)) ggJx4a65c_get_915e3_J15_checkIndex_7cf53
set_option maxRecDepth 20000 in
theorem ggJx4a65c_get_915e3_Jx4a65c_elementData_915e3 : GoodIn wsJx4a65c_get_915e3 wsJx4a65c_elementData_915e3 := goodIn_r _ [14, 15, 16, 17, 18] (by decide +kernel) (by decide +kernel)
set_option maxRecDepth 20000 in
theorem gJx4a65c_get_915e3_Jx4a65c_elementData_915e3 : GoodIn wsJx4a65c_get_915e3 (wsV RJx4a65c 123 RJx4a65c yJx4a65c_elementData_915e3 wsJx4a65c_elementData_915e3) := goodIn_app (goodIn_of _ (by decide +kernel)) ggJx4a65c_get_915e3_Jx4a65c_elementData_915e3
theorem dJx4a65c_get_915e3_0 : decode cJx4a65c_get_915e3 0 = .ok (.iload_n 1, 1) := by decide +kernel
theorem dJx4a65c_get_915e3_1 : decode cJx4a65c_get_915e3 1 = .ok (.aload_n 0, 1) := by decide +kernel
theorem dJx4a65c_get_915e3_2 : decode cJx4a65c_get_915e3 2 = .ok (.getfield 48, 3) := by decide +kernel
theorem dJx4a65c_get_915e3_5 : decode cJx4a65c_get_915e3 5 = .ok (.invokestatic 118, 3) := by decide +kernel
theorem dJx4a65c_get_915e3_8 : decode cJx4a65c_get_915e3 8 = .ok (.pop, 1) := by decide +kernel
theorem dJx4a65c_get_915e3_9 : decode cJx4a65c_get_915e3 9 = .ok (.aload_n 0, 1) := by decide +kernel
theorem dJx4a65c_get_915e3_10 : decode cJx4a65c_get_915e3 10 = .ok (.iload_n 1, 1) := by decide +kernel
theorem dJx4a65c_get_915e3_11 : decode cJx4a65c_get_915e3 11 = .ok (.invokevirtual 123, 3) := by decide +kernel
theorem dJx4a65c_get_915e3_14 : decode cJx4a65c_get_915e3 14 = .ok (.areturn, 1) := by decide +kernel
set_option maxRecDepth 20000 in
theorem ggJx4a65c_add_72be8_Jx4a65c_grow_d5877 : GoodIn wsJx4a65c_add_72be8 wsJx4a65c_grow_d5877 := goodIn_r _ [6, 1, 7, 8, 9, 5, 10, 11, 12, 13, 14, 15, 16, 17, 18, 19, 20, 21, 22, 23, 24, 25, 26, 27, 28, 29, 30, 31, 32, 33, 34, 35, 36, 37, 38, 39, 40, 41, 42, 43, 44, 45, 46, 47, 48, 49] (by decide +kernel) (by decide +kernel)
set_option maxRecDepth 20000 in
theorem gJx4a65c_add_72be8_Jx4a65c_grow_d5877 : GoodIn wsJx4a65c_add_72be8 (wsV RJx4a65c 129 RJx4a65c yJx4a65c_grow_d5877 wsJx4a65c_grow_d5877) := goodIn_app (goodIn_of _ (by decide +kernel)) ggJx4a65c_add_72be8_Jx4a65c_grow_d5877
theorem dJx4a65c_add_72be8_0 : decode cJx4a65c_add_72be8 0 = .ok (.iload_n 3, 1) := by decide +kernel
theorem dJx4a65c_add_72be8_1 : decode cJx4a65c_add_72be8 1 = .ok (.aload_n 2, 1) := by decide +kernel
theorem dJx4a65c_add_72be8_2 : decode cJx4a65c_add_72be8 2 = .ok (.arraylength, 1) := by decide +kernel
theorem dJx4a65c_add_72be8_3 : decode cJx4a65c_add_72be8 3 = .ok (.if_icmp .ne 8, 3) := by decide +kernel
theorem dJx4a65c_add_72be8_6 : decode cJx4a65c_add_72be8 6 = .ok (.aload_n 0, 1) := by decide +kernel
theorem dJx4a65c_add_72be8_7 : decode cJx4a65c_add_72be8 7 = .ok (.invokevirtual 129, 3) := by decide +kernel
theorem dJx4a65c_add_72be8_10 : decode cJx4a65c_add_72be8 10 = .ok (.astore_n 2, 1) := by decide +kernel
theorem dJx4a65c_add_72be8_11 : decode cJx4a65c_add_72be8 11 = .ok (.aload_n 2, 1) := by decide +kernel
theorem dJx4a65c_add_72be8_12 : decode cJx4a65c_add_72be8 12 = .ok (.iload_n 3, 1) := by decide +kernel
theorem dJx4a65c_add_72be8_13 : decode cJx4a65c_add_72be8 13 = .ok (.aload_n 1, 1) := by decide +kernel
theorem dJx4a65c_add_72be8_14 : decode cJx4a65c_add_72be8 14 = .ok (.aastore, 1) := by decide +kernel
theorem dJx4a65c_add_72be8_15 : decode cJx4a65c_add_72be8 15 = .ok (.aload_n 0, 1) := by decide +kernel
theorem dJx4a65c_add_72be8_16 : decode cJx4a65c_add_72be8 16 = .ok (.iload_n 3, 1) := by decide +kernel
theorem dJx4a65c_add_72be8_17 : decode cJx4a65c_add_72be8 17 = .ok (.iconst 1, 1) := by decide +kernel
theorem dJx4a65c_add_72be8_18 : decode cJx4a65c_add_72be8 18 = .ok (.iadd, 1) := by decide +kernel
theorem dJx4a65c_add_72be8_19 : decode cJx4a65c_add_72be8 19 = .ok (.putfield 48, 3) := by decide +kernel
theorem dJx4a65c_add_72be8_22 : decode cJx4a65c_add_72be8 22 = .ok (.return_, 1) := by decide +kernel
set_option maxRecDepth 20000 in
theorem ggJx4a65c_add_9ea2d_Jx4a65c_add_72be8 : GoodIn wsJx4a65c_add_9ea2d wsJx4a65c_add_72be8 := goodIn_r _ [9, 4, 10, 11, 12, 8, 13, 14, 15, 16, 17, 3, 18, 19, 20, 21, 22, 23, 24, 25, 26, 27, 28, 29, 30, 31, 32, 33, 34, 35, 36, 37, 38, 39, 40, 41, 42, 43, 44, 45, 46, 47, 48, 49, 50, 51, 52, 53, 54, 55] (by decide +kernel) (by decide +kernel)
set_option maxRecDepth 20000 in
theorem gJx4a65c_add_9ea2d_Jx4a65c_add_72be8 : GoodIn wsJx4a65c_add_9ea2d (wsV RJx4a65c 131 RJx4a65c yJx4a65c_add_72be8 wsJx4a65c_add_72be8) := goodIn_app (goodIn_of _ (by decide +kernel)) ggJx4a65c_add_9ea2d_Jx4a65c_add_72be8
theorem dJx4a65c_add_9ea2d_0 : decode cJx4a65c_add_9ea2d 0 = .ok (.aload_n 0, 1) := by decide +kernel
theorem dJx4a65c_add_9ea2d_1 : decode cJx4a65c_add_9ea2d 1 = .ok (.dup, 1) := by decide +kernel
theorem dJx4a65c_add_9ea2d_2 : decode cJx4a65c_add_9ea2d 2 = .ok (.getfield 63, 3) := by decide +kernel
theorem dJx4a65c_add_9ea2d_5 : decode cJx4a65c_add_9ea2d 5 = .ok (.iconst 1, 1) := by decide +kernel
theorem dJx4a65c_add_9ea2d_6 : decode cJx4a65c_add_9ea2d 6 = .ok (.iadd, 1) := by decide +kernel
theorem dJx4a65c_add_9ea2d_7 : decode cJx4a65c_add_9ea2d 7 = .ok (.putfield 63, 3) := by decide +kernel
theorem dJx4a65c_add_9ea2d_10 : decode cJx4a65c_add_9ea2d 10 = .ok (.aload_n 0, 1) := by decide +kernel
theorem dJx4a65c_add_9ea2d_11 : decode cJx4a65c_add_9ea2d 11 = .ok (.aload_n 1, 1) := by decide +kernel
theorem dJx4a65c_add_9ea2d_12 : decode cJx4a65c_add_9ea2d 12 = .ok (.aload_n 0, 1) := by decide +kernel
theorem dJx4a65c_add_9ea2d_13 : decode cJx4a65c_add_9ea2d 13 = .ok (.getfield 9, 3) := by decide +kernel
theorem dJx4a65c_add_9ea2d_16 : decode cJx4a65c_add_9ea2d 16 = .ok (.aload_n 0, 1) := by decide +kernel
theorem dJx4a65c_add_9ea2d_17 : decode cJx4a65c_add_9ea2d 17 = .ok (.getfield 48, 3) := by decide +kernel
theorem dJx4a65c_add_9ea2d_20 : decode cJx4a65c_add_9ea2d 20 = .ok (.invokevirtual 131, 3) := by decide +kernel
theorem dJx4a65c_add_9ea2d_23 : decode cJx4a65c_add_9ea2d 23 = .ok (.iconst 1, 1) := by decide +kernel
theorem dJx4a65c_add_9ea2d_24 : decode cJx4a65c_add_9ea2d 24 = .ok (.ireturn, 1) := by decide +kernel
set_option maxRecDepth 20000 in
theorem ggJx4a65c_remove_915e3_J15_checkIndex_7cf53 : GoodIn wsJx4a65c_remove_915e3 wsJ15_checkIndex_7cf53 := goodIn_r _ [6, 7, 8, 9, 10] (by decide +kernel) (by decide +kernel)
set_option maxRecDepth 20000 in
theorem gJx4a65c_remove_915e3_J15_checkIndex_7cf53 : GoodIn wsJx4a65c_remove_915e3 (va_wsS RJx4a65c 118 yJ15_checkIndex_7cf53 wsJ15_checkIndex_7cf53) := goodIn_app (goodIn_of _ (by decide +kernel)) ggJx4a65c_remove_915e3_J15_checkIndex_7cf53
set_option maxRecDepth 20000 in
theorem ggJx4a65c_remove_915e3_Jx4a65c_fastRemove_b59b0 : GoodIn wsJx4a65c_remove_915e3 wsJx4a65c_fastRemove_b59b0 := goodIn_r _ [15, 16, 17, 1, 18, 19, 20, 21, 22, 23, 24] (by decide +kernel) (by decide +kernel)
set_option maxRecDepth 20000 in
theorem gJx4a65c_remove_915e3_Jx4a65c_fastRemove_b59b0 : GoodIn wsJx4a65c_remove_915e3 (wsV RJx4a65c 144 RJx4a65c yJx4a65c_fastRemove_b59b0 wsJx4a65c_fastRemove_b59b0) := goodIn_app (goodIn_of _ (by decide +kernel)) ggJx4a65c_remove_915e3_Jx4a65c_fastRemove_b59b0
theorem dJx4a65c_remove_915e3_0 : decode cJx4a65c_remove_915e3 0 = .ok (.iload_n 1, 1) := by decide +kernel
theorem dJx4a65c_remove_915e3_1 : decode cJx4a65c_remove_915e3 1 = .ok (.aload_n 0, 1) := by decide +kernel
theorem dJx4a65c_remove_915e3_2 : decode cJx4a65c_remove_915e3 2 = .ok (.getfield 48, 3) := by decide +kernel
theorem dJx4a65c_remove_915e3_5 : decode cJx4a65c_remove_915e3 5 = .ok (.invokestatic 118, 3) := by decide +kernel
theorem dJx4a65c_remove_915e3_8 : decode cJx4a65c_remove_915e3 8 = .ok (.pop, 1) := by decide +kernel
theorem dJx4a65c_remove_915e3_9 : decode cJx4a65c_remove_915e3 9 = .ok (.aload_n 0, 1) := by decide +kernel
theorem dJx4a65c_remove_915e3_10 : decode cJx4a65c_remove_915e3 10 = .ok (.getfield 9, 3) := by decide +kernel
theorem dJx4a65c_remove_915e3_13 : decode cJx4a65c_remove_915e3 13 = .ok (.astore_n 2, 1) := by decide +kernel
theorem dJx4a65c_remove_915e3_14 : decode cJx4a65c_remove_915e3 14 = .ok (.aload_n 2, 1) := by decide +kernel
theorem dJx4a65c_remove_915e3_15 : decode cJx4a65c_remove_915e3 15 = .ok (.iload_n 1, 1) := by decide +kernel
theorem dJx4a65c_remove_915e3_16 : decode cJx4a65c_remove_915e3 16 = .ok (.aaload, 1) := by decide +kernel
theorem dJx4a65c_remove_915e3_17 : decode cJx4a65c_remove_915e3 17 = .ok (.astore_n 3, 1) := by decide +kernel
theorem dJx4a65c_remove_915e3_18 : decode cJx4a65c_remove_915e3 18 = .ok (.aload_n 0, 1) := by decide +kernel
theorem dJx4a65c_remove_915e3_19 : decode cJx4a65c_remove_915e3 19 = .ok (.aload_n 2, 1) := by decide +kernel
theorem dJx4a65c_remove_915e3_20 : decode cJx4a65c_remove_915e3 20 = .ok (.iload_n 1, 1) := by decide +kernel
theorem dJx4a65c_remove_915e3_21 : decode cJx4a65c_remove_915e3 21 = .ok (.invokevirtual 144, 3) := by decide +kernel
theorem dJx4a65c_remove_915e3_24 : decode cJx4a65c_remove_915e3 24 = .ok (.aload_n 3, 1) := by decide +kernel
theorem dJx4a65c_remove_915e3_25 : decode cJx4a65c_remove_915e3 25 = .ok (.areturn, 1) := by decide +kernel
theorem dJx4a65c_fastRemove_b59b0_0 : decode cJx4a65c_fastRemove_b59b0 0 = .ok (.aload_n 0, 1) := by decide +kernel
theorem dJx4a65c_fastRemove_b59b0_1 : decode cJx4a65c_fastRemove_b59b0 1 = .ok (.dup, 1) := by decide +kernel
theorem dJx4a65c_fastRemove_b59b0_2 : decode cJx4a65c_fastRemove_b59b0 2 = .ok (.getfield 63, 3) := by decide +kernel
theorem dJx4a65c_fastRemove_b59b0_5 : decode cJx4a65c_fastRemove_b59b0 5 = .ok (.iconst 1, 1) := by decide +kernel
theorem dJx4a65c_fastRemove_b59b0_6 : decode cJx4a65c_fastRemove_b59b0 6 = .ok (.iadd, 1) := by decide +kernel
theorem dJx4a65c_fastRemove_b59b0_7 : decode cJx4a65c_fastRemove_b59b0 7 = .ok (.putfield 63, 3) := by decide +kernel
theorem dJx4a65c_fastRemove_b59b0_10 : decode cJx4a65c_fastRemove_b59b0 10 = .ok (.aload_n 0, 1) := by decide +kernel
theorem dJx4a65c_fastRemove_b59b0_11 : decode cJx4a65c_fastRemove_b59b0 11 = .ok (.getfield 48, 3) := by decide +kernel
theorem dJx4a65c_fastRemove_b59b0_14 : decode cJx4a65c_fastRemove_b59b0 14 = .ok (.iconst 1, 1) := by decide +kernel
theorem dJx4a65c_fastRemove_b59b0_15 : decode cJx4a65c_fastRemove_b59b0 15 = .ok (.isub, 1) := by decide +kernel
theorem dJx4a65c_fastRemove_b59b0_16 : decode cJx4a65c_fastRemove_b59b0 16 = .ok (.dup, 1) := by decide +kernel
theorem dJx4a65c_fastRemove_b59b0_17 : decode cJx4a65c_fastRemove_b59b0 17 = .ok (.istore_n 3, 1) := by decide +kernel
theorem dJx4a65c_fastRemove_b59b0_18 : decode cJx4a65c_fastRemove_b59b0 18 = .ok (.iload_n 2, 1) := by decide +kernel
theorem dJx4a65c_fastRemove_b59b0_19 : decode cJx4a65c_fastRemove_b59b0 19 = .ok (.if_icmp .le 15, 3) := by decide +kernel
theorem dJx4a65c_fastRemove_b59b0_22 : decode cJx4a65c_fastRemove_b59b0 22 = .ok (.aload_n 1, 1) := by decide +kernel
theorem dJx4a65c_fastRemove_b59b0_23 : decode cJx4a65c_fastRemove_b59b0 23 = .ok (.iload_n 2, 1) := by decide +kernel
theorem dJx4a65c_fastRemove_b59b0_24 : decode cJx4a65c_fastRemove_b59b0 24 = .ok (.iconst 1, 1) := by decide +kernel
theorem dJx4a65c_fastRemove_b59b0_25 : decode cJx4a65c_fastRemove_b59b0 25 = .ok (.iadd, 1) := by decide +kernel
theorem dJx4a65c_fastRemove_b59b0_26 : decode cJx4a65c_fastRemove_b59b0 26 = .ok (.aload_n 1, 1) := by decide +kernel
theorem dJx4a65c_fastRemove_b59b0_27 : decode cJx4a65c_fastRemove_b59b0 27 = .ok (.iload_n 2, 1) := by decide +kernel
theorem dJx4a65c_fastRemove_b59b0_28 : decode cJx4a65c_fastRemove_b59b0 28 = .ok (.iload_n 3, 1) := by decide +kernel
theorem dJx4a65c_fastRemove_b59b0_29 : decode cJx4a65c_fastRemove_b59b0 29 = .ok (.iload_n 2, 1) := by decide +kernel
theorem dJx4a65c_fastRemove_b59b0_30 : decode cJx4a65c_fastRemove_b59b0 30 = .ok (.isub, 1) := by decide +kernel
theorem dJx4a65c_fastRemove_b59b0_31 : decode cJx4a65c_fastRemove_b59b0 31 = .ok (.invokestatic 112, 3) := by decide +kernel
theorem dJx4a65c_fastRemove_b59b0_34 : decode cJx4a65c_fastRemove_b59b0 34 = .ok (.aload_n 1, 1) := by decide +kernel
theorem dJx4a65c_fastRemove_b59b0_35 : decode cJx4a65c_fastRemove_b59b0 35 = .ok (.aload_n 0, 1) := by decide +kernel
theorem dJx4a65c_fastRemove_b59b0_36 : decode cJx4a65c_fastRemove_b59b0 36 = .ok (.iload_n 3, 1) := by decide +kernel
theorem dJx4a65c_fastRemove_b59b0_37 : decode cJx4a65c_fastRemove_b59b0 37 = .ok (.dup_x1, 1) := by decide +kernel
theorem dJx4a65c_fastRemove_b59b0_38 : decode cJx4a65c_fastRemove_b59b0 38 = .ok (.putfield 48, 3) := by decide +kernel
theorem dJx4a65c_fastRemove_b59b0_41 : decode cJx4a65c_fastRemove_b59b0 41 = .ok (.aconst_null, 1) := by decide +kernel
theorem dJx4a65c_fastRemove_b59b0_42 : decode cJx4a65c_fastRemove_b59b0 42 = .ok (.aastore, 1) := by decide +kernel
theorem dJx4a65c_fastRemove_b59b0_43 : decode cJx4a65c_fastRemove_b59b0 43 = .ok (.return_, 1) := by decide +kernel
theorem dJx4a65c_clear_da8c8_0 : decode cJx4a65c_clear_da8c8 0 = .ok (.aload_n 0, 1) := by decide +kernel
theorem dJx4a65c_clear_da8c8_1 : decode cJx4a65c_clear_da8c8 1 = .ok (.dup, 1) := by decide +kernel
theorem dJx4a65c_clear_da8c8_2 : decode cJx4a65c_clear_da8c8 2 = .ok (.getfield 63, 3) := by decide +kernel
theorem dJx4a65c_clear_da8c8_5 : decode cJx4a65c_clear_da8c8 5 = .ok (.iconst 1, 1) := by decide +kernel
theorem dJx4a65c_clear_da8c8_6 : decode cJx4a65c_clear_da8c8 6 = .ok (.iadd, 1) := by decide +kernel
theorem dJx4a65c_clear_da8c8_7 : decode cJx4a65c_clear_da8c8 7 = .ok (.putfield 63, 3) := by decide +kernel
theorem dJx4a65c_clear_da8c8_10 : decode cJx4a65c_clear_da8c8 10 = .ok (.aload_n 0, 1) := by decide +kernel
theorem dJx4a65c_clear_da8c8_11 : decode cJx4a65c_clear_da8c8 11 = .ok (.getfield 9, 3) := by decide +kernel
theorem dJx4a65c_clear_da8c8_14 : decode cJx4a65c_clear_da8c8 14 = .ok (.astore_n 1, 1) := by decide +kernel
theorem dJx4a65c_clear_da8c8_15 : decode cJx4a65c_clear_da8c8 15 = .ok (.aload_n 0, 1) := by decide +kernel
theorem dJx4a65c_clear_da8c8_16 : decode cJx4a65c_clear_da8c8 16 = .ok (.getfield 48, 3) := by decide +kernel
theorem dJx4a65c_clear_da8c8_19 : decode cJx4a65c_clear_da8c8 19 = .ok (.istore_n 2, 1) := by decide +kernel
theorem dJx4a65c_clear_da8c8_20 : decode cJx4a65c_clear_da8c8 20 = .ok (.aload_n 0, 1) := by decide +kernel
theorem dJx4a65c_clear_da8c8_21 : decode cJx4a65c_clear_da8c8 21 = .ok (.iconst 0, 1) := by decide +kernel
theorem dJx4a65c_clear_da8c8_22 : decode cJx4a65c_clear_da8c8 22 = .ok (.dup_x1, 1) := by decide +kernel
theorem dJx4a65c_clear_da8c8_23 : decode cJx4a65c_clear_da8c8 23 = .ok (.putfield 48, 3) := by decide +kernel
theorem dJx4a65c_clear_da8c8_26 : decode cJx4a65c_clear_da8c8 26 = .ok (.istore_n 3, 1) := by decide +kernel
theorem dJx4a65c_clear_da8c8_27 : decode cJx4a65c_clear_da8c8 27 = .ok (.iload_n 3, 1) := by decide +kernel
theorem dJx4a65c_clear_da8c8_28 : decode cJx4a65c_clear_da8c8 28 = .ok (.iload_n 2, 1) := by decide +kernel
theorem dJx4a65c_clear_da8c8_29 : decode cJx4a65c_clear_da8c8 29 = .ok (.if_icmp .ge 13, 3) := by decide +kernel
theorem dJx4a65c_clear_da8c8_32 : decode cJx4a65c_clear_da8c8 32 = .ok (.aload_n 1, 1) := by decide +kernel
theorem dJx4a65c_clear_da8c8_33 : decode cJx4a65c_clear_da8c8 33 = .ok (.iload_n 3, 1) := by decide +kernel
theorem dJx4a65c_clear_da8c8_34 : decode cJx4a65c_clear_da8c8 34 = .ok (.aconst_null, 1) := by decide +kernel
theorem dJx4a65c_clear_da8c8_35 : decode cJx4a65c_clear_da8c8 35 = .ok (.aastore, 1) := by decide +kernel
theorem dJx4a65c_clear_da8c8_36 : decode cJx4a65c_clear_da8c8 36 = .ok (.iinc 3 1, 3) := by decide +kernel
theorem dJx4a65c_clear_da8c8_39 : decode cJx4a65c_clear_da8c8 39 = .ok (.goto (-12), 3) := by decide +kernel
theorem dJx4a65c_clear_da8c8_42 : decode cJx4a65c_clear_da8c8 42 = .ok (.return_, 1) := by decide +kernel
set_option maxRecDepth 20000 in
theorem ggJ7_copyOf_1904c_J7_copyOf_6403c : GoodIn wsJ7_copyOf_1904c wsJ7_copyOf_6403c := goodIn_r _ [8, 9, 10, 11, 12, 13, 14, 15, 16, 17, 18] (by decide +kernel) (by decide +kernel)
set_option maxRecDepth 20000 in
theorem gJ7_copyOf_1904c_J7_copyOf_6403c : GoodIn wsJ7_copyOf_1904c (va_wsS RJ7 300 yJ7_copyOf_6403c wsJ7_copyOf_6403c) := goodIn_app (goodIn_of _ (by decide +kernel)) ggJ7_copyOf_1904c_J7_copyOf_6403c
theorem dJ7_copyOf_1904c_0 : decode cJ7_copyOf_1904c 0 = .ok (.aload_n 0, 1) := by decide +kernel
theorem dJ7_copyOf_1904c_1 : decode cJ7_copyOf_1904c 1 = .ok (.iload_n 1, 1) := by decide +kernel
theorem dJ7_copyOf_1904c_2 : decode cJ7_copyOf_1904c 2 = .ok (.aload_n 0, 1) := by decide +kernel
theorem dJ7_copyOf_1904c_3 : decode cJ7_copyOf_1904c 3 = .ok (.invokevirtual 86, 3) := by decide +kernel
theorem dJ7_copyOf_1904c_6 : decode cJ7_copyOf_1904c 6 = .ok (.invokestatic 300, 3) := by decide +kernel
theorem dJ7_copyOf_1904c_9 : decode cJ7_copyOf_1904c 9 = .ok (.areturn, 1) := by decide +kernel
theorem dJ7_copyOf_6403c_0 : decode cJ7_copyOf_6403c 0 = .ok (.aload_n 2, 1) := by decide +kernel
theorem dJ7_copyOf_6403c_1 : decode cJ7_copyOf_6403c 1 = .ok (.ldc 110, 2) := by decide +kernel
theorem dJ7_copyOf_6403c_3 : decode cJ7_copyOf_6403c 3 = .ok (.if_acmp .ne 10, 3) := by decide +kernel
theorem dJ7_copyOf_6403c_6 : decode cJ7_copyOf_6403c 6 = .ok (.iload_n 1, 1) := by decide +kernel
theorem dJ7_copyOf_6403c_7 : decode cJ7_copyOf_6403c 7 = .ok (.anewarray 2, 3) := by decide +kernel
theorem dJ7_copyOf_6403c_10 : decode cJ7_copyOf_6403c 10 = .ok (.goto 14, 3) := by decide +kernel
theorem dJ7_copyOf_6403c_13 : decode cJ7_copyOf_6403c 13 = .ok (.aload_n 2, 1) := by decide +kernel
theorem dJ7_copyOf_6403c_14 : decode cJ7_copyOf_6403c 14 = .ok (.invokevirtual 90, 3) := by decide +kernel
theorem dJ7_copyOf_6403c_17 : decode cJ7_copyOf_6403c 17 = .ok (.iload_n 1, 1) := by decide +kernel
theorem dJ7_copyOf_6403c_18 : decode cJ7_copyOf_6403c 18 = .ok (.invokestatic 95, 3) := by decide +kernel
theorem dJ7_copyOf_6403c_21 : decode cJ7_copyOf_6403c 21 = .ok (.checkcast 110, 3) := by decide +kernel
theorem dJ7_copyOf_6403c_24 : decode cJ7_copyOf_6403c 24 = .ok (.astore_n 3, 1) := by decide +kernel
theorem dJ7_copyOf_6403c_25 : decode cJ7_copyOf_6403c 25 = .ok (.aload_n 0, 1) := by decide +kernel
theorem dJ7_copyOf_6403c_26 : decode cJ7_copyOf_6403c 26 = .ok (.iconst 0, 1) := by decide +kernel
theorem dJ7_copyOf_6403c_27 : decode cJ7_copyOf_6403c 27 = .ok (.aload_n 3, 1) := by decide +kernel
theorem dJ7_copyOf_6403c_28 : decode cJ7_copyOf_6403c 28 = .ok (.iconst 0, 1) := by decide +kernel
theorem dJ7_copyOf_6403c_29 : decode cJ7_copyOf_6403c 29 = .ok (.aload_n 0, 1) := by decide +kernel
theorem dJ7_copyOf_6403c_30 : decode cJ7_copyOf_6403c 30 = .ok (.arraylength, 1) := by decide +kernel
theorem dJ7_copyOf_6403c_31 : decode cJ7_copyOf_6403c 31 = .ok (.iload_n 1, 1) := by decide +kernel
theorem dJ7_copyOf_6403c_32 : decode cJ7_copyOf_6403c 32 = .ok (.invokestatic 304, 3) := by decide +kernel
theorem dJ7_copyOf_6403c_35 : decode cJ7_copyOf_6403c 35 = .ok (.invokestatic 150, 3) := by decide +kernel
theorem dJ7_copyOf_6403c_38 : decode cJ7_copyOf_6403c 38 = .ok (.aload_n 3, 1) := by decide +kernel
theorem dJ7_copyOf_6403c_39 : decode cJ7_copyOf_6403c 39 = .ok (.areturn, 1) := by decide +kernel
set_option maxRecDepth 20000 in
theorem ggJ15_checkIndex_7cf53_J3_checkIndex_8e157 : GoodIn wsJ15_checkIndex_7cf53 wsJ3_checkIndex_8e157 := goodIn_r _ [4] (by decide +kernel) (by decide +kernel)
set_option maxRecDepth 20000 in
theorem gJ15_checkIndex_7cf53_J3_checkIndex_8e157 : GoodIn wsJ15_checkIndex_7cf53 (va_wsS RJ15 105 yJ3_checkIndex_8e157 wsJ3_checkIndex_8e157) := goodIn_app (goodIn_of _ (by decide +kernel)) ggJ15_checkIndex_7cf53_J3_checkIndex_8e157
theorem dJ15_checkIndex_7cf53_0 : decode cJ15_checkIndex_7cf53 0 = .ok (.iload_n 0, 1) := by decide +kernel
theorem dJ15_checkIndex_7cf53_1 : decode cJ15_checkIndex_7cf53 1 = .ok (.iload_n 1, 1) := by decide +kernel
theorem dJ15_checkIndex_7cf53_2 : decode cJ15_checkIndex_7cf53 2 = .ok (.aconst_null, 1) := by decide +kernel
theorem dJ15_checkIndex_7cf53_3 : decode cJ15_checkIndex_7cf53 3 = .ok (.invokestatic 105, 3) := by decide +kernel
theorem dJ15_checkIndex_7cf53_6 : decode cJ15_checkIndex_7cf53 6 = .ok (.ireturn, 1) := by decide +kernel
set_option maxRecDepth 20000 in
theorem ggJ8_newLength_cabcc_J8_hugeLength_7cf53 : GoodIn wsJ8_newLength_cabcc wsJ8_hugeLength_7cf53 := goodIn_r _ [9, 5] (by decide +kernel) (by decide +kernel)
set_option maxRecDepth 20000 in
theorem gJ8_newLength_cabcc_J8_hugeLength_7cf53 : GoodIn wsJ8_newLength_cabcc (va_wsS RJ8 201 yJ8_hugeLength_7cf53 wsJ8_hugeLength_7cf53) := goodIn_app (goodIn_of _ (by decide +kernel)) ggJ8_newLength_cabcc_J8_hugeLength_7cf53
theorem dJ8_newLength_cabcc_0 : decode cJ8_newLength_cabcc 0 = .ok (.iload_n 0, 1) := by decide +kernel
theorem dJ8_newLength_cabcc_1 : decode cJ8_newLength_cabcc 1 = .ok (.iload_n 1, 1) := by decide +kernel
theorem dJ8_newLength_cabcc_2 : decode cJ8_newLength_cabcc 2 = .ok (.iload_n 2, 1) := by decide +kernel
theorem dJ8_newLength_cabcc_3 : decode cJ8_newLength_cabcc 3 = .ok (.invokestatic 194, 3) := by decide +kernel
theorem dJ8_newLength_cabcc_6 : decode cJ8_newLength_cabcc 6 = .ok (.iadd, 1) := by decide +kernel
theorem dJ8_newLength_cabcc_7 : decode cJ8_newLength_cabcc 7 = .ok (.istore_n 3, 1) := by decide +kernel
theorem dJ8_newLength_cabcc_8 : decode cJ8_newLength_cabcc 8 = .ok (.iconst 0, 1) := by decide +kernel
theorem dJ8_newLength_cabcc_9 : decode cJ8_newLength_cabcc 9 = .ok (.iload_n 3, 1) := by decide +kernel
theorem dJ8_newLength_cabcc_10 : decode cJ8_newLength_cabcc 10 = .ok (.if_icmp .ge 11, 3) := by decide +kernel
theorem dJ8_newLength_cabcc_13 : decode cJ8_newLength_cabcc 13 = .ok (.iload_n 3, 1) := by decide +kernel
theorem dJ8_newLength_cabcc_14 : decode cJ8_newLength_cabcc 14 = .ok (.ldc 200, 2) := by decide +kernel
theorem dJ8_newLength_cabcc_16 : decode cJ8_newLength_cabcc 16 = .ok (.if_icmp .gt 5, 3) := by decide +kernel
theorem dJ8_newLength_cabcc_19 : decode cJ8_newLength_cabcc 19 = .ok (.iload_n 3, 1) := by decide +kernel
theorem dJ8_newLength_cabcc_20 : decode cJ8_newLength_cabcc 20 = .ok (.ireturn, 1) := by decide +kernel
theorem dJ8_newLength_cabcc_21 : decode cJ8_newLength_cabcc 21 = .ok (.iload_n 0, 1) := by decide +kernel
theorem dJ8_newLength_cabcc_22 : decode cJ8_newLength_cabcc 22 = .ok (.iload_n 1, 1) := by decide +kernel
theorem dJ8_newLength_cabcc_23 : decode cJ8_newLength_cabcc 23 = .ok (.invokestatic 201, 3) := by decide +kernel
theorem dJ8_newLength_cabcc_26 : decode cJ8_newLength_cabcc 26 = .ok (.ireturn, 1) := by decide +kernel
theorem dJ8_hugeLength_7cf53_0 : decode cJ8_hugeLength_7cf53 0 = .ok (.iload_n 0, 1) := by decide +kernel
theorem dJ8_hugeLength_7cf53_1 : decode cJ8_hugeLength_7cf53 1 = .ok (.iload_n 1, 1) := by decide +kernel
theorem dJ8_hugeLength_7cf53_2 : decode cJ8_hugeLength_7cf53 2 = .ok (.iadd, 1) := by decide +kernel
theorem dJ8_hugeLength_7cf53_3 : decode cJ8_hugeLength_7cf53 3 = .ok (.istore_n 2, 1) := by decide +kernel
theorem dJ8_hugeLength_7cf53_4 : decode cJ8_hugeLength_7cf53 4 = .ok (.iload_n 2, 1) := by decide +kernel
theorem dJ8_hugeLength_7cf53_5 : decode cJ8_hugeLength_7cf53 5 = .ok (.ifCond .ge 44, 3) := by decide +kernel
theorem dJ8_hugeLength_7cf53_8 : decode cJ8_hugeLength_7cf53 8 = .ok (.new 204, 3) := by decide +kernel
theorem dJ8_hugeLength_7cf53_11 : decode cJ8_hugeLength_7cf53 11 = .ok (.dup, 1) := by decide +kernel
theorem dJ8_hugeLength_7cf53_12 : decode cJ8_hugeLength_7cf53 12 = .ok (.new 89, 3) := by decide +kernel
theorem dJ8_hugeLength_7cf53_15 : decode cJ8_hugeLength_7cf53 15 = .ok (.dup, 1) := by decide +kernel
theorem dJ8_hugeLength_7cf53_16 : decode cJ8_hugeLength_7cf53 16 = .ok (.invokespecial 91, 3) := by decide +kernel
theorem dJ8_hugeLength_7cf53_19 : decode cJ8_hugeLength_7cf53 19 = .ok (.ldc 206, 2) := by decide +kernel
theorem dJ8_hugeLength_7cf53_21 : decode cJ8_hugeLength_7cf53 21 = .ok (.invokevirtual 94, 3) := by decide +kernel
theorem dJ8_hugeLength_7cf53_24 : decode cJ8_hugeLength_7cf53 24 = .ok (.iload_n 0, 1) := by decide +kernel
theorem dJ8_hugeLength_7cf53_25 : decode cJ8_hugeLength_7cf53 25 = .ok (.invokevirtual 98, 3) := by decide +kernel
theorem dJ8_hugeLength_7cf53_28 : decode cJ8_hugeLength_7cf53 28 = .ok (.ldc 208, 2) := by decide +kernel
theorem dJ8_hugeLength_7cf53_30 : decode cJ8_hugeLength_7cf53 30 = .ok (.invokevirtual 94, 3) := by decide +kernel
theorem dJ8_hugeLength_7cf53_33 : decode cJ8_hugeLength_7cf53 33 = .ok (.iload_n 1, 1) := by decide +kernel
theorem dJ8_hugeLength_7cf53_34 : decode cJ8_hugeLength_7cf53 34 = .ok (.invokevirtual 98, 3) := by decide +kernel
theorem dJ8_hugeLength_7cf53_37 : decode cJ8_hugeLength_7cf53 37 = .ok (.ldc 210, 2) := by decide +kernel
theorem dJ8_hugeLength_7cf53_39 : decode cJ8_hugeLength_7cf53 39 = .ok (.invokevirtual 94, 3) := by decide +kernel
theorem dJ8_hugeLength_7cf53_42 : decode cJ8_hugeLength_7cf53 42 = .ok (.invokevirtual 101, 3) := by decide +kernel
theorem dJ8_hugeLength_7cf53_45 : decode cJ8_hugeLength_7cf53 45 = .ok (.invokespecial 212, 3) := by decide +kernel
theorem dJ8_hugeLength_7cf53_48 : decode cJ8_hugeLength_7cf53 48 = .ok (.athrow, 1) := by decide +kernel
theorem dJ8_hugeLength_7cf53_49 : decode cJ8_hugeLength_7cf53 49 = .ok (.iload_n 2, 1) := by decide +kernel
theorem dJ8_hugeLength_7cf53_50 : decode cJ8_hugeLength_7cf53 50 = .ok (.ldc 200, 2) := by decide +kernel
theorem dJ8_hugeLength_7cf53_52 : decode cJ8_hugeLength_7cf53 52 = .ok (.if_icmp .gt 6, 3) := by decide +kernel
theorem dJ8_hugeLength_7cf53_55 : decode cJ8_hugeLength_7cf53 55 = .ok (.ldc 200, 2) := by decide +kernel
theorem dJ8_hugeLength_7cf53_57 : decode cJ8_hugeLength_7cf53 57 = .ok (.ireturn, 1) := by decide +kernel
theorem dJ8_hugeLength_7cf53_58 : decode cJ8_hugeLength_7cf53 58 = .ok (.iload_n 2, 1) := by decide +kernel
theorem dJ8_hugeLength_7cf53_59 : decode cJ8_hugeLength_7cf53 59 = .ok (.ireturn, 1) := by decide +kernel
theorem dJ3_checkIndex_8e157_0 : decode cJ3_checkIndex_8e157 0 = .ok (.iload_n 0, 1) := by decide +kernel
theorem dJ3_checkIndex_8e157_1 : decode cJ3_checkIndex_8e157 1 = .ok (.ifCond .lt 8, 3) := by decide +kernel
theorem dJ3_checkIndex_8e157_4 : decode cJ3_checkIndex_8e157 4 = .ok (.iload_n 0, 1) := by decide +kernel
theorem dJ3_checkIndex_8e157_5 : decode cJ3_checkIndex_8e157 5 = .ok (.iload_n 1, 1) := by decide +kernel
theorem dJ3_checkIndex_8e157_6 : decode cJ3_checkIndex_8e157 6 = .ok (.if_icmp .lt 10, 3) := by decide +kernel
theorem dJ3_checkIndex_8e157_9 : decode cJ3_checkIndex_8e157 9 = .ok (.aload_n 2, 1) := by decide +kernel
theorem dJ3_checkIndex_8e157_10 : decode cJ3_checkIndex_8e157 10 = .ok (.iload_n 0, 1) := by decide +kernel
theorem dJ3_checkIndex_8e157_11 : decode cJ3_checkIndex_8e157 11 = .ok (.iload_n 1, 1) := by decide +kernel
theorem dJ3_checkIndex_8e157_12 : decode cJ3_checkIndex_8e157 12 = .ok (.invokestatic 95, 3) := by decide +kernel
theorem dJ3_checkIndex_8e157_15 : decode cJ3_checkIndex_8e157 15 = .ok (.athrow, 1) := by decide +kernel
theorem dJ3_checkIndex_8e157_16 : decode cJ3_checkIndex_8e157 16 = .ok (.iload_n 0, 1) := by decide +kernel
theorem dJ3_checkIndex_8e157_17 : decode cJ3_checkIndex_8e157 17 = .ok (.ireturn, 1) := by decide +kernel
set_option maxRecDepth 20000 in
theorem ggL_law_X7_init : GoodIn wsL_law wsX7_init := goodIn_r _ [8, 9, 10, 11, 12, 13, 14, 15, 16, 17, 18, 19, 20, 21, 22, 23, 24, 25, 26, 27, 28, 29, 30, 31, 32, 33, 34, 35, 36, 37, 38, 39, 40, 41, 42, 43, 44, 45, 46, 47, 48, 49, 50, 51, 52, 53, 54, 55, 56, 57, 58, 59, 60, 61, 62, 63, 64, 65, 66, 67, 68, 69, 70, 71, 72, 73, 74, 75, 76, 77, 78, 79, 80, 81, 82, 83, 2, 84, 85, 86, 87, 88, 89, 90, 91, 92, 93, 94, 95, 96, 97, 98, 99, 100, 101, 102, 103, 104, 105, 106, 107, 108, 109, 110, 111, 112, 113, 114, 115, 116, 117, 118, 819, 820, 821, 822, 823, 824, 825, 826, 827, 828, 829, 830, 860, 861, 862, 863, 864, 865, 866, 867, 868, 869, 870, 871, 872, 873, 874, 875, 876, 877, 878, 879] (by decide +kernel) (by decide +kernel)
set_option maxRecDepth 20000 in
theorem gL_law_X7_init : GoodIn wsL_law (wsX7_init) := ggL_law_X7_init
set_option maxRecDepth 20000 in
theorem ggL_law_X8_init : GoodIn wsL_law wsX8_init := goodIn_r _ [121, 122, 10, 11, 123, 124, 125, 126, 78, 127, 128, 129, 130, 131, 132, 133, 134, 135, 136, 137, 138, 139, 140, 141, 142, 143, 144, 145, 146, 147, 148, 5, 149, 150, 151, 152, 153, 154, 155, 156, 831, 832, 833, 834, 835, 836, 837, 838, 839, 840, 841, 842, 843, 844, 845, 846, 847, 848, 849, 850, 851, 852, 853, 854, 855, 856, 857, 858, 859] (by decide +kernel) (by decide +kernel)
set_option maxRecDepth 20000 in
theorem gL_law_X8_init : GoodIn wsL_law (wsX8_init) := ggL_law_X8_init
set_option maxRecDepth 20000 in
theorem ggL_law_X7_reset : GoodIn wsL_law wsX7_reset := goodIn_r _ [160, 85, 81, 82, 83, 2, 84, 13, 86, 87, 19, 88, 89, 90, 91, 92, 93, 94, 95, 96, 25, 97, 68, 71, 98, 99, 100, 101, 102, 103, 104, 33, 105, 106, 107, 39, 108, 109, 110, 111, 22, 112, 55, 113, 114, 115, 116, 18, 117, 34, 118, 819, 820, 821, 822, 823, 824, 825, 826, 827, 828, 829, 830, 863, 864, 865, 866, 867, 868, 869, 873, 874, 875, 861, 862, 876, 877, 878, 879, 860] (by decide +kernel) (by decide +kernel)
set_option maxRecDepth 20000 in
theorem gL_law_X7_reset : GoodIn wsL_law (wsV RL 13 RX7 yX7_reset wsX7_reset) := goodIn_app (goodIn_of _ (by decide +kernel)) ggL_law_X7_reset
set_option maxRecDepth 20000 in
theorem ggL_law_X8_reset : GoodIn wsL_law wsX8_reset := goodIn_r _ [164, 165, 166, 123, 167, 168, 5, 169, 146, 147, 148, 149, 125, 126, 127, 128, 129, 135, 150, 151, 152, 153, 154, 155, 156, 141, 831, 832, 833, 834, 835, 836, 837, 838, 839, 840, 841, 842, 843, 844, 845, 846, 847, 848, 849, 850, 851, 852, 853, 854, 855, 856, 857, 858, 859] (by decide +kernel) (by decide +kernel)
set_option maxRecDepth 20000 in
theorem gL_law_X8_reset : GoodIn wsL_law (wsV RL 17 RX8 yX8_reset wsX8_reset) := goodIn_app (goodIn_of _ (by decide +kernel)) ggL_law_X8_reset
set_option maxRecDepth 20000 in
theorem ggL_law_X7_crash : GoodIn wsL_law wsX7_crash := goodIn_r _ [173, 174, 175, 19, 88, 176, 177, 178, 2, 179, 85, 13, 180, 181, 182, 18, 183, 34, 184, 185, 186, 187, 188, 33, 189, 108, 190, 191, 192, 193, 194, 195, 196, 197, 198, 199, 200, 201, 202, 203, 204, 205, 39, 206, 207, 208, 209, 210, 211, 212, 213, 106, 107, 214, 215, 216, 217, 218, 219, 220, 221, 222, 223, 224, 225, 226, 227, 228, 229, 230, 231, 232, 233, 234, 235, 236, 237, 238, 239, 863, 864, 865, 866, 867, 868, 869, 819, 820, 821, 822, 823, 824, 825, 826, 827, 828, 829, 830, 860, 880, 881, 882, 873, 874, 875] (by decide +kernel) (by decide +kernel)
set_option maxRecDepth 20000 in
theorem gL_law_X7_crash : GoodIn wsL_law (wsV RL 18 RX7 yX7_crash wsX7_crash) := goodIn_app (goodIn_of _ (by decide +kernel)) ggL_law_X7_crash
set_option maxRecDepth 20000 in
theorem ggL_law_X8_crash : GoodIn wsL_law wsX8_crash := goodIn_r _ [243, 125, 126, 156, 143, 144, 145, 150, 244, 245, 246, 5, 247, 123, 167, 168, 169, 248, 249, 250, 251, 252, 253, 254, 255, 256, 257, 258, 259, 260, 261, 262, 263, 831, 832, 833, 834, 835, 836, 837, 838, 839, 840, 841, 842, 843, 844, 845, 846, 847, 848, 849, 850, 851, 852, 853, 854, 855, 856, 857, 858, 859] (by decide +kernel) (by decide +kernel)
set_option maxRecDepth 20000 in
theorem gL_law_X8_crash : GoodIn wsL_law (wsV RL 21 RX8 yX8_crash wsX8_crash) := goodIn_app (goodIn_of _ (by decide +kernel)) ggL_law_X8_crash
set_option maxRecDepth 20000 in
theorem ggL_law_X7_restart : GoodIn wsL_law wsX7_restart := goodIn_r _ [267, 174, 176, 177, 178, 2, 179, 85, 13, 236, 237, 238, 239, 863, 864, 865, 866, 867, 868, 869, 819, 820, 821, 822, 823, 824, 825, 826, 827, 828, 829, 830] (by decide +kernel) (by decide +kernel)
set_option maxRecDepth 20000 in
theorem gL_law_X7_restart : GoodIn wsL_law (wsV RL 22 RX7 yX7_restart wsX7_restart) := goodIn_app (goodIn_of _ (by decide +kernel)) ggL_law_X7_restart
set_option maxRecDepth 20000 in
theorem ggL_law_X8_restart : GoodIn wsL_law wsX8_restart := goodIn_r _ [271, 125, 244, 245, 246, 5, 247, 123, 167, 168, 169, 260, 261, 262, 263, 831, 832, 833, 834, 835, 836, 837, 838, 839, 840, 841, 842, 843, 844, 845, 846, 847, 848, 849, 850, 851, 852, 853, 854, 855, 856, 857, 858, 859] (by decide +kernel) (by decide +kernel)
set_option maxRecDepth 20000 in
theorem gL_law_X8_restart : GoodIn wsL_law (wsV RL 25 RX8 yX8_restart wsX8_restart) := goodIn_app (goodIn_of _ (by decide +kernel)) ggL_law_X8_restart
set_option maxRecDepth 20000 in
theorem ggL_law_X7_elect : GoodIn wsL_law wsX7_elect := goodIn_r _ [275, 88, 86, 236, 237, 238, 2, 239, 13, 174, 228, 229, 230, 231, 85, 276, 277, 278, 279, 280, 281, 282, 25, 283, 100, 284, 285, 286, 287, 68, 288, 289, 290, 291, 292, 33, 293, 108, 294, 187, 188, 189, 295, 191, 192, 193, 194, 195, 196, 197, 198, 199, 200, 201, 202, 203, 204, 205, 39, 296, 297, 298, 299, 300, 89, 90, 175, 226, 91, 19, 301, 302, 303, 304, 305, 306, 307, 308, 309, 310, 311, 312, 313, 207, 208, 209, 210, 211, 212, 213, 106, 107, 214, 215, 216, 217, 314, 315, 316, 317, 318, 319, 320, 321, 322, 323, 324, 325, 326, 327, 328, 329, 38, 330, 331, 332, 333, 334, 335, 336, 337, 338, 339, 340, 341, 342, 343, 344, 345, 346, 347, 348, 349, 350, 351, 352, 353, 354, 355, 356, 357, 227, 358, 359, 360, 361, 101, 71, 362, 363, 364, 22, 365, 366, 367, 368, 369, 370, 371, 113, 372, 373, 374, 375, 376, 56, 377, 378, 379, 380, 381, 55, 382, 383, 384, 18, 385, 34, 184, 386, 186, 190, 387, 388, 389, 390, 391, 392, 393, 394, 395, 396, 27, 397, 79, 398, 206, 399, 400, 401, 402, 403, 404, 405, 406, 407, 408, 409, 58, 410, 62, 411, 412, 413, 414, 415, 416, 417, 418, 419, 420, 421, 422, 423, 424, 23, 425, 426, 110, 111, 112, 427, 428, 819, 820, 821, 822, 823, 824, 825, 826, 827, 828, 829, 830, 863, 864, 865, 866, 867, 868, 869, 883, 884, 885, 886, 887, 873, 874, 875, 876, 877, 878, 879, 861, 862, 860, 880, 881, 882, 870, 871, 872] (by decide +kernel) (by decide +kernel)
set_option maxRecDepth 20000 in
theorem gL_law_X7_elect : GoodIn wsL_law (wsV RL 26 RX7 yX7_elect wsX7_elect) := goodIn_app (goodIn_of _ (by decide +kernel)) ggL_law_X7_elect
set_option maxRecDepth 20000 in
theorem ggL_law_X8_elect : GoodIn wsL_law wsX8_elect := goodIn_r _ [432, 150, 151, 123, 125, 127, 152, 126, 129, 153, 260, 261, 262, 5, 263, 252, 253, 254, 255, 433, 434, 435, 436, 130, 437, 438, 439, 440, 441, 442, 443, 444, 445, 446, 447, 448, 131, 132, 133, 134, 449, 450, 451, 452, 128, 453, 454, 455, 456, 135, 136, 137, 138, 139, 457, 458, 459, 460, 461, 462, 463, 464, 156, 143, 145, 144, 142, 141, 465, 466, 467, 468, 469, 470, 471, 472, 831, 832, 833, 834, 835, 836, 837, 838, 839, 840, 841, 842, 843, 844, 845, 846, 847, 848, 849, 850, 851, 852, 853, 854, 855, 856, 857, 858, 859] (by decide +kernel) (by decide +kernel)
set_option maxRecDepth 20000 in
theorem gL_law_X8_elect : GoodIn wsL_law (wsV RL 30 RX8 yX8_elect wsX8_elect) := goodIn_app (goodIn_of _ (by decide +kernel)) ggL_law_X8_elect
set_option maxRecDepth 20000 in
theorem ggL_law_X7_synchronize : GoodIn wsL_law wsX7_synchronize := goodIn_r _ [476, 88, 174, 175, 89, 300, 91, 19, 176, 177, 178, 2, 179, 85, 13, 301, 302, 303, 25, 304, 68, 288, 305, 306, 307, 308, 309, 310, 311, 312, 289, 294, 187, 188, 33, 189, 108, 295, 191, 192, 193, 194, 195, 196, 197, 198, 199, 200, 201, 202, 203, 204, 205, 39, 313, 207, 208, 209, 210, 211, 212, 213, 106, 107, 214, 215, 216, 217, 314, 315, 316, 317, 318, 319, 320, 321, 322, 323, 324, 325, 326, 327, 328, 329, 38, 330, 331, 332, 333, 334, 335, 336, 337, 338, 339, 340, 341, 342, 343, 344, 345, 346, 347, 348, 349, 350, 351, 352, 353, 354, 355, 356, 357, 477, 478, 479, 480, 226, 227, 222, 223, 224, 225, 228, 229, 230, 231, 358, 359, 360, 361, 101, 71, 362, 363, 364, 22, 365, 366, 367, 368, 369, 370, 371, 113, 372, 373, 374, 375, 376, 56, 377, 378, 379, 380, 381, 55, 382, 383, 384, 18, 385, 34, 184, 386, 186, 190, 387, 388, 389, 390, 391, 392, 393, 394, 395, 396, 27, 397, 79, 398, 206, 399, 400, 401, 402, 403, 404, 405, 406, 407, 408, 409, 58, 410, 62, 411, 412, 413, 414, 415, 416, 417, 418, 419, 420, 819, 820, 821, 822, 823, 824, 825, 826, 827, 828, 829, 830, 863, 864, 865, 866, 867, 868, 869, 883, 884, 885, 886, 887, 873, 874, 875, 876, 877, 878, 879, 861, 862, 860, 880, 881, 882, 870, 871, 872] (by decide +kernel) (by decide +kernel)
set_option maxRecDepth 20000 in
theorem gL_law_X7_synchronize : GoodIn wsL_law (wsV RL 31 RX7 yX7_synchronize wsX7_synchronize) := goodIn_app (goodIn_of _ (by decide +kernel)) ggL_law_X7_synchronize
set_option maxRecDepth 20000 in
theorem ggL_law_X8_synchronize : GoodIn wsL_law wsX8_synchronize := goodIn_r _ [484, 150, 125, 126, 127, 151, 153, 244, 245, 246, 5, 247, 123, 167, 168, 169, 437, 438, 439, 440, 129, 441, 442, 443, 444, 130, 445, 446, 447, 448, 131, 132, 133, 134, 485, 486, 487, 488, 252, 253, 254, 255, 449, 450, 451, 452, 128, 453, 454, 455, 456, 135, 136, 137, 138, 139, 457, 458, 459, 460, 461, 462, 463, 464, 156, 143, 145, 144, 142, 141, 465, 466, 467, 468, 469, 470, 471, 472, 831, 832, 833, 834, 835, 836, 837, 838, 839, 840, 841, 842, 843, 844, 845, 846, 847, 848, 849, 850, 851, 852, 853, 854, 855, 856, 857, 858, 859] (by decide +kernel) (by decide +kernel)
set_option maxRecDepth 20000 in
theorem gL_law_X8_synchronize : GoodIn wsL_law (wsV RL 34 RX8 yX8_synchronize wsX8_synchronize) := goodIn_app (goodIn_of _ (by decide +kernel)) ggL_law_X8_synchronize
set_option maxRecDepth 20000 in
theorem ggL_law_X7_accept : GoodIn wsL_law wsX7_accept := goodIn_r _ [492, 88, 226, 425, 493, 176, 177, 178, 2, 179, 85, 13, 494, 495, 496, 497, 175, 227, 187, 188, 33, 189, 108, 427, 191, 192, 193, 194, 195, 196, 197, 198, 199, 200, 201, 202, 203, 204, 205, 39, 498, 315, 316, 317, 106, 107, 318, 319, 320, 321, 322, 323, 324, 325, 326, 327, 328, 329, 38, 330, 331, 311, 332, 333, 334, 335, 336, 337, 338, 339, 340, 341, 342, 343, 344, 345, 346, 347, 348, 349, 350, 351, 352, 353, 354, 355, 356, 310, 312, 357, 215, 216, 217, 477, 478, 479, 480, 91, 19, 222, 223, 224, 225, 228, 229, 230, 231, 358, 359, 360, 25, 361, 68, 309, 101, 71, 288, 294, 295, 362, 363, 364, 22, 365, 366, 367, 368, 369, 370, 371, 113, 372, 373, 374, 375, 376, 56, 377, 378, 379, 380, 381, 55, 382, 383, 384, 18, 385, 34, 184, 386, 186, 190, 387, 388, 389, 390, 391, 392, 393, 394, 395, 396, 27, 397, 79, 398, 206, 207, 208, 209, 210, 211, 212, 213, 214, 399, 400, 401, 402, 403, 404, 405, 406, 407, 408, 409, 58, 410, 62, 411, 412, 413, 414, 415, 416, 417, 418, 419, 420, 819, 820, 821, 822, 823, 824, 825, 826, 827, 828, 829, 830, 863, 864, 865, 866, 867, 868, 869, 883, 884, 885, 886, 887, 873, 874, 875, 876, 877, 878, 879, 861, 862, 860, 880, 881, 882, 870, 871, 872] (by decide +kernel) (by decide +kernel)
set_option maxRecDepth 20000 in
theorem gL_law_X7_accept : GoodIn wsL_law (wsV RL 35 RX7 yX7_accept wsX7_accept) := goodIn_app (goodIn_of _ (by decide +kernel)) ggL_law_X7_accept
set_option maxRecDepth 20000 in
theorem ggL_law_X8_accept : GoodIn wsL_law wsX8_accept := goodIn_r _ [502, 129, 150, 244, 245, 246, 5, 247, 123, 167, 168, 169, 503, 504, 505, 506, 126, 445, 446, 447, 448, 130, 131, 132, 133, 134, 485, 486, 487, 488, 153, 252, 253, 254, 255, 449, 450, 451, 452, 128, 453, 454, 455, 456, 135, 136, 137, 138, 139, 457, 458, 459, 460, 461, 462, 463, 464, 156, 143, 145, 144, 142, 141, 465, 466, 467, 468, 469, 470, 471, 472, 433, 434, 435, 436, 831, 832, 833, 834, 835, 836, 837, 838, 839, 840, 841, 842, 843, 844, 845, 846, 847, 848, 849, 850, 851, 852, 853, 854, 855, 856, 857, 858, 859] (by decide +kernel) (by decide +kernel)
set_option maxRecDepth 20000 in
theorem gL_law_X8_accept : GoodIn wsL_law (wsV RL 38 RX8 yX8_accept wsX8_accept) := goodIn_app (goodIn_of _ (by decide +kernel)) ggL_law_X8_accept
set_option maxRecDepth 20000 in
theorem ggL_law_X7_heartbeat : GoodIn wsL_law wsX7_heartbeat := goodIn_r _ [510, 91, 19, 176, 177, 178, 2, 179, 85, 13, 494, 495, 496, 497, 175, 88, 358, 359, 360, 25, 361, 68, 309, 310, 311, 312, 101, 71, 288, 294, 187, 188, 33, 189, 108, 295, 191, 192, 193, 194, 195, 196, 197, 198, 199, 200, 201, 202, 203, 204, 205, 39, 362, 363, 364, 22, 365, 366, 367, 368, 369, 370, 371, 113, 372, 373, 374, 375, 376, 56, 377, 378, 379, 380, 381, 55, 382, 383, 384, 18, 385, 34, 184, 386, 186, 190, 387, 388, 389, 390, 391, 392, 393, 394, 395, 396, 27, 397, 79, 398, 206, 207, 208, 209, 210, 211, 212, 213, 106, 107, 214, 215, 216, 217, 399, 400, 401, 402, 403, 404, 405, 406, 407, 408, 409, 58, 410, 62, 411, 412, 413, 414, 415, 416, 417, 418, 419, 420, 819, 820, 821, 822, 823, 824, 825, 826, 827, 828, 829, 830, 863, 864, 865, 866, 867, 868, 869, 873, 874, 875, 883, 884, 885, 886, 887, 876, 877, 878, 879, 861, 862, 860, 880, 881, 882, 870, 871, 872] (by decide +kernel) (by decide +kernel)
set_option maxRecDepth 20000 in
theorem gL_law_X7_heartbeat : GoodIn wsL_law (wsV RL 39 RX7 yX7_heartbeat wsX7_heartbeat) := goodIn_app (goodIn_of _ (by decide +kernel)) ggL_law_X7_heartbeat
set_option maxRecDepth 20000 in
theorem ggL_law_X8_heartbeat : GoodIn wsL_law wsX8_heartbeat := goodIn_r _ [514, 153, 244, 245, 246, 5, 247, 123, 167, 168, 169, 503, 504, 505, 506, 126, 150, 449, 450, 451, 452, 128, 129, 453, 454, 455, 456, 132, 131, 135, 136, 137, 133, 138, 139, 134, 130, 457, 458, 459, 460, 461, 462, 463, 464, 156, 143, 145, 144, 142, 141, 465, 466, 467, 468, 469, 470, 471, 472, 831, 832, 833, 834, 835, 836, 837, 838, 839, 840, 841, 842, 843, 844, 845, 846, 847, 848, 849, 850, 851, 852, 853, 854, 855, 856, 857, 858, 859] (by decide +kernel) (by decide +kernel)
set_option maxRecDepth 20000 in
theorem gL_law_X8_heartbeat : GoodIn wsL_law (wsV RL 42 RX8 yX8_heartbeat wsX8_heartbeat) := goodIn_app (goodIn_of _ (by decide +kernel)) ggL_law_X8_heartbeat
set_option maxRecDepth 20000 in
theorem ggL_law_X7_leader : GoodIn wsL_law wsX7_leader := goodIn_r _ [518, 88, 86, 819, 820, 821, 822, 823, 824, 825, 826, 827, 828, 829, 830, 863, 864, 865, 866, 867, 868, 869] (by decide +kernel) (by decide +kernel)
set_option maxRecDepth 20000 in
theorem gL_law_X7_leader : GoodIn wsL_law (wsV RL 43 RX7 yX7_leader wsX7_leader) := goodIn_app (goodIn_of _ (by decide +kernel)) ggL_law_X7_leader
set_option maxRecDepth 20000 in
theorem ggL_law_X8_leader : GoodIn wsL_law wsX8_leader := goodIn_r _ [522, 150, 831, 832, 833, 834, 835, 836, 837, 838, 839, 840, 841, 842, 843, 844, 845, 846, 847, 848, 849, 850, 851, 852, 853, 854, 855, 856, 857, 858, 859] (by decide +kernel) (by decide +kernel)
set_option maxRecDepth 20000 in
theorem gL_law_X8_leader : GoodIn wsL_law (wsV RL 46 RX8 yX8_leader wsX8_leader) := goodIn_app (goodIn_of _ (by decide +kernel)) ggL_law_X8_leader
set_option maxRecDepth 20000 in
theorem ggL_law_X7_lastIdentifier : GoodIn wsL_law wsX7_lastIdentifier := goodIn_r _ [526, 176, 177, 178, 2, 179, 85, 13, 527, 285, 286, 25, 287, 68, 288, 289, 290, 291, 292, 33, 293, 108, 294, 187, 188, 189, 295, 191, 192, 193, 194, 195, 196, 197, 198, 199, 200, 201, 202, 203, 204, 205, 39, 819, 820, 821, 822, 823, 824, 825, 826, 827, 828, 829, 830, 863, 864, 865, 866, 867, 868, 869, 883, 884, 885, 886, 887, 873, 874, 875] (by decide +kernel) (by decide +kernel)
set_option maxRecDepth 20000 in
theorem gL_law_X7_lastIdentifier : GoodIn wsL_law (wsV RL 47 RX7 yX7_lastIdentifier wsX7_lastIdentifier) := goodIn_app (goodIn_of _ (by decide +kernel)) ggL_law_X7_lastIdentifier
set_option maxRecDepth 20000 in
theorem ggL_law_X8_lastIdentifier : GoodIn wsL_law wsX8_lastIdentifier := goodIn_r _ [531, 244, 245, 246, 5, 247, 123, 167, 168, 169, 433, 434, 435, 436, 129, 130, 831, 832, 833, 834, 835, 836, 837, 838, 839, 840, 841, 842, 843, 844, 845, 846, 847, 848, 849, 850, 851, 852, 853, 854, 855, 856, 857, 858, 859] (by decide +kernel) (by decide +kernel)
set_option maxRecDepth 20000 in
theorem gL_law_X8_lastIdentifier : GoodIn wsL_law (wsV RL 50 RX8 yX8_lastIdentifier wsX8_lastIdentifier) := goodIn_app (goodIn_of _ (by decide +kernel)) ggL_law_X8_lastIdentifier
set_option maxRecDepth 20000 in
theorem ggL_law_X7_appliedCount : GoodIn wsL_law wsX7_appliedCount := goodIn_r _ [535, 536, 176, 177, 178, 2, 179, 85, 13, 863, 864, 865, 866, 867, 868, 869, 819, 820, 821, 822, 823, 824, 825, 826, 827, 828, 829, 830] (by decide +kernel) (by decide +kernel)
set_option maxRecDepth 20000 in
theorem gL_law_X7_appliedCount : GoodIn wsL_law (wsV RL 51 RX7 yX7_appliedCount wsX7_appliedCount) := goodIn_app (goodIn_of _ (by decide +kernel)) ggL_law_X7_appliedCount
set_option maxRecDepth 20000 in
theorem ggL_law_X8_appliedCount : GoodIn wsL_law wsX8_appliedCount := goodIn_r _ [540, 128, 244, 245, 246, 5, 247, 123, 167, 168, 169, 831, 832, 833, 834, 835, 836, 837, 838, 839, 840, 841, 842, 843, 844, 845, 846, 847, 848, 849, 850, 851, 852, 853, 854, 855, 856, 857, 858, 859] (by decide +kernel) (by decide +kernel)
set_option maxRecDepth 20000 in
theorem gL_law_X8_appliedCount : GoodIn wsL_law (wsV RL 54 RX8 yX8_appliedCount wsX8_appliedCount) := goodIn_app (goodIn_of _ (by decide +kernel)) ggL_law_X8_appliedCount
set_option maxRecDepth 20000 in
theorem ggL_law_X7_committedCount : GoodIn wsL_law wsX7_committedCount := goodIn_r _ [544, 88, 91, 819, 820, 821, 822, 823, 824, 825, 826, 827, 828, 829, 830] (by decide +kernel) (by decide +kernel)
set_option maxRecDepth 20000 in
theorem gL_law_X7_committedCount : GoodIn wsL_law (wsV RL 55 RX7 yX7_committedCount wsX7_committedCount) := goodIn_app (goodIn_of _ (by decide +kernel)) ggL_law_X7_committedCount
set_option maxRecDepth 20000 in
theorem ggL_law_X8_committedCount : GoodIn wsL_law wsX8_committedCount := goodIn_r _ [548, 150, 153, 831, 832, 833, 834, 835, 836, 837, 838, 839, 840, 841, 842, 843, 844, 845, 846, 847, 848, 849, 850, 851, 852, 853, 854, 855, 856, 857, 858, 859] (by decide +kernel) (by decide +kernel)
set_option maxRecDepth 20000 in
theorem gL_law_X8_committedCount : GoodIn wsL_law (wsV RL 58 RX8 yX8_committedCount wsX8_committedCount) := goodIn_app (goodIn_of _ (by decide +kernel)) ggL_law_X8_committedCount
set_option maxRecDepth 20000 in
theorem ggL_law_X7_acceptedEpoch : GoodIn wsL_law wsX7_acceptedEpoch := goodIn_r _ [552, 300, 176, 177, 178, 2, 179, 85, 13, 863, 864, 865, 866, 867, 868, 869, 819, 820, 821, 822, 823, 824, 825, 826, 827, 828, 829, 830] (by decide +kernel) (by decide +kernel)
set_option maxRecDepth 20000 in
theorem gL_law_X7_acceptedEpoch : GoodIn wsL_law (wsV RL 59 RX7 yX7_acceptedEpoch wsX7_acceptedEpoch) := goodIn_app (goodIn_of _ (by decide +kernel)) ggL_law_X7_acceptedEpoch
set_option maxRecDepth 20000 in
theorem ggL_law_X8_acceptedEpoch : GoodIn wsL_law wsX8_acceptedEpoch := goodIn_r _ [556, 127, 244, 245, 246, 5, 247, 123, 167, 168, 169, 831, 832, 833, 834, 835, 836, 837, 838, 839, 840, 841, 842, 843, 844, 845, 846, 847, 848, 849, 850, 851, 852, 853, 854, 855, 856, 857, 858, 859] (by decide +kernel) (by decide +kernel)
set_option maxRecDepth 20000 in
theorem gL_law_X8_acceptedEpoch : GoodIn wsL_law (wsV RL 62 RX8 yX8_acceptedEpoch wsX8_acceptedEpoch) := goodIn_app (goodIn_of _ (by decide +kernel)) ggL_law_X8_acceptedEpoch
set_option maxRecDepth 20000 in
theorem ggL_law_X7_appendName : GoodIn wsL_law wsX7_appendName := goodIn_r _ [560, 93, 92, 819, 820, 821, 822, 823, 824, 825, 826, 827, 828, 829, 830] (by decide +kernel) (by decide +kernel)
set_option maxRecDepth 20000 in
theorem gL_law_X7_appendName : GoodIn wsL_law (wsV RL 63 RX7 yX7_appendName wsX7_appendName) := goodIn_app (goodIn_of _ (by decide +kernel)) ggL_law_X7_appendName
set_option maxRecDepth 20000 in
theorem ggL_law_X8_appendName : GoodIn wsL_law wsX8_appendName := goodIn_r _ [564, 166, 154, 140, 167, 168, 5, 169, 831, 832, 833, 834, 835, 836, 837, 838, 839, 840, 841, 842, 843, 844, 845, 846, 847, 848, 849, 850, 851, 852, 853, 854, 855, 856, 857, 858, 859] (by decide +kernel) (by decide +kernel)
set_option maxRecDepth 20000 in
theorem gL_law_X8_appendName : GoodIn wsL_law (wsV RL 66 RX8 yX8_appendName wsX8_appendName) := goodIn_app (goodIn_of _ (by decide +kernel)) ggL_law_X8_appendName
set_option maxRecDepth 20000 in
theorem ggL_law_X7_clearPath : GoodIn wsL_law wsX7_clearPath := goodIn_r _ [568, 93, 92, 819, 820, 821, 822, 823, 824, 825, 826, 827, 828, 829, 830] (by decide +kernel) (by decide +kernel)
set_option maxRecDepth 20000 in
theorem gL_law_X7_clearPath : GoodIn wsL_law (wsV RL 67 RX7 yX7_clearPath wsX7_clearPath) := goodIn_app (goodIn_of _ (by decide +kernel)) ggL_law_X7_clearPath
set_option maxRecDepth 20000 in
theorem ggL_law_X8_clearPath : GoodIn wsL_law wsX8_clearPath := goodIn_r _ [572, 154, 831, 832, 833, 834, 835, 836, 837, 838, 839, 840, 841, 842, 843, 844, 845, 846, 847, 848, 849, 850, 851, 852, 853, 854, 855, 856, 857, 858, 859] (by decide +kernel) (by decide +kernel)
set_option maxRecDepth 20000 in
theorem gL_law_X8_clearPath : GoodIn wsL_law (wsV RL 70 RX8 yX8_clearPath wsX8_clearPath) := goodIn_app (goodIn_of _ (by decide +kernel)) ggL_law_X8_clearPath
set_option maxRecDepth 20000 in
theorem ggL_law_X7_create : GoodIn wsL_law wsX7_create := goodIn_r _ [576, 88, 92, 23, 577, 578, 2, 579, 580, 581, 582, 583, 87, 15, 584, 585, 586, 25, 587, 68, 288, 588, 589, 294, 187, 188, 33, 189, 108, 295, 191, 192, 193, 194, 195, 196, 197, 198, 199, 200, 201, 202, 203, 204, 205, 39, 590, 379, 380, 22, 381, 55, 113, 591, 592, 593, 594, 595, 596, 597, 376, 378, 598, 599, 600, 601, 602, 603, 604, 605, 226, 90, 89, 606, 607, 608, 19, 227, 609, 610, 611, 612, 10, 11, 613, 614, 615, 616, 617, 498, 315, 316, 317, 106, 107, 318, 319, 320, 321, 322, 323, 324, 325, 326, 327, 328, 329, 38, 330, 331, 311, 332, 333, 334, 335, 336, 337, 338, 339, 340, 341, 342, 343, 344, 345, 346, 347, 348, 349, 350, 351, 352, 353, 354, 355, 356, 310, 312, 357, 215, 216, 217, 428, 363, 364, 365, 366, 367, 368, 369, 370, 371, 372, 373, 374, 375, 56, 377, 382, 383, 384, 18, 385, 34, 184, 386, 186, 190, 387, 388, 389, 390, 391, 392, 393, 394, 395, 396, 27, 397, 79, 398, 206, 207, 208, 209, 210, 211, 212, 213, 214, 399, 400, 401, 402, 403, 404, 405, 406, 407, 408, 409, 58, 410, 62, 411, 412, 413, 414, 415, 416, 417, 418, 419, 420, 819, 820, 821, 822, 823, 824, 825, 826, 827, 828, 829, 830, 863, 864, 865, 866, 867, 868, 869, 883, 884, 885, 886, 887, 873, 874, 875, 861, 862, 876, 877, 878, 879, 860, 880, 881, 882, 870, 871, 872] (by decide +kernel) (by decide +kernel)
set_option maxRecDepth 20000 in
theorem gL_law_X7_create : GoodIn wsL_law (wsV RL 71 RX7 yX7_create wsX7_create) := goodIn_app (goodIn_of _ (by decide +kernel)) ggL_law_X7_create
set_option maxRecDepth 20000 in
theorem ggL_law_X8_create : GoodIn wsL_law wsX8_create := goodIn_r _ [621, 622, 150, 139, 135, 167, 168, 5, 169, 623, 624, 625, 626, 155, 627, 628, 629, 630, 129, 131, 134, 631, 632, 633, 634, 453, 454, 455, 456, 132, 136, 137, 133, 138, 130, 457, 458, 459, 460, 461, 462, 463, 464, 156, 143, 145, 144, 142, 141, 465, 466, 467, 468, 469, 470, 471, 472, 635, 636, 637, 638, 154, 140, 639, 640, 641, 642, 643, 644, 645, 646, 647, 648, 152, 151, 831, 832, 833, 834, 835, 836, 837, 838, 839, 840, 841, 842, 843, 844, 845, 846, 847, 848, 849, 850, 851, 852, 853, 854, 855, 856, 857, 858, 859] (by decide +kernel) (by decide +kernel)
set_option maxRecDepth 20000 in
theorem gL_law_X8_create : GoodIn wsL_law (wsV RL 75 RX8 yX8_create wsX8_create) := goodIn_app (goodIn_of _ (by decide +kernel)) ggL_law_X8_create
set_option maxRecDepth 20000 in
theorem ggL_law_X7_setData : GoodIn wsL_law wsX7_setData := goodIn_r _ [652, 88, 92, 23, 577, 578, 2, 579, 653, 654, 655, 590, 379, 380, 22, 381, 55, 113, 656, 657, 658, 58, 659, 660, 602, 603, 604, 605, 226, 90, 89, 606, 607, 608, 19, 227, 187, 188, 33, 189, 108, 609, 610, 611, 612, 10, 11, 613, 614, 615, 616, 617, 498, 315, 316, 317, 106, 107, 39, 318, 319, 320, 321, 322, 323, 324, 325, 326, 327, 328, 329, 38, 330, 331, 311, 332, 333, 334, 335, 336, 337, 338, 339, 340, 341, 342, 343, 344, 345, 346, 347, 348, 349, 350, 351, 352, 353, 354, 355, 356, 310, 312, 357, 215, 216, 217, 428, 363, 364, 365, 366, 367, 368, 369, 370, 371, 372, 373, 374, 375, 376, 56, 377, 378, 382, 383, 384, 18, 385, 34, 184, 386, 186, 190, 191, 192, 193, 194, 195, 196, 197, 198, 199, 200, 201, 202, 203, 204, 205, 387, 388, 389, 390, 391, 392, 393, 394, 395, 396, 27, 397, 79, 398, 206, 207, 208, 209, 210, 211, 212, 213, 214, 399, 400, 401, 402, 403, 404, 405, 406, 407, 408, 409, 410, 62, 411, 412, 413, 414, 415, 416, 417, 418, 419, 420, 819, 820, 821, 822, 823, 824, 825, 826, 827, 828, 829, 830, 861, 862, 876, 877, 878, 879, 863, 864, 865, 866, 867, 868, 869, 883, 884, 885, 886, 887, 873, 874, 875, 860, 880, 881, 882, 870, 871, 872] (by decide +kernel) (by decide +kernel)
set_option maxRecDepth 20000 in
theorem gL_law_X7_setData : GoodIn wsL_law (wsV RL 76 RX7 yX7_setData wsX7_setData) := goodIn_app (goodIn_of _ (by decide +kernel)) ggL_law_X7_setData
set_option maxRecDepth 20000 in
theorem ggL_law_X8_setData : GoodIn wsL_law wsX8_setData := goodIn_r _ [664, 622, 167, 168, 5, 169, 665, 666, 667, 668, 669, 670, 671, 150, 154, 138, 631, 632, 633, 634, 135, 129, 453, 454, 455, 456, 132, 131, 136, 137, 133, 139, 134, 130, 457, 458, 459, 460, 461, 462, 463, 464, 156, 143, 145, 144, 142, 141, 465, 466, 467, 468, 469, 470, 471, 472, 635, 636, 637, 638, 140, 645, 646, 647, 648, 152, 151, 831, 832, 833, 834, 835, 836, 837, 838, 839, 840, 841, 842, 843, 844, 845, 846, 847, 848, 849, 850, 851, 852, 853, 854, 855, 856, 857, 858, 859] (by decide +kernel) (by decide +kernel)
set_option maxRecDepth 20000 in
theorem gL_law_X8_setData : GoodIn wsL_law (wsV RL 79 RX8 yX8_setData wsX8_setData) := goodIn_app (goodIn_of _ (by decide +kernel)) ggL_law_X8_setData
set_option maxRecDepth 20000 in
theorem ggL_law_X7_delete : GoodIn wsL_law wsX7_delete := goodIn_r _ [675, 88, 92, 23, 653, 654, 2, 655, 590, 379, 380, 22, 381, 55, 113, 656, 657, 658, 58, 659, 660, 676, 677, 678, 679, 592, 593, 602, 603, 604, 605, 226, 90, 89, 606, 607, 608, 19, 227, 187, 188, 33, 189, 108, 609, 610, 611, 612, 10, 11, 613, 614, 615, 616, 617, 498, 315, 316, 317, 106, 107, 39, 318, 319, 320, 321, 322, 323, 324, 325, 326, 327, 328, 329, 38, 330, 331, 311, 332, 333, 334, 335, 336, 337, 338, 339, 340, 341, 342, 343, 344, 345, 346, 347, 348, 349, 350, 351, 352, 353, 354, 355, 356, 310, 312, 357, 215, 216, 217, 428, 363, 364, 365, 366, 367, 368, 369, 370, 371, 372, 373, 374, 375, 376, 56, 377, 378, 382, 383, 384, 18, 385, 34, 184, 386, 186, 190, 191, 192, 193, 194, 195, 196, 197, 198, 199, 200, 201, 202, 203, 204, 205, 387, 388, 389, 390, 391, 392, 393, 394, 395, 396, 27, 397, 79, 398, 206, 207, 208, 209, 210, 211, 212, 213, 214, 399, 400, 401, 402, 403, 404, 405, 406, 407, 408, 409, 410, 62, 411, 412, 413, 414, 415, 416, 417, 418, 419, 420, 819, 820, 821, 822, 823, 824, 825, 826, 827, 828, 829, 830, 861, 862, 876, 877, 878, 879, 863, 864, 865, 866, 867, 868, 869, 883, 884, 885, 886, 887, 873, 874, 875, 860, 880, 881, 882, 870, 871, 872] (by decide +kernel) (by decide +kernel)
set_option maxRecDepth 20000 in
theorem gL_law_X7_delete : GoodIn wsL_law (wsV RL 80 RX7 yX7_delete wsX7_delete) := goodIn_app (goodIn_of _ (by decide +kernel)) ggL_law_X7_delete
set_option maxRecDepth 20000 in
theorem ggL_law_X8_delete : GoodIn wsL_law wsX8_delete := goodIn_r _ [683, 665, 666, 5, 667, 668, 669, 670, 671, 150, 154, 138, 631, 632, 633, 634, 135, 129, 453, 454, 455, 456, 132, 131, 136, 137, 133, 139, 134, 130, 457, 458, 459, 460, 461, 462, 463, 464, 156, 143, 145, 144, 142, 141, 465, 466, 467, 468, 469, 470, 471, 472, 635, 636, 637, 638, 140, 684, 685, 686, 687, 639, 640, 641, 642, 643, 644, 645, 646, 647, 648, 152, 151, 831, 832, 833, 834, 835, 836, 837, 838, 839, 840, 841, 842, 843, 844, 845, 846, 847, 848, 849, 850, 851, 852, 853, 854, 855, 856, 857, 858, 859] (by decide +kernel) (by decide +kernel)
set_option maxRecDepth 20000 in
theorem gL_law_X8_delete : GoodIn wsL_law (wsV RL 83 RX8 yX8_delete wsX8_delete) := goodIn_app (goodIn_of _ (by decide +kernel)) ggL_law_X8_delete
set_option maxRecDepth 20000 in
theorem ggL_law_X7_openSession : GoodIn wsL_law wsX7_openSession := goodIn_r _ [691, 87, 15, 692, 693, 694, 695, 27, 696, 398, 819, 820, 821, 822, 823, 824, 825, 826, 827, 828, 829, 830, 870, 871, 872] (by decide +kernel) (by decide +kernel)
set_option maxRecDepth 20000 in
theorem gL_law_X7_openSession : GoodIn wsL_law (wsV RL 84 RX7 yX7_openSession wsX7_openSession) := goodIn_app (goodIn_of _ (by decide +kernel)) ggL_law_X7_openSession
set_option maxRecDepth 20000 in
theorem ggL_law_X8_openSession : GoodIn wsL_law wsX8_openSession := goodIn_r _ [700, 155, 831, 832, 833, 834, 835, 836, 837, 838, 839, 840, 841, 842, 843, 844, 845, 846, 847, 848, 849, 850, 851, 852, 853, 854, 855, 856, 857, 858, 859] (by decide +kernel) (by decide +kernel)
set_option maxRecDepth 20000 in
theorem gL_law_X8_openSession : GoodIn wsL_law (wsV RL 87 RX8 yX8_openSession wsX8_openSession) := goodIn_app (goodIn_of _ (by decide +kernel)) ggL_law_X8_openSession
set_option maxRecDepth 20000 in
theorem ggL_law_X7_closeSession : GoodIn wsL_law wsX7_closeSession := goodIn_r _ [704, 88, 580, 581, 582, 2, 583, 87, 15, 584, 585, 586, 25, 587, 68, 288, 588, 589, 294, 187, 188, 33, 189, 108, 295, 191, 192, 193, 194, 195, 196, 197, 198, 199, 200, 201, 202, 203, 204, 205, 39, 602, 603, 604, 605, 226, 90, 89, 606, 607, 608, 23, 19, 227, 609, 610, 611, 612, 10, 11, 613, 614, 615, 616, 617, 498, 315, 316, 317, 106, 107, 318, 319, 320, 321, 322, 323, 324, 325, 326, 327, 328, 329, 38, 330, 331, 311, 332, 333, 334, 335, 336, 337, 338, 339, 340, 341, 342, 343, 344, 345, 346, 347, 348, 349, 350, 351, 352, 353, 354, 355, 356, 310, 312, 357, 215, 216, 217, 428, 363, 364, 22, 365, 366, 367, 368, 369, 370, 371, 113, 372, 373, 374, 375, 376, 56, 377, 378, 379, 380, 381, 55, 382, 383, 384, 18, 385, 34, 184, 386, 186, 190, 387, 388, 389, 390, 391, 392, 393, 394, 395, 396, 27, 397, 79, 398, 206, 207, 208, 209, 210, 211, 212, 213, 214, 399, 400, 401, 402, 403, 404, 405, 406, 407, 408, 409, 58, 410, 62, 411, 412, 413, 414, 415, 416, 417, 418, 419, 420, 819, 820, 821, 822, 823, 824, 825, 826, 827, 828, 829, 830, 863, 864, 865, 866, 867, 868, 869, 883, 884, 885, 886, 887, 873, 874, 875, 876, 877, 878, 879, 861, 862, 860, 880, 881, 882, 870, 871, 872] (by decide +kernel) (by decide +kernel)
set_option maxRecDepth 20000 in
theorem gL_law_X7_closeSession : GoodIn wsL_law (wsV RL 88 RX7 yX7_closeSession wsX7_closeSession) := goodIn_app (goodIn_of _ (by decide +kernel)) ggL_law_X7_closeSession
set_option maxRecDepth 20000 in
theorem ggL_law_X8_closeSession : GoodIn wsL_law wsX8_closeSession := goodIn_r _ [708, 150, 623, 624, 625, 5, 626, 155, 167, 168, 169, 627, 628, 629, 630, 129, 131, 134, 645, 646, 647, 648, 152, 130, 151, 132, 133, 831, 832, 833, 834, 835, 836, 837, 838, 839, 840, 841, 842, 843, 844, 845, 846, 847, 848, 849, 850, 851, 852, 853, 854, 855, 856, 857, 858, 859] (by decide +kernel) (by decide +kernel)
set_option maxRecDepth 20000 in
theorem gL_law_X8_closeSession : GoodIn wsL_law (wsV RL 91 RX8 yX8_closeSession wsX8_closeSession) := goodIn_app (goodIn_of _ (by decide +kernel)) ggL_law_X8_closeSession
set_option maxRecDepth 20000 in
theorem ggL_law_X7_watch : GoodIn wsL_law wsX7_watch := goodIn_r _ [712, 174, 92, 19, 713, 714, 390, 176, 177, 178, 2, 179, 85, 13, 580, 581, 582, 583, 87, 15, 715, 716, 717, 18, 718, 34, 186, 187, 188, 33, 189, 108, 719, 720, 721, 722, 10, 11, 392, 723, 393, 724, 725, 726, 727, 728, 315, 316, 317, 106, 107, 39, 318, 319, 320, 321, 322, 323, 324, 325, 326, 327, 328, 329, 38, 330, 331, 311, 332, 333, 334, 335, 336, 337, 338, 339, 340, 341, 342, 343, 344, 345, 346, 347, 348, 349, 350, 351, 352, 353, 354, 355, 356, 310, 312, 357, 215, 216, 217, 863, 864, 865, 866, 867, 868, 869, 819, 820, 821, 822, 823, 824, 825, 826, 827, 828, 829, 830, 880, 881, 882, 860, 873, 874, 875] (by decide +kernel) (by decide +kernel)
set_option maxRecDepth 20000 in
theorem gL_law_X7_watch : GoodIn wsL_law (wsV RL 92 RX7 yX7_watch wsX7_watch) := goodIn_app (goodIn_of _ (by decide +kernel)) ggL_law_X7_watch
set_option maxRecDepth 20000 in
theorem ggL_law_X8_watch : GoodIn wsL_law wsX8_watch := goodIn_r _ [732, 125, 154, 156, 143, 144, 145, 244, 245, 246, 5, 247, 123, 167, 168, 169, 623, 624, 625, 626, 155, 635, 636, 637, 638, 140, 831, 832, 833, 834, 835, 836, 837, 838, 839, 840, 841, 842, 843, 844, 845, 846, 847, 848, 849, 850, 851, 852, 853, 854, 855, 856, 857, 858, 859] (by decide +kernel) (by decide +kernel)
set_option maxRecDepth 20000 in
theorem gL_law_X8_watch : GoodIn wsL_law (wsV RL 95 RX8 yX8_watch wsX8_watch) := goodIn_app (goodIn_of _ (by decide +kernel)) ggL_law_X8_watch
set_option maxRecDepth 20000 in
theorem ggL_law_X7_eventCount : GoodIn wsL_law wsX7_eventCount := goodIn_r _ [736, 737, 580, 581, 582, 2, 583, 87, 15, 870, 871, 872, 819, 820, 821, 822, 823, 824, 825, 826, 827, 828, 829, 830] (by decide +kernel) (by decide +kernel)
set_option maxRecDepth 20000 in
theorem gL_law_X7_eventCount : GoodIn wsL_law (wsV RL 96 RX7 yX7_eventCount wsX7_eventCount) := goodIn_app (goodIn_of _ (by decide +kernel)) ggL_law_X7_eventCount
set_option maxRecDepth 20000 in
theorem ggL_law_X8_eventCount : GoodIn wsL_law wsX8_eventCount := goodIn_r _ [741, 141, 623, 624, 625, 5, 626, 155, 167, 168, 169, 831, 832, 833, 834, 835, 836, 837, 838, 839, 840, 841, 842, 843, 844, 845, 846, 847, 848, 849, 850, 851, 852, 853, 854, 855, 856, 857, 858, 859] (by decide +kernel) (by decide +kernel)
set_option maxRecDepth 20000 in
theorem gL_law_X8_eventCount : GoodIn wsL_law (wsV RL 99 RX8 yX8_eventCount wsX8_eventCount) := goodIn_app (goodIn_of _ (by decide +kernel)) ggL_law_X8_eventCount
set_option maxRecDepth 20000 in
theorem ggL_law_X7_eventAt : GoodIn wsL_law wsX7_eventAt := goodIn_r _ [745, 580, 581, 582, 2, 583, 87, 15, 746, 747, 748, 27, 749, 398, 79, 819, 820, 821, 822, 823, 824, 825, 826, 827, 828, 829, 830, 870, 871, 872] (by decide +kernel) (by decide +kernel)
set_option maxRecDepth 20000 in
theorem gL_law_X7_eventAt : GoodIn wsL_law (wsV RL 100 RX7 yX7_eventAt wsX7_eventAt) := goodIn_app (goodIn_of _ (by decide +kernel)) ggL_law_X7_eventAt
set_option maxRecDepth 20000 in
theorem ggL_law_X8_eventAt : GoodIn wsL_law wsX8_eventAt := goodIn_r _ [753, 141, 142, 623, 624, 625, 5, 626, 155, 167, 168, 169, 831, 832, 833, 834, 835, 836, 837, 838, 839, 840, 841, 842, 843, 844, 845, 846, 847, 848, 849, 850, 851, 852, 853, 854, 855, 856, 857, 858, 859] (by decide +kernel) (by decide +kernel)
set_option maxRecDepth 20000 in
theorem gL_law_X8_eventAt : GoodIn wsL_law (wsV RL 103 RX8 yX8_eventAt wsX8_eventAt) := goodIn_app (goodIn_of _ (by decide +kernel)) ggL_law_X8_eventAt
set_option maxRecDepth 20000 in
theorem ggL_law_X7_dataAt : GoodIn wsL_law wsX7_dataAt := goodIn_r _ [757, 758, 759, 760, 761, 2, 762, 763, 92, 176, 177, 178, 179, 85, 13, 590, 379, 380, 22, 381, 55, 113, 764, 765, 766, 767, 876, 877, 878, 879, 863, 864, 865, 866, 867, 868, 869, 819, 820, 821, 822, 823, 824, 825, 826, 827, 828, 829, 830, 861, 862] (by decide +kernel) (by decide +kernel)
set_option maxRecDepth 20000 in
theorem gL_law_X7_dataAt : GoodIn wsL_law (wsV RL 104 RX7 yX7_dataAt wsX7_dataAt) := goodIn_app (goodIn_of _ (by decide +kernel)) ggL_law_X7_dataAt
set_option maxRecDepth 20000 in
theorem ggL_law_X8_dataAt : GoodIn wsL_law wsX8_dataAt := goodIn_r _ [771, 137, 772, 773, 774, 5, 775, 154, 244, 245, 246, 247, 123, 167, 168, 169, 635, 636, 637, 638, 140, 457, 458, 459, 460, 135, 136, 831, 832, 833, 834, 835, 836, 837, 838, 839, 840, 841, 842, 843, 844, 845, 846, 847, 848, 849, 850, 851, 852, 853, 854, 855, 856, 857, 858, 859] (by decide +kernel) (by decide +kernel)
set_option maxRecDepth 20000 in
theorem gL_law_X8_dataAt : GoodIn wsL_law (wsV RL 107 RX8 yX8_dataAt wsX8_dataAt) := goodIn_app (goodIn_of _ (by decide +kernel)) ggL_law_X8_dataAt
set_option maxRecDepth 20000 in
theorem ggL_law_X7_versionAt : GoodIn wsL_law wsX7_versionAt := goodIn_r _ [779, 780, 759, 760, 761, 2, 762, 763, 92, 176, 177, 178, 179, 85, 13, 590, 379, 380, 22, 381, 55, 113, 764, 765, 766, 767, 876, 877, 878, 879, 863, 864, 865, 866, 867, 868, 869, 819, 820, 821, 822, 823, 824, 825, 826, 827, 828, 829, 830, 861, 862] (by decide +kernel) (by decide +kernel)
set_option maxRecDepth 20000 in
theorem gL_law_X7_versionAt : GoodIn wsL_law (wsV RL 108 RX7 yX7_versionAt wsX7_versionAt) := goodIn_app (goodIn_of _ (by decide +kernel)) ggL_law_X7_versionAt
set_option maxRecDepth 20000 in
theorem ggL_law_X8_versionAt : GoodIn wsL_law wsX8_versionAt := goodIn_r _ [784, 138, 772, 773, 774, 5, 775, 154, 244, 245, 246, 247, 123, 167, 168, 169, 635, 636, 637, 638, 140, 457, 458, 459, 460, 135, 136, 831, 832, 833, 834, 835, 836, 837, 838, 839, 840, 841, 842, 843, 844, 845, 846, 847, 848, 849, 850, 851, 852, 853, 854, 855, 856, 857, 858, 859] (by decide +kernel) (by decide +kernel)
set_option maxRecDepth 20000 in
theorem gL_law_X8_versionAt : GoodIn wsL_law (wsV RL 111 RX8 yX8_versionAt wsX8_versionAt) := goodIn_app (goodIn_of _ (by decide +kernel)) ggL_law_X8_versionAt
set_option maxRecDepth 20000 in
theorem ggL_law_X7_ownerAt : GoodIn wsL_law wsX7_ownerAt := goodIn_r _ [788, 789, 759, 760, 761, 2, 762, 763, 92, 176, 177, 178, 179, 85, 13, 590, 379, 380, 22, 381, 55, 113, 764, 765, 766, 767, 876, 877, 878, 879, 863, 864, 865, 866, 867, 868, 869, 819, 820, 821, 822, 823, 824, 825, 826, 827, 828, 829, 830, 861, 862] (by decide +kernel) (by decide +kernel)
set_option maxRecDepth 20000 in
theorem gL_law_X7_ownerAt : GoodIn wsL_law (wsV RL 112 RX7 yX7_ownerAt wsX7_ownerAt) := goodIn_app (goodIn_of _ (by decide +kernel)) ggL_law_X7_ownerAt
set_option maxRecDepth 20000 in
theorem ggL_law_X8_ownerAt : GoodIn wsL_law wsX8_ownerAt := goodIn_r _ [793, 139, 772, 773, 774, 5, 775, 154, 244, 245, 246, 247, 123, 167, 168, 169, 635, 636, 637, 638, 140, 457, 458, 459, 460, 135, 136, 831, 832, 833, 834, 835, 836, 837, 838, 839, 840, 841, 842, 843, 844, 845, 846, 847, 848, 849, 850, 851, 852, 853, 854, 855, 856, 857, 858, 859] (by decide +kernel) (by decide +kernel)
set_option maxRecDepth 20000 in
theorem gL_law_X8_ownerAt : GoodIn wsL_law (wsV RL 115 RX8 yX8_ownerAt wsX8_ownerAt) := goodIn_app (goodIn_of _ (by decide +kernel)) ggL_law_X8_ownerAt
set_option maxRecDepth 20000 in
theorem ggL_law_X7_childCount : GoodIn wsL_law wsX7_childCount := goodIn_r _ [797, 92, 763, 176, 177, 178, 2, 179, 85, 13, 590, 379, 380, 22, 381, 55, 113, 676, 677, 678, 679, 592, 593, 819, 820, 821, 822, 823, 824, 825, 826, 827, 828, 829, 830, 863, 864, 865, 866, 867, 868, 869, 861, 862, 876, 877, 878, 879] (by decide +kernel) (by decide +kernel)
set_option maxRecDepth 20000 in
theorem gL_law_X7_childCount : GoodIn wsL_law (wsV RL 116 RX7 yX7_childCount wsX7_childCount) := goodIn_app (goodIn_of _ (by decide +kernel)) ggL_law_X7_childCount
set_option maxRecDepth 20000 in
theorem ggL_law_X8_childCount : GoodIn wsL_law wsX8_childCount := goodIn_r _ [801, 244, 245, 246, 5, 247, 123, 167, 168, 169, 635, 636, 637, 638, 154, 140, 457, 458, 459, 460, 135, 136, 684, 685, 686, 687, 639, 640, 641, 642, 643, 644, 831, 832, 833, 834, 835, 836, 837, 838, 839, 840, 841, 842, 843, 844, 845, 846, 847, 848, 849, 850, 851, 852, 853, 854, 855, 856, 857, 858, 859] (by decide +kernel) (by decide +kernel)
set_option maxRecDepth 20000 in
theorem gL_law_X8_childCount : GoodIn wsL_law (wsV RL 119 RX8 yX8_childCount wsX8_childCount) := goodIn_app (goodIn_of _ (by decide +kernel)) ggL_law_X8_childCount
set_option maxRecDepth 20000 in
theorem ggL_law_X7_nodeCount : GoodIn wsL_law wsX7_nodeCount := goodIn_r _ [805, 763, 176, 177, 178, 2, 179, 85, 13, 598, 599, 600, 22, 601, 55, 113, 863, 864, 865, 866, 867, 868, 869, 819, 820, 821, 822, 823, 824, 825, 826, 827, 828, 829, 830, 861, 862, 876, 877, 878, 879] (by decide +kernel) (by decide +kernel)
set_option maxRecDepth 20000 in
theorem gL_law_X7_nodeCount : GoodIn wsL_law (wsV RL 120 RX7 yX7_nodeCount wsX7_nodeCount) := goodIn_app (goodIn_of _ (by decide +kernel)) ggL_law_X7_nodeCount
set_option maxRecDepth 20000 in
theorem ggL_law_X8_nodeCount : GoodIn wsL_law wsX8_nodeCount := goodIn_r _ [809, 135, 244, 245, 246, 5, 247, 123, 167, 168, 169, 831, 832, 833, 834, 835, 836, 837, 838, 839, 840, 841, 842, 843, 844, 845, 846, 847, 848, 849, 850, 851, 852, 853, 854, 855, 856, 857, 858, 859] (by decide +kernel) (by decide +kernel)
set_option maxRecDepth 20000 in
theorem gL_law_X8_nodeCount : GoodIn wsL_law (wsV RL 123 RX8 yX8_nodeCount wsX8_nodeCount) := goodIn_app (goodIn_of _ (by decide +kernel)) ggL_law_X8_nodeCount
set_option maxRecDepth 20000 in
theorem ggL_law_X7_commonLog : GoodIn wsL_law wsX7_commonLog := goodIn_r _ [813, 176, 177, 178, 2, 179, 85, 13, 814, 306, 307, 25, 308, 68, 309, 310, 311, 312, 288, 289, 294, 187, 188, 33, 189, 108, 295, 191, 192, 193, 194, 195, 196, 197, 198, 199, 200, 201, 202, 203, 204, 205, 39, 819, 820, 821, 822, 823, 824, 825, 826, 827, 828, 829, 830, 863, 864, 865, 866, 867, 868, 869, 883, 884, 885, 886, 887, 873, 874, 875] (by decide +kernel) (by decide +kernel)
set_option maxRecDepth 20000 in
theorem gL_law_X7_commonLog : GoodIn wsL_law (wsV RL 124 RX7 yX7_commonLog wsX7_commonLog) := goodIn_app (goodIn_of _ (by decide +kernel)) ggL_law_X7_commonLog
set_option maxRecDepth 20000 in
theorem ggL_law_X8_commonLog : GoodIn wsL_law wsX8_commonLog := goodIn_r _ [818, 244, 245, 246, 5, 247, 123, 167, 168, 169, 441, 442, 443, 444, 129, 130, 831, 832, 833, 834, 835, 836, 837, 838, 839, 840, 841, 842, 843, 844, 845, 846, 847, 848, 849, 850, 851, 852, 853, 854, 855, 856, 857, 858, 859] (by decide +kernel) (by decide +kernel)
set_option maxRecDepth 20000 in
theorem gL_law_X8_commonLog : GoodIn wsL_law (wsV RL 127 RX8 yX8_commonLog wsX8_commonLog) := goodIn_app (goodIn_of _ (by decide +kernel)) ggL_law_X8_commonLog
theorem dL_law_0 : decode cL_law 0 = .ok (.new 7, 3) := by decide +kernel
theorem dL_law_3 : decode cL_law 3 = .ok (.dup, 1) := by decide +kernel
theorem dL_law_4 : decode cL_law 4 = .ok (.invokespecial 9, 3) := by decide +kernel
theorem dL_law_7 : decode cL_law 7 = .ok (.astore_n 1, 1) := by decide +kernel
theorem dL_law_8 : decode cL_law 8 = .ok (.new 10, 3) := by decide +kernel
theorem dL_law_11 : decode cL_law 11 = .ok (.dup, 1) := by decide +kernel
theorem dL_law_12 : decode cL_law 12 = .ok (.invokespecial 12, 3) := by decide +kernel
theorem dL_law_15 : decode cL_law 15 = .ok (.astore_n 2, 1) := by decide +kernel
theorem dL_law_16 : decode cL_law 16 = .ok (.iconst 0, 1) := by decide +kernel
theorem dL_law_17 : decode cL_law 17 = .ok (.istore_n 3, 1) := by decide +kernel
theorem dL_law_18 : decode cL_law 18 = .ok (.iload_n 3, 1) := by decide +kernel
theorem dL_law_19 : decode cL_law 19 = .ok (.aload_n 0, 1) := by decide +kernel
theorem dL_law_20 : decode cL_law 20 = .ok (.arraylength, 1) := by decide +kernel
theorem dL_law_21 : decode cL_law 21 = .ok (.iconst 3, 1) := by decide +kernel
theorem dL_law_22 : decode cL_law 22 = .ok (.isub, 1) := by decide +kernel
theorem dL_law_23 : decode cL_law 23 = .ok (.if_icmp .gt 787, 3) := by decide +kernel
theorem dL_law_26 : decode cL_law 26 = .ok (.aload_n 0, 1) := by decide +kernel
theorem dL_law_27 : decode cL_law 27 = .ok (.iload_n 3, 1) := by decide +kernel
theorem dL_law_28 : decode cL_law 28 = .ok (.iaload, 1) := by decide +kernel
theorem dL_law_29 : decode cL_law 29 = .ok (.bipush 31, 2) := by decide +kernel
theorem dL_law_31 : decode cL_law 31 = .ok (.iand, 1) := by decide +kernel
theorem dL_law_32 : decode cL_law 32 = .ok (.tableswitch 772 0 27 #[128, 151, 174, 197, 210, 233, 256, 279, 292, 315, 338, 351, 374, 397, 410, 443, 476, 499, 512, 535, 568, 591, 624, 647, 670, 693, 716, 739], 128) := by decide +kernel
theorem dL_law_160 : decode cL_law 160 = .ok (.aload_n 1, 1) := by decide +kernel
theorem dL_law_161 : decode cL_law 161 = .ok (.aload_n 0, 1) := by decide +kernel
theorem dL_law_162 : decode cL_law 162 = .ok (.iload_n 3, 1) := by decide +kernel
theorem dL_law_163 : decode cL_law 163 = .ok (.iconst 1, 1) := by decide +kernel
theorem dL_law_164 : decode cL_law 164 = .ok (.iadd, 1) := by decide +kernel
theorem dL_law_165 : decode cL_law 165 = .ok (.iaload, 1) := by decide +kernel
theorem dL_law_166 : decode cL_law 166 = .ok (.invokevirtual 13, 3) := by decide +kernel
theorem dL_law_169 : decode cL_law 169 = .ok (.aload_n 2, 1) := by decide +kernel
theorem dL_law_170 : decode cL_law 170 = .ok (.aload_n 0, 1) := by decide +kernel
theorem dL_law_171 : decode cL_law 171 = .ok (.iload_n 3, 1) := by decide +kernel
theorem dL_law_172 : decode cL_law 172 = .ok (.iconst 1, 1) := by decide +kernel
theorem dL_law_173 : decode cL_law 173 = .ok (.iadd, 1) := by decide +kernel
theorem dL_law_174 : decode cL_law 174 = .ok (.iaload, 1) := by decide +kernel
theorem dL_law_175 : decode cL_law 175 = .ok (.invokevirtual 17, 3) := by decide +kernel
theorem dL_law_178 : decode cL_law 178 = .ok (.if_icmp .eq 626, 3) := by decide +kernel
theorem dL_law_181 : decode cL_law 181 = .ok (.iconst 0, 1) := by decide +kernel
theorem dL_law_182 : decode cL_law 182 = .ok (.ireturn, 1) := by decide +kernel
theorem dL_law_183 : decode cL_law 183 = .ok (.aload_n 1, 1) := by decide +kernel
theorem dL_law_184 : decode cL_law 184 = .ok (.aload_n 0, 1) := by decide +kernel
theorem dL_law_185 : decode cL_law 185 = .ok (.iload_n 3, 1) := by decide +kernel
theorem dL_law_186 : decode cL_law 186 = .ok (.iconst 1, 1) := by decide +kernel
theorem dL_law_187 : decode cL_law 187 = .ok (.iadd, 1) := by decide +kernel
theorem dL_law_188 : decode cL_law 188 = .ok (.iaload, 1) := by decide +kernel
theorem dL_law_189 : decode cL_law 189 = .ok (.invokevirtual 18, 3) := by decide +kernel
theorem dL_law_192 : decode cL_law 192 = .ok (.aload_n 2, 1) := by decide +kernel
theorem dL_law_193 : decode cL_law 193 = .ok (.aload_n 0, 1) := by decide +kernel
theorem dL_law_194 : decode cL_law 194 = .ok (.iload_n 3, 1) := by decide +kernel
theorem dL_law_195 : decode cL_law 195 = .ok (.iconst 1, 1) := by decide +kernel
theorem dL_law_196 : decode cL_law 196 = .ok (.iadd, 1) := by decide +kernel
theorem dL_law_197 : decode cL_law 197 = .ok (.iaload, 1) := by decide +kernel
theorem dL_law_198 : decode cL_law 198 = .ok (.invokevirtual 21, 3) := by decide +kernel
theorem dL_law_201 : decode cL_law 201 = .ok (.if_icmp .eq 603, 3) := by decide +kernel
theorem dL_law_204 : decode cL_law 204 = .ok (.iconst 0, 1) := by decide +kernel
theorem dL_law_205 : decode cL_law 205 = .ok (.ireturn, 1) := by decide +kernel
theorem dL_law_206 : decode cL_law 206 = .ok (.aload_n 1, 1) := by decide +kernel
theorem dL_law_207 : decode cL_law 207 = .ok (.aload_n 0, 1) := by decide +kernel
theorem dL_law_208 : decode cL_law 208 = .ok (.iload_n 3, 1) := by decide +kernel
theorem dL_law_209 : decode cL_law 209 = .ok (.iconst 1, 1) := by decide +kernel
theorem dL_law_210 : decode cL_law 210 = .ok (.iadd, 1) := by decide +kernel
theorem dL_law_211 : decode cL_law 211 = .ok (.iaload, 1) := by decide +kernel
theorem dL_law_212 : decode cL_law 212 = .ok (.invokevirtual 22, 3) := by decide +kernel
theorem dL_law_215 : decode cL_law 215 = .ok (.aload_n 2, 1) := by decide +kernel
theorem dL_law_216 : decode cL_law 216 = .ok (.aload_n 0, 1) := by decide +kernel
theorem dL_law_217 : decode cL_law 217 = .ok (.iload_n 3, 1) := by decide +kernel
theorem dL_law_218 : decode cL_law 218 = .ok (.iconst 1, 1) := by decide +kernel
theorem dL_law_219 : decode cL_law 219 = .ok (.iadd, 1) := by decide +kernel
theorem dL_law_220 : decode cL_law 220 = .ok (.iaload, 1) := by decide +kernel
theorem dL_law_221 : decode cL_law 221 = .ok (.invokevirtual 25, 3) := by decide +kernel
theorem dL_law_224 : decode cL_law 224 = .ok (.if_icmp .eq 580, 3) := by decide +kernel
theorem dL_law_227 : decode cL_law 227 = .ok (.iconst 0, 1) := by decide +kernel
theorem dL_law_228 : decode cL_law 228 = .ok (.ireturn, 1) := by decide +kernel
theorem dL_law_229 : decode cL_law 229 = .ok (.aload_n 1, 1) := by decide +kernel
theorem dL_law_230 : decode cL_law 230 = .ok (.invokevirtual 26, 3) := by decide +kernel
theorem dL_law_233 : decode cL_law 233 = .ok (.aload_n 2, 1) := by decide +kernel
theorem dL_law_234 : decode cL_law 234 = .ok (.invokevirtual 30, 3) := by decide +kernel
theorem dL_law_237 : decode cL_law 237 = .ok (.if_icmp .eq 567, 3) := by decide +kernel
theorem dL_law_240 : decode cL_law 240 = .ok (.iconst 0, 1) := by decide +kernel
theorem dL_law_241 : decode cL_law 241 = .ok (.ireturn, 1) := by decide +kernel
theorem dL_law_242 : decode cL_law 242 = .ok (.aload_n 1, 1) := by decide +kernel
theorem dL_law_243 : decode cL_law 243 = .ok (.aload_n 0, 1) := by decide +kernel
theorem dL_law_244 : decode cL_law 244 = .ok (.iload_n 3, 1) := by decide +kernel
theorem dL_law_245 : decode cL_law 245 = .ok (.iconst 1, 1) := by decide +kernel
theorem dL_law_246 : decode cL_law 246 = .ok (.iadd, 1) := by decide +kernel
theorem dL_law_247 : decode cL_law 247 = .ok (.iaload, 1) := by decide +kernel
theorem dL_law_248 : decode cL_law 248 = .ok (.invokevirtual 31, 3) := by decide +kernel
theorem dL_law_251 : decode cL_law 251 = .ok (.aload_n 2, 1) := by decide +kernel
theorem dL_law_252 : decode cL_law 252 = .ok (.aload_n 0, 1) := by decide +kernel
theorem dL_law_253 : decode cL_law 253 = .ok (.iload_n 3, 1) := by decide +kernel
theorem dL_law_254 : decode cL_law 254 = .ok (.iconst 1, 1) := by decide +kernel
theorem dL_law_255 : decode cL_law 255 = .ok (.iadd, 1) := by decide +kernel
theorem dL_law_256 : decode cL_law 256 = .ok (.iaload, 1) := by decide +kernel
theorem dL_law_257 : decode cL_law 257 = .ok (.invokevirtual 34, 3) := by decide +kernel
theorem dL_law_260 : decode cL_law 260 = .ok (.if_icmp .eq 544, 3) := by decide +kernel
theorem dL_law_263 : decode cL_law 263 = .ok (.iconst 0, 1) := by decide +kernel
theorem dL_law_264 : decode cL_law 264 = .ok (.ireturn, 1) := by decide +kernel
theorem dL_law_265 : decode cL_law 265 = .ok (.aload_n 1, 1) := by decide +kernel
theorem dL_law_266 : decode cL_law 266 = .ok (.aload_n 0, 1) := by decide +kernel
theorem dL_law_267 : decode cL_law 267 = .ok (.iload_n 3, 1) := by decide +kernel
theorem dL_law_268 : decode cL_law 268 = .ok (.iconst 1, 1) := by decide +kernel
theorem dL_law_269 : decode cL_law 269 = .ok (.iadd, 1) := by decide +kernel
theorem dL_law_270 : decode cL_law 270 = .ok (.iaload, 1) := by decide +kernel
theorem dL_law_271 : decode cL_law 271 = .ok (.invokevirtual 35, 3) := by decide +kernel
theorem dL_law_274 : decode cL_law 274 = .ok (.aload_n 2, 1) := by decide +kernel
theorem dL_law_275 : decode cL_law 275 = .ok (.aload_n 0, 1) := by decide +kernel
theorem dL_law_276 : decode cL_law 276 = .ok (.iload_n 3, 1) := by decide +kernel
theorem dL_law_277 : decode cL_law 277 = .ok (.iconst 1, 1) := by decide +kernel
theorem dL_law_278 : decode cL_law 278 = .ok (.iadd, 1) := by decide +kernel
theorem dL_law_279 : decode cL_law 279 = .ok (.iaload, 1) := by decide +kernel
theorem dL_law_280 : decode cL_law 280 = .ok (.invokevirtual 38, 3) := by decide +kernel
theorem dL_law_283 : decode cL_law 283 = .ok (.if_icmp .eq 521, 3) := by decide +kernel
theorem dL_law_286 : decode cL_law 286 = .ok (.iconst 0, 1) := by decide +kernel
theorem dL_law_287 : decode cL_law 287 = .ok (.ireturn, 1) := by decide +kernel
theorem dL_law_288 : decode cL_law 288 = .ok (.aload_n 1, 1) := by decide +kernel
theorem dL_law_289 : decode cL_law 289 = .ok (.aload_n 0, 1) := by decide +kernel
theorem dL_law_290 : decode cL_law 290 = .ok (.iload_n 3, 1) := by decide +kernel
theorem dL_law_291 : decode cL_law 291 = .ok (.iconst 1, 1) := by decide +kernel
theorem dL_law_292 : decode cL_law 292 = .ok (.iadd, 1) := by decide +kernel
theorem dL_law_293 : decode cL_law 293 = .ok (.iaload, 1) := by decide +kernel
theorem dL_law_294 : decode cL_law 294 = .ok (.invokevirtual 39, 3) := by decide +kernel
theorem dL_law_297 : decode cL_law 297 = .ok (.aload_n 2, 1) := by decide +kernel
theorem dL_law_298 : decode cL_law 298 = .ok (.aload_n 0, 1) := by decide +kernel
theorem dL_law_299 : decode cL_law 299 = .ok (.iload_n 3, 1) := by decide +kernel
theorem dL_law_300 : decode cL_law 300 = .ok (.iconst 1, 1) := by decide +kernel
theorem dL_law_301 : decode cL_law 301 = .ok (.iadd, 1) := by decide +kernel
theorem dL_law_302 : decode cL_law 302 = .ok (.iaload, 1) := by decide +kernel
theorem dL_law_303 : decode cL_law 303 = .ok (.invokevirtual 42, 3) := by decide +kernel
theorem dL_law_306 : decode cL_law 306 = .ok (.if_icmp .eq 498, 3) := by decide +kernel
theorem dL_law_309 : decode cL_law 309 = .ok (.iconst 0, 1) := by decide +kernel
theorem dL_law_310 : decode cL_law 310 = .ok (.ireturn, 1) := by decide +kernel
theorem dL_law_311 : decode cL_law 311 = .ok (.aload_n 1, 1) := by decide +kernel
theorem dL_law_312 : decode cL_law 312 = .ok (.invokevirtual 43, 3) := by decide +kernel
theorem dL_law_315 : decode cL_law 315 = .ok (.aload_n 2, 1) := by decide +kernel
theorem dL_law_316 : decode cL_law 316 = .ok (.invokevirtual 46, 3) := by decide +kernel
theorem dL_law_319 : decode cL_law 319 = .ok (.if_icmp .eq 485, 3) := by decide +kernel
theorem dL_law_322 : decode cL_law 322 = .ok (.iconst 0, 1) := by decide +kernel
theorem dL_law_323 : decode cL_law 323 = .ok (.ireturn, 1) := by decide +kernel
theorem dL_law_324 : decode cL_law 324 = .ok (.aload_n 1, 1) := by decide +kernel
theorem dL_law_325 : decode cL_law 325 = .ok (.aload_n 0, 1) := by decide +kernel
theorem dL_law_326 : decode cL_law 326 = .ok (.iload_n 3, 1) := by decide +kernel
theorem dL_law_327 : decode cL_law 327 = .ok (.iconst 1, 1) := by decide +kernel
theorem dL_law_328 : decode cL_law 328 = .ok (.iadd, 1) := by decide +kernel
theorem dL_law_329 : decode cL_law 329 = .ok (.iaload, 1) := by decide +kernel
theorem dL_law_330 : decode cL_law 330 = .ok (.invokevirtual 47, 3) := by decide +kernel
theorem dL_law_333 : decode cL_law 333 = .ok (.aload_n 2, 1) := by decide +kernel
theorem dL_law_334 : decode cL_law 334 = .ok (.aload_n 0, 1) := by decide +kernel
theorem dL_law_335 : decode cL_law 335 = .ok (.iload_n 3, 1) := by decide +kernel
theorem dL_law_336 : decode cL_law 336 = .ok (.iconst 1, 1) := by decide +kernel
theorem dL_law_337 : decode cL_law 337 = .ok (.iadd, 1) := by decide +kernel
theorem dL_law_338 : decode cL_law 338 = .ok (.iaload, 1) := by decide +kernel
theorem dL_law_339 : decode cL_law 339 = .ok (.invokevirtual 50, 3) := by decide +kernel
theorem dL_law_342 : decode cL_law 342 = .ok (.if_icmp .eq 462, 3) := by decide +kernel
theorem dL_law_345 : decode cL_law 345 = .ok (.iconst 0, 1) := by decide +kernel
theorem dL_law_346 : decode cL_law 346 = .ok (.ireturn, 1) := by decide +kernel
theorem dL_law_347 : decode cL_law 347 = .ok (.aload_n 1, 1) := by decide +kernel
theorem dL_law_348 : decode cL_law 348 = .ok (.aload_n 0, 1) := by decide +kernel
theorem dL_law_349 : decode cL_law 349 = .ok (.iload_n 3, 1) := by decide +kernel
theorem dL_law_350 : decode cL_law 350 = .ok (.iconst 1, 1) := by decide +kernel
theorem dL_law_351 : decode cL_law 351 = .ok (.iadd, 1) := by decide +kernel
theorem dL_law_352 : decode cL_law 352 = .ok (.iaload, 1) := by decide +kernel
theorem dL_law_353 : decode cL_law 353 = .ok (.invokevirtual 51, 3) := by decide +kernel
theorem dL_law_356 : decode cL_law 356 = .ok (.aload_n 2, 1) := by decide +kernel
theorem dL_law_357 : decode cL_law 357 = .ok (.aload_n 0, 1) := by decide +kernel
theorem dL_law_358 : decode cL_law 358 = .ok (.iload_n 3, 1) := by decide +kernel
theorem dL_law_359 : decode cL_law 359 = .ok (.iconst 1, 1) := by decide +kernel
theorem dL_law_360 : decode cL_law 360 = .ok (.iadd, 1) := by decide +kernel
theorem dL_law_361 : decode cL_law 361 = .ok (.iaload, 1) := by decide +kernel
theorem dL_law_362 : decode cL_law 362 = .ok (.invokevirtual 54, 3) := by decide +kernel
theorem dL_law_365 : decode cL_law 365 = .ok (.if_icmp .eq 439, 3) := by decide +kernel
theorem dL_law_368 : decode cL_law 368 = .ok (.iconst 0, 1) := by decide +kernel
theorem dL_law_369 : decode cL_law 369 = .ok (.ireturn, 1) := by decide +kernel
theorem dL_law_370 : decode cL_law 370 = .ok (.aload_n 1, 1) := by decide +kernel
theorem dL_law_371 : decode cL_law 371 = .ok (.invokevirtual 55, 3) := by decide +kernel
theorem dL_law_374 : decode cL_law 374 = .ok (.aload_n 2, 1) := by decide +kernel
theorem dL_law_375 : decode cL_law 375 = .ok (.invokevirtual 58, 3) := by decide +kernel
theorem dL_law_378 : decode cL_law 378 = .ok (.if_icmp .eq 426, 3) := by decide +kernel
theorem dL_law_381 : decode cL_law 381 = .ok (.iconst 0, 1) := by decide +kernel
theorem dL_law_382 : decode cL_law 382 = .ok (.ireturn, 1) := by decide +kernel
theorem dL_law_383 : decode cL_law 383 = .ok (.aload_n 1, 1) := by decide +kernel
theorem dL_law_384 : decode cL_law 384 = .ok (.aload_n 0, 1) := by decide +kernel
theorem dL_law_385 : decode cL_law 385 = .ok (.iload_n 3, 1) := by decide +kernel
theorem dL_law_386 : decode cL_law 386 = .ok (.iconst 1, 1) := by decide +kernel
theorem dL_law_387 : decode cL_law 387 = .ok (.iadd, 1) := by decide +kernel
theorem dL_law_388 : decode cL_law 388 = .ok (.iaload, 1) := by decide +kernel
theorem dL_law_389 : decode cL_law 389 = .ok (.invokevirtual 59, 3) := by decide +kernel
theorem dL_law_392 : decode cL_law 392 = .ok (.aload_n 2, 1) := by decide +kernel
theorem dL_law_393 : decode cL_law 393 = .ok (.aload_n 0, 1) := by decide +kernel
theorem dL_law_394 : decode cL_law 394 = .ok (.iload_n 3, 1) := by decide +kernel
theorem dL_law_395 : decode cL_law 395 = .ok (.iconst 1, 1) := by decide +kernel
theorem dL_law_396 : decode cL_law 396 = .ok (.iadd, 1) := by decide +kernel
theorem dL_law_397 : decode cL_law 397 = .ok (.iaload, 1) := by decide +kernel
theorem dL_law_398 : decode cL_law 398 = .ok (.invokevirtual 62, 3) := by decide +kernel
theorem dL_law_401 : decode cL_law 401 = .ok (.if_icmp .eq 403, 3) := by decide +kernel
theorem dL_law_404 : decode cL_law 404 = .ok (.iconst 0, 1) := by decide +kernel
theorem dL_law_405 : decode cL_law 405 = .ok (.ireturn, 1) := by decide +kernel
theorem dL_law_406 : decode cL_law 406 = .ok (.aload_n 1, 1) := by decide +kernel
theorem dL_law_407 : decode cL_law 407 = .ok (.aload_n 0, 1) := by decide +kernel
theorem dL_law_408 : decode cL_law 408 = .ok (.iload_n 3, 1) := by decide +kernel
theorem dL_law_409 : decode cL_law 409 = .ok (.iconst 1, 1) := by decide +kernel
theorem dL_law_410 : decode cL_law 410 = .ok (.iadd, 1) := by decide +kernel
theorem dL_law_411 : decode cL_law 411 = .ok (.iaload, 1) := by decide +kernel
theorem dL_law_412 : decode cL_law 412 = .ok (.invokevirtual 63, 3) := by decide +kernel
theorem dL_law_415 : decode cL_law 415 = .ok (.aload_n 2, 1) := by decide +kernel
theorem dL_law_416 : decode cL_law 416 = .ok (.aload_n 0, 1) := by decide +kernel
theorem dL_law_417 : decode cL_law 417 = .ok (.iload_n 3, 1) := by decide +kernel
theorem dL_law_418 : decode cL_law 418 = .ok (.iconst 1, 1) := by decide +kernel
theorem dL_law_419 : decode cL_law 419 = .ok (.iadd, 1) := by decide +kernel
theorem dL_law_420 : decode cL_law 420 = .ok (.iaload, 1) := by decide +kernel
theorem dL_law_421 : decode cL_law 421 = .ok (.invokevirtual 66, 3) := by decide +kernel
theorem dL_law_424 : decode cL_law 424 = .ok (.if_icmp .eq 380, 3) := by decide +kernel
theorem dL_law_427 : decode cL_law 427 = .ok (.iconst 0, 1) := by decide +kernel
theorem dL_law_428 : decode cL_law 428 = .ok (.ireturn, 1) := by decide +kernel
theorem dL_law_429 : decode cL_law 429 = .ok (.aload_n 1, 1) := by decide +kernel
theorem dL_law_430 : decode cL_law 430 = .ok (.invokevirtual 67, 3) := by decide +kernel
theorem dL_law_433 : decode cL_law 433 = .ok (.aload_n 2, 1) := by decide +kernel
theorem dL_law_434 : decode cL_law 434 = .ok (.invokevirtual 70, 3) := by decide +kernel
theorem dL_law_437 : decode cL_law 437 = .ok (.if_icmp .eq 367, 3) := by decide +kernel
theorem dL_law_440 : decode cL_law 440 = .ok (.iconst 0, 1) := by decide +kernel
theorem dL_law_441 : decode cL_law 441 = .ok (.ireturn, 1) := by decide +kernel
theorem dL_law_442 : decode cL_law 442 = .ok (.aload_n 1, 1) := by decide +kernel
theorem dL_law_443 : decode cL_law 443 = .ok (.aload_n 0, 1) := by decide +kernel
theorem dL_law_444 : decode cL_law 444 = .ok (.iload_n 3, 1) := by decide +kernel
theorem dL_law_445 : decode cL_law 445 = .ok (.iconst 1, 1) := by decide +kernel
theorem dL_law_446 : decode cL_law 446 = .ok (.iadd, 1) := by decide +kernel
theorem dL_law_447 : decode cL_law 447 = .ok (.iaload, 1) := by decide +kernel
theorem dL_law_448 : decode cL_law 448 = .ok (.aload_n 0, 1) := by decide +kernel
theorem dL_law_449 : decode cL_law 449 = .ok (.iload_n 3, 1) := by decide +kernel
theorem dL_law_450 : decode cL_law 450 = .ok (.iconst 2, 1) := by decide +kernel
theorem dL_law_451 : decode cL_law 451 = .ok (.iadd, 1) := by decide +kernel
theorem dL_law_452 : decode cL_law 452 = .ok (.iaload, 1) := by decide +kernel
theorem dL_law_453 : decode cL_law 453 = .ok (.invokevirtual 71, 3) := by decide +kernel
theorem dL_law_456 : decode cL_law 456 = .ok (.aload_n 2, 1) := by decide +kernel
theorem dL_law_457 : decode cL_law 457 = .ok (.aload_n 0, 1) := by decide +kernel
theorem dL_law_458 : decode cL_law 458 = .ok (.iload_n 3, 1) := by decide +kernel
theorem dL_law_459 : decode cL_law 459 = .ok (.iconst 1, 1) := by decide +kernel
theorem dL_law_460 : decode cL_law 460 = .ok (.iadd, 1) := by decide +kernel
theorem dL_law_461 : decode cL_law 461 = .ok (.iaload, 1) := by decide +kernel
theorem dL_law_462 : decode cL_law 462 = .ok (.aload_n 0, 1) := by decide +kernel
theorem dL_law_463 : decode cL_law 463 = .ok (.iload_n 3, 1) := by decide +kernel
theorem dL_law_464 : decode cL_law 464 = .ok (.iconst 2, 1) := by decide +kernel
theorem dL_law_465 : decode cL_law 465 = .ok (.iadd, 1) := by decide +kernel
theorem dL_law_466 : decode cL_law 466 = .ok (.iaload, 1) := by decide +kernel
theorem dL_law_467 : decode cL_law 467 = .ok (.invokevirtual 75, 3) := by decide +kernel
theorem dL_law_470 : decode cL_law 470 = .ok (.if_icmp .eq 334, 3) := by decide +kernel
theorem dL_law_473 : decode cL_law 473 = .ok (.iconst 0, 1) := by decide +kernel
theorem dL_law_474 : decode cL_law 474 = .ok (.ireturn, 1) := by decide +kernel
theorem dL_law_475 : decode cL_law 475 = .ok (.aload_n 1, 1) := by decide +kernel
theorem dL_law_476 : decode cL_law 476 = .ok (.aload_n 0, 1) := by decide +kernel
theorem dL_law_477 : decode cL_law 477 = .ok (.iload_n 3, 1) := by decide +kernel
theorem dL_law_478 : decode cL_law 478 = .ok (.iconst 1, 1) := by decide +kernel
theorem dL_law_479 : decode cL_law 479 = .ok (.iadd, 1) := by decide +kernel
theorem dL_law_480 : decode cL_law 480 = .ok (.iaload, 1) := by decide +kernel
theorem dL_law_481 : decode cL_law 481 = .ok (.aload_n 0, 1) := by decide +kernel
theorem dL_law_482 : decode cL_law 482 = .ok (.iload_n 3, 1) := by decide +kernel
theorem dL_law_483 : decode cL_law 483 = .ok (.iconst 2, 1) := by decide +kernel
theorem dL_law_484 : decode cL_law 484 = .ok (.iadd, 1) := by decide +kernel
theorem dL_law_485 : decode cL_law 485 = .ok (.iaload, 1) := by decide +kernel
theorem dL_law_486 : decode cL_law 486 = .ok (.invokevirtual 76, 3) := by decide +kernel
theorem dL_law_489 : decode cL_law 489 = .ok (.aload_n 2, 1) := by decide +kernel
theorem dL_law_490 : decode cL_law 490 = .ok (.aload_n 0, 1) := by decide +kernel
theorem dL_law_491 : decode cL_law 491 = .ok (.iload_n 3, 1) := by decide +kernel
theorem dL_law_492 : decode cL_law 492 = .ok (.iconst 1, 1) := by decide +kernel
theorem dL_law_493 : decode cL_law 493 = .ok (.iadd, 1) := by decide +kernel
theorem dL_law_494 : decode cL_law 494 = .ok (.iaload, 1) := by decide +kernel
theorem dL_law_495 : decode cL_law 495 = .ok (.aload_n 0, 1) := by decide +kernel
theorem dL_law_496 : decode cL_law 496 = .ok (.iload_n 3, 1) := by decide +kernel
theorem dL_law_497 : decode cL_law 497 = .ok (.iconst 2, 1) := by decide +kernel
theorem dL_law_498 : decode cL_law 498 = .ok (.iadd, 1) := by decide +kernel
theorem dL_law_499 : decode cL_law 499 = .ok (.iaload, 1) := by decide +kernel
theorem dL_law_500 : decode cL_law 500 = .ok (.invokevirtual 79, 3) := by decide +kernel
theorem dL_law_503 : decode cL_law 503 = .ok (.if_icmp .eq 301, 3) := by decide +kernel
theorem dL_law_506 : decode cL_law 506 = .ok (.iconst 0, 1) := by decide +kernel
theorem dL_law_507 : decode cL_law 507 = .ok (.ireturn, 1) := by decide +kernel
theorem dL_law_508 : decode cL_law 508 = .ok (.aload_n 1, 1) := by decide +kernel
theorem dL_law_509 : decode cL_law 509 = .ok (.aload_n 0, 1) := by decide +kernel
theorem dL_law_510 : decode cL_law 510 = .ok (.iload_n 3, 1) := by decide +kernel
theorem dL_law_511 : decode cL_law 511 = .ok (.iconst 1, 1) := by decide +kernel
theorem dL_law_512 : decode cL_law 512 = .ok (.iadd, 1) := by decide +kernel
theorem dL_law_513 : decode cL_law 513 = .ok (.iaload, 1) := by decide +kernel
theorem dL_law_514 : decode cL_law 514 = .ok (.invokevirtual 80, 3) := by decide +kernel
theorem dL_law_517 : decode cL_law 517 = .ok (.aload_n 2, 1) := by decide +kernel
theorem dL_law_518 : decode cL_law 518 = .ok (.aload_n 0, 1) := by decide +kernel
theorem dL_law_519 : decode cL_law 519 = .ok (.iload_n 3, 1) := by decide +kernel
theorem dL_law_520 : decode cL_law 520 = .ok (.iconst 1, 1) := by decide +kernel
theorem dL_law_521 : decode cL_law 521 = .ok (.iadd, 1) := by decide +kernel
theorem dL_law_522 : decode cL_law 522 = .ok (.iaload, 1) := by decide +kernel
theorem dL_law_523 : decode cL_law 523 = .ok (.invokevirtual 83, 3) := by decide +kernel
theorem dL_law_526 : decode cL_law 526 = .ok (.if_icmp .eq 278, 3) := by decide +kernel
theorem dL_law_529 : decode cL_law 529 = .ok (.iconst 0, 1) := by decide +kernel
theorem dL_law_530 : decode cL_law 530 = .ok (.ireturn, 1) := by decide +kernel
theorem dL_law_531 : decode cL_law 531 = .ok (.aload_n 1, 1) := by decide +kernel
theorem dL_law_532 : decode cL_law 532 = .ok (.invokevirtual 84, 3) := by decide +kernel
theorem dL_law_535 : decode cL_law 535 = .ok (.aload_n 2, 1) := by decide +kernel
theorem dL_law_536 : decode cL_law 536 = .ok (.invokevirtual 87, 3) := by decide +kernel
theorem dL_law_539 : decode cL_law 539 = .ok (.if_icmp .eq 265, 3) := by decide +kernel
theorem dL_law_542 : decode cL_law 542 = .ok (.iconst 0, 1) := by decide +kernel
theorem dL_law_543 : decode cL_law 543 = .ok (.ireturn, 1) := by decide +kernel
theorem dL_law_544 : decode cL_law 544 = .ok (.aload_n 1, 1) := by decide +kernel
theorem dL_law_545 : decode cL_law 545 = .ok (.aload_n 0, 1) := by decide +kernel
theorem dL_law_546 : decode cL_law 546 = .ok (.iload_n 3, 1) := by decide +kernel
theorem dL_law_547 : decode cL_law 547 = .ok (.iconst 1, 1) := by decide +kernel
theorem dL_law_548 : decode cL_law 548 = .ok (.iadd, 1) := by decide +kernel
theorem dL_law_549 : decode cL_law 549 = .ok (.iaload, 1) := by decide +kernel
theorem dL_law_550 : decode cL_law 550 = .ok (.invokevirtual 88, 3) := by decide +kernel
theorem dL_law_553 : decode cL_law 553 = .ok (.aload_n 2, 1) := by decide +kernel
theorem dL_law_554 : decode cL_law 554 = .ok (.aload_n 0, 1) := by decide +kernel
theorem dL_law_555 : decode cL_law 555 = .ok (.iload_n 3, 1) := by decide +kernel
theorem dL_law_556 : decode cL_law 556 = .ok (.iconst 1, 1) := by decide +kernel
theorem dL_law_557 : decode cL_law 557 = .ok (.iadd, 1) := by decide +kernel
theorem dL_law_558 : decode cL_law 558 = .ok (.iaload, 1) := by decide +kernel
theorem dL_law_559 : decode cL_law 559 = .ok (.invokevirtual 91, 3) := by decide +kernel
theorem dL_law_562 : decode cL_law 562 = .ok (.if_icmp .eq 242, 3) := by decide +kernel
theorem dL_law_565 : decode cL_law 565 = .ok (.iconst 0, 1) := by decide +kernel
theorem dL_law_566 : decode cL_law 566 = .ok (.ireturn, 1) := by decide +kernel
theorem dL_law_567 : decode cL_law 567 = .ok (.aload_n 1, 1) := by decide +kernel
theorem dL_law_568 : decode cL_law 568 = .ok (.aload_n 0, 1) := by decide +kernel
theorem dL_law_569 : decode cL_law 569 = .ok (.iload_n 3, 1) := by decide +kernel
theorem dL_law_570 : decode cL_law 570 = .ok (.iconst 1, 1) := by decide +kernel
theorem dL_law_571 : decode cL_law 571 = .ok (.iadd, 1) := by decide +kernel
theorem dL_law_572 : decode cL_law 572 = .ok (.iaload, 1) := by decide +kernel
theorem dL_law_573 : decode cL_law 573 = .ok (.aload_n 0, 1) := by decide +kernel
theorem dL_law_574 : decode cL_law 574 = .ok (.iload_n 3, 1) := by decide +kernel
theorem dL_law_575 : decode cL_law 575 = .ok (.iconst 2, 1) := by decide +kernel
theorem dL_law_576 : decode cL_law 576 = .ok (.iadd, 1) := by decide +kernel
theorem dL_law_577 : decode cL_law 577 = .ok (.iaload, 1) := by decide +kernel
theorem dL_law_578 : decode cL_law 578 = .ok (.invokevirtual 92, 3) := by decide +kernel
theorem dL_law_581 : decode cL_law 581 = .ok (.aload_n 2, 1) := by decide +kernel
theorem dL_law_582 : decode cL_law 582 = .ok (.aload_n 0, 1) := by decide +kernel
theorem dL_law_583 : decode cL_law 583 = .ok (.iload_n 3, 1) := by decide +kernel
theorem dL_law_584 : decode cL_law 584 = .ok (.iconst 1, 1) := by decide +kernel
theorem dL_law_585 : decode cL_law 585 = .ok (.iadd, 1) := by decide +kernel
theorem dL_law_586 : decode cL_law 586 = .ok (.iaload, 1) := by decide +kernel
theorem dL_law_587 : decode cL_law 587 = .ok (.aload_n 0, 1) := by decide +kernel
theorem dL_law_588 : decode cL_law 588 = .ok (.iload_n 3, 1) := by decide +kernel
theorem dL_law_589 : decode cL_law 589 = .ok (.iconst 2, 1) := by decide +kernel
theorem dL_law_590 : decode cL_law 590 = .ok (.iadd, 1) := by decide +kernel
theorem dL_law_591 : decode cL_law 591 = .ok (.iaload, 1) := by decide +kernel
theorem dL_law_592 : decode cL_law 592 = .ok (.invokevirtual 95, 3) := by decide +kernel
theorem dL_law_595 : decode cL_law 595 = .ok (.if_icmp .eq 209, 3) := by decide +kernel
theorem dL_law_598 : decode cL_law 598 = .ok (.iconst 0, 1) := by decide +kernel
theorem dL_law_599 : decode cL_law 599 = .ok (.ireturn, 1) := by decide +kernel
theorem dL_law_600 : decode cL_law 600 = .ok (.aload_n 1, 1) := by decide +kernel
theorem dL_law_601 : decode cL_law 601 = .ok (.aload_n 0, 1) := by decide +kernel
theorem dL_law_602 : decode cL_law 602 = .ok (.iload_n 3, 1) := by decide +kernel
theorem dL_law_603 : decode cL_law 603 = .ok (.iconst 1, 1) := by decide +kernel
theorem dL_law_604 : decode cL_law 604 = .ok (.iadd, 1) := by decide +kernel
theorem dL_law_605 : decode cL_law 605 = .ok (.iaload, 1) := by decide +kernel
theorem dL_law_606 : decode cL_law 606 = .ok (.invokevirtual 96, 3) := by decide +kernel
theorem dL_law_609 : decode cL_law 609 = .ok (.aload_n 2, 1) := by decide +kernel
theorem dL_law_610 : decode cL_law 610 = .ok (.aload_n 0, 1) := by decide +kernel
theorem dL_law_611 : decode cL_law 611 = .ok (.iload_n 3, 1) := by decide +kernel
theorem dL_law_612 : decode cL_law 612 = .ok (.iconst 1, 1) := by decide +kernel
theorem dL_law_613 : decode cL_law 613 = .ok (.iadd, 1) := by decide +kernel
theorem dL_law_614 : decode cL_law 614 = .ok (.iaload, 1) := by decide +kernel
theorem dL_law_615 : decode cL_law 615 = .ok (.invokevirtual 99, 3) := by decide +kernel
theorem dL_law_618 : decode cL_law 618 = .ok (.if_icmp .eq 186, 3) := by decide +kernel
theorem dL_law_621 : decode cL_law 621 = .ok (.iconst 0, 1) := by decide +kernel
theorem dL_law_622 : decode cL_law 622 = .ok (.ireturn, 1) := by decide +kernel
theorem dL_law_623 : decode cL_law 623 = .ok (.aload_n 1, 1) := by decide +kernel
theorem dL_law_624 : decode cL_law 624 = .ok (.aload_n 0, 1) := by decide +kernel
theorem dL_law_625 : decode cL_law 625 = .ok (.iload_n 3, 1) := by decide +kernel
theorem dL_law_626 : decode cL_law 626 = .ok (.iconst 1, 1) := by decide +kernel
theorem dL_law_627 : decode cL_law 627 = .ok (.iadd, 1) := by decide +kernel
theorem dL_law_628 : decode cL_law 628 = .ok (.iaload, 1) := by decide +kernel
theorem dL_law_629 : decode cL_law 629 = .ok (.aload_n 0, 1) := by decide +kernel
theorem dL_law_630 : decode cL_law 630 = .ok (.iload_n 3, 1) := by decide +kernel
theorem dL_law_631 : decode cL_law 631 = .ok (.iconst 2, 1) := by decide +kernel
theorem dL_law_632 : decode cL_law 632 = .ok (.iadd, 1) := by decide +kernel
theorem dL_law_633 : decode cL_law 633 = .ok (.iaload, 1) := by decide +kernel
theorem dL_law_634 : decode cL_law 634 = .ok (.invokevirtual 100, 3) := by decide +kernel
theorem dL_law_637 : decode cL_law 637 = .ok (.aload_n 2, 1) := by decide +kernel
theorem dL_law_638 : decode cL_law 638 = .ok (.aload_n 0, 1) := by decide +kernel
theorem dL_law_639 : decode cL_law 639 = .ok (.iload_n 3, 1) := by decide +kernel
theorem dL_law_640 : decode cL_law 640 = .ok (.iconst 1, 1) := by decide +kernel
theorem dL_law_641 : decode cL_law 641 = .ok (.iadd, 1) := by decide +kernel
theorem dL_law_642 : decode cL_law 642 = .ok (.iaload, 1) := by decide +kernel
theorem dL_law_643 : decode cL_law 643 = .ok (.aload_n 0, 1) := by decide +kernel
theorem dL_law_644 : decode cL_law 644 = .ok (.iload_n 3, 1) := by decide +kernel
theorem dL_law_645 : decode cL_law 645 = .ok (.iconst 2, 1) := by decide +kernel
theorem dL_law_646 : decode cL_law 646 = .ok (.iadd, 1) := by decide +kernel
theorem dL_law_647 : decode cL_law 647 = .ok (.iaload, 1) := by decide +kernel
theorem dL_law_648 : decode cL_law 648 = .ok (.invokevirtual 103, 3) := by decide +kernel
theorem dL_law_651 : decode cL_law 651 = .ok (.if_icmp .eq 153, 3) := by decide +kernel
theorem dL_law_654 : decode cL_law 654 = .ok (.iconst 0, 1) := by decide +kernel
theorem dL_law_655 : decode cL_law 655 = .ok (.ireturn, 1) := by decide +kernel
theorem dL_law_656 : decode cL_law 656 = .ok (.aload_n 1, 1) := by decide +kernel
theorem dL_law_657 : decode cL_law 657 = .ok (.aload_n 0, 1) := by decide +kernel
theorem dL_law_658 : decode cL_law 658 = .ok (.iload_n 3, 1) := by decide +kernel
theorem dL_law_659 : decode cL_law 659 = .ok (.iconst 1, 1) := by decide +kernel
theorem dL_law_660 : decode cL_law 660 = .ok (.iadd, 1) := by decide +kernel
theorem dL_law_661 : decode cL_law 661 = .ok (.iaload, 1) := by decide +kernel
theorem dL_law_662 : decode cL_law 662 = .ok (.invokevirtual 104, 3) := by decide +kernel
theorem dL_law_665 : decode cL_law 665 = .ok (.aload_n 2, 1) := by decide +kernel
theorem dL_law_666 : decode cL_law 666 = .ok (.aload_n 0, 1) := by decide +kernel
theorem dL_law_667 : decode cL_law 667 = .ok (.iload_n 3, 1) := by decide +kernel
theorem dL_law_668 : decode cL_law 668 = .ok (.iconst 1, 1) := by decide +kernel
theorem dL_law_669 : decode cL_law 669 = .ok (.iadd, 1) := by decide +kernel
theorem dL_law_670 : decode cL_law 670 = .ok (.iaload, 1) := by decide +kernel
theorem dL_law_671 : decode cL_law 671 = .ok (.invokevirtual 107, 3) := by decide +kernel
theorem dL_law_674 : decode cL_law 674 = .ok (.if_icmp .eq 130, 3) := by decide +kernel
theorem dL_law_677 : decode cL_law 677 = .ok (.iconst 0, 1) := by decide +kernel
theorem dL_law_678 : decode cL_law 678 = .ok (.ireturn, 1) := by decide +kernel
theorem dL_law_679 : decode cL_law 679 = .ok (.aload_n 1, 1) := by decide +kernel
theorem dL_law_680 : decode cL_law 680 = .ok (.aload_n 0, 1) := by decide +kernel
theorem dL_law_681 : decode cL_law 681 = .ok (.iload_n 3, 1) := by decide +kernel
theorem dL_law_682 : decode cL_law 682 = .ok (.iconst 1, 1) := by decide +kernel
theorem dL_law_683 : decode cL_law 683 = .ok (.iadd, 1) := by decide +kernel
theorem dL_law_684 : decode cL_law 684 = .ok (.iaload, 1) := by decide +kernel
theorem dL_law_685 : decode cL_law 685 = .ok (.invokevirtual 108, 3) := by decide +kernel
theorem dL_law_688 : decode cL_law 688 = .ok (.aload_n 2, 1) := by decide +kernel
theorem dL_law_689 : decode cL_law 689 = .ok (.aload_n 0, 1) := by decide +kernel
theorem dL_law_690 : decode cL_law 690 = .ok (.iload_n 3, 1) := by decide +kernel
theorem dL_law_691 : decode cL_law 691 = .ok (.iconst 1, 1) := by decide +kernel
theorem dL_law_692 : decode cL_law 692 = .ok (.iadd, 1) := by decide +kernel
theorem dL_law_693 : decode cL_law 693 = .ok (.iaload, 1) := by decide +kernel
theorem dL_law_694 : decode cL_law 694 = .ok (.invokevirtual 111, 3) := by decide +kernel
theorem dL_law_697 : decode cL_law 697 = .ok (.if_icmp .eq 107, 3) := by decide +kernel
theorem dL_law_700 : decode cL_law 700 = .ok (.iconst 0, 1) := by decide +kernel
theorem dL_law_701 : decode cL_law 701 = .ok (.ireturn, 1) := by decide +kernel
theorem dL_law_702 : decode cL_law 702 = .ok (.aload_n 1, 1) := by decide +kernel
theorem dL_law_703 : decode cL_law 703 = .ok (.aload_n 0, 1) := by decide +kernel
theorem dL_law_704 : decode cL_law 704 = .ok (.iload_n 3, 1) := by decide +kernel
theorem dL_law_705 : decode cL_law 705 = .ok (.iconst 1, 1) := by decide +kernel
theorem dL_law_706 : decode cL_law 706 = .ok (.iadd, 1) := by decide +kernel
theorem dL_law_707 : decode cL_law 707 = .ok (.iaload, 1) := by decide +kernel
theorem dL_law_708 : decode cL_law 708 = .ok (.invokevirtual 112, 3) := by decide +kernel
theorem dL_law_711 : decode cL_law 711 = .ok (.aload_n 2, 1) := by decide +kernel
theorem dL_law_712 : decode cL_law 712 = .ok (.aload_n 0, 1) := by decide +kernel
theorem dL_law_713 : decode cL_law 713 = .ok (.iload_n 3, 1) := by decide +kernel
theorem dL_law_714 : decode cL_law 714 = .ok (.iconst 1, 1) := by decide +kernel
theorem dL_law_715 : decode cL_law 715 = .ok (.iadd, 1) := by decide +kernel
theorem dL_law_716 : decode cL_law 716 = .ok (.iaload, 1) := by decide +kernel
theorem dL_law_717 : decode cL_law 717 = .ok (.invokevirtual 115, 3) := by decide +kernel
theorem dL_law_720 : decode cL_law 720 = .ok (.if_icmp .eq 84, 3) := by decide +kernel
theorem dL_law_723 : decode cL_law 723 = .ok (.iconst 0, 1) := by decide +kernel
theorem dL_law_724 : decode cL_law 724 = .ok (.ireturn, 1) := by decide +kernel
theorem dL_law_725 : decode cL_law 725 = .ok (.aload_n 1, 1) := by decide +kernel
theorem dL_law_726 : decode cL_law 726 = .ok (.aload_n 0, 1) := by decide +kernel
theorem dL_law_727 : decode cL_law 727 = .ok (.iload_n 3, 1) := by decide +kernel
theorem dL_law_728 : decode cL_law 728 = .ok (.iconst 1, 1) := by decide +kernel
theorem dL_law_729 : decode cL_law 729 = .ok (.iadd, 1) := by decide +kernel
theorem dL_law_730 : decode cL_law 730 = .ok (.iaload, 1) := by decide +kernel
theorem dL_law_731 : decode cL_law 731 = .ok (.invokevirtual 116, 3) := by decide +kernel
theorem dL_law_734 : decode cL_law 734 = .ok (.aload_n 2, 1) := by decide +kernel
theorem dL_law_735 : decode cL_law 735 = .ok (.aload_n 0, 1) := by decide +kernel
theorem dL_law_736 : decode cL_law 736 = .ok (.iload_n 3, 1) := by decide +kernel
theorem dL_law_737 : decode cL_law 737 = .ok (.iconst 1, 1) := by decide +kernel
theorem dL_law_738 : decode cL_law 738 = .ok (.iadd, 1) := by decide +kernel
theorem dL_law_739 : decode cL_law 739 = .ok (.iaload, 1) := by decide +kernel
theorem dL_law_740 : decode cL_law 740 = .ok (.invokevirtual 119, 3) := by decide +kernel
theorem dL_law_743 : decode cL_law 743 = .ok (.if_icmp .eq 61, 3) := by decide +kernel
theorem dL_law_746 : decode cL_law 746 = .ok (.iconst 0, 1) := by decide +kernel
theorem dL_law_747 : decode cL_law 747 = .ok (.ireturn, 1) := by decide +kernel
theorem dL_law_748 : decode cL_law 748 = .ok (.aload_n 1, 1) := by decide +kernel
theorem dL_law_749 : decode cL_law 749 = .ok (.aload_n 0, 1) := by decide +kernel
theorem dL_law_750 : decode cL_law 750 = .ok (.iload_n 3, 1) := by decide +kernel
theorem dL_law_751 : decode cL_law 751 = .ok (.iconst 1, 1) := by decide +kernel
theorem dL_law_752 : decode cL_law 752 = .ok (.iadd, 1) := by decide +kernel
theorem dL_law_753 : decode cL_law 753 = .ok (.iaload, 1) := by decide +kernel
theorem dL_law_754 : decode cL_law 754 = .ok (.invokevirtual 120, 3) := by decide +kernel
theorem dL_law_757 : decode cL_law 757 = .ok (.aload_n 2, 1) := by decide +kernel
theorem dL_law_758 : decode cL_law 758 = .ok (.aload_n 0, 1) := by decide +kernel
theorem dL_law_759 : decode cL_law 759 = .ok (.iload_n 3, 1) := by decide +kernel
theorem dL_law_760 : decode cL_law 760 = .ok (.iconst 1, 1) := by decide +kernel
theorem dL_law_761 : decode cL_law 761 = .ok (.iadd, 1) := by decide +kernel
theorem dL_law_762 : decode cL_law 762 = .ok (.iaload, 1) := by decide +kernel
theorem dL_law_763 : decode cL_law 763 = .ok (.invokevirtual 123, 3) := by decide +kernel
theorem dL_law_766 : decode cL_law 766 = .ok (.if_icmp .eq 38, 3) := by decide +kernel
theorem dL_law_769 : decode cL_law 769 = .ok (.iconst 0, 1) := by decide +kernel
theorem dL_law_770 : decode cL_law 770 = .ok (.ireturn, 1) := by decide +kernel
theorem dL_law_771 : decode cL_law 771 = .ok (.aload_n 1, 1) := by decide +kernel
theorem dL_law_772 : decode cL_law 772 = .ok (.aload_n 0, 1) := by decide +kernel
theorem dL_law_773 : decode cL_law 773 = .ok (.iload_n 3, 1) := by decide +kernel
theorem dL_law_774 : decode cL_law 774 = .ok (.iconst 1, 1) := by decide +kernel
theorem dL_law_775 : decode cL_law 775 = .ok (.iadd, 1) := by decide +kernel
theorem dL_law_776 : decode cL_law 776 = .ok (.iaload, 1) := by decide +kernel
theorem dL_law_777 : decode cL_law 777 = .ok (.aload_n 0, 1) := by decide +kernel
theorem dL_law_778 : decode cL_law 778 = .ok (.iload_n 3, 1) := by decide +kernel
theorem dL_law_779 : decode cL_law 779 = .ok (.iconst 2, 1) := by decide +kernel
theorem dL_law_780 : decode cL_law 780 = .ok (.iadd, 1) := by decide +kernel
theorem dL_law_781 : decode cL_law 781 = .ok (.iaload, 1) := by decide +kernel
theorem dL_law_782 : decode cL_law 782 = .ok (.invokevirtual 124, 3) := by decide +kernel
theorem dL_law_785 : decode cL_law 785 = .ok (.aload_n 2, 1) := by decide +kernel
theorem dL_law_786 : decode cL_law 786 = .ok (.aload_n 0, 1) := by decide +kernel
theorem dL_law_787 : decode cL_law 787 = .ok (.iload_n 3, 1) := by decide +kernel
theorem dL_law_788 : decode cL_law 788 = .ok (.iconst 1, 1) := by decide +kernel
theorem dL_law_789 : decode cL_law 789 = .ok (.iadd, 1) := by decide +kernel
theorem dL_law_790 : decode cL_law 790 = .ok (.iaload, 1) := by decide +kernel
theorem dL_law_791 : decode cL_law 791 = .ok (.aload_n 0, 1) := by decide +kernel
theorem dL_law_792 : decode cL_law 792 = .ok (.iload_n 3, 1) := by decide +kernel
theorem dL_law_793 : decode cL_law 793 = .ok (.iconst 2, 1) := by decide +kernel
theorem dL_law_794 : decode cL_law 794 = .ok (.iadd, 1) := by decide +kernel
theorem dL_law_795 : decode cL_law 795 = .ok (.iaload, 1) := by decide +kernel
theorem dL_law_796 : decode cL_law 796 = .ok (.invokevirtual 127, 3) := by decide +kernel
theorem dL_law_799 : decode cL_law 799 = .ok (.if_icmp .eq 5, 3) := by decide +kernel
theorem dL_law_802 : decode cL_law 802 = .ok (.iconst 0, 1) := by decide +kernel
theorem dL_law_803 : decode cL_law 803 = .ok (.ireturn, 1) := by decide +kernel
theorem dL_law_804 : decode cL_law 804 = .ok (.iinc 3 3, 3) := by decide +kernel
theorem dL_law_807 : decode cL_law 807 = .ok (.goto (-789), 3) := by decide +kernel
theorem dL_law_810 : decode cL_law 810 = .ok (.iconst 1, 1) := by decide +kernel
theorem dL_law_811 : decode cL_law 811 = .ok (.ireturn, 1) := by decide +kernel
