theorem dX7_setData_0 : decode cX7_setData 0 = .ok (.iload_n 1, 1) := by decide +kernel
theorem dX7_setData_1 : decode cX7_setData 1 = .ok (.invokestatic 144, 3) := by decide +kernel
theorem dX7_setData_4 : decode cX7_setData 4 = .ok (.ifCond .eq 10, 3) := by decide +kernel
theorem dX7_setData_7 : decode cX7_setData 7 = .ok (.iload_n 2, 1) := by decide +kernel
theorem dX7_setData_8 : decode cX7_setData 8 = .ok (.invokestatic 171, 3) := by decide +kernel
theorem dX7_setData_11 : decode cX7_setData 11 = .ok (.ifCond .ne 5, 3) := by decide +kernel
theorem dX7_setData_14 : decode cX7_setData 14 = .ok (.iconst (-1), 1) := by decide +kernel
theorem dX7_setData_15 : decode cX7_setData 15 = .ok (.ireturn, 1) := by decide +kernel
theorem dX7_setData_16 : decode cX7_setData 16 = .ok (.aload_n 0, 1) := by decide +kernel
theorem dX7_setData_17 : decode cX7_setData 17 = .ok (.getfield 60, 3) := by decide +kernel
theorem dX7_setData_20 : decode cX7_setData 20 = .ok (.ifnull 10, 3) := by decide +kernel
theorem dX7_setData_23 : decode cX7_setData 23 = .ok (.aload_n 0, 1) := by decide +kernel
theorem dX7_setData_24 : decode cX7_setData 24 = .ok (.getfield 141, 3) := by decide +kernel
theorem dX7_setData_27 : decode cX7_setData 27 = .ok (.ifCond .ne 6, 3) := by decide +kernel
theorem dX7_setData_30 : decode cX7_setData 30 = .ok (.bipush (-2), 2) := by decide +kernel
theorem dX7_setData_32 : decode cX7_setData 32 = .ok (.ireturn, 1) := by decide +kernel
theorem dX7_setData_33 : decode cX7_setData 33 = .ok (.aload_n 0, 1) := by decide +kernel
theorem dX7_setData_34 : decode cX7_setData 34 = .ok (.getfield 33, 3) := by decide +kernel
theorem dX7_setData_37 : decode cX7_setData 37 = .ok (.aload_n 0, 1) := by decide +kernel
theorem dX7_setData_38 : decode cX7_setData 38 = .ok (.getfield 141, 3) := by decide +kernel
theorem dX7_setData_41 : decode cX7_setData 41 = .ok (.invokevirtual 155, 3) := by decide +kernel
theorem dX7_setData_44 : decode cX7_setData 44 = .ok (.astore_n 3, 1) := by decide +kernel
theorem dX7_setData_45 : decode cX7_setData 45 = .ok (.aload_n 3, 1) := by decide +kernel
theorem dX7_setData_46 : decode cX7_setData 46 = .ok (.ifnonnull 6, 3) := by decide +kernel
theorem dX7_setData_49 : decode cX7_setData 49 = .ok (.bipush (-3), 2) := by decide +kernel
theorem dX7_setData_51 : decode cX7_setData 51 = .ok (.ireturn, 1) := by decide +kernel
theorem dX7_setData_52 : decode cX7_setData 52 = .ok (.aload_n 3, 1) := by decide +kernel
theorem dX7_setData_53 : decode cX7_setData 53 = .ok (.iload_n 2, 1) := by decide +kernel
theorem dX7_setData_54 : decode cX7_setData 54 = .ok (.invokevirtual 174, 3) := by decide +kernel
theorem dX7_setData_57 : decode cX7_setData 57 = .ok (.ifCond .ne 6, 3) := by decide +kernel
theorem dX7_setData_60 : decode cX7_setData 60 = .ok (.bipush (-5), 2) := by decide +kernel
theorem dX7_setData_62 : decode cX7_setData 62 = .ok (.ireturn, 1) := by decide +kernel
theorem dX7_setData_63 : decode cX7_setData 63 = .ok (.aload_n 0, 1) := by decide +kernel
theorem dX7_setData_64 : decode cX7_setData 64 = .ok (.iconst 1, 1) := by decide +kernel
theorem dX7_setData_65 : decode cX7_setData 65 = .ok (.aload_n 0, 1) := by decide +kernel
theorem dX7_setData_66 : decode cX7_setData 66 = .ok (.getfield 141, 3) := by decide +kernel
theorem dX7_setData_69 : decode cX7_setData 69 = .ok (.iload_n 1, 1) := by decide +kernel
theorem dX7_setData_70 : decode cX7_setData 70 = .ok (.bipush (-8), 2) := by decide +kernel
theorem dX7_setData_72 : decode cX7_setData 72 = .ok (.invokevirtual 167, 3) := by decide +kernel
theorem dX7_setData_75 : decode cX7_setData 75 = .ok (.ireturn, 1) := by decide +kernel
set_option maxRecDepth 20000 in
theorem ggX7_delete_X7_isVersion : GoodIn wsX7_delete wsX7_isVersion := goodIn_r _ [7] (by decide +kernel) (by decide +kernel)
set_option maxRecDepth 20000 in
theorem gX7_delete_X7_isVersion : GoodIn wsX7_delete (va_wsS RX7 171 yX7_isVersion wsX7_isVersion) := goodIn_app (goodIn_of _ (by decide +kernel)) ggX7_delete_X7_isVersion
set_option maxRecDepth 20000 in
theorem ggX7_delete_X4_find : GoodIn wsX7_delete wsX4_find := goodIn_r _ [12, 13, 14, 210, 211, 212, 213, 214, 215] (by decide +kernel) (by decide +kernel)
set_option maxRecDepth 20000 in
theorem gX7_delete_X4_find : GoodIn wsX7_delete (wsV RX7 155 RX4 yX4_find wsX4_find) := goodIn_app (goodIn_of _ (by decide +kernel)) ggX7_delete_X4_find
set_option maxRecDepth 20000 in
theorem ggX7_delete_X0_hasVersion : GoodIn wsX7_delete wsX0_hasVersion := goodIn_r _ [19, 20, 212, 213, 214, 215] (by decide +kernel) (by decide +kernel)
set_option maxRecDepth 20000 in
theorem gX7_delete_X0_hasVersion : GoodIn wsX7_delete (wsV RX7 174 RX0 yX0_hasVersion wsX0_hasVersion) := goodIn_app (goodIn_of _ (by decide +kernel)) ggX7_delete_X0_hasVersion
set_option maxRecDepth 20000 in
theorem ggX7_delete_X4_countChildren : GoodIn wsX7_delete wsX4_countChildren := goodIn_r _ [24, 13, 14, 25, 6, 26, 210, 211, 212, 213, 214, 215] (by decide +kernel) (by decide +kernel)
set_option maxRecDepth 20000 in
theorem gX7_delete_X4_countChildren : GoodIn wsX7_delete (wsV RX7 179 RX4 yX4_countChildren wsX4_countChildren) := goodIn_app (goodIn_of _ (by decide +kernel)) ggX7_delete_X4_countChildren
set_option maxRecDepth 20000 in
theorem ggX7_delete_X7_propose : GoodIn wsX7_delete wsX7_propose := goodIn_r _ [30, 1, 31, 32, 33, 34, 35, 36, 3, 37, 38, 39, 40, 41, 42, 43, 44, 45, 46, 47, 48, 49, 50, 51, 52, 53, 54, 55, 56, 57, 58, 59, 60, 61, 62, 63, 64, 65, 66, 67, 68, 69, 70, 71, 72, 73, 74, 75, 76, 77, 78, 79, 80, 81, 82, 83, 84, 85, 86, 87, 88, 89, 90, 91, 92, 93, 94, 95, 96, 97, 98, 99, 100, 101, 102, 103, 104, 105, 106, 107, 108, 109, 110, 111, 11, 112, 113, 114, 115, 116, 117, 118, 14, 119, 120, 121, 122, 123, 124, 125, 126, 9, 10, 12, 13, 127, 128, 129, 130, 131, 132, 133, 134, 135, 136, 137, 138, 139, 140, 141, 142, 143, 144, 145, 146, 147, 148, 149, 150, 151, 152, 153, 154, 155, 156, 157, 158, 159, 160, 161, 162, 163, 164, 165, 166, 167, 168, 169, 170, 171, 172, 173, 174, 175, 176, 177, 178, 179, 180, 181, 182, 183, 184, 185, 18, 186, 187, 188, 189, 190, 191, 192, 193, 194, 195, 196, 6, 197, 198, 199, 200, 201, 202, 203, 204, 205, 206, 207, 208, 209, 216, 217, 218, 219, 220, 221, 222, 223, 224, 225, 226, 227, 228, 229, 230, 212, 213, 214, 215, 210, 211, 231, 232, 233, 234, 235, 236, 237] (by decide +kernel) (by decide +kernel)
set_option maxRecDepth 20000 in
theorem gX7_delete_X7_propose : GoodIn wsX7_delete (wsV RX7 167 RX7 yX7_propose wsX7_propose) := goodIn_app (goodIn_of _ (by decide +kernel)) ggX7_delete_X7_propose
theorem dX7_delete_0 : decode cX7_delete 0 = .ok (.iload_n 1, 1) := by decide +kernel
theorem dX7_delete_1 : decode cX7_delete 1 = .ok (.invokestatic 171, 3) := by decide +kernel
theorem dX7_delete_4 : decode cX7_delete 4 = .ok (.ifCond .ne 5, 3) := by decide +kernel
theorem dX7_delete_7 : decode cX7_delete 7 = .ok (.iconst (-1), 1) := by decide +kernel
theorem dX7_delete_8 : decode cX7_delete 8 = .ok (.ireturn, 1) := by decide +kernel
theorem dX7_delete_9 : decode cX7_delete 9 = .ok (.aload_n 0, 1) := by decide +kernel
theorem dX7_delete_10 : decode cX7_delete 10 = .ok (.getfield 60, 3) := by decide +kernel
theorem dX7_delete_13 : decode cX7_delete 13 = .ok (.ifnull 10, 3) := by decide +kernel
theorem dX7_delete_16 : decode cX7_delete 16 = .ok (.aload_n 0, 1) := by decide +kernel
theorem dX7_delete_17 : decode cX7_delete 17 = .ok (.getfield 141, 3) := by decide +kernel
theorem dX7_delete_20 : decode cX7_delete 20 = .ok (.ifCond .ne 6, 3) := by decide +kernel
theorem dX7_delete_23 : decode cX7_delete 23 = .ok (.bipush (-2), 2) := by decide +kernel
theorem dX7_delete_25 : decode cX7_delete 25 = .ok (.ireturn, 1) := by decide +kernel
theorem dX7_delete_26 : decode cX7_delete 26 = .ok (.aload_n 0, 1) := by decide +kernel
theorem dX7_delete_27 : decode cX7_delete 27 = .ok (.getfield 33, 3) := by decide +kernel
theorem dX7_delete_30 : decode cX7_delete 30 = .ok (.aload_n 0, 1) := by decide +kernel
theorem dX7_delete_31 : decode cX7_delete 31 = .ok (.getfield 141, 3) := by decide +kernel
theorem dX7_delete_34 : decode cX7_delete 34 = .ok (.invokevirtual 155, 3) := by decide +kernel
theorem dX7_delete_37 : decode cX7_delete 37 = .ok (.astore_n 2, 1) := by decide +kernel
theorem dX7_delete_38 : decode cX7_delete 38 = .ok (.aload_n 2, 1) := by decide +kernel
theorem dX7_delete_39 : decode cX7_delete 39 = .ok (.ifnonnull 6, 3) := by decide +kernel
theorem dX7_delete_42 : decode cX7_delete 42 = .ok (.bipush (-3), 2) := by decide +kernel
theorem dX7_delete_44 : decode cX7_delete 44 = .ok (.ireturn, 1) := by decide +kernel
theorem dX7_delete_45 : decode cX7_delete 45 = .ok (.aload_n 2, 1) := by decide +kernel
theorem dX7_delete_46 : decode cX7_delete 46 = .ok (.iload_n 1, 1) := by decide +kernel
theorem dX7_delete_47 : decode cX7_delete 47 = .ok (.invokevirtual 174, 3) := by decide +kernel
theorem dX7_delete_50 : decode cX7_delete 50 = .ok (.ifCond .ne 6, 3) := by decide +kernel
theorem dX7_delete_53 : decode cX7_delete 53 = .ok (.bipush (-5), 2) := by decide +kernel
theorem dX7_delete_55 : decode cX7_delete 55 = .ok (.ireturn, 1) := by decide +kernel
theorem dX7_delete_56 : decode cX7_delete 56 = .ok (.aload_n 0, 1) := by decide +kernel
theorem dX7_delete_57 : decode cX7_delete 57 = .ok (.getfield 33, 3) := by decide +kernel
theorem dX7_delete_60 : decode cX7_delete 60 = .ok (.aload_n 0, 1) := by decide +kernel
theorem dX7_delete_61 : decode cX7_delete 61 = .ok (.getfield 141, 3) := by decide +kernel
theorem dX7_delete_64 : decode cX7_delete 64 = .ok (.invokevirtual 179, 3) := by decide +kernel
theorem dX7_delete_67 : decode cX7_delete 67 = .ok (.ifCond .le 6, 3) := by decide +kernel
theorem dX7_delete_70 : decode cX7_delete 70 = .ok (.bipush (-6), 2) := by decide +kernel
theorem dX7_delete_72 : decode cX7_delete 72 = .ok (.ireturn, 1) := by decide +kernel
theorem dX7_delete_73 : decode cX7_delete 73 = .ok (.aload_n 0, 1) := by decide +kernel
theorem dX7_delete_74 : decode cX7_delete 74 = .ok (.iconst 2, 1) := by decide +kernel
theorem dX7_delete_75 : decode cX7_delete 75 = .ok (.aload_n 0, 1) := by decide +kernel
theorem dX7_delete_76 : decode cX7_delete 76 = .ok (.getfield 141, 3) := by decide +kernel
theorem dX7_delete_79 : decode cX7_delete 79 = .ok (.iconst 0, 1) := by decide +kernel
theorem dX7_delete_80 : decode cX7_delete 80 = .ok (.bipush (-8), 2) := by decide +kernel
theorem dX7_delete_82 : decode cX7_delete 82 = .ok (.invokevirtual 167, 3) := by decide +kernel
theorem dX7_delete_85 : decode cX7_delete 85 = .ok (.ireturn, 1) := by decide +kernel
set_option maxRecDepth 20000 in
theorem ggX7_openSession_X2_forgetEvents : GoodIn wsX7_openSession wsX2_forgetEvents := goodIn_r _ [8, 9, 22, 23, 24] (by decide +kernel) (by decide +kernel)
set_option maxRecDepth 20000 in
theorem gX7_openSession_X2_forgetEvents : GoodIn wsX7_openSession (wsV RX7 185 RX2 yX2_forgetEvents wsX2_forgetEvents) := goodIn_app (goodIn_of _ (by decide +kernel)) ggX7_openSession_X2_forgetEvents
theorem dX7_openSession_0 : decode cX7_openSession 0 = .ok (.aload_n 0, 1) := by decide +kernel
theorem dX7_openSession_1 : decode cX7_openSession 1 = .ok (.getfield 182, 3) := by decide +kernel
theorem dX7_openSession_4 : decode cX7_openSession 4 = .ok (.bipush 6, 2) := by decide +kernel
theorem dX7_openSession_6 : decode cX7_openSession 6 = .ok (.if_icmp .lt 6, 3) := by decide +kernel
theorem dX7_openSession_9 : decode cX7_openSession 9 = .ok (.bipush (-7), 2) := by decide +kernel
theorem dX7_openSession_11 : decode cX7_openSession 11 = .ok (.ireturn, 1) := by decide +kernel
theorem dX7_openSession_12 : decode cX7_openSession 12 = .ok (.aload_n 0, 1) := by decide +kernel
theorem dX7_openSession_13 : decode cX7_openSession 13 = .ok (.getfield 17, 3) := by decide +kernel
theorem dX7_openSession_16 : decode cX7_openSession 16 = .ok (.aload_n 0, 1) := by decide +kernel
theorem dX7_openSession_17 : decode cX7_openSession 17 = .ok (.getfield 182, 3) := by decide +kernel
theorem dX7_openSession_20 : decode cX7_openSession 20 = .ok (.aaload, 1) := by decide +kernel
theorem dX7_openSession_21 : decode cX7_openSession 21 = .ok (.astore_n 1, 1) := by decide +kernel
theorem dX7_openSession_22 : decode cX7_openSession 22 = .ok (.aload_n 1, 1) := by decide +kernel
theorem dX7_openSession_23 : decode cX7_openSession 23 = .ok (.invokevirtual 185, 3) := by decide +kernel
theorem dX7_openSession_26 : decode cX7_openSession 26 = .ok (.aload_n 0, 1) := by decide +kernel
theorem dX7_openSession_27 : decode cX7_openSession 27 = .ok (.dup, 1) := by decide +kernel
theorem dX7_openSession_28 : decode cX7_openSession 28 = .ok (.getfield 182, 3) := by decide +kernel
theorem dX7_openSession_31 : decode cX7_openSession 31 = .ok (.iconst 1, 1) := by decide +kernel
theorem dX7_openSession_32 : decode cX7_openSession 32 = .ok (.iadd, 1) := by decide +kernel
theorem dX7_openSession_33 : decode cX7_openSession 33 = .ok (.putfield 182, 3) := by decide +kernel
theorem dX7_openSession_36 : decode cX7_openSession 36 = .ok (.aload_n 1, 1) := by decide +kernel
theorem dX7_openSession_37 : decode cX7_openSession 37 = .ok (.getfield 188, 3) := by decide +kernel
theorem dX7_openSession_40 : decode cX7_openSession 40 = .ok (.ireturn, 1) := by decide +kernel
set_option maxRecDepth 20000 in
theorem ggX7_closeSession_X7_findSession : GoodIn wsX7_closeSession wsX7_findSession := goodIn_r _ [6, 7, 8, 199, 200, 201, 202, 203, 204, 205, 206, 207, 208, 209, 210] (by decide +kernel) (by decide +kernel)
set_option maxRecDepth 20000 in
theorem gX7_closeSession_X7_findSession : GoodIn wsX7_closeSession (wsV RX7 148 RX7 yX7_findSession wsX7_findSession) := goodIn_app (goodIn_of _ (by decide +kernel)) ggX7_closeSession_X7_findSession
set_option maxRecDepth 20000 in
theorem ggX7_closeSession_X1_hasClosed : GoodIn wsX7_closeSession wsX1_hasClosed := goodIn_r _ [13, 14, 15, 16, 17, 18, 19, 20, 21, 22, 23, 24, 25, 26, 27, 28, 29, 30, 31, 32, 33, 34, 35, 36, 37, 38, 39, 40, 211, 212, 213, 214, 215, 216, 217, 218, 219, 220, 221, 222, 223, 224, 225] (by decide +kernel) (by decide +kernel)
set_option maxRecDepth 20000 in
theorem gX7_closeSession_X1_hasClosed : GoodIn wsX7_closeSession (wsV RX7 152 RX1 yX1_hasClosed wsX1_hasClosed) := goodIn_app (goodIn_of _ (by decide +kernel)) ggX7_closeSession_X1_hasClosed
set_option maxRecDepth 20000 in
theorem ggX7_closeSession_X7_propose : GoodIn wsX7_closeSession wsX7_propose := goodIn_r _ [44, 1, 45, 46, 47, 48, 49, 50, 51, 52, 53, 19, 20, 21, 22, 23, 54, 55, 56, 57, 58, 59, 60, 61, 62, 63, 64, 65, 66, 67, 68, 69, 70, 40, 71, 72, 73, 74, 75, 76, 77, 78, 79, 80, 81, 82, 83, 84, 85, 86, 87, 88, 89, 90, 91, 92, 93, 94, 95, 96, 97, 98, 99, 100, 101, 102, 103, 104, 105, 106, 107, 108, 109, 110, 111, 112, 113, 114, 115, 116, 117, 118, 119, 120, 121, 122, 123, 124, 125, 126, 127, 128, 129, 130, 131, 132, 133, 134, 135, 136, 137, 138, 139, 140, 141, 142, 143, 144, 145, 146, 147, 148, 149, 150, 151, 25, 26, 27, 28, 29, 30, 31, 32, 33, 34, 35, 36, 37, 38, 39, 152, 153, 154, 155, 156, 157, 158, 159, 160, 161, 162, 163, 164, 165, 166, 167, 168, 169, 170, 171, 172, 173, 174, 175, 176, 177, 178, 179, 180, 181, 182, 183, 184, 185, 186, 187, 188, 189, 190, 191, 192, 193, 194, 195, 196, 197, 5, 198, 199, 200, 201, 202, 203, 204, 205, 206, 207, 208, 209, 210, 211, 212, 213, 214, 215, 216, 217, 218, 219, 220, 221, 222, 223, 224, 225, 226, 227, 228, 229, 230, 231, 232, 233, 234, 235, 236, 237, 238] (by decide +kernel) (by decide +kernel)
set_option maxRecDepth 20000 in
theorem gX7_closeSession_X7_propose : GoodIn wsX7_closeSession (wsV RX7 167 RX7 yX7_propose wsX7_propose) := goodIn_app (goodIn_of _ (by decide +kernel)) ggX7_closeSession_X7_propose
theorem dX7_closeSession_0 : decode cX7_closeSession 0 = .ok (.aload_n 0, 1) := by decide +kernel
theorem dX7_closeSession_1 : decode cX7_closeSession 1 = .ok (.iload_n 1, 1) := by decide +kernel
theorem dX7_closeSession_2 : decode cX7_closeSession 2 = .ok (.invokevirtual 148, 3) := by decide +kernel
theorem dX7_closeSession_5 : decode cX7_closeSession 5 = .ok (.ifnonnull 5, 3) := by decide +kernel
theorem dX7_closeSession_8 : decode cX7_closeSession 8 = .ok (.iconst (-1), 1) := by decide +kernel
theorem dX7_closeSession_9 : decode cX7_closeSession 9 = .ok (.ireturn, 1) := by decide +kernel
theorem dX7_closeSession_10 : decode cX7_closeSession 10 = .ok (.aload_n 0, 1) := by decide +kernel
theorem dX7_closeSession_11 : decode cX7_closeSession 11 = .ok (.getfield 60, 3) := by decide +kernel
theorem dX7_closeSession_14 : decode cX7_closeSession 14 = .ok (.ifnull 14, 3) := by decide +kernel
theorem dX7_closeSession_17 : decode cX7_closeSession 17 = .ok (.aload_n 0, 1) := by decide +kernel
theorem dX7_closeSession_18 : decode cX7_closeSession 18 = .ok (.getfield 60, 3) := by decide +kernel
theorem dX7_closeSession_21 : decode cX7_closeSession 21 = .ok (.iload_n 1, 1) := by decide +kernel
theorem dX7_closeSession_22 : decode cX7_closeSession 22 = .ok (.invokevirtual 152, 3) := by decide +kernel
theorem dX7_closeSession_25 : decode cX7_closeSession 25 = .ok (.ifCond .eq 6, 3) := by decide +kernel
theorem dX7_closeSession_28 : decode cX7_closeSession 28 = .ok (.bipush (-2), 2) := by decide +kernel
theorem dX7_closeSession_30 : decode cX7_closeSession 30 = .ok (.ireturn, 1) := by decide +kernel
theorem dX7_closeSession_31 : decode cX7_closeSession 31 = .ok (.aload_n 0, 1) := by decide +kernel
theorem dX7_closeSession_32 : decode cX7_closeSession 32 = .ok (.iconst 3, 1) := by decide +kernel
theorem dX7_closeSession_33 : decode cX7_closeSession 33 = .ok (.iconst 0, 1) := by decide +kernel
theorem dX7_closeSession_34 : decode cX7_closeSession 34 = .ok (.iconst 0, 1) := by decide +kernel
theorem dX7_closeSession_35 : decode cX7_closeSession 35 = .ok (.iload_n 1, 1) := by decide +kernel
theorem dX7_closeSession_36 : decode cX7_closeSession 36 = .ok (.invokevirtual 167, 3) := by decide +kernel
theorem dX7_closeSession_39 : decode cX7_closeSession 39 = .ok (.ireturn, 1) := by decide +kernel
set_option maxRecDepth 20000 in
theorem ggX7_watch_X7_findServer : GoodIn wsX7_watch wsX7_findServer := goodIn_r _ [11, 12, 13, 106, 107, 108, 109, 110, 111, 112, 113, 114, 115, 116, 117] (by decide +kernel) (by decide +kernel)
set_option maxRecDepth 20000 in
theorem gX7_watch_X7_findServer : GoodIn wsX7_watch (wsV RX7 46 RX7 yX7_findServer wsX7_findServer) := goodIn_app (goodIn_of _ (by decide +kernel)) ggX7_watch_X7_findServer
set_option maxRecDepth 20000 in
theorem ggX7_watch_X7_findSession : GoodIn wsX7_watch wsX7_findSession := goodIn_r _ [17, 18, 19, 106, 107, 108, 109, 110, 111, 112, 113, 114, 115, 116, 117] (by decide +kernel) (by decide +kernel)
set_option maxRecDepth 20000 in
theorem gX7_watch_X7_findSession : GoodIn wsX7_watch (wsV RX7 148 RX7 yX7_findSession wsX7_findSession) := goodIn_app (goodIn_of _ (by decide +kernel)) ggX7_watch_X7_findSession
set_option maxRecDepth 20000 in
theorem ggX7_watch_X6_size : GoodIn wsX7_watch wsX6_size := goodIn_r _ [24, 25, 26, 27, 28, 29, 30, 31, 121, 122, 123, 124] (by decide +kernel) (by decide +kernel)
set_option maxRecDepth 20000 in
theorem gX7_watch_X6_size : GoodIn wsX7_watch (wsV RX7 189 RX6 yX6_size wsX6_size) := goodIn_app (goodIn_of _ (by decide +kernel)) ggX7_watch_X6_size
set_option maxRecDepth 20000 in
theorem ggX7_watch_X5_init : GoodIn wsX7_watch wsX5_init := goodIn_r _ [34, 35, 36, 37, 38, 39, 40, 118, 119, 120] (by decide +kernel) (by decide +kernel)
set_option maxRecDepth 20000 in
theorem gX7_watch_X5_init : GoodIn wsX7_watch (wsX5_init) := ggX7_watch_X5_init
set_option maxRecDepth 20000 in
theorem ggX7_watch_X6_add : GoodIn wsX7_watch wsX6_add := goodIn_r _ [44, 25, 45, 46, 47, 29, 48, 49, 50, 51, 31, 52, 53, 54, 55, 56, 57, 58, 59, 60, 61, 62, 63, 64, 65, 66, 67, 68, 69, 70, 71, 72, 73, 74, 75, 76, 77, 78, 79, 80, 81, 82, 83, 84, 85, 86, 87, 88, 89, 90, 91, 92, 93, 94, 95, 96, 97, 98, 121, 122, 123, 124] (by decide +kernel) (by decide +kernel)
set_option maxRecDepth 20000 in
theorem gX7_watch_X6_add : GoodIn wsX7_watch (wsV RX7 195 RX6 yX6_add wsX6_add) := goodIn_app (goodIn_of _ (by decide +kernel)) ggX7_watch_X6_add
theorem dX7_watch_0 : decode cX7_watch 0 = .ok (.aload_n 0, 1) := by decide +kernel
theorem dX7_watch_1 : decode cX7_watch 1 = .ok (.iload_n 1, 1) := by decide +kernel
theorem dX7_watch_2 : decode cX7_watch 2 = .ok (.invokevirtual 46, 3) := by decide +kernel
theorem dX7_watch_5 : decode cX7_watch 5 = .ok (.astore_n 3, 1) := by decide +kernel
theorem dX7_watch_6 : decode cX7_watch 6 = .ok (.aload_n 0, 1) := by decide +kernel
theorem dX7_watch_7 : decode cX7_watch 7 = .ok (.iload_n 2, 1) := by decide +kernel
theorem dX7_watch_8 : decode cX7_watch 8 = .ok (.invokevirtual 148, 3) := by decide +kernel
theorem dX7_watch_11 : decode cX7_watch 11 = .ok (.astore 4, 2) := by decide +kernel
theorem dX7_watch_13 : decode cX7_watch 13 = .ok (.aload_n 3, 1) := by decide +kernel
theorem dX7_watch_14 : decode cX7_watch 14 = .ok (.ifnull 8, 3) := by decide +kernel
theorem dX7_watch_17 : decode cX7_watch 17 = .ok (.aload 4, 2) := by decide +kernel
theorem dX7_watch_19 : decode cX7_watch 19 = .ok (.ifnonnull 5, 3) := by decide +kernel
theorem dX7_watch_22 : decode cX7_watch 22 = .ok (.iconst (-1), 1) := by decide +kernel
theorem dX7_watch_23 : decode cX7_watch 23 = .ok (.ireturn, 1) := by decide +kernel
theorem dX7_watch_24 : decode cX7_watch 24 = .ok (.aload_n 3, 1) := by decide +kernel
theorem dX7_watch_25 : decode cX7_watch 25 = .ok (.getfield 50, 3) := by decide +kernel
theorem dX7_watch_28 : decode cX7_watch 28 = .ok (.ifCond .eq 10, 3) := by decide +kernel
theorem dX7_watch_31 : decode cX7_watch 31 = .ok (.aload_n 0, 1) := by decide +kernel
theorem dX7_watch_32 : decode cX7_watch 32 = .ok (.getfield 141, 3) := by decide +kernel
theorem dX7_watch_35 : decode cX7_watch 35 = .ok (.ifCond .ne 6, 3) := by decide +kernel
theorem dX7_watch_38 : decode cX7_watch 38 = .ok (.bipush (-2), 2) := by decide +kernel
theorem dX7_watch_40 : decode cX7_watch 40 = .ok (.ireturn, 1) := by decide +kernel
theorem dX7_watch_41 : decode cX7_watch 41 = .ok (.aload_n 0, 1) := by decide +kernel
theorem dX7_watch_42 : decode cX7_watch 42 = .ok (.getfield 24, 3) := by decide +kernel
theorem dX7_watch_45 : decode cX7_watch 45 = .ok (.invokevirtual 189, 3) := by decide +kernel
theorem dX7_watch_48 : decode cX7_watch 48 = .ok (.bipush 10, 2) := by decide +kernel
theorem dX7_watch_50 : decode cX7_watch 50 = .ok (.if_icmp .lt 6, 3) := by decide +kernel
theorem dX7_watch_53 : decode cX7_watch 53 = .ok (.bipush (-7), 2) := by decide +kernel
theorem dX7_watch_55 : decode cX7_watch 55 = .ok (.ireturn, 1) := by decide +kernel
theorem dX7_watch_56 : decode cX7_watch 56 = .ok (.aload_n 0, 1) := by decide +kernel
theorem dX7_watch_57 : decode cX7_watch 57 = .ok (.getfield 24, 3) := by decide +kernel
theorem dX7_watch_60 : decode cX7_watch 60 = .ok (.new 190, 3) := by decide +kernel
theorem dX7_watch_63 : decode cX7_watch 63 = .ok (.dup, 1) := by decide +kernel
theorem dX7_watch_64 : decode cX7_watch 64 = .ok (.iload_n 1, 1) := by decide +kernel
theorem dX7_watch_65 : decode cX7_watch 65 = .ok (.aload 4, 2) := by decide +kernel
theorem dX7_watch_67 : decode cX7_watch 67 = .ok (.aload_n 0, 1) := by decide +kernel
theorem dX7_watch_68 : decode cX7_watch 68 = .ok (.getfield 141, 3) := by decide +kernel
theorem dX7_watch_71 : decode cX7_watch 71 = .ok (.invokespecial 192, 3) := by decide +kernel
theorem dX7_watch_74 : decode cX7_watch 74 = .ok (.invokevirtual 195, 3) := by decide +kernel
theorem dX7_watch_77 : decode cX7_watch 77 = .ok (.aload_n 0, 1) := by decide +kernel
theorem dX7_watch_78 : decode cX7_watch 78 = .ok (.getfield 24, 3) := by decide +kernel
theorem dX7_watch_81 : decode cX7_watch 81 = .ok (.invokevirtual 189, 3) := by decide +kernel
theorem dX7_watch_84 : decode cX7_watch 84 = .ok (.ireturn, 1) := by decide +kernel
set_option maxRecDepth 20000 in
theorem ggX7_eventCount_X7_findSession : GoodIn wsX7_eventCount wsX7_findSession := goodIn_r _ [6, 7, 8, 12, 13, 14, 15, 16, 17, 18, 19, 20, 21, 22, 23] (by decide +kernel) (by decide +kernel)
set_option maxRecDepth 20000 in
theorem gX7_eventCount_X7_findSession : GoodIn wsX7_eventCount (wsV RX7 148 RX7 yX7_findSession wsX7_findSession) := goodIn_app (goodIn_of _ (by decide +kernel)) ggX7_eventCount_X7_findSession
theorem dX7_eventCount_0 : decode cX7_eventCount 0 = .ok (.aload_n 0, 1) := by decide +kernel
theorem dX7_eventCount_1 : decode cX7_eventCount 1 = .ok (.iload_n 1, 1) := by decide +kernel
theorem dX7_eventCount_2 : decode cX7_eventCount 2 = .ok (.invokevirtual 148, 3) := by decide +kernel
theorem dX7_eventCount_5 : decode cX7_eventCount 5 = .ok (.astore_n 2, 1) := by decide +kernel
theorem dX7_eventCount_6 : decode cX7_eventCount 6 = .ok (.aload_n 2, 1) := by decide +kernel
theorem dX7_eventCount_7 : decode cX7_eventCount 7 = .ok (.ifnonnull 7, 3) := by decide +kernel
theorem dX7_eventCount_10 : decode cX7_eventCount 10 = .ok (.iconst (-1), 1) := by decide +kernel
theorem dX7_eventCount_11 : decode cX7_eventCount 11 = .ok (.goto 7, 3) := by decide +kernel
theorem dX7_eventCount_14 : decode cX7_eventCount 14 = .ok (.aload_n 2, 1) := by decide +kernel
theorem dX7_eventCount_15 : decode cX7_eventCount 15 = .ok (.getfield 198, 3) := by decide +kernel
theorem dX7_eventCount_18 : decode cX7_eventCount 18 = .ok (.ireturn, 1) := by decide +kernel
set_option maxRecDepth 20000 in
theorem ggX7_eventAt_X7_findSession : GoodIn wsX7_eventAt wsX7_findSession := goodIn_r _ [5, 6, 7, 15, 16, 17, 18, 19, 20, 21, 22, 23, 24, 25, 26] (by decide +kernel) (by decide +kernel)
set_option maxRecDepth 20000 in
theorem gX7_eventAt_X7_findSession : GoodIn wsX7_eventAt (wsV RX7 148 RX7 yX7_findSession wsX7_findSession) := goodIn_app (goodIn_of _ (by decide +kernel)) ggX7_eventAt_X7_findSession
set_option maxRecDepth 20000 in
theorem ggX7_eventAt_X2_readEvent : GoodIn wsX7_eventAt wsX2_readEvent := goodIn_r _ [12, 13, 14, 27, 28, 29] (by decide +kernel) (by decide +kernel)
set_option maxRecDepth 20000 in
theorem gX7_eventAt_X2_readEvent : GoodIn wsX7_eventAt (wsV RX7 201 RX2 yX2_readEvent wsX2_readEvent) := goodIn_app (goodIn_of _ (by decide +kernel)) ggX7_eventAt_X2_readEvent
theorem dX7_eventAt_0 : decode cX7_eventAt 0 = .ok (.aload_n 0, 1) := by decide +kernel
theorem dX7_eventAt_1 : decode cX7_eventAt 1 = .ok (.iload_n 1, 1) := by decide +kernel
theorem dX7_eventAt_2 : decode cX7_eventAt 2 = .ok (.invokevirtual 148, 3) := by decide +kernel
theorem dX7_eventAt_5 : decode cX7_eventAt 5 = .ok (.astore_n 3, 1) := by decide +kernel
theorem dX7_eventAt_6 : decode cX7_eventAt 6 = .ok (.aload_n 3, 1) := by decide +kernel
theorem dX7_eventAt_7 : decode cX7_eventAt 7 = .ok (.ifnull 7, 3) := by decide +kernel
theorem dX7_eventAt_10 : decode cX7_eventAt 10 = .ok (.iload_n 2, 1) := by decide +kernel
theorem dX7_eventAt_11 : decode cX7_eventAt 11 = .ok (.ifCond .ge 5, 3) := by decide +kernel
theorem dX7_eventAt_14 : decode cX7_eventAt 14 = .ok (.iconst (-1), 1) := by decide +kernel
theorem dX7_eventAt_15 : decode cX7_eventAt 15 = .ok (.ireturn, 1) := by decide +kernel
theorem dX7_eventAt_16 : decode cX7_eventAt 16 = .ok (.aload_n 3, 1) := by decide +kernel
theorem dX7_eventAt_17 : decode cX7_eventAt 17 = .ok (.iload_n 2, 1) := by decide +kernel
theorem dX7_eventAt_18 : decode cX7_eventAt 18 = .ok (.invokevirtual 201, 3) := by decide +kernel
theorem dX7_eventAt_21 : decode cX7_eventAt 21 = .ok (.ireturn, 1) := by decide +kernel
set_option maxRecDepth 20000 in
theorem ggX7_dataAt_X7_nodeAt : GoodIn wsX7_dataAt wsX7_nodeAt := goodIn_r _ [6, 7, 8, 9, 10, 11, 5, 12, 13, 14, 15, 16, 17, 18, 19, 20, 21, 30, 31, 32, 33, 34, 35, 36, 37, 38, 39, 40, 41, 42, 43, 44, 45, 46, 47, 48, 49, 50, 26, 27, 28, 29] (by decide +kernel) (by decide +kernel)
set_option maxRecDepth 20000 in
theorem gX7_dataAt_X7_nodeAt : GoodIn wsX7_dataAt (wsV RX7 204 RX7 yX7_nodeAt wsX7_nodeAt) := goodIn_app (goodIn_of _ (by decide +kernel)) ggX7_dataAt_X7_nodeAt
set_option maxRecDepth 20000 in
theorem ggX7_dataAt_X7_nodeError : GoodIn wsX7_dataAt wsX7_nodeError := goodIn_r _ [25, 8, 9, 10, 11, 5, 12, 13, 14, 37, 38, 39, 40, 41, 42, 43, 44, 45, 46, 47, 48] (by decide +kernel) (by decide +kernel)
set_option maxRecDepth 20000 in
theorem gX7_dataAt_X7_nodeError : GoodIn wsX7_dataAt (wsV RX7 207 RX7 yX7_nodeError wsX7_nodeError) := goodIn_app (goodIn_of _ (by decide +kernel)) ggX7_dataAt_X7_nodeError
theorem dX7_dataAt_0 : decode cX7_dataAt 0 = .ok (.aload_n 0, 1) := by decide +kernel
theorem dX7_dataAt_1 : decode cX7_dataAt 1 = .ok (.iload_n 1, 1) := by decide +kernel
theorem dX7_dataAt_2 : decode cX7_dataAt 2 = .ok (.invokevirtual 204, 3) := by decide +kernel
theorem dX7_dataAt_5 : decode cX7_dataAt 5 = .ok (.astore_n 2, 1) := by decide +kernel
theorem dX7_dataAt_6 : decode cX7_dataAt 6 = .ok (.aload_n 2, 1) := by decide +kernel
theorem dX7_dataAt_7 : decode cX7_dataAt 7 = .ok (.ifnonnull 11, 3) := by decide +kernel
theorem dX7_dataAt_10 : decode cX7_dataAt 10 = .ok (.aload_n 0, 1) := by decide +kernel
theorem dX7_dataAt_11 : decode cX7_dataAt 11 = .ok (.iload_n 1, 1) := by decide +kernel
theorem dX7_dataAt_12 : decode cX7_dataAt 12 = .ok (.invokevirtual 207, 3) := by decide +kernel
theorem dX7_dataAt_15 : decode cX7_dataAt 15 = .ok (.goto 7, 3) := by decide +kernel
theorem dX7_dataAt_18 : decode cX7_dataAt 18 = .ok (.aload_n 2, 1) := by decide +kernel
theorem dX7_dataAt_19 : decode cX7_dataAt 19 = .ok (.getfield 210, 3) := by decide +kernel
theorem dX7_dataAt_22 : decode cX7_dataAt 22 = .ok (.ireturn, 1) := by decide +kernel
set_option maxRecDepth 20000 in
theorem ggX7_versionAt_X7_nodeAt : GoodIn wsX7_versionAt wsX7_nodeAt := goodIn_r _ [6, 7, 8, 9, 10, 11, 5, 12, 13, 14, 15, 16, 17, 18, 19, 20, 21, 30, 31, 32, 33, 34, 35, 36, 37, 38, 39, 40, 41, 42, 43, 44, 45, 46, 47, 48, 49, 50, 26, 27, 28, 29] (by decide +kernel) (by decide +kernel)
set_option maxRecDepth 20000 in
theorem gX7_versionAt_X7_nodeAt : GoodIn wsX7_versionAt (wsV RX7 204 RX7 yX7_nodeAt wsX7_nodeAt) := goodIn_app (goodIn_of _ (by decide +kernel)) ggX7_versionAt_X7_nodeAt
set_option maxRecDepth 20000 in
theorem ggX7_versionAt_X7_nodeError : GoodIn wsX7_versionAt wsX7_nodeError := goodIn_r _ [25, 8, 9, 10, 11, 5, 12, 13, 14, 37, 38, 39, 40, 41, 42, 43, 44, 45, 46, 47, 48] (by decide +kernel) (by decide +kernel)
set_option maxRecDepth 20000 in
theorem gX7_versionAt_X7_nodeError : GoodIn wsX7_versionAt (wsV RX7 207 RX7 yX7_nodeError wsX7_nodeError) := goodIn_app (goodIn_of _ (by decide +kernel)) ggX7_versionAt_X7_nodeError
theorem dX7_versionAt_0 : decode cX7_versionAt 0 = .ok (.aload_n 0, 1) := by decide +kernel
theorem dX7_versionAt_1 : decode cX7_versionAt 1 = .ok (.iload_n 1, 1) := by decide +kernel
theorem dX7_versionAt_2 : decode cX7_versionAt 2 = .ok (.invokevirtual 204, 3) := by decide +kernel
theorem dX7_versionAt_5 : decode cX7_versionAt 5 = .ok (.astore_n 2, 1) := by decide +kernel
theorem dX7_versionAt_6 : decode cX7_versionAt 6 = .ok (.aload_n 2, 1) := by decide +kernel
theorem dX7_versionAt_7 : decode cX7_versionAt 7 = .ok (.ifnonnull 11, 3) := by decide +kernel
theorem dX7_versionAt_10 : decode cX7_versionAt 10 = .ok (.aload_n 0, 1) := by decide +kernel
theorem dX7_versionAt_11 : decode cX7_versionAt 11 = .ok (.iload_n 1, 1) := by decide +kernel
theorem dX7_versionAt_12 : decode cX7_versionAt 12 = .ok (.invokevirtual 207, 3) := by decide +kernel
theorem dX7_versionAt_15 : decode cX7_versionAt 15 = .ok (.goto 7, 3) := by decide +kernel
theorem dX7_versionAt_18 : decode cX7_versionAt 18 = .ok (.aload_n 2, 1) := by decide +kernel
theorem dX7_versionAt_19 : decode cX7_versionAt 19 = .ok (.getfield 213, 3) := by decide +kernel
theorem dX7_versionAt_22 : decode cX7_versionAt 22 = .ok (.ireturn, 1) := by decide +kernel
set_option maxRecDepth 20000 in
theorem ggX7_ownerAt_X7_nodeAt : GoodIn wsX7_ownerAt wsX7_nodeAt := goodIn_r _ [6, 7, 8, 9, 10, 11, 5, 12, 13, 14, 15, 16, 17, 18, 19, 20, 21, 30, 31, 32, 33, 34, 35, 36, 37, 38, 39, 40, 41, 42, 43, 44, 45, 46, 47, 48, 49, 50, 26, 27, 28, 29] (by decide +kernel) (by decide +kernel)
set_option maxRecDepth 20000 in
theorem gX7_ownerAt_X7_nodeAt : GoodIn wsX7_ownerAt (wsV RX7 204 RX7 yX7_nodeAt wsX7_nodeAt) := goodIn_app (goodIn_of _ (by decide +kernel)) ggX7_ownerAt_X7_nodeAt
set_option maxRecDepth 20000 in
theorem ggX7_ownerAt_X7_nodeError : GoodIn wsX7_ownerAt wsX7_nodeError := goodIn_r _ [25, 8, 9, 10, 11, 5, 12, 13, 14, 37, 38, 39, 40, 41, 42, 43, 44, 45, 46, 47, 48] (by decide +kernel) (by decide +kernel)
set_option maxRecDepth 20000 in
theorem gX7_ownerAt_X7_nodeError : GoodIn wsX7_ownerAt (wsV RX7 207 RX7 yX7_nodeError wsX7_nodeError) := goodIn_app (goodIn_of _ (by decide +kernel)) ggX7_ownerAt_X7_nodeError
theorem dX7_ownerAt_0 : decode cX7_ownerAt 0 = .ok (.aload_n 0, 1) := by decide +kernel
theorem dX7_ownerAt_1 : decode cX7_ownerAt 1 = .ok (.iload_n 1, 1) := by decide +kernel
theorem dX7_ownerAt_2 : decode cX7_ownerAt 2 = .ok (.invokevirtual 204, 3) := by decide +kernel
theorem dX7_ownerAt_5 : decode cX7_ownerAt 5 = .ok (.astore_n 2, 1) := by decide +kernel
theorem dX7_ownerAt_6 : decode cX7_ownerAt 6 = .ok (.aload_n 2, 1) := by decide +kernel
theorem dX7_ownerAt_7 : decode cX7_ownerAt 7 = .ok (.ifnonnull 11, 3) := by decide +kernel
theorem dX7_ownerAt_10 : decode cX7_ownerAt 10 = .ok (.aload_n 0, 1) := by decide +kernel
theorem dX7_ownerAt_11 : decode cX7_ownerAt 11 = .ok (.iload_n 1, 1) := by decide +kernel
theorem dX7_ownerAt_12 : decode cX7_ownerAt 12 = .ok (.invokevirtual 207, 3) := by decide +kernel
theorem dX7_ownerAt_15 : decode cX7_ownerAt 15 = .ok (.goto 7, 3) := by decide +kernel
theorem dX7_ownerAt_18 : decode cX7_ownerAt 18 = .ok (.aload_n 2, 1) := by decide +kernel
theorem dX7_ownerAt_19 : decode cX7_ownerAt 19 = .ok (.getfield 216, 3) := by decide +kernel
theorem dX7_ownerAt_22 : decode cX7_ownerAt 22 = .ok (.ireturn, 1) := by decide +kernel
set_option maxRecDepth 20000 in
theorem ggX7_childCount_X7_findServer : GoodIn wsX7_childCount wsX7_findServer := goodIn_r _ [7, 8, 9, 23, 24, 25, 26, 27, 28, 29, 30, 31, 32, 33, 34] (by decide +kernel) (by decide +kernel)
set_option maxRecDepth 20000 in
theorem gX7_childCount_X7_findServer : GoodIn wsX7_childCount (wsV RX7 46 RX7 yX7_findServer wsX7_findServer) := goodIn_app (goodIn_of _ (by decide +kernel)) ggX7_childCount_X7_findServer
set_option maxRecDepth 20000 in
theorem ggX7_childCount_X4_find : GoodIn wsX7_childCount wsX4_find := goodIn_r _ [14, 15, 16, 42, 43, 44, 45, 46, 47] (by decide +kernel) (by decide +kernel)
set_option maxRecDepth 20000 in
theorem gX7_childCount_X4_find : GoodIn wsX7_childCount (wsV RX7 155 RX4 yX4_find wsX4_find) := goodIn_app (goodIn_of _ (by decide +kernel)) ggX7_childCount_X4_find
set_option maxRecDepth 20000 in
theorem ggX7_childCount_X4_countChildren : GoodIn wsX7_childCount wsX4_countChildren := goodIn_r _ [20, 15, 16, 21, 6, 22, 42, 43, 44, 45, 46, 47] (by decide +kernel) (by decide +kernel)
set_option maxRecDepth 20000 in
theorem gX7_childCount_X4_countChildren : GoodIn wsX7_childCount (wsV RX7 179 RX4 yX4_countChildren wsX4_countChildren) := goodIn_app (goodIn_of _ (by decide +kernel)) ggX7_childCount_X4_countChildren
theorem dX7_childCount_0 : decode cX7_childCount 0 = .ok (.aload_n 0, 1) := by decide +kernel
theorem dX7_childCount_1 : decode cX7_childCount 1 = .ok (.iload_n 1, 1) := by decide +kernel
theorem dX7_childCount_2 : decode cX7_childCount 2 = .ok (.invokevirtual 46, 3) := by decide +kernel
theorem dX7_childCount_5 : decode cX7_childCount 5 = .ok (.astore_n 2, 1) := by decide +kernel
theorem dX7_childCount_6 : decode cX7_childCount 6 = .ok (.aload_n 2, 1) := by decide +kernel
theorem dX7_childCount_7 : decode cX7_childCount 7 = .ok (.ifnonnull 5, 3) := by decide +kernel
theorem dX7_childCount_10 : decode cX7_childCount 10 = .ok (.iconst (-1), 1) := by decide +kernel
theorem dX7_childCount_11 : decode cX7_childCount 11 = .ok (.ireturn, 1) := by decide +kernel
theorem dX7_childCount_12 : decode cX7_childCount 12 = .ok (.aload_n 0, 1) := by decide +kernel
theorem dX7_childCount_13 : decode cX7_childCount 13 = .ok (.getfield 141, 3) := by decide +kernel
theorem dX7_childCount_16 : decode cX7_childCount 16 = .ok (.ifCond .eq 20, 3) := by decide +kernel
theorem dX7_childCount_19 : decode cX7_childCount 19 = .ok (.aload_n 2, 1) := by decide +kernel
theorem dX7_childCount_20 : decode cX7_childCount 20 = .ok (.getfield 219, 3) := by decide +kernel
theorem dX7_childCount_23 : decode cX7_childCount 23 = .ok (.aload_n 0, 1) := by decide +kernel
theorem dX7_childCount_24 : decode cX7_childCount 24 = .ok (.getfield 141, 3) := by decide +kernel
theorem dX7_childCount_27 : decode cX7_childCount 27 = .ok (.invokevirtual 155, 3) := by decide +kernel
theorem dX7_childCount_30 : decode cX7_childCount 30 = .ok (.ifnonnull 6, 3) := by decide +kernel
theorem dX7_childCount_33 : decode cX7_childCount 33 = .ok (.bipush (-3), 2) := by decide +kernel
theorem dX7_childCount_35 : decode cX7_childCount 35 = .ok (.ireturn, 1) := by decide +kernel
theorem dX7_childCount_36 : decode cX7_childCount 36 = .ok (.aload_n 2, 1) := by decide +kernel
theorem dX7_childCount_37 : decode cX7_childCount 37 = .ok (.getfield 219, 3) := by decide +kernel
theorem dX7_childCount_40 : decode cX7_childCount 40 = .ok (.aload_n 0, 1) := by decide +kernel
theorem dX7_childCount_41 : decode cX7_childCount 41 = .ok (.getfield 141, 3) := by decide +kernel
theorem dX7_childCount_44 : decode cX7_childCount 44 = .ok (.invokevirtual 179, 3) := by decide +kernel
theorem dX7_childCount_47 : decode cX7_childCount 47 = .ok (.ireturn, 1) := by decide +kernel
set_option maxRecDepth 20000 in
theorem ggX7_nodeCount_X7_findServer : GoodIn wsX7_nodeCount wsX7_findServer := goodIn_r _ [6, 7, 8, 23, 24, 25, 26, 27, 28, 29, 30, 31, 32, 33, 34] (by decide +kernel) (by decide +kernel)
set_option maxRecDepth 20000 in
theorem gX7_nodeCount_X7_findServer : GoodIn wsX7_nodeCount (wsV RX7 46 RX7 yX7_findServer wsX7_findServer) := goodIn_app (goodIn_of _ (by decide +kernel)) ggX7_nodeCount_X7_findServer
set_option maxRecDepth 20000 in
theorem ggX7_nodeCount_X4_size : GoodIn wsX7_nodeCount wsX4_size := goodIn_r _ [13, 14, 15, 35, 36, 37, 38, 39, 40] (by decide +kernel) (by decide +kernel)
set_option maxRecDepth 20000 in
theorem gX7_nodeCount_X4_size : GoodIn wsX7_nodeCount (wsV RX7 166 RX4 yX4_size wsX4_size) := goodIn_app (goodIn_of _ (by decide +kernel)) ggX7_nodeCount_X4_size
theorem dX7_nodeCount_0 : decode cX7_nodeCount 0 = .ok (.aload_n 0, 1) := by decide +kernel
theorem dX7_nodeCount_1 : decode cX7_nodeCount 1 = .ok (.iload_n 1, 1) := by decide +kernel
theorem dX7_nodeCount_2 : decode cX7_nodeCount 2 = .ok (.invokevirtual 46, 3) := by decide +kernel
theorem dX7_nodeCount_5 : decode cX7_nodeCount 5 = .ok (.astore_n 2, 1) := by decide +kernel
theorem dX7_nodeCount_6 : decode cX7_nodeCount 6 = .ok (.aload_n 2, 1) := by decide +kernel
theorem dX7_nodeCount_7 : decode cX7_nodeCount 7 = .ok (.ifnonnull 7, 3) := by decide +kernel
theorem dX7_nodeCount_10 : decode cX7_nodeCount 10 = .ok (.iconst (-1), 1) := by decide +kernel
theorem dX7_nodeCount_11 : decode cX7_nodeCount 11 = .ok (.goto 10, 3) := by decide +kernel
theorem dX7_nodeCount_14 : decode cX7_nodeCount 14 = .ok (.aload_n 2, 1) := by decide +kernel
theorem dX7_nodeCount_15 : decode cX7_nodeCount 15 = .ok (.getfield 219, 3) := by decide +kernel
theorem dX7_nodeCount_18 : decode cX7_nodeCount 18 = .ok (.invokevirtual 166, 3) := by decide +kernel
theorem dX7_nodeCount_21 : decode cX7_nodeCount 21 = .ok (.ireturn, 1) := by decide +kernel
set_option maxRecDepth 20000 in
theorem ggX7_commonLog_X7_findServer : GoodIn wsX7_commonLog wsX7_findServer := goodIn_r _ [5, 6, 7, 43, 44, 45, 46, 47, 48, 49, 50, 51, 52, 53, 54] (by decide +kernel) (by decide +kernel)
set_option maxRecDepth 20000 in
theorem gX7_commonLog_X7_findServer : GoodIn wsX7_commonLog (wsV RX7 46 RX7 yX7_findServer wsX7_findServer) := goodIn_app (goodIn_of _ (by decide +kernel)) ggX7_commonLog_X7_findServer
set_option maxRecDepth 20000 in
theorem ggX7_commonLog_X1_commonLength : GoodIn wsX7_commonLog wsX1_commonLength := goodIn_r _ [12, 13, 14, 15, 16, 17, 18, 19, 20, 21, 22, 23, 24, 25, 26, 27, 28, 29, 30, 31, 32, 33, 34, 35, 36, 37, 38, 39, 40, 41, 42, 55, 56, 57, 58, 59, 60, 61, 62, 63, 64, 65, 66, 67, 68, 69] (by decide +kernel) (by decide +kernel)
set_option maxRecDepth 20000 in
theorem gX7_commonLog_X1_commonLength : GoodIn wsX7_commonLog (wsV RX7 222 RX1 yX1_commonLength wsX1_commonLength) := goodIn_app (goodIn_of _ (by decide +kernel)) ggX7_commonLog_X1_commonLength
theorem dX7_commonLog_0 : decode cX7_commonLog 0 = .ok (.aload_n 0, 1) := by decide +kernel
theorem dX7_commonLog_1 : decode cX7_commonLog 1 = .ok (.iload_n 1, 1) := by decide +kernel
theorem dX7_commonLog_2 : decode cX7_commonLog 2 = .ok (.invokevirtual 46, 3) := by decide +kernel
theorem dX7_commonLog_5 : decode cX7_commonLog 5 = .ok (.astore_n 3, 1) := by decide +kernel
theorem dX7_commonLog_6 : decode cX7_commonLog 6 = .ok (.aload_n 0, 1) := by decide +kernel
theorem dX7_commonLog_7 : decode cX7_commonLog 7 = .ok (.iload_n 2, 1) := by decide +kernel
theorem dX7_commonLog_8 : decode cX7_commonLog 8 = .ok (.invokevirtual 46, 3) := by decide +kernel
theorem dX7_commonLog_11 : decode cX7_commonLog 11 = .ok (.astore 4, 2) := by decide +kernel
theorem dX7_commonLog_13 : decode cX7_commonLog 13 = .ok (.aload_n 3, 1) := by decide +kernel
theorem dX7_commonLog_14 : decode cX7_commonLog 14 = .ok (.ifnull 8, 3) := by decide +kernel
theorem dX7_commonLog_17 : decode cX7_commonLog 17 = .ok (.aload 4, 2) := by decide +kernel
theorem dX7_commonLog_19 : decode cX7_commonLog 19 = .ok (.ifnonnull 7, 3) := by decide +kernel
theorem dX7_commonLog_22 : decode cX7_commonLog 22 = .ok (.iconst (-1), 1) := by decide +kernel
theorem dX7_commonLog_23 : decode cX7_commonLog 23 = .ok (.goto 9, 3) := by decide +kernel
theorem dX7_commonLog_26 : decode cX7_commonLog 26 = .ok (.aload_n 3, 1) := by decide +kernel
theorem dX7_commonLog_27 : decode cX7_commonLog 27 = .ok (.aload 4, 2) := by decide +kernel
theorem dX7_commonLog_29 : decode cX7_commonLog 29 = .ok (.invokevirtual 222, 3) := by decide +kernel
theorem dX7_commonLog_32 : decode cX7_commonLog 32 = .ok (.ireturn, 1) := by decide +kernel
set_option maxRecDepth 20000 in
theorem ggX7_startAnew_X1_startAnew : GoodIn wsX7_startAnew wsX1_startAnew := goodIn_r _ [16, 17, 18, 19, 20, 21, 22, 23, 24, 25, 26, 27, 28, 29, 30, 31, 32, 33, 34, 35, 36, 37, 38, 58, 59, 60, 61, 62, 63, 64, 65, 66, 67, 68, 69, 70, 71, 72, 73] (by decide +kernel) (by decide +kernel)
set_option maxRecDepth 20000 in
theorem gX7_startAnew_X1_startAnew : GoodIn wsX7_startAnew (wsV RX7 225 RX1 yX1_startAnew wsX1_startAnew) := goodIn_app (goodIn_of _ (by decide +kernel)) ggX7_startAnew_X1_startAnew
set_option maxRecDepth 20000 in
theorem ggX7_startAnew_X6_dropAll : GoodIn wsX7_startAnew wsX6_dropAll := goodIn_r _ [43, 44, 45, 24, 25, 26, 27, 28, 29, 30, 31, 74, 65, 66, 67] (by decide +kernel) (by decide +kernel)
set_option maxRecDepth 20000 in
theorem gX7_startAnew_X6_dropAll : GoodIn wsX7_startAnew (wsV RX7 228 RX6 yX6_dropAll wsX6_dropAll) := goodIn_app (goodIn_of _ (by decide +kernel)) ggX7_startAnew_X6_dropAll
theorem dX7_startAnew_0 : decode cX7_startAnew 0 = .ok (.aload_n 0, 1) := by decide +kernel
theorem dX7_startAnew_1 : decode cX7_startAnew 1 = .ok (.iload_n 1, 1) := by decide +kernel
theorem dX7_startAnew_2 : decode cX7_startAnew 2 = .ok (.putfield 42, 3) := by decide +kernel
theorem dX7_startAnew_5 : decode cX7_startAnew 5 = .ok (.aload_n 0, 1) := by decide +kernel
theorem dX7_startAnew_6 : decode cX7_startAnew 6 = .ok (.getfield 11, 3) := by decide +kernel
theorem dX7_startAnew_9 : decode cX7_startAnew 9 = .ok (.astore_n 2, 1) := by decide +kernel
theorem dX7_startAnew_10 : decode cX7_startAnew 10 = .ok (.aload_n 2, 1) := by decide +kernel
theorem dX7_startAnew_11 : decode cX7_startAnew 11 = .ok (.arraylength, 1) := by decide +kernel
theorem dX7_startAnew_12 : decode cX7_startAnew 12 = .ok (.istore_n 3, 1) := by decide +kernel
theorem dX7_startAnew_13 : decode cX7_startAnew 13 = .ok (.iconst 0, 1) := by decide +kernel
theorem dX7_startAnew_14 : decode cX7_startAnew 14 = .ok (.istore 4, 2) := by decide +kernel
theorem dX7_startAnew_16 : decode cX7_startAnew 16 = .ok (.iload 4, 2) := by decide +kernel
theorem dX7_startAnew_18 : decode cX7_startAnew 18 = .ok (.iload_n 3, 1) := by decide +kernel
theorem dX7_startAnew_19 : decode cX7_startAnew 19 = .ok (.if_icmp .ge 34, 3) := by decide +kernel
theorem dX7_startAnew_22 : decode cX7_startAnew 22 = .ok (.aload_n 2, 1) := by decide +kernel
theorem dX7_startAnew_23 : decode cX7_startAnew 23 = .ok (.iload 4, 2) := by decide +kernel
theorem dX7_startAnew_25 : decode cX7_startAnew 25 = .ok (.aaload, 1) := by decide +kernel
theorem dX7_startAnew_26 : decode cX7_startAnew 26 = .ok (.astore 5, 2) := by decide +kernel
theorem dX7_startAnew_28 : decode cX7_startAnew 28 = .ok (.aload 5, 2) := by decide +kernel
theorem dX7_startAnew_30 : decode cX7_startAnew 30 = .ok (.aload 5, 2) := by decide +kernel
theorem dX7_startAnew_32 : decode cX7_startAnew 32 = .ok (.getfield 85, 3) := by decide +kernel
theorem dX7_startAnew_35 : decode cX7_startAnew 35 = .ok (.iload_n 1, 1) := by decide +kernel
theorem dX7_startAnew_36 : decode cX7_startAnew 36 = .ok (.if_icmp .ge 7, 3) := by decide +kernel
theorem dX7_startAnew_39 : decode cX7_startAnew 39 = .ok (.iconst 1, 1) := by decide +kernel
theorem dX7_startAnew_40 : decode cX7_startAnew 40 = .ok (.goto 4, 3) := by decide +kernel
theorem dX7_startAnew_43 : decode cX7_startAnew 43 = .ok (.iconst 0, 1) := by decide +kernel
theorem dX7_startAnew_44 : decode cX7_startAnew 44 = .ok (.invokevirtual 225, 3) := by decide +kernel
theorem dX7_startAnew_47 : decode cX7_startAnew 47 = .ok (.iinc 4 1, 3) := by decide +kernel
theorem dX7_startAnew_50 : decode cX7_startAnew 50 = .ok (.goto (-34), 3) := by decide +kernel
theorem dX7_startAnew_53 : decode cX7_startAnew 53 = .ok (.aload_n 0, 1) := by decide +kernel
theorem dX7_startAnew_54 : decode cX7_startAnew 54 = .ok (.iconst 0, 1) := by decide +kernel
theorem dX7_startAnew_55 : decode cX7_startAnew 55 = .ok (.putfield 182, 3) := by decide +kernel
theorem dX7_startAnew_58 : decode cX7_startAnew 58 = .ok (.aload_n 0, 1) := by decide +kernel
theorem dX7_startAnew_59 : decode cX7_startAnew 59 = .ok (.getfield 24, 3) := by decide +kernel
theorem dX7_startAnew_62 : decode cX7_startAnew 62 = .ok (.invokevirtual 228, 3) := by decide +kernel
theorem dX7_startAnew_65 : decode cX7_startAnew 65 = .ok (.aload_n 0, 1) := by decide +kernel
theorem dX7_startAnew_66 : decode cX7_startAnew 66 = .ok (.aconst_null, 1) := by decide +kernel
theorem dX7_startAnew_67 : decode cX7_startAnew 67 = .ok (.putfield 60, 3) := by decide +kernel
theorem dX7_startAnew_70 : decode cX7_startAnew 70 = .ok (.aload_n 0, 1) := by decide +kernel
theorem dX7_startAnew_71 : decode cX7_startAnew 71 = .ok (.iconst 0, 1) := by decide +kernel
theorem dX7_startAnew_72 : decode cX7_startAnew 72 = .ok (.putfield 92, 3) := by decide +kernel
theorem dX7_startAnew_75 : decode cX7_startAnew 75 = .ok (.aload_n 0, 1) := by decide +kernel
theorem dX7_startAnew_76 : decode cX7_startAnew 76 = .ok (.iconst 0, 1) := by decide +kernel
theorem dX7_startAnew_77 : decode cX7_startAnew 77 = .ok (.putfield 231, 3) := by decide +kernel
theorem dX7_startAnew_80 : decode cX7_startAnew 80 = .ok (.aload_n 0, 1) := by decide +kernel
theorem dX7_startAnew_81 : decode cX7_startAnew 81 = .ok (.iconst 0, 1) := by decide +kernel
theorem dX7_startAnew_82 : decode cX7_startAnew 82 = .ok (.putfield 99, 3) := by decide +kernel
theorem dX7_startAnew_85 : decode cX7_startAnew 85 = .ok (.aload_n 0, 1) := by decide +kernel
theorem dX7_startAnew_86 : decode cX7_startAnew 86 = .ok (.iconst 0, 1) := by decide +kernel
theorem dX7_startAnew_87 : decode cX7_startAnew 87 = .ok (.putfield 141, 3) := by decide +kernel
theorem dX7_startAnew_90 : decode cX7_startAnew 90 = .ok (.aload_n 0, 1) := by decide +kernel
theorem dX7_startAnew_91 : decode cX7_startAnew 91 = .ok (.iconst 0, 1) := by decide +kernel
theorem dX7_startAnew_92 : decode cX7_startAnew 92 = .ok (.putfield 138, 3) := by decide +kernel
theorem dX7_startAnew_95 : decode cX7_startAnew 95 = .ok (.return_, 1) := by decide +kernel
theorem dX7_findServer_0 : decode cX7_findServer 0 = .ok (.iload_n 1, 1) := by decide +kernel
theorem dX7_findServer_1 : decode cX7_findServer 1 = .ok (.ifCond .lt 11, 3) := by decide +kernel
theorem dX7_findServer_4 : decode cX7_findServer 4 = .ok (.iload_n 1, 1) := by decide +kernel
theorem dX7_findServer_5 : decode cX7_findServer 5 = .ok (.aload_n 0, 1) := by decide +kernel
theorem dX7_findServer_6 : decode cX7_findServer 6 = .ok (.getfield 42, 3) := by decide +kernel
theorem dX7_findServer_9 : decode cX7_findServer 9 = .ok (.if_icmp .lt 7, 3) := by decide +kernel
theorem dX7_findServer_12 : decode cX7_findServer 12 = .ok (.aconst_null, 1) := by decide +kernel
theorem dX7_findServer_13 : decode cX7_findServer 13 = .ok (.goto 9, 3) := by decide +kernel
theorem dX7_findServer_16 : decode cX7_findServer 16 = .ok (.aload_n 0, 1) := by decide +kernel
theorem dX7_findServer_17 : decode cX7_findServer 17 = .ok (.getfield 11, 3) := by decide +kernel
theorem dX7_findServer_20 : decode cX7_findServer 20 = .ok (.iload_n 1, 1) := by decide +kernel
theorem dX7_findServer_21 : decode cX7_findServer 21 = .ok (.aaload, 1) := by decide +kernel
theorem dX7_findServer_22 : decode cX7_findServer 22 = .ok (.areturn, 1) := by decide +kernel
theorem dX7_findSession_0 : decode cX7_findSession 0 = .ok (.iload_n 1, 1) := by decide +kernel
theorem dX7_findSession_1 : decode cX7_findSession 1 = .ok (.ifCond .lt 11, 3) := by decide +kernel
theorem dX7_findSession_4 : decode cX7_findSession 4 = .ok (.iload_n 1, 1) := by decide +kernel
theorem dX7_findSession_5 : decode cX7_findSession 5 = .ok (.aload_n 0, 1) := by decide +kernel
theorem dX7_findSession_6 : decode cX7_findSession 6 = .ok (.getfield 182, 3) := by decide +kernel
theorem dX7_findSession_9 : decode cX7_findSession 9 = .ok (.if_icmp .lt 7, 3) := by decide +kernel
theorem dX7_findSession_12 : decode cX7_findSession 12 = .ok (.aconst_null, 1) := by decide +kernel
theorem dX7_findSession_13 : decode cX7_findSession 13 = .ok (.goto 9, 3) := by decide +kernel
theorem dX7_findSession_16 : decode cX7_findSession 16 = .ok (.aload_n 0, 1) := by decide +kernel
theorem dX7_findSession_17 : decode cX7_findSession 17 = .ok (.getfield 17, 3) := by decide +kernel
theorem dX7_findSession_20 : decode cX7_findSession 20 = .ok (.iload_n 1, 1) := by decide +kernel
theorem dX7_findSession_21 : decode cX7_findSession 21 = .ok (.aaload, 1) := by decide +kernel
theorem dX7_findSession_22 : decode cX7_findSession 22 = .ok (.areturn, 1) := by decide +kernel
theorem dX7_quorum_0 : decode cX7_quorum 0 = .ok (.aload_n 0, 1) := by decide +kernel
theorem dX7_quorum_1 : decode cX7_quorum 1 = .ok (.getfield 42, 3) := by decide +kernel
theorem dX7_quorum_4 : decode cX7_quorum 4 = .ok (.iconst 2, 1) := by decide +kernel
theorem dX7_quorum_5 : decode cX7_quorum 5 = .ok (.idiv, 1) := by decide +kernel
theorem dX7_quorum_6 : decode cX7_quorum 6 = .ok (.iconst 1, 1) := by decide +kernel
theorem dX7_quorum_7 : decode cX7_quorum 7 = .ok (.iadd, 1) := by decide +kernel
theorem dX7_quorum_8 : decode cX7_quorum 8 = .ok (.ireturn, 1) := by decide +kernel
theorem dX7_countUp_0 : decode cX7_countUp 0 = .ok (.iconst 0, 1) := by decide +kernel
theorem dX7_countUp_1 : decode cX7_countUp 1 = .ok (.istore_n 1, 1) := by decide +kernel
theorem dX7_countUp_2 : decode cX7_countUp 2 = .ok (.aload_n 0, 1) := by decide +kernel
theorem dX7_countUp_3 : decode cX7_countUp 3 = .ok (.getfield 11, 3) := by decide +kernel
theorem dX7_countUp_6 : decode cX7_countUp 6 = .ok (.astore_n 2, 1) := by decide +kernel
theorem dX7_countUp_7 : decode cX7_countUp 7 = .ok (.aload_n 2, 1) := by decide +kernel
theorem dX7_countUp_8 : decode cX7_countUp 8 = .ok (.arraylength, 1) := by decide +kernel
theorem dX7_countUp_9 : decode cX7_countUp 9 = .ok (.istore_n 3, 1) := by decide +kernel
theorem dX7_countUp_10 : decode cX7_countUp 10 = .ok (.iconst 0, 1) := by decide +kernel
theorem dX7_countUp_11 : decode cX7_countUp 11 = .ok (.istore 4, 2) := by decide +kernel
theorem dX7_countUp_13 : decode cX7_countUp 13 = .ok (.iload 4, 2) := by decide +kernel
theorem dX7_countUp_15 : decode cX7_countUp 15 = .ok (.iload_n 3, 1) := by decide +kernel
theorem dX7_countUp_16 : decode cX7_countUp 16 = .ok (.if_icmp .ge 26, 3) := by decide +kernel
theorem dX7_countUp_19 : decode cX7_countUp 19 = .ok (.aload_n 2, 1) := by decide +kernel
theorem dX7_countUp_20 : decode cX7_countUp 20 = .ok (.iload 4, 2) := by decide +kernel
theorem dX7_countUp_22 : decode cX7_countUp 22 = .ok (.aaload, 1) := by decide +kernel
theorem dX7_countUp_23 : decode cX7_countUp 23 = .ok (.astore 5, 2) := by decide +kernel
theorem dX7_countUp_25 : decode cX7_countUp 25 = .ok (.aload 5, 2) := by decide +kernel
theorem dX7_countUp_27 : decode cX7_countUp 27 = .ok (.getfield 50, 3) := by decide +kernel
theorem dX7_countUp_30 : decode cX7_countUp 30 = .ok (.ifCond .eq 6, 3) := by decide +kernel
theorem dX7_countUp_33 : decode cX7_countUp 33 = .ok (.iinc 1 1, 3) := by decide +kernel
theorem dX7_countUp_36 : decode cX7_countUp 36 = .ok (.iinc 4 1, 3) := by decide +kernel
theorem dX7_countUp_39 : decode cX7_countUp 39 = .ok (.goto (-26), 3) := by decide +kernel
theorem dX7_countUp_42 : decode cX7_countUp 42 = .ok (.iload_n 1, 1) := by decide +kernel
theorem dX7_countUp_43 : decode cX7_countUp 43 = .ok (.ireturn, 1) := by decide +kernel
set_option maxRecDepth 20000 in
theorem ggX7_countActive_X7_countActiveWithLogOf : GoodIn wsX7_countActive wsX7_countActiveWithLogOf := goodIn_r _ [5, 6, 7, 8, 9, 10, 11, 12, 13, 14, 15, 16, 17, 18, 19, 20, 21, 22, 23, 24, 25, 26, 27, 28, 29, 30, 31, 32, 33, 34, 35, 36] (by decide +kernel) (by decide +kernel)
set_option maxRecDepth 20000 in
theorem gX7_countActive_X7_countActiveWithLogOf : GoodIn wsX7_countActive (wsV RX7 234 RX7 yX7_countActiveWithLogOf wsX7_countActiveWithLogOf) := goodIn_app (goodIn_of _ (by decide +kernel)) ggX7_countActive_X7_countActiveWithLogOf
theorem dX7_countActive_0 : decode cX7_countActive 0 = .ok (.aload_n 0, 1) := by decide +kernel
theorem dX7_countActive_1 : decode cX7_countActive 1 = .ok (.iconst 0, 1) := by decide +kernel
theorem dX7_countActive_2 : decode cX7_countActive 2 = .ok (.invokevirtual 234, 3) := by decide +kernel
theorem dX7_countActive_5 : decode cX7_countActive 5 = .ok (.ireturn, 1) := by decide +kernel
set_option maxRecDepth 20000 in
theorem ggX7_countActiveWithLogOf_Jx4a65c_size_8abf5 : GoodIn wsX7_countActiveWithLogOf wsJx4a65c_size_8abf5 := goodIn_r _ [8, 9, 29, 30, 31] (by decide +kernel) (by decide +kernel)
set_option maxRecDepth 20000 in
theorem gX7_countActiveWithLogOf_Jx4a65c_size_8abf5 : GoodIn wsX7_countActiveWithLogOf (wsV RX7 114 RJx4a65c yJx4a65c_size_8abf5 wsJx4a65c_size_8abf5) := goodIn_app (goodIn_of _ (by decide +kernel)) ggX7_countActiveWithLogOf_Jx4a65c_size_8abf5
theorem dX7_countActiveWithLogOf_0 : decode cX7_countActiveWithLogOf 0 = .ok (.iconst 0, 1) := by decide +kernel
theorem dX7_countActiveWithLogOf_1 : decode cX7_countActiveWithLogOf 1 = .ok (.istore_n 2, 1) := by decide +kernel
theorem dX7_countActiveWithLogOf_2 : decode cX7_countActiveWithLogOf 2 = .ok (.aload_n 0, 1) := by decide +kernel
theorem dX7_countActiveWithLogOf_3 : decode cX7_countActiveWithLogOf 3 = .ok (.getfield 11, 3) := by decide +kernel
theorem dX7_countActiveWithLogOf_6 : decode cX7_countActiveWithLogOf 6 = .ok (.astore_n 3, 1) := by decide +kernel
theorem dX7_countActiveWithLogOf_7 : decode cX7_countActiveWithLogOf 7 = .ok (.aload_n 3, 1) := by decide +kernel
theorem dX7_countActiveWithLogOf_8 : decode cX7_countActiveWithLogOf 8 = .ok (.arraylength, 1) := by decide +kernel
theorem dX7_countActiveWithLogOf_9 : decode cX7_countActiveWithLogOf 9 = .ok (.istore 4, 2) := by decide +kernel
theorem dX7_countActiveWithLogOf_11 : decode cX7_countActiveWithLogOf 11 = .ok (.iconst 0, 1) := by decide +kernel
theorem dX7_countActiveWithLogOf_12 : decode cX7_countActiveWithLogOf 12 = .ok (.istore 5, 2) := by decide +kernel
theorem dX7_countActiveWithLogOf_14 : decode cX7_countActiveWithLogOf 14 = .ok (.iload 5, 2) := by decide +kernel
theorem dX7_countActiveWithLogOf_16 : decode cX7_countActiveWithLogOf 16 = .ok (.iload 4, 2) := by decide +kernel
theorem dX7_countActiveWithLogOf_18 : decode cX7_countActiveWithLogOf 18 = .ok (.if_icmp .ge 38, 3) := by decide +kernel
theorem dX7_countActiveWithLogOf_21 : decode cX7_countActiveWithLogOf 21 = .ok (.aload_n 3, 1) := by decide +kernel
theorem dX7_countActiveWithLogOf_22 : decode cX7_countActiveWithLogOf 22 = .ok (.iload 5, 2) := by decide +kernel
theorem dX7_countActiveWithLogOf_24 : decode cX7_countActiveWithLogOf 24 = .ok (.aaload, 1) := by decide +kernel
theorem dX7_countActiveWithLogOf_25 : decode cX7_countActiveWithLogOf 25 = .ok (.astore 6, 2) := by decide +kernel
theorem dX7_countActiveWithLogOf_27 : decode cX7_countActiveWithLogOf 27 = .ok (.aload 6, 2) := by decide +kernel
theorem dX7_countActiveWithLogOf_29 : decode cX7_countActiveWithLogOf 29 = .ok (.getfield 54, 3) := by decide +kernel
theorem dX7_countActiveWithLogOf_32 : decode cX7_countActiveWithLogOf 32 = .ok (.ifCond .eq 18, 3) := by decide +kernel
theorem dX7_countActiveWithLogOf_35 : decode cX7_countActiveWithLogOf 35 = .ok (.aload 6, 2) := by decide +kernel
theorem dX7_countActiveWithLogOf_37 : decode cX7_countActiveWithLogOf 37 = .ok (.getfield 110, 3) := by decide +kernel
theorem dX7_countActiveWithLogOf_40 : decode cX7_countActiveWithLogOf 40 = .ok (.invokevirtual 114, 3) := by decide +kernel
theorem dX7_countActiveWithLogOf_43 : decode cX7_countActiveWithLogOf 43 = .ok (.iload_n 1, 1) := by decide +kernel
theorem dX7_countActiveWithLogOf_44 : decode cX7_countActiveWithLogOf 44 = .ok (.if_icmp .lt 6, 3) := by decide +kernel
theorem dX7_countActiveWithLogOf_47 : decode cX7_countActiveWithLogOf 47 = .ok (.iinc 2 1, 3) := by decide +kernel
theorem dX7_countActiveWithLogOf_50 : decode cX7_countActiveWithLogOf 50 = .ok (.iinc 5 1, 3) := by decide +kernel
theorem dX7_countActiveWithLogOf_53 : decode cX7_countActiveWithLogOf 53 = .ok (.goto (-39), 3) := by decide +kernel
theorem dX7_countActiveWithLogOf_56 : decode cX7_countActiveWithLogOf 56 = .ok (.iload_n 2, 1) := by decide +kernel
theorem dX7_countActiveWithLogOf_57 : decode cX7_countActiveWithLogOf 57 = .ok (.ireturn, 1) := by decide +kernel
theorem dX7_isFollower_0 : decode cX7_isFollower 0 = .ok (.aload_n 1, 1) := by decide +kernel
theorem dX7_isFollower_1 : decode cX7_isFollower 1 = .ok (.getfield 54, 3) := by decide +kernel
theorem dX7_isFollower_4 : decode cX7_isFollower 4 = .ok (.ifCond .eq 15, 3) := by decide +kernel
theorem dX7_isFollower_7 : decode cX7_isFollower 7 = .ok (.aload_n 1, 1) := by decide +kernel
theorem dX7_isFollower_8 : decode cX7_isFollower 8 = .ok (.aload_n 0, 1) := by decide +kernel
theorem dX7_isFollower_9 : decode cX7_isFollower 9 = .ok (.getfield 60, 3) := by decide +kernel
theorem dX7_isFollower_12 : decode cX7_isFollower 12 = .ok (.if_acmp .eq 7, 3) := by decide +kernel
theorem dX7_isFollower_15 : decode cX7_isFollower 15 = .ok (.iconst 1, 1) := by decide +kernel
theorem dX7_isFollower_16 : decode cX7_isFollower 16 = .ok (.goto 4, 3) := by decide +kernel
theorem dX7_isFollower_19 : decode cX7_isFollower 19 = .ok (.iconst 0, 1) := by decide +kernel
theorem dX7_isFollower_20 : decode cX7_isFollower 20 = .ok (.ireturn, 1) := by decide +kernel
theorem dX7_endLeadership_0 : decode cX7_endLeadership 0 = .ok (.aload_n 0, 1) := by decide +kernel
theorem dX7_endLeadership_1 : decode cX7_endLeadership 1 = .ok (.aconst_null, 1) := by decide +kernel
theorem dX7_endLeadership_2 : decode cX7_endLeadership 2 = .ok (.putfield 60, 3) := by decide +kernel
theorem dX7_endLeadership_5 : decode cX7_endLeadership 5 = .ok (.aload_n 0, 1) := by decide +kernel
theorem dX7_endLeadership_6 : decode cX7_endLeadership 6 = .ok (.getfield 11, 3) := by decide +kernel
theorem dX7_endLeadership_9 : decode cX7_endLeadership 9 = .ok (.astore_n 1, 1) := by decide +kernel
theorem dX7_endLeadership_10 : decode cX7_endLeadership 10 = .ok (.aload_n 1, 1) := by decide +kernel
theorem dX7_endLeadership_11 : decode cX7_endLeadership 11 = .ok (.arraylength, 1) := by decide +kernel
theorem dX7_endLeadership_12 : decode cX7_endLeadership 12 = .ok (.istore_n 2, 1) := by decide +kernel
theorem dX7_endLeadership_13 : decode cX7_endLeadership 13 = .ok (.iconst 0, 1) := by decide +kernel
theorem dX7_endLeadership_14 : decode cX7_endLeadership 14 = .ok (.istore_n 3, 1) := by decide +kernel
theorem dX7_endLeadership_15 : decode cX7_endLeadership 15 = .ok (.iload_n 3, 1) := by decide +kernel
theorem dX7_endLeadership_16 : decode cX7_endLeadership 16 = .ok (.iload_n 2, 1) := by decide +kernel
theorem dX7_endLeadership_17 : decode cX7_endLeadership 17 = .ok (.if_icmp .ge 20, 3) := by decide +kernel
theorem dX7_endLeadership_20 : decode cX7_endLeadership 20 = .ok (.aload_n 1, 1) := by decide +kernel
theorem dX7_endLeadership_21 : decode cX7_endLeadership 21 = .ok (.iload_n 3, 1) := by decide +kernel
theorem dX7_endLeadership_22 : decode cX7_endLeadership 22 = .ok (.aaload, 1) := by decide +kernel
theorem dX7_endLeadership_23 : decode cX7_endLeadership 23 = .ok (.astore 4, 2) := by decide +kernel
theorem dX7_endLeadership_25 : decode cX7_endLeadership 25 = .ok (.aload 4, 2) := by decide +kernel
theorem dX7_endLeadership_27 : decode cX7_endLeadership 27 = .ok (.iconst 0, 1) := by decide +kernel
theorem dX7_endLeadership_28 : decode cX7_endLeadership 28 = .ok (.putfield 54, 3) := by decide +kernel
theorem dX7_endLeadership_31 : decode cX7_endLeadership 31 = .ok (.iinc 3 1, 3) := by decide +kernel
theorem dX7_endLeadership_34 : decode cX7_endLeadership 34 = .ok (.goto (-19), 3) := by decide +kernel
theorem dX7_endLeadership_37 : decode cX7_endLeadership 37 = .ok (.return_, 1) := by decide +kernel
set_option maxRecDepth 20000 in
theorem ggX7_bestCandidate_X1_isAheadOf : GoodIn wsX7_bestCandidate wsX1_isAheadOf := goodIn_r _ [7, 8, 9, 10, 11, 6, 12, 13, 14, 15, 16, 17, 18, 19, 20, 21, 22, 23, 24, 25, 26, 27, 28, 29, 30, 31, 32, 33, 34, 35, 36, 37, 38, 39, 40, 41, 42, 55, 56, 57, 58, 59, 60, 61, 62, 63, 64, 65, 66, 67, 68, 69] (by decide +kernel) (by decide +kernel)
set_option maxRecDepth 20000 in
theorem gX7_bestCandidate_X1_isAheadOf : GoodIn wsX7_bestCandidate (wsV RX7 237 RX1 yX1_isAheadOf wsX1_isAheadOf) := goodIn_app (goodIn_of _ (by decide +kernel)) ggX7_bestCandidate_X1_isAheadOf
theorem dX7_bestCandidate_0 : decode cX7_bestCandidate 0 = .ok (.aconst_null, 1) := by decide +kernel
theorem dX7_bestCandidate_1 : decode cX7_bestCandidate 1 = .ok (.astore_n 1, 1) := by decide +kernel
theorem dX7_bestCandidate_2 : decode cX7_bestCandidate 2 = .ok (.aload_n 0, 1) := by decide +kernel
theorem dX7_bestCandidate_3 : decode cX7_bestCandidate 3 = .ok (.getfield 11, 3) := by decide +kernel
theorem dX7_bestCandidate_6 : decode cX7_bestCandidate 6 = .ok (.astore_n 2, 1) := by decide +kernel
theorem dX7_bestCandidate_7 : decode cX7_bestCandidate 7 = .ok (.aload_n 2, 1) := by decide +kernel
theorem dX7_bestCandidate_8 : decode cX7_bestCandidate 8 = .ok (.arraylength, 1) := by decide +kernel
theorem dX7_bestCandidate_9 : decode cX7_bestCandidate 9 = .ok (.istore_n 3, 1) := by decide +kernel
theorem dX7_bestCandidate_10 : decode cX7_bestCandidate 10 = .ok (.iconst 0, 1) := by decide +kernel
theorem dX7_bestCandidate_11 : decode cX7_bestCandidate 11 = .ok (.istore 4, 2) := by decide +kernel
theorem dX7_bestCandidate_13 : decode cX7_bestCandidate 13 = .ok (.iload 4, 2) := by decide +kernel
theorem dX7_bestCandidate_15 : decode cX7_bestCandidate 15 = .ok (.iload_n 3, 1) := by decide +kernel
theorem dX7_bestCandidate_16 : decode cX7_bestCandidate 16 = .ok (.if_icmp .ge 39, 3) := by decide +kernel
theorem dX7_bestCandidate_19 : decode cX7_bestCandidate 19 = .ok (.aload_n 2, 1) := by decide +kernel
theorem dX7_bestCandidate_20 : decode cX7_bestCandidate 20 = .ok (.iload 4, 2) := by decide +kernel
theorem dX7_bestCandidate_22 : decode cX7_bestCandidate 22 = .ok (.aaload, 1) := by decide +kernel
theorem dX7_bestCandidate_23 : decode cX7_bestCandidate 23 = .ok (.astore 5, 2) := by decide +kernel
theorem dX7_bestCandidate_25 : decode cX7_bestCandidate 25 = .ok (.aload 5, 2) := by decide +kernel
theorem dX7_bestCandidate_27 : decode cX7_bestCandidate 27 = .ok (.getfield 50, 3) := by decide +kernel
theorem dX7_bestCandidate_30 : decode cX7_bestCandidate 30 = .ok (.ifCond .eq 19, 3) := by decide +kernel
theorem dX7_bestCandidate_33 : decode cX7_bestCandidate 33 = .ok (.aload_n 1, 1) := by decide +kernel
theorem dX7_bestCandidate_34 : decode cX7_bestCandidate 34 = .ok (.ifnull 12, 3) := by decide +kernel
theorem dX7_bestCandidate_37 : decode cX7_bestCandidate 37 = .ok (.aload_n 1, 1) := by decide +kernel
theorem dX7_bestCandidate_38 : decode cX7_bestCandidate 38 = .ok (.aload 5, 2) := by decide +kernel
theorem dX7_bestCandidate_40 : decode cX7_bestCandidate 40 = .ok (.invokevirtual 237, 3) := by decide +kernel
theorem dX7_bestCandidate_43 : decode cX7_bestCandidate 43 = .ok (.ifCond .ne 6, 3) := by decide +kernel
theorem dX7_bestCandidate_46 : decode cX7_bestCandidate 46 = .ok (.aload 5, 2) := by decide +kernel
theorem dX7_bestCandidate_48 : decode cX7_bestCandidate 48 = .ok (.astore_n 1, 1) := by decide +kernel
theorem dX7_bestCandidate_49 : decode cX7_bestCandidate 49 = .ok (.iinc 4 1, 3) := by decide +kernel
theorem dX7_bestCandidate_52 : decode cX7_bestCandidate 52 = .ok (.goto (-39), 3) := by decide +kernel
theorem dX7_bestCandidate_55 : decode cX7_bestCandidate 55 = .ok (.aload_n 1, 1) := by decide +kernel
theorem dX7_bestCandidate_56 : decode cX7_bestCandidate 56 = .ok (.areturn, 1) := by decide +kernel
set_option maxRecDepth 20000 in
theorem ggX7_beginEpoch_X1_copyLogOf : GoodIn wsX7_beginEpoch wsX1_copyLogOf := goodIn_r _ [15, 16, 17, 18, 19, 20, 14, 21, 22, 23, 24, 25, 26, 27, 28, 29, 30, 31, 32, 33, 34, 35, 36, 37, 38, 39, 40, 41, 42, 43, 44, 45, 46, 47, 48, 49, 50, 51, 52, 53, 54, 55, 56, 57, 58, 59, 60, 61, 62, 63, 64, 65, 66, 67, 68, 69, 70, 71, 72, 73, 74, 75, 76, 77, 78, 79, 80, 81, 82, 83, 84, 85, 86, 87, 88, 89, 90, 91, 92, 93, 94, 95, 96, 97, 98, 99, 100, 101, 102, 103, 104, 105, 106, 107, 108, 214, 215, 216, 217, 218, 219, 220, 221, 222, 223, 224, 225, 226, 227, 228] (by decide +kernel) (by decide +kernel)
set_option maxRecDepth 20000 in
theorem gX7_beginEpoch_X1_copyLogOf : GoodIn wsX7_beginEpoch (wsV RX7 88 RX1 yX1_copyLogOf wsX1_copyLogOf) := goodIn_app (goodIn_of _ (by decide +kernel)) ggX7_beginEpoch_X1_copyLogOf
set_option maxRecDepth 20000 in
theorem ggX7_beginEpoch_Jx4a65c_size_8abf5 : GoodIn wsX7_beginEpoch wsJx4a65c_size_8abf5 := goodIn_r _ [31, 32, 226, 227, 228] (by decide +kernel) (by decide +kernel)
set_option maxRecDepth 20000 in
theorem gX7_beginEpoch_Jx4a65c_size_8abf5 : GoodIn wsX7_beginEpoch (wsV RX7 114 RJx4a65c yJx4a65c_size_8abf5 wsJx4a65c_size_8abf5) := goodIn_app (goodIn_of _ (by decide +kernel)) ggX7_beginEpoch_Jx4a65c_size_8abf5
set_option maxRecDepth 20000 in
theorem ggX7_beginEpoch_X1_applyUpTo : GoodIn wsX7_beginEpoch wsX1_applyUpTo := goodIn_r _ [113, 16, 22, 23, 24, 25, 114, 115, 17, 27, 28, 29, 30, 31, 32, 33, 34, 35, 36, 37, 38, 39, 40, 41, 42, 43, 44, 45, 46, 47, 48, 49, 116, 117, 118, 119, 120, 121, 122, 123, 124, 125, 126, 127, 128, 129, 130, 131, 132, 133, 134, 135, 136, 137, 138, 139, 140, 141, 142, 143, 144, 145, 146, 147, 148, 149, 150, 151, 152, 153, 154, 155, 156, 157, 158, 159, 160, 161, 162, 163, 164, 51, 52, 53, 54, 55, 56, 57, 58, 59, 60, 61, 62, 63, 165, 166, 167, 168, 169, 170, 171, 172, 173, 174, 175, 176, 177, 178, 179, 180, 181, 182, 183, 184, 185, 186, 187, 188, 189, 214, 215, 216, 217, 218, 219, 220, 226, 227, 228, 221, 222, 223, 224, 225, 229, 230, 231, 232, 233, 234, 235, 236, 237, 238, 239, 240, 241] (by decide +kernel) (by decide +kernel)
set_option maxRecDepth 20000 in
theorem gX7_beginEpoch_X1_applyUpTo : GoodIn wsX7_beginEpoch (wsV RX7 102 RX1 yX1_applyUpTo wsX1_applyUpTo) := goodIn_app (goodIn_of _ (by decide +kernel)) ggX7_beginEpoch_X1_applyUpTo
set_option maxRecDepth 20000 in
theorem ggX7_beginEpoch_X7_proposeLogAgain : GoodIn wsX7_beginEpoch wsX7_proposeLogAgain := goodIn_r _ [193, 194, 8, 195, 10, 196, 197, 198, 119, 199, 139, 127, 109, 28, 29, 30, 31, 32, 200, 34, 35, 36, 37, 38, 39, 40, 41, 42, 43, 44, 45, 46, 47, 48, 49, 201, 117, 118, 120, 121, 122, 123, 124, 125, 126, 128, 129, 130, 131, 132, 133, 134, 135, 136, 137, 138, 140, 141, 142, 143, 144, 145, 146, 147, 148, 149, 150, 151, 152, 153, 154, 155, 156, 157, 158, 159, 160, 161, 162, 163, 164, 51, 52, 53, 54, 55, 56, 57, 58, 59, 60, 61, 62, 63, 165, 166, 167, 168, 169, 170, 171, 172, 173, 174, 175, 176, 177, 178, 179, 180, 181, 182, 183, 184, 185, 186, 187, 188, 189, 202, 203, 204, 205, 206, 207, 208, 209, 210, 211, 212, 213, 214, 215, 216, 217, 218, 219, 220, 233, 234, 229, 230, 231, 232, 226, 227, 228, 221, 222, 223, 224, 225, 235, 236, 237, 238, 239, 240, 241] (by decide +kernel) (by decide +kernel)
set_option maxRecDepth 20000 in
theorem gX7_beginEpoch_X7_proposeLogAgain : GoodIn wsX7_beginEpoch (wsV RX7 240 RX7 yX7_proposeLogAgain wsX7_proposeLogAgain) := goodIn_app (goodIn_of _ (by decide +kernel)) ggX7_beginEpoch_X7_proposeLogAgain
theorem dX7_beginEpoch_0 : decode cX7_beginEpoch 0 = .ok (.aload_n 0, 1) := by decide +kernel
theorem dX7_beginEpoch_1 : decode cX7_beginEpoch 1 = .ok (.aload_n 1, 1) := by decide +kernel
theorem dX7_beginEpoch_2 : decode cX7_beginEpoch 2 = .ok (.putfield 60, 3) := by decide +kernel
theorem dX7_beginEpoch_5 : decode cX7_beginEpoch 5 = .ok (.aload_n 0, 1) := by decide +kernel
theorem dX7_beginEpoch_6 : decode cX7_beginEpoch 6 = .ok (.aload_n 1, 1) := by decide +kernel
theorem dX7_beginEpoch_7 : decode cX7_beginEpoch 7 = .ok (.getfield 95, 3) := by decide +kernel
theorem dX7_beginEpoch_10 : decode cX7_beginEpoch 10 = .ok (.iconst 1, 1) := by decide +kernel
theorem dX7_beginEpoch_11 : decode cX7_beginEpoch 11 = .ok (.iadd, 1) := by decide +kernel
theorem dX7_beginEpoch_12 : decode cX7_beginEpoch 12 = .ok (.putfield 92, 3) := by decide +kernel
theorem dX7_beginEpoch_15 : decode cX7_beginEpoch 15 = .ok (.aload_n 0, 1) := by decide +kernel
theorem dX7_beginEpoch_16 : decode cX7_beginEpoch 16 = .ok (.iconst 0, 1) := by decide +kernel
theorem dX7_beginEpoch_17 : decode cX7_beginEpoch 17 = .ok (.putfield 231, 3) := by decide +kernel
theorem dX7_beginEpoch_20 : decode cX7_beginEpoch 20 = .ok (.aload_n 0, 1) := by decide +kernel
theorem dX7_beginEpoch_21 : decode cX7_beginEpoch 21 = .ok (.getfield 11, 3) := by decide +kernel
theorem dX7_beginEpoch_24 : decode cX7_beginEpoch 24 = .ok (.astore_n 2, 1) := by decide +kernel
theorem dX7_beginEpoch_25 : decode cX7_beginEpoch 25 = .ok (.aload_n 2, 1) := by decide +kernel
theorem dX7_beginEpoch_26 : decode cX7_beginEpoch 26 = .ok (.arraylength, 1) := by decide +kernel
theorem dX7_beginEpoch_27 : decode cX7_beginEpoch 27 = .ok (.istore_n 3, 1) := by decide +kernel
theorem dX7_beginEpoch_28 : decode cX7_beginEpoch 28 = .ok (.iconst 0, 1) := by decide +kernel
theorem dX7_beginEpoch_29 : decode cX7_beginEpoch 29 = .ok (.istore 4, 2) := by decide +kernel
theorem dX7_beginEpoch_31 : decode cX7_beginEpoch 31 = .ok (.iload 4, 2) := by decide +kernel
theorem dX7_beginEpoch_33 : decode cX7_beginEpoch 33 = .ok (.iload_n 3, 1) := by decide +kernel
theorem dX7_beginEpoch_34 : decode cX7_beginEpoch 34 = .ok (.if_icmp .ge 45, 3) := by decide +kernel
theorem dX7_beginEpoch_37 : decode cX7_beginEpoch 37 = .ok (.aload_n 2, 1) := by decide +kernel
theorem dX7_beginEpoch_38 : decode cX7_beginEpoch 38 = .ok (.iload 4, 2) := by decide +kernel
theorem dX7_beginEpoch_40 : decode cX7_beginEpoch 40 = .ok (.aaload, 1) := by decide +kernel
theorem dX7_beginEpoch_41 : decode cX7_beginEpoch 41 = .ok (.astore 5, 2) := by decide +kernel
theorem dX7_beginEpoch_43 : decode cX7_beginEpoch 43 = .ok (.aload 5, 2) := by decide +kernel
theorem dX7_beginEpoch_45 : decode cX7_beginEpoch 45 = .ok (.getfield 50, 3) := by decide +kernel
theorem dX7_beginEpoch_48 : decode cX7_beginEpoch 48 = .ok (.ifCond .eq 25, 3) := by decide +kernel
theorem dX7_beginEpoch_51 : decode cX7_beginEpoch 51 = .ok (.aload 5, 2) := by decide +kernel
theorem dX7_beginEpoch_53 : decode cX7_beginEpoch 53 = .ok (.aload_n 1, 1) := by decide +kernel
theorem dX7_beginEpoch_54 : decode cX7_beginEpoch 54 = .ok (.invokevirtual 88, 3) := by decide +kernel
theorem dX7_beginEpoch_57 : decode cX7_beginEpoch 57 = .ok (.pop, 1) := by decide +kernel
theorem dX7_beginEpoch_58 : decode cX7_beginEpoch 58 = .ok (.aload 5, 2) := by decide +kernel
theorem dX7_beginEpoch_60 : decode cX7_beginEpoch 60 = .ok (.iconst 1, 1) := by decide +kernel
theorem dX7_beginEpoch_61 : decode cX7_beginEpoch 61 = .ok (.putfield 54, 3) := by decide +kernel
theorem dX7_beginEpoch_64 : decode cX7_beginEpoch 64 = .ok (.aload 5, 2) := by decide +kernel
theorem dX7_beginEpoch_66 : decode cX7_beginEpoch 66 = .ok (.aload_n 0, 1) := by decide +kernel
theorem dX7_beginEpoch_67 : decode cX7_beginEpoch 67 = .ok (.getfield 92, 3) := by decide +kernel
theorem dX7_beginEpoch_70 : decode cX7_beginEpoch 70 = .ok (.putfield 95, 3) := by decide +kernel
theorem dX7_beginEpoch_73 : decode cX7_beginEpoch 73 = .ok (.iinc 4 1, 3) := by decide +kernel
theorem dX7_beginEpoch_76 : decode cX7_beginEpoch 76 = .ok (.goto (-45), 3) := by decide +kernel
theorem dX7_beginEpoch_79 : decode cX7_beginEpoch 79 = .ok (.aload_n 0, 1) := by decide +kernel
theorem dX7_beginEpoch_80 : decode cX7_beginEpoch 80 = .ok (.aload_n 1, 1) := by decide +kernel
theorem dX7_beginEpoch_81 : decode cX7_beginEpoch 81 = .ok (.getfield 110, 3) := by decide +kernel
theorem dX7_beginEpoch_84 : decode cX7_beginEpoch 84 = .ok (.invokevirtual 114, 3) := by decide +kernel
theorem dX7_beginEpoch_87 : decode cX7_beginEpoch 87 = .ok (.putfield 99, 3) := by decide +kernel
theorem dX7_beginEpoch_90 : decode cX7_beginEpoch 90 = .ok (.aload_n 0, 1) := by decide +kernel
theorem dX7_beginEpoch_91 : decode cX7_beginEpoch 91 = .ok (.getfield 11, 3) := by decide +kernel
theorem dX7_beginEpoch_94 : decode cX7_beginEpoch 94 = .ok (.astore_n 2, 1) := by decide +kernel
theorem dX7_beginEpoch_95 : decode cX7_beginEpoch 95 = .ok (.aload_n 2, 1) := by decide +kernel
theorem dX7_beginEpoch_96 : decode cX7_beginEpoch 96 = .ok (.arraylength, 1) := by decide +kernel
theorem dX7_beginEpoch_97 : decode cX7_beginEpoch 97 = .ok (.istore_n 3, 1) := by decide +kernel
theorem dX7_beginEpoch_98 : decode cX7_beginEpoch 98 = .ok (.iconst 0, 1) := by decide +kernel
theorem dX7_beginEpoch_99 : decode cX7_beginEpoch 99 = .ok (.istore 4, 2) := by decide +kernel
theorem dX7_beginEpoch_101 : decode cX7_beginEpoch 101 = .ok (.iload 4, 2) := by decide +kernel
theorem dX7_beginEpoch_103 : decode cX7_beginEpoch 103 = .ok (.iload_n 3, 1) := by decide +kernel
theorem dX7_beginEpoch_104 : decode cX7_beginEpoch 104 = .ok (.if_icmp .ge 37, 3) := by decide +kernel
theorem dX7_beginEpoch_107 : decode cX7_beginEpoch 107 = .ok (.aload_n 2, 1) := by decide +kernel
theorem dX7_beginEpoch_108 : decode cX7_beginEpoch 108 = .ok (.iload 4, 2) := by decide +kernel
theorem dX7_beginEpoch_110 : decode cX7_beginEpoch 110 = .ok (.aaload, 1) := by decide +kernel
theorem dX7_beginEpoch_111 : decode cX7_beginEpoch 111 = .ok (.astore 5, 2) := by decide +kernel
theorem dX7_beginEpoch_113 : decode cX7_beginEpoch 113 = .ok (.aload 5, 2) := by decide +kernel
theorem dX7_beginEpoch_115 : decode cX7_beginEpoch 115 = .ok (.getfield 54, 3) := by decide +kernel
theorem dX7_beginEpoch_118 : decode cX7_beginEpoch 118 = .ok (.ifCond .eq 17, 3) := by decide +kernel
theorem dX7_beginEpoch_121 : decode cX7_beginEpoch 121 = .ok (.aload 5, 2) := by decide +kernel
theorem dX7_beginEpoch_123 : decode cX7_beginEpoch 123 = .ok (.aload_n 0, 1) := by decide +kernel
theorem dX7_beginEpoch_124 : decode cX7_beginEpoch 124 = .ok (.getfield 99, 3) := by decide +kernel
theorem dX7_beginEpoch_127 : decode cX7_beginEpoch 127 = .ok (.aload_n 0, 1) := by decide +kernel
theorem dX7_beginEpoch_128 : decode cX7_beginEpoch 128 = .ok (.getfield 24, 3) := by decide +kernel
theorem dX7_beginEpoch_131 : decode cX7_beginEpoch 131 = .ok (.invokevirtual 102, 3) := by decide +kernel
theorem dX7_beginEpoch_134 : decode cX7_beginEpoch 134 = .ok (.pop, 1) := by decide +kernel
theorem dX7_beginEpoch_135 : decode cX7_beginEpoch 135 = .ok (.iinc 4 1, 3) := by decide +kernel
theorem dX7_beginEpoch_138 : decode cX7_beginEpoch 138 = .ok (.goto (-37), 3) := by decide +kernel
theorem dX7_beginEpoch_141 : decode cX7_beginEpoch 141 = .ok (.aload_n 0, 1) := by decide +kernel
theorem dX7_beginEpoch_142 : decode cX7_beginEpoch 142 = .ok (.aload_n 1, 1) := by decide +kernel
theorem dX7_beginEpoch_143 : decode cX7_beginEpoch 143 = .ok (.invokevirtual 240, 3) := by decide +kernel
theorem dX7_beginEpoch_146 : decode cX7_beginEpoch 146 = .ok (.return_, 1) := by decide +kernel
set_option maxRecDepth 20000 in
theorem ggX7_proposeLogAgain_X4_clear : GoodIn wsX7_proposeLogAgain wsX4_clear := goodIn_r _ [9, 10, 11, 138, 139, 140, 141, 142, 143] (by decide +kernel) (by decide +kernel)
set_option maxRecDepth 20000 in
theorem gX7_proposeLogAgain_X4_clear : GoodIn wsX7_proposeLogAgain (wsV RX7 243 RX4 yX4_clear wsX4_clear) := goodIn_app (goodIn_of _ (by decide +kernel)) ggX7_proposeLogAgain_X4_clear
set_option maxRecDepth 20000 in
theorem ggX7_proposeLogAgain_Jx4a65c_size_8abf5 : GoodIn wsX7_proposeLogAgain wsJx4a65c_size_8abf5 := goodIn_r _ [16, 17, 144, 145, 146] (by decide +kernel) (by decide +kernel)
set_option maxRecDepth 20000 in
theorem gX7_proposeLogAgain_Jx4a65c_size_8abf5 : GoodIn wsX7_proposeLogAgain (wsV RX7 114 RJx4a65c yJx4a65c_size_8abf5 wsJx4a65c_size_8abf5) := goodIn_app (goodIn_of _ (by decide +kernel)) ggX7_proposeLogAgain_Jx4a65c_size_8abf5
set_option maxRecDepth 20000 in
theorem ggX7_proposeLogAgain_Jx4a65c_get_915e3 : GoodIn wsX7_proposeLogAgain wsJx4a65c_get_915e3 := goodIn_r _ [21, 17, 22, 23, 24, 25, 26, 27, 28, 29, 30, 31, 32, 15, 33, 34, 144, 145, 146] (by decide +kernel) (by decide +kernel)
set_option maxRecDepth 20000 in
theorem gX7_proposeLogAgain_Jx4a65c_get_915e3 : GoodIn wsX7_proposeLogAgain (wsV RX7 119 RJx4a65c yJx4a65c_get_915e3 wsJx4a65c_get_915e3) := goodIn_app (goodIn_of _ (by decide +kernel)) ggX7_proposeLogAgain_Jx4a65c_get_915e3
set_option maxRecDepth 20000 in
theorem ggX7_proposeLogAgain_X4_carryOut : GoodIn wsX7_proposeLogAgain wsX4_carryOut := goodIn_r _ [38, 39, 40, 41, 42, 8, 43, 44, 11, 45, 46, 47, 48, 49, 50, 51, 52, 53, 54, 55, 10, 56, 57, 58, 59, 60, 61, 62, 63, 64, 13, 14, 15, 16, 17, 65, 19, 20, 21, 22, 23, 24, 25, 26, 27, 28, 29, 30, 31, 32, 33, 34, 66, 67, 68, 69, 70, 71, 72, 73, 74, 75, 76, 77, 78, 79, 80, 81, 82, 83, 84, 85, 86, 87, 88, 89, 90, 91, 92, 93, 94, 95, 96, 97, 98, 99, 100, 101, 102, 103, 104, 105, 106, 107, 108, 109, 110, 111, 112, 113, 114, 115, 116, 117, 118, 147, 148, 149, 150, 151, 140, 141, 142, 143, 138, 139, 152, 153, 154, 155, 144, 145, 146, 156, 157, 158] (by decide +kernel) (by decide +kernel)
set_option maxRecDepth 20000 in
theorem gX7_proposeLogAgain_X4_carryOut : GoodIn wsX7_proposeLogAgain (wsV RX7 246 RX4 yX4_carryOut wsX4_carryOut) := goodIn_app (goodIn_of _ (by decide +kernel)) ggX7_proposeLogAgain_X4_carryOut
theorem dX7_proposeLogAgain_0 : decode cX7_proposeLogAgain 0 = .ok (.aload_n 0, 1) := by decide +kernel
theorem dX7_proposeLogAgain_1 : decode cX7_proposeLogAgain 1 = .ok (.getfield 33, 3) := by decide +kernel
theorem dX7_proposeLogAgain_4 : decode cX7_proposeLogAgain 4 = .ok (.invokevirtual 243, 3) := by decide +kernel
theorem dX7_proposeLogAgain_7 : decode cX7_proposeLogAgain 7 = .ok (.iconst 0, 1) := by decide +kernel
theorem dX7_proposeLogAgain_8 : decode cX7_proposeLogAgain 8 = .ok (.istore_n 2, 1) := by decide +kernel
theorem dX7_proposeLogAgain_9 : decode cX7_proposeLogAgain 9 = .ok (.iload_n 2, 1) := by decide +kernel
theorem dX7_proposeLogAgain_10 : decode cX7_proposeLogAgain 10 = .ok (.aload_n 1, 1) := by decide +kernel
theorem dX7_proposeLogAgain_11 : decode cX7_proposeLogAgain 11 = .ok (.getfield 110, 3) := by decide +kernel
theorem dX7_proposeLogAgain_14 : decode cX7_proposeLogAgain 14 = .ok (.invokevirtual 114, 3) := by decide +kernel
theorem dX7_proposeLogAgain_17 : decode cX7_proposeLogAgain 17 = .ok (.if_icmp .ge 31, 3) := by decide +kernel
theorem dX7_proposeLogAgain_20 : decode cX7_proposeLogAgain 20 = .ok (.aload_n 0, 1) := by decide +kernel
theorem dX7_proposeLogAgain_21 : decode cX7_proposeLogAgain 21 = .ok (.getfield 33, 3) := by decide +kernel
theorem dX7_proposeLogAgain_24 : decode cX7_proposeLogAgain 24 = .ok (.aload_n 1, 1) := by decide +kernel
theorem dX7_proposeLogAgain_25 : decode cX7_proposeLogAgain 25 = .ok (.getfield 110, 3) := by decide +kernel
theorem dX7_proposeLogAgain_28 : decode cX7_proposeLogAgain 28 = .ok (.iload_n 2, 1) := by decide +kernel
theorem dX7_proposeLogAgain_29 : decode cX7_proposeLogAgain 29 = .ok (.invokevirtual 119, 3) := by decide +kernel
theorem dX7_proposeLogAgain_32 : decode cX7_proposeLogAgain 32 = .ok (.checkcast 123, 3) := by decide +kernel
theorem dX7_proposeLogAgain_35 : decode cX7_proposeLogAgain 35 = .ok (.aload_n 0, 1) := by decide +kernel
theorem dX7_proposeLogAgain_36 : decode cX7_proposeLogAgain 36 = .ok (.getfield 24, 3) := by decide +kernel
theorem dX7_proposeLogAgain_39 : decode cX7_proposeLogAgain 39 = .ok (.invokevirtual 246, 3) := by decide +kernel
theorem dX7_proposeLogAgain_42 : decode cX7_proposeLogAgain 42 = .ok (.iinc 2 1, 3) := by decide +kernel
theorem dX7_proposeLogAgain_45 : decode cX7_proposeLogAgain 45 = .ok (.goto (-36), 3) := by decide +kernel
theorem dX7_proposeLogAgain_48 : decode cX7_proposeLogAgain 48 = .ok (.return_, 1) := by decide +kernel
set_option maxRecDepth 20000 in
theorem ggX7_commitWhatAQuorumHas_Jx4a65c_size_8abf5 : GoodIn wsX7_commitWhatAQuorumHas wsJx4a65c_size_8abf5 := goodIn_r _ [8, 9, 158, 159, 160] (by decide +kernel) (by decide +kernel)
set_option maxRecDepth 20000 in
theorem gX7_commitWhatAQuorumHas_Jx4a65c_size_8abf5 : GoodIn wsX7_commitWhatAQuorumHas (wsV RX7 114 RJx4a65c yJx4a65c_size_8abf5 wsJx4a65c_size_8abf5) := goodIn_app (goodIn_of _ (by decide +kernel)) ggX7_commitWhatAQuorumHas_Jx4a65c_size_8abf5
set_option maxRecDepth 20000 in
theorem ggX7_commitWhatAQuorumHas_X7_countActiveWithLogOf : GoodIn wsX7_commitWhatAQuorumHas wsX7_countActiveWithLogOf := goodIn_r _ [14, 15, 16, 2, 4, 5, 6, 7, 8, 9, 139, 140, 141, 142, 143, 144, 145, 146, 147, 148, 149, 150, 151, 152, 153, 154, 155, 156, 157, 158, 159, 160] (by decide +kernel) (by decide +kernel)
set_option maxRecDepth 20000 in
theorem gX7_commitWhatAQuorumHas_X7_countActiveWithLogOf : GoodIn wsX7_commitWhatAQuorumHas (wsV RX7 234 RX7 yX7_countActiveWithLogOf wsX7_countActiveWithLogOf) := goodIn_app (goodIn_of _ (by decide +kernel)) ggX7_commitWhatAQuorumHas_X7_countActiveWithLogOf
set_option maxRecDepth 20000 in
theorem ggX7_commitWhatAQuorumHas_X7_quorum : GoodIn wsX7_commitWhatAQuorumHas wsX7_quorum := goodIn_r _ [20, 21, 139, 140, 141, 142, 143, 144, 145, 146, 147, 148, 149, 150] (by decide +kernel) (by decide +kernel)
set_option maxRecDepth 20000 in
theorem gX7_commitWhatAQuorumHas_X7_quorum : GoodIn wsX7_commitWhatAQuorumHas (wsV RX7 68 RX7 yX7_quorum wsX7_quorum) := goodIn_app (goodIn_of _ (by decide +kernel)) ggX7_commitWhatAQuorumHas_X7_quorum
set_option maxRecDepth 20000 in
theorem ggX7_commitWhatAQuorumHas_X1_applyUpTo : GoodIn wsX7_commitWhatAQuorumHas wsX1_applyUpTo := goodIn_r _ [26, 27, 28, 29, 30, 31, 32, 33, 34, 35, 5, 6, 7, 8, 9, 36, 37, 38, 39, 40, 41, 42, 43, 44, 45, 46, 47, 48, 49, 50, 51, 52, 53, 54, 55, 56, 57, 58, 59, 60, 61, 62, 63, 64, 65, 66, 67, 68, 69, 70, 71, 72, 73, 74, 75, 76, 77, 78, 79, 80, 81, 82, 83, 84, 85, 86, 87, 88, 89, 90, 91, 92, 93, 94, 95, 96, 97, 98, 99, 100, 101, 102, 103, 104, 105, 106, 107, 108, 109, 110, 111, 112, 113, 114, 115, 116, 117, 118, 119, 120, 121, 122, 123, 124, 125, 126, 127, 128, 129, 130, 131, 132, 133, 134, 135, 136, 137, 13, 138, 151, 152, 153, 154, 155, 156, 157, 158, 159, 160, 161, 162, 163, 164, 165, 166, 167, 168, 169, 170, 171, 172, 173, 174, 175, 176, 177, 178] (by decide +kernel) (by decide +kernel)
set_option maxRecDepth 20000 in
theorem gX7_commitWhatAQuorumHas_X1_applyUpTo : GoodIn wsX7_commitWhatAQuorumHas (wsV RX7 102 RX1 yX1_applyUpTo wsX1_applyUpTo) := goodIn_app (goodIn_of _ (by decide +kernel)) ggX7_commitWhatAQuorumHas_X1_applyUpTo
theorem dX7_commitWhatAQuorumHas_0 : decode cX7_commitWhatAQuorumHas 0 = .ok (.aload_n 0, 1) := by decide +kernel
theorem dX7_commitWhatAQuorumHas_1 : decode cX7_commitWhatAQuorumHas 1 = .ok (.getfield 99, 3) := by decide +kernel
theorem dX7_commitWhatAQuorumHas_4 : decode cX7_commitWhatAQuorumHas 4 = .ok (.iconst 1, 1) := by decide +kernel
theorem dX7_commitWhatAQuorumHas_5 : decode cX7_commitWhatAQuorumHas 5 = .ok (.iadd, 1) := by decide +kernel
theorem dX7_commitWhatAQuorumHas_6 : decode cX7_commitWhatAQuorumHas 6 = .ok (.istore_n 2, 1) := by decide +kernel
theorem dX7_commitWhatAQuorumHas_7 : decode cX7_commitWhatAQuorumHas 7 = .ok (.iload_n 2, 1) := by decide +kernel
theorem dX7_commitWhatAQuorumHas_8 : decode cX7_commitWhatAQuorumHas 8 = .ok (.aload_n 1, 1) := by decide +kernel
theorem dX7_commitWhatAQuorumHas_9 : decode cX7_commitWhatAQuorumHas 9 = .ok (.getfield 110, 3) := by decide +kernel
theorem dX7_commitWhatAQuorumHas_12 : decode cX7_commitWhatAQuorumHas 12 = .ok (.invokevirtual 114, 3) := by decide +kernel
theorem dX7_commitWhatAQuorumHas_15 : decode cX7_commitWhatAQuorumHas 15 = .ok (.if_icmp .gt 26, 3) := by decide +kernel
theorem dX7_commitWhatAQuorumHas_18 : decode cX7_commitWhatAQuorumHas 18 = .ok (.aload_n 0, 1) := by decide +kernel
theorem dX7_commitWhatAQuorumHas_19 : decode cX7_commitWhatAQuorumHas 19 = .ok (.iload_n 2, 1) := by decide +kernel
theorem dX7_commitWhatAQuorumHas_20 : decode cX7_commitWhatAQuorumHas 20 = .ok (.invokevirtual 234, 3) := by decide +kernel
theorem dX7_commitWhatAQuorumHas_23 : decode cX7_commitWhatAQuorumHas 23 = .ok (.aload_n 0, 1) := by decide +kernel
theorem dX7_commitWhatAQuorumHas_24 : decode cX7_commitWhatAQuorumHas 24 = .ok (.invokevirtual 68, 3) := by decide +kernel
theorem dX7_commitWhatAQuorumHas_27 : decode cX7_commitWhatAQuorumHas 27 = .ok (.if_icmp .lt 8, 3) := by decide +kernel
theorem dX7_commitWhatAQuorumHas_30 : decode cX7_commitWhatAQuorumHas 30 = .ok (.aload_n 0, 1) := by decide +kernel
theorem dX7_commitWhatAQuorumHas_31 : decode cX7_commitWhatAQuorumHas 31 = .ok (.iload_n 2, 1) := by decide +kernel
theorem dX7_commitWhatAQuorumHas_32 : decode cX7_commitWhatAQuorumHas 32 = .ok (.putfield 99, 3) := by decide +kernel
theorem dX7_commitWhatAQuorumHas_35 : decode cX7_commitWhatAQuorumHas 35 = .ok (.iinc 2 1, 3) := by decide +kernel
theorem dX7_commitWhatAQuorumHas_38 : decode cX7_commitWhatAQuorumHas 38 = .ok (.goto (-31), 3) := by decide +kernel
theorem dX7_commitWhatAQuorumHas_41 : decode cX7_commitWhatAQuorumHas 41 = .ok (.aload_n 1, 1) := by decide +kernel
theorem dX7_commitWhatAQuorumHas_42 : decode cX7_commitWhatAQuorumHas 42 = .ok (.aload_n 0, 1) := by decide +kernel
theorem dX7_commitWhatAQuorumHas_43 : decode cX7_commitWhatAQuorumHas 43 = .ok (.getfield 99, 3) := by decide +kernel
theorem dX7_commitWhatAQuorumHas_46 : decode cX7_commitWhatAQuorumHas 46 = .ok (.aload_n 0, 1) := by decide +kernel
theorem dX7_commitWhatAQuorumHas_47 : decode cX7_commitWhatAQuorumHas 47 = .ok (.getfield 24, 3) := by decide +kernel
theorem dX7_commitWhatAQuorumHas_50 : decode cX7_commitWhatAQuorumHas 50 = .ok (.invokevirtual 102, 3) := by decide +kernel
theorem dX7_commitWhatAQuorumHas_53 : decode cX7_commitWhatAQuorumHas 53 = .ok (.pop, 1) := by decide +kernel
theorem dX7_commitWhatAQuorumHas_54 : decode cX7_commitWhatAQuorumHas 54 = .ok (.return_, 1) := by decide +kernel
set_option maxRecDepth 20000 in
theorem ggX7_propose_Jx4a65c_size_8abf5 : GoodIn wsX7_propose wsJx4a65c_size_8abf5 := goodIn_r _ [14, 15, 202, 203, 204] (by decide +kernel) (by decide +kernel)
set_option maxRecDepth 20000 in
theorem gX7_propose_Jx4a65c_size_8abf5 : GoodIn wsX7_propose (wsV RX7 114 RJx4a65c yJx4a65c_size_8abf5 wsJx4a65c_size_8abf5) := goodIn_app (goodIn_of _ (by decide +kernel)) ggX7_propose_Jx4a65c_size_8abf5
set_option maxRecDepth 20000 in
theorem ggX7_propose_X3_init : GoodIn wsX7_propose wsX3_init := goodIn_r _ [18, 19, 20, 21, 22, 23, 24, 25, 26, 197, 198, 199, 200, 201] (by decide +kernel) (by decide +kernel)
set_option maxRecDepth 20000 in
theorem gX7_propose_X3_init : GoodIn wsX7_propose (wsX3_init) := ggX7_propose_X3_init
set_option maxRecDepth 20000 in
theorem ggX7_propose_Jx4a65c_add_9ea2d : GoodIn wsX7_propose wsJx4a65c_add_9ea2d := goodIn_r _ [30, 31, 32, 33, 15, 34, 35, 36, 13, 37, 38, 39, 40, 41, 42, 43, 44, 45, 46, 47, 48, 49, 50, 51, 52, 53, 54, 55, 56, 57, 58, 59, 60, 61, 62, 63, 64, 65, 66, 67, 68, 69, 70, 71, 72, 73, 74, 75, 76, 77, 78, 79, 80, 202, 203, 204] (by decide +kernel) (by decide +kernel)
set_option maxRecDepth 20000 in
theorem gX7_propose_Jx4a65c_add_9ea2d : GoodIn wsX7_propose (wsV RX7 125 RJx4a65c yJx4a65c_add_9ea2d wsJx4a65c_add_9ea2d) := goodIn_app (goodIn_of _ (by decide +kernel)) ggX7_propose_Jx4a65c_add_9ea2d
set_option maxRecDepth 20000 in
theorem ggX7_propose_X4_carryOut : GoodIn wsX7_propose wsX4_carryOut := goodIn_r _ [85, 86, 87, 88, 89, 84, 90, 91, 92, 93, 94, 95, 96, 97, 98, 99, 100, 101, 102, 103, 104, 105, 106, 107, 108, 109, 110, 111, 112, 113, 11, 12, 13, 14, 15, 114, 115, 116, 117, 118, 119, 120, 121, 122, 123, 124, 125, 126, 127, 128, 129, 33, 130, 131, 132, 133, 134, 135, 136, 137, 138, 139, 140, 141, 142, 143, 144, 145, 146, 147, 148, 149, 150, 151, 31, 32, 152, 78, 79, 80, 153, 154, 155, 156, 157, 158, 159, 160, 161, 162, 163, 164, 165, 166, 167, 168, 169, 170, 171, 172, 173, 174, 175, 176, 177, 197, 198, 199, 200, 201, 205, 206, 207, 208, 209, 210, 211, 212, 213, 214, 202, 203, 204, 215, 216, 217] (by decide +kernel) (by decide +kernel)
set_option maxRecDepth 20000 in
theorem gX7_propose_X4_carryOut : GoodIn wsX7_propose (wsV RX7 246 RX4 yX4_carryOut wsX4_carryOut) := goodIn_app (goodIn_of _ (by decide +kernel)) ggX7_propose_X4_carryOut
theorem dX7_propose_0 : decode cX7_propose 0 = .ok (.aload_n 0, 1) := by decide +kernel
theorem dX7_propose_1 : decode cX7_propose 1 = .ok (.getfield 60, 3) := by decide +kernel
theorem dX7_propose_4 : decode cX7_propose 4 = .ok (.ifnonnull 6, 3) := by decide +kernel
theorem dX7_propose_7 : decode cX7_propose 7 = .ok (.bipush (-2), 2) := by decide +kernel
theorem dX7_propose_9 : decode cX7_propose 9 = .ok (.ireturn, 1) := by decide +kernel
theorem dX7_propose_10 : decode cX7_propose 10 = .ok (.aload_n 0, 1) := by decide +kernel
theorem dX7_propose_11 : decode cX7_propose 11 = .ok (.getfield 60, 3) := by decide +kernel
theorem dX7_propose_14 : decode cX7_propose 14 = .ok (.getfield 110, 3) := by decide +kernel
theorem dX7_propose_17 : decode cX7_propose 17 = .ok (.invokevirtual 114, 3) := by decide +kernel
theorem dX7_propose_20 : decode cX7_propose 20 = .ok (.bipush 40, 2) := by decide +kernel
theorem dX7_propose_22 : decode cX7_propose 22 = .ok (.if_icmp .lt 6, 3) := by decide +kernel
theorem dX7_propose_25 : decode cX7_propose 25 = .ok (.bipush (-7), 2) := by decide +kernel
theorem dX7_propose_27 : decode cX7_propose 27 = .ok (.ireturn, 1) := by decide +kernel
theorem dX7_propose_28 : decode cX7_propose 28 = .ok (.aload_n 0, 1) := by decide +kernel
theorem dX7_propose_29 : decode cX7_propose 29 = .ok (.dup, 1) := by decide +kernel
theorem dX7_propose_30 : decode cX7_propose 30 = .ok (.getfield 231, 3) := by decide +kernel
theorem dX7_propose_33 : decode cX7_propose 33 = .ok (.iconst 1, 1) := by decide +kernel
theorem dX7_propose_34 : decode cX7_propose 34 = .ok (.iadd, 1) := by decide +kernel
theorem dX7_propose_35 : decode cX7_propose 35 = .ok (.putfield 231, 3) := by decide +kernel
theorem dX7_propose_38 : decode cX7_propose 38 = .ok (.sipush 1000, 3) := by decide +kernel
theorem dX7_propose_41 : decode cX7_propose 41 = .ok (.aload_n 0, 1) := by decide +kernel
theorem dX7_propose_42 : decode cX7_propose 42 = .ok (.getfield 92, 3) := by decide +kernel
theorem dX7_propose_45 : decode cX7_propose 45 = .ok (.imul, 1) := by decide +kernel
theorem dX7_propose_46 : decode cX7_propose 46 = .ok (.aload_n 0, 1) := by decide +kernel
theorem dX7_propose_47 : decode cX7_propose 47 = .ok (.getfield 231, 3) := by decide +kernel
theorem dX7_propose_50 : decode cX7_propose 50 = .ok (.iadd, 1) := by decide +kernel
theorem dX7_propose_51 : decode cX7_propose 51 = .ok (.istore 5, 2) := by decide +kernel
theorem dX7_propose_53 : decode cX7_propose 53 = .ok (.new 123, 3) := by decide +kernel
theorem dX7_propose_56 : decode cX7_propose 56 = .ok (.dup, 1) := by decide +kernel
theorem dX7_propose_57 : decode cX7_propose 57 = .ok (.iload 5, 2) := by decide +kernel
theorem dX7_propose_59 : decode cX7_propose 59 = .ok (.iload_n 1, 1) := by decide +kernel
theorem dX7_propose_60 : decode cX7_propose 60 = .ok (.iload_n 2, 1) := by decide +kernel
theorem dX7_propose_61 : decode cX7_propose 61 = .ok (.iload_n 3, 1) := by decide +kernel
theorem dX7_propose_62 : decode cX7_propose 62 = .ok (.iload 4, 2) := by decide +kernel
theorem dX7_propose_64 : decode cX7_propose 64 = .ok (.invokespecial 250, 3) := by decide +kernel
theorem dX7_propose_67 : decode cX7_propose 67 = .ok (.astore 6, 2) := by decide +kernel
theorem dX7_propose_69 : decode cX7_propose 69 = .ok (.aload_n 0, 1) := by decide +kernel
theorem dX7_propose_70 : decode cX7_propose 70 = .ok (.getfield 60, 3) := by decide +kernel
theorem dX7_propose_73 : decode cX7_propose 73 = .ok (.getfield 110, 3) := by decide +kernel
theorem dX7_propose_76 : decode cX7_propose 76 = .ok (.aload 6, 2) := by decide +kernel
theorem dX7_propose_78 : decode cX7_propose 78 = .ok (.invokevirtual 125, 3) := by decide +kernel
theorem dX7_propose_81 : decode cX7_propose 81 = .ok (.pop, 1) := by decide +kernel
theorem dX7_propose_82 : decode cX7_propose 82 = .ok (.aload_n 0, 1) := by decide +kernel
theorem dX7_propose_83 : decode cX7_propose 83 = .ok (.getfield 33, 3) := by decide +kernel
theorem dX7_propose_86 : decode cX7_propose 86 = .ok (.aload 6, 2) := by decide +kernel
theorem dX7_propose_88 : decode cX7_propose 88 = .ok (.aload_n 0, 1) := by decide +kernel
theorem dX7_propose_89 : decode cX7_propose 89 = .ok (.getfield 24, 3) := by decide +kernel
theorem dX7_propose_92 : decode cX7_propose 92 = .ok (.invokevirtual 246, 3) := by decide +kernel
theorem dX7_propose_95 : decode cX7_propose 95 = .ok (.iload 5, 2) := by decide +kernel
theorem dX7_propose_97 : decode cX7_propose 97 = .ok (.ireturn, 1) := by decide +kernel
set_option maxRecDepth 20000 in
theorem ggX7_nodeAt_X7_findServer : GoodIn wsX7_nodeAt wsX7_findServer := goodIn_r _ [7, 8, 9, 24, 25, 26, 27, 28, 29, 30, 31, 32, 33, 34, 35] (by decide +kernel) (by decide +kernel)
set_option maxRecDepth 20000 in
theorem gX7_nodeAt_X7_findServer : GoodIn wsX7_nodeAt (wsV RX7 46 RX7 yX7_findServer wsX7_findServer) := goodIn_app (goodIn_of _ (by decide +kernel)) ggX7_nodeAt_X7_findServer
set_option maxRecDepth 20000 in
theorem ggX7_nodeAt_X4_find : GoodIn wsX7_nodeAt wsX4_find := goodIn_r _ [14, 15, 16, 36, 37, 38, 39, 40, 41] (by decide +kernel) (by decide +kernel)
set_option maxRecDepth 20000 in
theorem gX7_nodeAt_X4_find : GoodIn wsX7_nodeAt (wsV RX7 155 RX4 yX4_find wsX4_find) := goodIn_app (goodIn_of _ (by decide +kernel)) ggX7_nodeAt_X4_find
theorem dX7_nodeAt_0 : decode cX7_nodeAt 0 = .ok (.aload_n 0, 1) := by decide +kernel
theorem dX7_nodeAt_1 : decode cX7_nodeAt 1 = .ok (.iload_n 1, 1) := by decide +kernel
theorem dX7_nodeAt_2 : decode cX7_nodeAt 2 = .ok (.invokevirtual 46, 3) := by decide +kernel
theorem dX7_nodeAt_5 : decode cX7_nodeAt 5 = .ok (.astore_n 2, 1) := by decide +kernel
theorem dX7_nodeAt_6 : decode cX7_nodeAt 6 = .ok (.aload_n 2, 1) := by decide +kernel
theorem dX7_nodeAt_7 : decode cX7_nodeAt 7 = .ok (.ifnonnull 7, 3) := by decide +kernel
theorem dX7_nodeAt_10 : decode cX7_nodeAt 10 = .ok (.aconst_null, 1) := by decide +kernel
theorem dX7_nodeAt_11 : decode cX7_nodeAt 11 = .ok (.goto 14, 3) := by decide +kernel
theorem dX7_nodeAt_14 : decode cX7_nodeAt 14 = .ok (.aload_n 2, 1) := by decide +kernel
theorem dX7_nodeAt_15 : decode cX7_nodeAt 15 = .ok (.getfield 219, 3) := by decide +kernel
theorem dX7_nodeAt_18 : decode cX7_nodeAt 18 = .ok (.aload_n 0, 1) := by decide +kernel
theorem dX7_nodeAt_19 : decode cX7_nodeAt 19 = .ok (.getfield 141, 3) := by decide +kernel
theorem dX7_nodeAt_22 : decode cX7_nodeAt 22 = .ok (.invokevirtual 155, 3) := by decide +kernel
theorem dX7_nodeAt_25 : decode cX7_nodeAt 25 = .ok (.areturn, 1) := by decide +kernel
set_option maxRecDepth 20000 in
theorem ggX7_nodeError_X7_findServer : GoodIn wsX7_nodeError wsX7_findServer := goodIn_r _ [6, 7, 8, 9, 10, 11, 12, 13, 14, 15, 16, 17, 18, 19, 20] (by decide +kernel) (by decide +kernel)
set_option maxRecDepth 20000 in
theorem gX7_nodeError_X7_findServer : GoodIn wsX7_nodeError (wsV RX7 46 RX7 yX7_findServer wsX7_findServer) := goodIn_app (goodIn_of _ (by decide +kernel)) ggX7_nodeError_X7_findServer
theorem dX7_nodeError_0 : decode cX7_nodeError 0 = .ok (.aload_n 0, 1) := by decide +kernel
theorem dX7_nodeError_1 : decode cX7_nodeError 1 = .ok (.iload_n 1, 1) := by decide +kernel
theorem dX7_nodeError_2 : decode cX7_nodeError 2 = .ok (.invokevirtual 46, 3) := by decide +kernel
theorem dX7_nodeError_5 : decode cX7_nodeError 5 = .ok (.ifnonnull 5, 3) := by decide +kernel
theorem dX7_nodeError_8 : decode cX7_nodeError 8 = .ok (.iconst (-1), 1) := by decide +kernel
theorem dX7_nodeError_9 : decode cX7_nodeError 9 = .ok (.ireturn, 1) := by decide +kernel
theorem dX7_nodeError_10 : decode cX7_nodeError 10 = .ok (.aload_n 0, 1) := by decide +kernel
theorem dX7_nodeError_11 : decode cX7_nodeError 11 = .ok (.getfield 141, 3) := by decide +kernel
theorem dX7_nodeError_14 : decode cX7_nodeError 14 = .ok (.ifCond .ne 8, 3) := by decide +kernel
theorem dX7_nodeError_17 : decode cX7_nodeError 17 = .ok (.bipush (-2), 2) := by decide +kernel
theorem dX7_nodeError_19 : decode cX7_nodeError 19 = .ok (.goto 5, 3) := by decide +kernel
theorem dX7_nodeError_22 : decode cX7_nodeError 22 = .ok (.bipush (-3), 2) := by decide +kernel
theorem dX7_nodeError_24 : decode cX7_nodeError 24 = .ok (.ireturn, 1) := by decide +kernel
theorem dX7_isData_0 : decode cX7_isData 0 = .ok (.iload_n 0, 1) := by decide +kernel
theorem dX7_isData_1 : decode cX7_isData 1 = .ok (.ifCond .lt 14, 3) := by decide +kernel
theorem dX7_isData_4 : decode cX7_isData 4 = .ok (.iload_n 0, 1) := by decide +kernel
theorem dX7_isData_5 : decode cX7_isData 5 = .ok (.sipush 999, 3) := by decide +kernel
theorem dX7_isData_8 : decode cX7_isData 8 = .ok (.if_icmp .gt 7, 3) := by decide +kernel
theorem dX7_isData_11 : decode cX7_isData 11 = .ok (.iconst 1, 1) := by decide +kernel
theorem dX7_isData_12 : decode cX7_isData 12 = .ok (.goto 4, 3) := by decide +kernel
theorem dX7_isData_15 : decode cX7_isData 15 = .ok (.iconst 0, 1) := by decide +kernel
theorem dX7_isData_16 : decode cX7_isData 16 = .ok (.ireturn, 1) := by decide +kernel
theorem dX7_isVersion_0 : decode cX7_isVersion 0 = .ok (.iload_n 0, 1) := by decide +kernel
theorem dX7_isVersion_1 : decode cX7_isVersion 1 = .ok (.ifCond .ge 9, 3) := by decide +kernel
theorem dX7_isVersion_4 : decode cX7_isVersion 4 = .ok (.iload_n 0, 1) := by decide +kernel
theorem dX7_isVersion_5 : decode cX7_isVersion 5 = .ok (.bipush (-9), 2) := by decide +kernel
theorem dX7_isVersion_7 : decode cX7_isVersion 7 = .ok (.if_icmp .ne 7, 3) := by decide +kernel
theorem dX7_isVersion_10 : decode cX7_isVersion 10 = .ok (.iconst 1, 1) := by decide +kernel
theorem dX7_isVersion_11 : decode cX7_isVersion 11 = .ok (.goto 4, 3) := by decide +kernel
theorem dX7_isVersion_14 : decode cX7_isVersion 14 = .ok (.iconst 0, 1) := by decide +kernel
theorem dX7_isVersion_15 : decode cX7_isVersion 15 = .ok (.ireturn, 1) := by decide +kernel
theorem dX7_parentOf_0 : decode cX7_parentOf 0 = .ok (.iload_n 0, 1) := by decide +kernel
theorem dX7_parentOf_1 : decode cX7_parentOf 1 = .ok (.iconst 3, 1) := by decide +kernel
theorem dX7_parentOf_2 : decode cX7_parentOf 2 = .ok (.ishr, 1) := by decide +kernel
theorem dX7_parentOf_3 : decode cX7_parentOf 3 = .ok (.ireturn, 1) := by decide +kernel
theorem dX7_rankOf_0 : decode cX7_rankOf 0 = .ok (.iload_n 0, 1) := by decide +kernel
theorem dX7_rankOf_1 : decode cX7_rankOf 1 = .ok (.istore_n 1, 1) := by decide +kernel
theorem dX7_rankOf_2 : decode cX7_rankOf 2 = .ok (.iconst 1, 1) := by decide +kernel
theorem dX7_rankOf_3 : decode cX7_rankOf 3 = .ok (.istore_n 2, 1) := by decide +kernel
theorem dX7_rankOf_4 : decode cX7_rankOf 4 = .ok (.iload_n 2, 1) := by decide +kernel
theorem dX7_rankOf_5 : decode cX7_rankOf 5 = .ok (.iconst 4, 1) := by decide +kernel
theorem dX7_rankOf_6 : decode cX7_rankOf 6 = .ok (.if_icmp .ge 20, 3) := by decide +kernel
theorem dX7_rankOf_9 : decode cX7_rankOf 9 = .ok (.iload_n 1, 1) := by decide +kernel
theorem dX7_rankOf_10 : decode cX7_rankOf 10 = .ok (.sipush 512, 3) := by decide +kernel
theorem dX7_rankOf_13 : decode cX7_rankOf 13 = .ok (.if_icmp .ge 13, 3) := by decide +kernel
theorem dX7_rankOf_16 : decode cX7_rankOf 16 = .ok (.iload_n 1, 1) := by decide +kernel
theorem dX7_rankOf_17 : decode cX7_rankOf 17 = .ok (.iconst 3, 1) := by decide +kernel
theorem dX7_rankOf_18 : decode cX7_rankOf 18 = .ok (.ishl, 1) := by decide +kernel
theorem dX7_rankOf_19 : decode cX7_rankOf 19 = .ok (.istore_n 1, 1) := by decide +kernel
theorem dX7_rankOf_20 : decode cX7_rankOf 20 = .ok (.iinc 2 1, 3) := by decide +kernel
theorem dX7_rankOf_23 : decode cX7_rankOf 23 = .ok (.goto (-19), 3) := by decide +kernel
theorem dX7_rankOf_26 : decode cX7_rankOf 26 = .ok (.iload_n 1, 1) := by decide +kernel
theorem dX7_rankOf_27 : decode cX7_rankOf 27 = .ok (.ireturn, 1) := by decide +kernel
set_option maxRecDepth 20000 in
theorem ggX8_init_X8_begins : GoodIn wsX8_init wsX8_begins := goodIn_r _ [32, 4, 6, 7, 9, 10, 11, 17, 33, 34, 35, 36, 37, 38, 39, 23, 40, 41, 42, 43, 44, 45, 46, 47, 48, 49, 50, 51, 52, 53, 54, 55, 56, 57, 58, 59, 60, 61, 62, 63, 64, 65, 66, 67, 68] (by decide +kernel) (by decide +kernel)
set_option maxRecDepth 20000 in
theorem gX8_init_X8_begins : GoodIn wsX8_init (wsV RX8 78 RX8 yX8_begins wsX8_begins) := goodIn_app (goodIn_of _ (by decide +kernel)) ggX8_init_X8_begins
theorem dX8_init_0 : decode cX8_init 0 = .ok (.aload_n 0, 1) := by decide +kernel
theorem dX8_init_1 : decode cX8_init 1 = .ok (.invokespecial 1, 3) := by decide +kernel
theorem dX8_init_4 : decode cX8_init 4 = .ok (.aload_n 0, 1) := by decide +kernel
theorem dX8_init_5 : decode cX8_init 5 = .ok (.iconst 3, 1) := by decide +kernel
theorem dX8_init_6 : decode cX8_init 6 = .ok (.putfield 7, 3) := by decide +kernel
theorem dX8_init_9 : decode cX8_init 9 = .ok (.aload_n 0, 1) := by decide +kernel
theorem dX8_init_10 : decode cX8_init 10 = .ok (.iconst 5, 1) := by decide +kernel
theorem dX8_init_11 : decode cX8_init 11 = .ok (.newarray .boolean, 2) := by decide +kernel
theorem dX8_init_13 : decode cX8_init 13 = .ok (.putfield 13, 3) := by decide +kernel
theorem dX8_init_16 : decode cX8_init 16 = .ok (.aload_n 0, 1) := by decide +kernel
theorem dX8_init_17 : decode cX8_init 17 = .ok (.iconst 5, 1) := by decide +kernel
theorem dX8_init_18 : decode cX8_init 18 = .ok (.newarray .boolean, 2) := by decide +kernel
theorem dX8_init_20 : decode cX8_init 20 = .ok (.putfield 17, 3) := by decide +kernel
theorem dX8_init_23 : decode cX8_init 23 = .ok (.aload_n 0, 1) := by decide +kernel
theorem dX8_init_24 : decode cX8_init 24 = .ok (.iconst 5, 1) := by decide +kernel
theorem dX8_init_25 : decode cX8_init 25 = .ok (.newarray .int, 2) := by decide +kernel
theorem dX8_init_27 : decode cX8_init 27 = .ok (.putfield 20, 3) := by decide +kernel
theorem dX8_init_30 : decode cX8_init 30 = .ok (.aload_n 0, 1) := by decide +kernel
theorem dX8_init_31 : decode cX8_init 31 = .ok (.iconst 5, 1) := by decide +kernel
theorem dX8_init_32 : decode cX8_init 32 = .ok (.newarray .int, 2) := by decide +kernel
theorem dX8_init_34 : decode cX8_init 34 = .ok (.putfield 24, 3) := by decide +kernel
theorem dX8_init_37 : decode cX8_init 37 = .ok (.aload_n 0, 1) := by decide +kernel
theorem dX8_init_38 : decode cX8_init 38 = .ok (.iconst 5, 1) := by decide +kernel
theorem dX8_init_39 : decode cX8_init 39 = .ok (.newarray .int, 2) := by decide +kernel
theorem dX8_init_41 : decode cX8_init 41 = .ok (.putfield 27, 3) := by decide +kernel
theorem dX8_init_44 : decode cX8_init 44 = .ok (.aload_n 0, 1) := by decide +kernel
theorem dX8_init_45 : decode cX8_init 45 = .ok (.sipush 200, 3) := by decide +kernel
theorem dX8_init_48 : decode cX8_init 48 = .ok (.newarray .int, 2) := by decide +kernel
theorem dX8_init_50 : decode cX8_init 50 = .ok (.putfield 30, 3) := by decide +kernel
theorem dX8_init_53 : decode cX8_init 53 = .ok (.aload_n 0, 1) := by decide +kernel
theorem dX8_init_54 : decode cX8_init 54 = .ok (.sipush 200, 3) := by decide +kernel
theorem dX8_init_57 : decode cX8_init 57 = .ok (.newarray .int, 2) := by decide +kernel
theorem dX8_init_59 : decode cX8_init 59 = .ok (.putfield 33, 3) := by decide +kernel
theorem dX8_init_62 : decode cX8_init 62 = .ok (.aload_n 0, 1) := by decide +kernel
theorem dX8_init_63 : decode cX8_init 63 = .ok (.sipush 200, 3) := by decide +kernel
theorem dX8_init_66 : decode cX8_init 66 = .ok (.newarray .int, 2) := by decide +kernel
theorem dX8_init_68 : decode cX8_init 68 = .ok (.putfield 36, 3) := by decide +kernel
theorem dX8_init_71 : decode cX8_init 71 = .ok (.aload_n 0, 1) := by decide +kernel
theorem dX8_init_72 : decode cX8_init 72 = .ok (.sipush 200, 3) := by decide +kernel
theorem dX8_init_75 : decode cX8_init 75 = .ok (.newarray .int, 2) := by decide +kernel
theorem dX8_init_77 : decode cX8_init 77 = .ok (.putfield 39, 3) := by decide +kernel
theorem dX8_init_80 : decode cX8_init 80 = .ok (.aload_n 0, 1) := by decide +kernel
theorem dX8_init_81 : decode cX8_init 81 = .ok (.sipush 200, 3) := by decide +kernel
theorem dX8_init_84 : decode cX8_init 84 = .ok (.newarray .int, 2) := by decide +kernel
theorem dX8_init_86 : decode cX8_init 86 = .ok (.putfield 42, 3) := by decide +kernel
theorem dX8_init_89 : decode cX8_init 89 = .ok (.aload_n 0, 1) := by decide +kernel
theorem dX8_init_90 : decode cX8_init 90 = .ok (.bipush 6, 2) := by decide +kernel
theorem dX8_init_92 : decode cX8_init 92 = .ok (.newarray .int, 2) := by decide +kernel
theorem dX8_init_94 : decode cX8_init 94 = .ok (.putfield 45, 3) := by decide +kernel
theorem dX8_init_97 : decode cX8_init 97 = .ok (.aload_n 0, 1) := by decide +kernel
theorem dX8_init_98 : decode cX8_init 98 = .ok (.bipush 72, 2) := by decide +kernel
theorem dX8_init_100 : decode cX8_init 100 = .ok (.newarray .int, 2) := by decide +kernel
theorem dX8_init_102 : decode cX8_init 102 = .ok (.putfield 48, 3) := by decide +kernel
theorem dX8_init_105 : decode cX8_init 105 = .ok (.aload_n 0, 1) := by decide +kernel
theorem dX8_init_106 : decode cX8_init 106 = .ok (.bipush 72, 2) := by decide +kernel
theorem dX8_init_108 : decode cX8_init 108 = .ok (.newarray .int, 2) := by decide +kernel
theorem dX8_init_110 : decode cX8_init 110 = .ok (.putfield 51, 3) := by decide +kernel
theorem dX8_init_113 : decode cX8_init 113 = .ok (.aload_n 0, 1) := by decide +kernel
theorem dX8_init_114 : decode cX8_init 114 = .ok (.bipush 72, 2) := by decide +kernel
theorem dX8_init_116 : decode cX8_init 116 = .ok (.newarray .int, 2) := by decide +kernel
theorem dX8_init_118 : decode cX8_init 118 = .ok (.putfield 54, 3) := by decide +kernel
theorem dX8_init_121 : decode cX8_init 121 = .ok (.aload_n 0, 1) := by decide +kernel
theorem dX8_init_122 : decode cX8_init 122 = .ok (.bipush 72, 2) := by decide +kernel
theorem dX8_init_124 : decode cX8_init 124 = .ok (.newarray .int, 2) := by decide +kernel
theorem dX8_init_126 : decode cX8_init 126 = .ok (.putfield 57, 3) := by decide +kernel
theorem dX8_init_129 : decode cX8_init 129 = .ok (.aload_n 0, 1) := by decide +kernel
theorem dX8_init_130 : decode cX8_init 130 = .ok (.iconst 4, 1) := by decide +kernel
theorem dX8_init_131 : decode cX8_init 131 = .ok (.newarray .int, 2) := by decide +kernel
theorem dX8_init_133 : decode cX8_init 133 = .ok (.putfield 60, 3) := by decide +kernel
theorem dX8_init_136 : decode cX8_init 136 = .ok (.aload_n 0, 1) := by decide +kernel
theorem dX8_init_137 : decode cX8_init 137 = .ok (.bipush 6, 2) := by decide +kernel
theorem dX8_init_139 : decode cX8_init 139 = .ok (.newarray .int, 2) := by decide +kernel
theorem dX8_init_141 : decode cX8_init 141 = .ok (.putfield 63, 3) := by decide +kernel
theorem dX8_init_144 : decode cX8_init 144 = .ok (.aload_n 0, 1) := by decide +kernel
theorem dX8_init_145 : decode cX8_init 145 = .ok (.bipush 48, 2) := by decide +kernel
theorem dX8_init_147 : decode cX8_init 147 = .ok (.newarray .int, 2) := by decide +kernel
theorem dX8_init_149 : decode cX8_init 149 = .ok (.putfield 66, 3) := by decide +kernel
theorem dX8_init_152 : decode cX8_init 152 = .ok (.aload_n 0, 1) := by decide +kernel
theorem dX8_init_153 : decode cX8_init 153 = .ok (.bipush 10, 2) := by decide +kernel
theorem dX8_init_155 : decode cX8_init 155 = .ok (.newarray .int, 2) := by decide +kernel
theorem dX8_init_157 : decode cX8_init 157 = .ok (.putfield 69, 3) := by decide +kernel
theorem dX8_init_160 : decode cX8_init 160 = .ok (.aload_n 0, 1) := by decide +kernel
theorem dX8_init_161 : decode cX8_init 161 = .ok (.bipush 10, 2) := by decide +kernel
theorem dX8_init_163 : decode cX8_init 163 = .ok (.newarray .int, 2) := by decide +kernel
theorem dX8_init_165 : decode cX8_init 165 = .ok (.putfield 72, 3) := by decide +kernel
theorem dX8_init_168 : decode cX8_init 168 = .ok (.aload_n 0, 1) := by decide +kernel
theorem dX8_init_169 : decode cX8_init 169 = .ok (.bipush 10, 2) := by decide +kernel
theorem dX8_init_171 : decode cX8_init 171 = .ok (.newarray .int, 2) := by decide +kernel
theorem dX8_init_173 : decode cX8_init 173 = .ok (.putfield 75, 3) := by decide +kernel
theorem dX8_init_176 : decode cX8_init 176 = .ok (.aload_n 0, 1) := by decide +kernel
theorem dX8_init_177 : decode cX8_init 177 = .ok (.iconst 3, 1) := by decide +kernel
theorem dX8_init_178 : decode cX8_init 178 = .ok (.invokevirtual 78, 3) := by decide +kernel
theorem dX8_init_181 : decode cX8_init 181 = .ok (.return_, 1) := by decide +kernel
theorem dX8_in_0 : decode cX8_in 0 = .ok (.lload_n 0, 1) := by decide +kernel
theorem dX8_in_1 : decode cX8_in 1 = .ok (.lload_n 2, 1) := by decide +kernel
theorem dX8_in_2 : decode cX8_in 2 = .ok (.lcmp, 1) := by decide +kernel
theorem dX8_in_3 : decode cX8_in 3 = .ok (.ifCond .lt 14, 3) := by decide +kernel
theorem dX8_in_6 : decode cX8_in 6 = .ok (.lload_n 0, 1) := by decide +kernel
theorem dX8_in_7 : decode cX8_in 7 = .ok (.lload 4, 2) := by decide +kernel
theorem dX8_in_9 : decode cX8_in 9 = .ok (.lcmp, 1) := by decide +kernel
theorem dX8_in_10 : decode cX8_in 10 = .ok (.ifCond .gt 7, 3) := by decide +kernel
theorem dX8_in_13 : decode cX8_in 13 = .ok (.iconst 1, 1) := by decide +kernel
theorem dX8_in_14 : decode cX8_in 14 = .ok (.goto 4, 3) := by decide +kernel
theorem dX8_in_17 : decode cX8_in 17 = .ok (.iconst 0, 1) := by decide +kernel
theorem dX8_in_18 : decode cX8_in 18 = .ok (.ireturn, 1) := by decide +kernel
theorem dX8_begins_0 : decode cX8_begins 0 = .ok (.aload_n 0, 1) := by decide +kernel
theorem dX8_begins_1 : decode cX8_begins 1 = .ok (.iload_n 1, 1) := by decide +kernel
theorem dX8_begins_2 : decode cX8_begins 2 = .ok (.putfield 7, 3) := by decide +kernel
theorem dX8_begins_5 : decode cX8_begins 5 = .ok (.iconst 0, 1) := by decide +kernel
theorem dX8_begins_6 : decode cX8_begins 6 = .ok (.istore_n 2, 1) := by decide +kernel
theorem dX8_begins_7 : decode cX8_begins 7 = .ok (.iload_n 2, 1) := by decide +kernel
theorem dX8_begins_8 : decode cX8_begins 8 = .ok (.iconst 5, 1) := by decide +kernel
theorem dX8_begins_9 : decode cX8_begins 9 = .ok (.if_icmp .ge 51, 3) := by decide +kernel
theorem dX8_begins_12 : decode cX8_begins 12 = .ok (.aload_n 0, 1) := by decide +kernel
theorem dX8_begins_13 : decode cX8_begins 13 = .ok (.getfield 13, 3) := by decide +kernel
theorem dX8_begins_16 : decode cX8_begins 16 = .ok (.iload_n 2, 1) := by decide +kernel
theorem dX8_begins_17 : decode cX8_begins 17 = .ok (.iconst 1, 1) := by decide +kernel
theorem dX8_begins_18 : decode cX8_begins 18 = .ok (.bastore, 1) := by decide +kernel
theorem dX8_begins_19 : decode cX8_begins 19 = .ok (.aload_n 0, 1) := by decide +kernel
theorem dX8_begins_20 : decode cX8_begins 20 = .ok (.getfield 17, 3) := by decide +kernel
theorem dX8_begins_23 : decode cX8_begins 23 = .ok (.iload_n 2, 1) := by decide +kernel
theorem dX8_begins_24 : decode cX8_begins 24 = .ok (.iconst 0, 1) := by decide +kernel
theorem dX8_begins_25 : decode cX8_begins 25 = .ok (.bastore, 1) := by decide +kernel
theorem dX8_begins_26 : decode cX8_begins 26 = .ok (.aload_n 0, 1) := by decide +kernel
theorem dX8_begins_27 : decode cX8_begins 27 = .ok (.getfield 20, 3) := by decide +kernel
theorem dX8_begins_30 : decode cX8_begins 30 = .ok (.iload_n 2, 1) := by decide +kernel
theorem dX8_begins_31 : decode cX8_begins 31 = .ok (.iconst 0, 1) := by decide +kernel
theorem dX8_begins_32 : decode cX8_begins 32 = .ok (.iastore, 1) := by decide +kernel
theorem dX8_begins_33 : decode cX8_begins 33 = .ok (.aload_n 0, 1) := by decide +kernel
theorem dX8_begins_34 : decode cX8_begins 34 = .ok (.getfield 24, 3) := by decide +kernel
theorem dX8_begins_37 : decode cX8_begins 37 = .ok (.iload_n 2, 1) := by decide +kernel
theorem dX8_begins_38 : decode cX8_begins 38 = .ok (.iconst 0, 1) := by decide +kernel
theorem dX8_begins_39 : decode cX8_begins 39 = .ok (.iastore, 1) := by decide +kernel
theorem dX8_begins_40 : decode cX8_begins 40 = .ok (.aload_n 0, 1) := by decide +kernel
theorem dX8_begins_41 : decode cX8_begins 41 = .ok (.getfield 27, 3) := by decide +kernel
theorem dX8_begins_44 : decode cX8_begins 44 = .ok (.iload_n 2, 1) := by decide +kernel
theorem dX8_begins_45 : decode cX8_begins 45 = .ok (.iconst 0, 1) := by decide +kernel
theorem dX8_begins_46 : decode cX8_begins 46 = .ok (.iastore, 1) := by decide +kernel
theorem dX8_begins_47 : decode cX8_begins 47 = .ok (.aload_n 0, 1) := by decide +kernel
theorem dX8_begins_48 : decode cX8_begins 48 = .ok (.getfield 45, 3) := by decide +kernel
theorem dX8_begins_51 : decode cX8_begins 51 = .ok (.iload_n 2, 1) := by decide +kernel
theorem dX8_begins_52 : decode cX8_begins 52 = .ok (.iconst 0, 1) := by decide +kernel
theorem dX8_begins_53 : decode cX8_begins 53 = .ok (.iastore, 1) := by decide +kernel
theorem dX8_begins_54 : decode cX8_begins 54 = .ok (.iinc 2 1, 3) := by decide +kernel
theorem dX8_begins_57 : decode cX8_begins 57 = .ok (.goto (-50), 3) := by decide +kernel
theorem dX8_begins_60 : decode cX8_begins 60 = .ok (.aload_n 0, 1) := by decide +kernel
theorem dX8_begins_61 : decode cX8_begins 61 = .ok (.bipush (-8), 2) := by decide +kernel
theorem dX8_begins_63 : decode cX8_begins 63 = .ok (.putfield 82, 3) := by decide +kernel
theorem dX8_begins_66 : decode cX8_begins 66 = .ok (.aload_n 0, 1) := by decide +kernel
theorem dX8_begins_67 : decode cX8_begins 67 = .ok (.iconst 0, 1) := by decide +kernel
theorem dX8_begins_68 : decode cX8_begins 68 = .ok (.putfield 85, 3) := by decide +kernel
theorem dX8_begins_71 : decode cX8_begins 71 = .ok (.aload_n 0, 1) := by decide +kernel
theorem dX8_begins_72 : decode cX8_begins 72 = .ok (.iconst 0, 1) := by decide +kernel
theorem dX8_begins_73 : decode cX8_begins 73 = .ok (.putfield 88, 3) := by decide +kernel
theorem dX8_begins_76 : decode cX8_begins 76 = .ok (.aload_n 0, 1) := by decide +kernel
theorem dX8_begins_77 : decode cX8_begins 77 = .ok (.iconst 0, 1) := by decide +kernel
theorem dX8_begins_78 : decode cX8_begins 78 = .ok (.putfield 91, 3) := by decide +kernel
theorem dX8_begins_81 : decode cX8_begins 81 = .ok (.aload_n 0, 1) := by decide +kernel
theorem dX8_begins_82 : decode cX8_begins 82 = .ok (.iconst 0, 1) := by decide +kernel
theorem dX8_begins_83 : decode cX8_begins 83 = .ok (.putfield 94, 3) := by decide +kernel
theorem dX8_begins_86 : decode cX8_begins 86 = .ok (.aload_n 0, 1) := by decide +kernel
theorem dX8_begins_87 : decode cX8_begins 87 = .ok (.iconst 0, 1) := by decide +kernel
theorem dX8_begins_88 : decode cX8_begins 88 = .ok (.putfield 97, 3) := by decide +kernel
theorem dX8_begins_91 : decode cX8_begins 91 = .ok (.aload_n 0, 1) := by decide +kernel
theorem dX8_begins_92 : decode cX8_begins 92 = .ok (.iconst 0, 1) := by decide +kernel
theorem dX8_begins_93 : decode cX8_begins 93 = .ok (.putfield 100, 3) := by decide +kernel
theorem dX8_begins_96 : decode cX8_begins 96 = .ok (.iconst 0, 1) := by decide +kernel
theorem dX8_begins_97 : decode cX8_begins 97 = .ok (.istore_n 2, 1) := by decide +kernel
theorem dX8_begins_98 : decode cX8_begins 98 = .ok (.iload_n 2, 1) := by decide +kernel
theorem dX8_begins_99 : decode cX8_begins 99 = .ok (.bipush 6, 2) := by decide +kernel
theorem dX8_begins_101 : decode cX8_begins 101 = .ok (.if_icmp .ge 16, 3) := by decide +kernel
theorem dX8_begins_104 : decode cX8_begins 104 = .ok (.aload_n 0, 1) := by decide +kernel
theorem dX8_begins_105 : decode cX8_begins 105 = .ok (.getfield 63, 3) := by decide +kernel
theorem dX8_begins_108 : decode cX8_begins 108 = .ok (.iload_n 2, 1) := by decide +kernel
theorem dX8_begins_109 : decode cX8_begins 109 = .ok (.iconst 0, 1) := by decide +kernel
theorem dX8_begins_110 : decode cX8_begins 110 = .ok (.iastore, 1) := by decide +kernel
theorem dX8_begins_111 : decode cX8_begins 111 = .ok (.iinc 2 1, 3) := by decide +kernel
theorem dX8_begins_114 : decode cX8_begins 114 = .ok (.goto (-16), 3) := by decide +kernel
theorem dX8_begins_117 : decode cX8_begins 117 = .ok (.return_, 1) := by decide +kernel
set_option maxRecDepth 20000 in
theorem ggX8_isServer_X8_in : GoodIn wsX8_isServer wsX8_in := goodIn_r _ [5] (by decide +kernel) (by decide +kernel)
set_option maxRecDepth 20000 in
theorem gX8_isServer_X8_in : GoodIn wsX8_isServer (va_wsS RX8 103 yX8_in wsX8_in) := goodIn_app (goodIn_of _ (by decide +kernel)) ggX8_isServer_X8_in
theorem dX8_isServer_0 : decode cX8_isServer 0 = .ok (.iload_n 1, 1) := by decide +kernel
theorem dX8_isServer_1 : decode cX8_isServer 1 = .ok (.i2l, 1) := by decide +kernel
theorem dX8_isServer_2 : decode cX8_isServer 2 = .ok (.lconst 0, 1) := by decide +kernel
theorem dX8_isServer_3 : decode cX8_isServer 3 = .ok (.aload_n 0, 1) := by decide +kernel
theorem dX8_isServer_4 : decode cX8_isServer 4 = .ok (.getfield 7, 3) := by decide +kernel
theorem dX8_isServer_7 : decode cX8_isServer 7 = .ok (.iconst 1, 1) := by decide +kernel
theorem dX8_isServer_8 : decode cX8_isServer 8 = .ok (.isub, 1) := by decide +kernel
theorem dX8_isServer_9 : decode cX8_isServer 9 = .ok (.i2l, 1) := by decide +kernel
theorem dX8_isServer_10 : decode cX8_isServer 10 = .ok (.invokestatic 103, 3) := by decide +kernel
theorem dX8_isServer_13 : decode cX8_isServer 13 = .ok (.ireturn, 1) := by decide +kernel
set_option maxRecDepth 20000 in
theorem ggX8_isSession_X8_in : GoodIn wsX8_isSession wsX8_in := goodIn_r _ [5] (by decide +kernel) (by decide +kernel)
set_option maxRecDepth 20000 in
theorem gX8_isSession_X8_in : GoodIn wsX8_isSession (va_wsS RX8 103 yX8_in wsX8_in) := goodIn_app (goodIn_of _ (by decide +kernel)) ggX8_isSession_X8_in
theorem dX8_isSession_0 : decode cX8_isSession 0 = .ok (.iload_n 1, 1) := by decide +kernel
theorem dX8_isSession_1 : decode cX8_isSession 1 = .ok (.i2l, 1) := by decide +kernel
theorem dX8_isSession_2 : decode cX8_isSession 2 = .ok (.lconst 0, 1) := by decide +kernel
theorem dX8_isSession_3 : decode cX8_isSession 3 = .ok (.aload_n 0, 1) := by decide +kernel
theorem dX8_isSession_4 : decode cX8_isSession 4 = .ok (.getfield 97, 3) := by decide +kernel
theorem dX8_isSession_7 : decode cX8_isSession 7 = .ok (.iconst 1, 1) := by decide +kernel
theorem dX8_isSession_8 : decode cX8_isSession 8 = .ok (.isub, 1) := by decide +kernel
theorem dX8_isSession_9 : decode cX8_isSession 9 = .ok (.i2l, 1) := by decide +kernel
theorem dX8_isSession_10 : decode cX8_isSession 10 = .ok (.invokestatic 103, 3) := by decide +kernel
theorem dX8_isSession_13 : decode cX8_isSession 13 = .ok (.ireturn, 1) := by decide +kernel
theorem dX8_quorum_0 : decode cX8_quorum 0 = .ok (.aload_n 0, 1) := by decide +kernel
theorem dX8_quorum_1 : decode cX8_quorum 1 = .ok (.getfield 7, 3) := by decide +kernel
theorem dX8_quorum_4 : decode cX8_quorum 4 = .ok (.iconst 2, 1) := by decide +kernel
theorem dX8_quorum_5 : decode cX8_quorum 5 = .ok (.idiv, 1) := by decide +kernel
theorem dX8_quorum_6 : decode cX8_quorum 6 = .ok (.iconst 1, 1) := by decide +kernel
theorem dX8_quorum_7 : decode cX8_quorum 7 = .ok (.iadd, 1) := by decide +kernel
theorem dX8_quorum_8 : decode cX8_quorum 8 = .ok (.ireturn, 1) := by decide +kernel
set_option maxRecDepth 20000 in
theorem ggX8_reset_X8_in : GoodIn wsX8_reset wsX8_in := goodIn_r _ [7] (by decide +kernel) (by decide +kernel)
set_option maxRecDepth 20000 in
theorem gX8_reset_X8_in : GoodIn wsX8_reset (va_wsS RX8 103 yX8_in wsX8_in) := goodIn_app (goodIn_of _ (by decide +kernel)) ggX8_reset_X8_in
set_option maxRecDepth 20000 in
theorem ggX8_reset_X8_begins : GoodIn wsX8_reset wsX8_begins := goodIn_r _ [11, 3, 12, 13, 14, 15, 16, 17, 18, 19, 20, 21, 22, 23, 24, 25, 26, 27, 28, 29, 30, 31, 32, 33, 34, 35, 36, 37, 38, 39, 40, 41, 42, 43, 44, 45, 46, 47, 48, 49, 50, 51, 52, 53, 54] (by decide +kernel) (by decide +kernel)
set_option maxRecDepth 20000 in
theorem gX8_reset_X8_begins : GoodIn wsX8_reset (wsV RX8 78 RX8 yX8_begins wsX8_begins) := goodIn_app (goodIn_of _ (by decide +kernel)) ggX8_reset_X8_begins
theorem dX8_reset_0 : decode cX8_reset 0 = .ok (.iload_n 1, 1) := by decide +kernel
theorem dX8_reset_1 : decode cX8_reset 1 = .ok (.i2l, 1) := by decide +kernel
theorem dX8_reset_2 : decode cX8_reset 2 = .ok (.ldc2_w 107, 3) := by decide +kernel
theorem dX8_reset_5 : decode cX8_reset 5 = .ok (.ldc2_w 109, 3) := by decide +kernel
theorem dX8_reset_8 : decode cX8_reset 8 = .ok (.invokestatic 103, 3) := by decide +kernel
theorem dX8_reset_11 : decode cX8_reset 11 = .ok (.ifCond .ne 5, 3) := by decide +kernel
theorem dX8_reset_14 : decode cX8_reset 14 = .ok (.iconst (-1), 1) := by decide +kernel
theorem dX8_reset_15 : decode cX8_reset 15 = .ok (.ireturn, 1) := by decide +kernel
theorem dX8_reset_16 : decode cX8_reset 16 = .ok (.aload_n 0, 1) := by decide +kernel
theorem dX8_reset_17 : decode cX8_reset 17 = .ok (.getfield 7, 3) := by decide +kernel
theorem dX8_reset_20 : decode cX8_reset 20 = .ok (.istore_n 2, 1) := by decide +kernel
theorem dX8_reset_21 : decode cX8_reset 21 = .ok (.aload_n 0, 1) := by decide +kernel
theorem dX8_reset_22 : decode cX8_reset 22 = .ok (.iload_n 1, 1) := by decide +kernel
theorem dX8_reset_23 : decode cX8_reset 23 = .ok (.invokevirtual 78, 3) := by decide +kernel
theorem dX8_reset_26 : decode cX8_reset 26 = .ok (.iload_n 2, 1) := by decide +kernel
theorem dX8_reset_27 : decode cX8_reset 27 = .ok (.ireturn, 1) := by decide +kernel
theorem dX8_path_0 : decode cX8_path 0 = .ok (.iconst 0, 1) := by decide +kernel
theorem dX8_path_1 : decode cX8_path 1 = .ok (.istore_n 1, 1) := by decide +kernel
theorem dX8_path_2 : decode cX8_path 2 = .ok (.iconst 0, 1) := by decide +kernel
theorem dX8_path_3 : decode cX8_path 3 = .ok (.istore_n 2, 1) := by decide +kernel
theorem dX8_path_4 : decode cX8_path 4 = .ok (.iload_n 2, 1) := by decide +kernel
theorem dX8_path_5 : decode cX8_path 5 = .ok (.iconst 4, 1) := by decide +kernel
theorem dX8_path_6 : decode cX8_path 6 = .ok (.if_icmp .ge 35, 3) := by decide +kernel
theorem dX8_path_9 : decode cX8_path 9 = .ok (.bipush 7, 2) := by decide +kernel
theorem dX8_path_11 : decode cX8_path 11 = .ok (.iload_n 1, 1) := by decide +kernel
theorem dX8_path_12 : decode cX8_path 12 = .ok (.imul, 1) := by decide +kernel
theorem dX8_path_13 : decode cX8_path 13 = .ok (.iload_n 2, 1) := by decide +kernel
theorem dX8_path_14 : decode cX8_path 14 = .ok (.aload_n 0, 1) := by decide +kernel
theorem dX8_path_15 : decode cX8_path 15 = .ok (.getfield 94, 3) := by decide +kernel
theorem dX8_path_18 : decode cX8_path 18 = .ok (.if_icmp .ge 14, 3) := by decide +kernel
theorem dX8_path_21 : decode cX8_path 21 = .ok (.aload_n 0, 1) := by decide +kernel
theorem dX8_path_22 : decode cX8_path 22 = .ok (.getfield 60, 3) := by decide +kernel
theorem dX8_path_25 : decode cX8_path 25 = .ok (.iload_n 2, 1) := by decide +kernel
theorem dX8_path_26 : decode cX8_path 26 = .ok (.iaload, 1) := by decide +kernel
theorem dX8_path_27 : decode cX8_path 27 = .ok (.iconst 1, 1) := by decide +kernel
theorem dX8_path_28 : decode cX8_path 28 = .ok (.iadd, 1) := by decide +kernel
theorem dX8_path_29 : decode cX8_path 29 = .ok (.goto 4, 3) := by decide +kernel
theorem dX8_path_32 : decode cX8_path 32 = .ok (.iconst 0, 1) := by decide +kernel
theorem dX8_path_33 : decode cX8_path 33 = .ok (.iadd, 1) := by decide +kernel
theorem dX8_path_34 : decode cX8_path 34 = .ok (.istore_n 1, 1) := by decide +kernel
theorem dX8_path_35 : decode cX8_path 35 = .ok (.iinc 2 1, 3) := by decide +kernel
theorem dX8_path_38 : decode cX8_path 38 = .ok (.goto (-34), 3) := by decide +kernel
theorem dX8_path_41 : decode cX8_path 41 = .ok (.iload_n 1, 1) := by decide +kernel
theorem dX8_path_42 : decode cX8_path 42 = .ok (.ireturn, 1) := by decide +kernel
theorem dX8_lastOf_0 : decode cX8_lastOf 0 = .ok (.iconst 1, 1) := by decide +kernel
theorem dX8_lastOf_1 : decode cX8_lastOf 1 = .ok (.istore_n 1, 1) := by decide +kernel
theorem dX8_lastOf_2 : decode cX8_lastOf 2 = .ok (.iload_n 1, 1) := by decide +kernel
theorem dX8_lastOf_3 : decode cX8_lastOf 3 = .ok (.sipush 2401, 3) := by decide +kernel
theorem dX8_lastOf_6 : decode cX8_lastOf 6 = .ok (.if_icmp .ge 20, 3) := by decide +kernel
theorem dX8_lastOf_9 : decode cX8_lastOf 9 = .ok (.iload_n 0, 1) := by decide +kernel
theorem dX8_lastOf_10 : decode cX8_lastOf 10 = .ok (.iload_n 1, 1) := by decide +kernel
theorem dX8_lastOf_11 : decode cX8_lastOf 11 = .ok (.idiv, 1) := by decide +kernel
theorem dX8_lastOf_12 : decode cX8_lastOf 12 = .ok (.bipush 7, 2) := by decide +kernel
theorem dX8_lastOf_14 : decode cX8_lastOf 14 = .ok (.irem, 1) := by decide +kernel
theorem dX8_lastOf_15 : decode cX8_lastOf 15 = .ok (.ifCond .ne 11, 3) := by decide +kernel
theorem dX8_lastOf_18 : decode cX8_lastOf 18 = .ok (.iload_n 1, 1) := by decide +kernel
theorem dX8_lastOf_19 : decode cX8_lastOf 19 = .ok (.bipush 7, 2) := by decide +kernel
theorem dX8_lastOf_21 : decode cX8_lastOf 21 = .ok (.imul, 1) := by decide +kernel
theorem dX8_lastOf_22 : decode cX8_lastOf 22 = .ok (.istore_n 1, 1) := by decide +kernel
theorem dX8_lastOf_23 : decode cX8_lastOf 23 = .ok (.goto (-21), 3) := by decide +kernel
theorem dX8_lastOf_26 : decode cX8_lastOf 26 = .ok (.iload_n 0, 1) := by decide +kernel
theorem dX8_lastOf_27 : decode cX8_lastOf 27 = .ok (.ifCond .ne 7, 3) := by decide +kernel
theorem dX8_lastOf_30 : decode cX8_lastOf 30 = .ok (.iconst 0, 1) := by decide +kernel
theorem dX8_lastOf_31 : decode cX8_lastOf 31 = .ok (.goto 4, 3) := by decide +kernel
theorem dX8_lastOf_34 : decode cX8_lastOf 34 = .ok (.iload_n 1, 1) := by decide +kernel
theorem dX8_lastOf_35 : decode cX8_lastOf 35 = .ok (.ireturn, 1) := by decide +kernel
set_option maxRecDepth 20000 in
theorem ggX8_parentOf_X8_lastOf : GoodIn wsX8_parentOf wsX8_lastOf := goodIn_r _ [4] (by decide +kernel) (by decide +kernel)
set_option maxRecDepth 20000 in
theorem gX8_parentOf_X8_lastOf : GoodIn wsX8_parentOf (va_wsS RX8 111 yX8_lastOf wsX8_lastOf) := goodIn_app (goodIn_of _ (by decide +kernel)) ggX8_parentOf_X8_lastOf
theorem dX8_parentOf_0 : decode cX8_parentOf 0 = .ok (.iload_n 0, 1) := by decide +kernel
theorem dX8_parentOf_1 : decode cX8_parentOf 1 = .ok (.invokestatic 111, 3) := by decide +kernel
theorem dX8_parentOf_4 : decode cX8_parentOf 4 = .ok (.istore_n 1, 1) := by decide +kernel
theorem dX8_parentOf_5 : decode cX8_parentOf 5 = .ok (.iload_n 1, 1) := by decide +kernel
theorem dX8_parentOf_6 : decode cX8_parentOf 6 = .ok (.ifCond .ne 7, 3) := by decide +kernel
theorem dX8_parentOf_9 : decode cX8_parentOf 9 = .ok (.iconst 0, 1) := by decide +kernel
theorem dX8_parentOf_10 : decode cX8_parentOf 10 = .ok (.goto 13, 3) := by decide +kernel
theorem dX8_parentOf_13 : decode cX8_parentOf 13 = .ok (.iload_n 0, 1) := by decide +kernel
theorem dX8_parentOf_14 : decode cX8_parentOf 14 = .ok (.iload_n 0, 1) := by decide +kernel
theorem dX8_parentOf_15 : decode cX8_parentOf 15 = .ok (.iload_n 1, 1) := by decide +kernel
theorem dX8_parentOf_16 : decode cX8_parentOf 16 = .ok (.idiv, 1) := by decide +kernel
theorem dX8_parentOf_17 : decode cX8_parentOf 17 = .ok (.bipush 7, 2) := by decide +kernel
theorem dX8_parentOf_19 : decode cX8_parentOf 19 = .ok (.irem, 1) := by decide +kernel
theorem dX8_parentOf_20 : decode cX8_parentOf 20 = .ok (.iload_n 1, 1) := by decide +kernel
theorem dX8_parentOf_21 : decode cX8_parentOf 21 = .ok (.imul, 1) := by decide +kernel
theorem dX8_parentOf_22 : decode cX8_parentOf 22 = .ok (.isub, 1) := by decide +kernel
theorem dX8_parentOf_23 : decode cX8_parentOf 23 = .ok (.ireturn, 1) := by decide +kernel
set_option maxRecDepth 20000 in
theorem ggX8_appendName_X8_in : GoodIn wsX8_appendName wsX8_in := goodIn_r _ [7] (by decide +kernel) (by decide +kernel)
set_option maxRecDepth 20000 in
theorem gX8_appendName_X8_in : GoodIn wsX8_appendName (va_wsS RX8 103 yX8_in wsX8_in) := goodIn_app (goodIn_of _ (by decide +kernel)) ggX8_appendName_X8_in
theorem dX8_appendName_0 : decode cX8_appendName 0 = .ok (.iload_n 1, 1) := by decide +kernel
theorem dX8_appendName_1 : decode cX8_appendName 1 = .ok (.i2l, 1) := by decide +kernel
theorem dX8_appendName_2 : decode cX8_appendName 2 = .ok (.lconst 0, 1) := by decide +kernel
theorem dX8_appendName_3 : decode cX8_appendName 3 = .ok (.ldc2_w 109, 3) := by decide +kernel
theorem dX8_appendName_6 : decode cX8_appendName 6 = .ok (.invokestatic 103, 3) := by decide +kernel
theorem dX8_appendName_9 : decode cX8_appendName 9 = .ok (.ifCond .ne 5, 3) := by decide +kernel
theorem dX8_appendName_12 : decode cX8_appendName 12 = .ok (.iconst (-1), 1) := by decide +kernel
theorem dX8_appendName_13 : decode cX8_appendName 13 = .ok (.ireturn, 1) := by decide +kernel
theorem dX8_appendName_14 : decode cX8_appendName 14 = .ok (.aload_n 0, 1) := by decide +kernel
theorem dX8_appendName_15 : decode cX8_appendName 15 = .ok (.getfield 94, 3) := by decide +kernel
theorem dX8_appendName_18 : decode cX8_appendName 18 = .ok (.iconst 4, 1) := by decide +kernel
theorem dX8_appendName_19 : decode cX8_appendName 19 = .ok (.if_icmp .ne 6, 3) := by decide +kernel
theorem dX8_appendName_22 : decode cX8_appendName 22 = .ok (.bipush (-7), 2) := by decide +kernel
theorem dX8_appendName_24 : decode cX8_appendName 24 = .ok (.ireturn, 1) := by decide +kernel
theorem dX8_appendName_25 : decode cX8_appendName 25 = .ok (.aload_n 0, 1) := by decide +kernel
theorem dX8_appendName_26 : decode cX8_appendName 26 = .ok (.getfield 60, 3) := by decide +kernel
theorem dX8_appendName_29 : decode cX8_appendName 29 = .ok (.aload_n 0, 1) := by decide +kernel
theorem dX8_appendName_30 : decode cX8_appendName 30 = .ok (.getfield 94, 3) := by decide +kernel
theorem dX8_appendName_33 : decode cX8_appendName 33 = .ok (.iload_n 1, 1) := by decide +kernel
theorem dX8_appendName_34 : decode cX8_appendName 34 = .ok (.iastore, 1) := by decide +kernel
theorem dX8_appendName_35 : decode cX8_appendName 35 = .ok (.aload_n 0, 1) := by decide +kernel
theorem dX8_appendName_36 : decode cX8_appendName 36 = .ok (.dup, 1) := by decide +kernel
theorem dX8_appendName_37 : decode cX8_appendName 37 = .ok (.getfield 94, 3) := by decide +kernel
theorem dX8_appendName_40 : decode cX8_appendName 40 = .ok (.iconst 1, 1) := by decide +kernel
theorem dX8_appendName_41 : decode cX8_appendName 41 = .ok (.iadd, 1) := by decide +kernel
theorem dX8_appendName_42 : decode cX8_appendName 42 = .ok (.putfield 94, 3) := by decide +kernel
theorem dX8_appendName_45 : decode cX8_appendName 45 = .ok (.aload_n 0, 1) := by decide +kernel
theorem dX8_appendName_46 : decode cX8_appendName 46 = .ok (.getfield 94, 3) := by decide +kernel
theorem dX8_appendName_49 : decode cX8_appendName 49 = .ok (.ireturn, 1) := by decide +kernel
theorem dX8_clearPath_0 : decode cX8_clearPath 0 = .ok (.aload_n 0, 1) := by decide +kernel
theorem dX8_clearPath_1 : decode cX8_clearPath 1 = .ok (.getfield 94, 3) := by decide +kernel
theorem dX8_clearPath_4 : decode cX8_clearPath 4 = .ok (.istore_n 1, 1) := by decide +kernel
theorem dX8_clearPath_5 : decode cX8_clearPath 5 = .ok (.aload_n 0, 1) := by decide +kernel
theorem dX8_clearPath_6 : decode cX8_clearPath 6 = .ok (.iconst 0, 1) := by decide +kernel
theorem dX8_clearPath_7 : decode cX8_clearPath 7 = .ok (.putfield 94, 3) := by decide +kernel
theorem dX8_clearPath_10 : decode cX8_clearPath 10 = .ok (.iload_n 1, 1) := by decide +kernel
theorem dX8_clearPath_11 : decode cX8_clearPath 11 = .ok (.ireturn, 1) := by decide +kernel
theorem dX8_find_0 : decode cX8_find 0 = .ok (.iconst 0, 1) := by decide +kernel
theorem dX8_find_1 : decode cX8_find 1 = .ok (.istore_n 3, 1) := by decide +kernel
theorem dX8_find_2 : decode cX8_find 2 = .ok (.iload_n 3, 1) := by decide +kernel
theorem dX8_find_3 : decode cX8_find 3 = .ok (.aload_n 0, 1) := by decide +kernel
theorem dX8_find_4 : decode cX8_find 4 = .ok (.getfield 45, 3) := by decide +kernel
theorem dX8_find_7 : decode cX8_find 7 = .ok (.iload_n 1, 1) := by decide +kernel
theorem dX8_find_8 : decode cX8_find 8 = .ok (.iaload, 1) := by decide +kernel
theorem dX8_find_9 : decode cX8_find 9 = .ok (.if_icmp .ge 31, 3) := by decide +kernel
theorem dX8_find_12 : decode cX8_find 12 = .ok (.aload_n 0, 1) := by decide +kernel
theorem dX8_find_13 : decode cX8_find 13 = .ok (.getfield 48, 3) := by decide +kernel
theorem dX8_find_16 : decode cX8_find 16 = .ok (.bipush 12, 2) := by decide +kernel
theorem dX8_find_18 : decode cX8_find 18 = .ok (.iload_n 1, 1) := by decide +kernel
theorem dX8_find_19 : decode cX8_find 19 = .ok (.imul, 1) := by decide +kernel
theorem dX8_find_20 : decode cX8_find 20 = .ok (.iload_n 3, 1) := by decide +kernel
theorem dX8_find_21 : decode cX8_find 21 = .ok (.iadd, 1) := by decide +kernel
theorem dX8_find_22 : decode cX8_find 22 = .ok (.iaload, 1) := by decide +kernel
theorem dX8_find_23 : decode cX8_find 23 = .ok (.iload_n 2, 1) := by decide +kernel
theorem dX8_find_24 : decode cX8_find 24 = .ok (.if_icmp .ne 10, 3) := by decide +kernel
theorem dX8_find_27 : decode cX8_find 27 = .ok (.bipush 12, 2) := by decide +kernel
theorem dX8_find_29 : decode cX8_find 29 = .ok (.iload_n 1, 1) := by decide +kernel
theorem dX8_find_30 : decode cX8_find 30 = .ok (.imul, 1) := by decide +kernel
theorem dX8_find_31 : decode cX8_find 31 = .ok (.iload_n 3, 1) := by decide +kernel
theorem dX8_find_32 : decode cX8_find 32 = .ok (.iadd, 1) := by decide +kernel
theorem dX8_find_33 : decode cX8_find 33 = .ok (.ireturn, 1) := by decide +kernel
theorem dX8_find_34 : decode cX8_find 34 = .ok (.iinc 3 1, 3) := by decide +kernel
theorem dX8_find_37 : decode cX8_find 37 = .ok (.goto (-35), 3) := by decide +kernel
theorem dX8_find_40 : decode cX8_find 40 = .ok (.bipush (-8), 2) := by decide +kernel
theorem dX8_find_42 : decode cX8_find 42 = .ok (.ireturn, 1) := by decide +kernel
set_option maxRecDepth 20000 in
theorem ggX8_children_X8_parentOf : GoodIn wsX8_children wsX8_parentOf := goodIn_r _ [6, 7, 8, 5, 9] (by decide +kernel) (by decide +kernel)
set_option maxRecDepth 20000 in
theorem gX8_children_X8_parentOf : GoodIn wsX8_children (va_wsS RX8 115 yX8_parentOf wsX8_parentOf) := goodIn_app (goodIn_of _ (by decide +kernel)) ggX8_children_X8_parentOf
theorem dX8_children_0 : decode cX8_children 0 = .ok (.iconst 0, 1) := by decide +kernel
theorem dX8_children_1 : decode cX8_children 1 = .ok (.istore_n 3, 1) := by decide +kernel
theorem dX8_children_2 : decode cX8_children 2 = .ok (.iconst 0, 1) := by decide +kernel
theorem dX8_children_3 : decode cX8_children 3 = .ok (.istore 4, 2) := by decide +kernel
theorem dX8_children_5 : decode cX8_children 5 = .ok (.iload 4, 2) := by decide +kernel
theorem dX8_children_7 : decode cX8_children 7 = .ok (.aload_n 0, 1) := by decide +kernel
theorem dX8_children_8 : decode cX8_children 8 = .ok (.getfield 45, 3) := by decide +kernel
theorem dX8_children_11 : decode cX8_children 11 = .ok (.iload_n 1, 1) := by decide +kernel
theorem dX8_children_12 : decode cX8_children 12 = .ok (.iaload, 1) := by decide +kernel
theorem dX8_children_13 : decode cX8_children 13 = .ok (.if_icmp .ge 36, 3) := by decide +kernel
theorem dX8_children_16 : decode cX8_children 16 = .ok (.iload_n 3, 1) := by decide +kernel
theorem dX8_children_17 : decode cX8_children 17 = .ok (.aload_n 0, 1) := by decide +kernel
theorem dX8_children_18 : decode cX8_children 18 = .ok (.getfield 48, 3) := by decide +kernel
theorem dX8_children_21 : decode cX8_children 21 = .ok (.bipush 12, 2) := by decide +kernel
theorem dX8_children_23 : decode cX8_children 23 = .ok (.iload_n 1, 1) := by decide +kernel
theorem dX8_children_24 : decode cX8_children 24 = .ok (.imul, 1) := by decide +kernel
theorem dX8_children_25 : decode cX8_children 25 = .ok (.iload 4, 2) := by decide +kernel
theorem dX8_children_27 : decode cX8_children 27 = .ok (.iadd, 1) := by decide +kernel
theorem dX8_children_28 : decode cX8_children 28 = .ok (.iaload, 1) := by decide +kernel
theorem dX8_children_29 : decode cX8_children 29 = .ok (.invokestatic 115, 3) := by decide +kernel
theorem dX8_children_32 : decode cX8_children 32 = .ok (.iload_n 2, 1) := by decide +kernel
theorem dX8_children_33 : decode cX8_children 33 = .ok (.if_icmp .ne 7, 3) := by decide +kernel
theorem dX8_children_36 : decode cX8_children 36 = .ok (.iconst 1, 1) := by decide +kernel
theorem dX8_children_37 : decode cX8_children 37 = .ok (.goto 4, 3) := by decide +kernel
theorem dX8_children_40 : decode cX8_children 40 = .ok (.iconst 0, 1) := by decide +kernel
theorem dX8_children_41 : decode cX8_children 41 = .ok (.iadd, 1) := by decide +kernel
theorem dX8_children_42 : decode cX8_children 42 = .ok (.istore_n 3, 1) := by decide +kernel
theorem dX8_children_43 : decode cX8_children 43 = .ok (.iinc 4 1, 3) := by decide +kernel
theorem dX8_children_46 : decode cX8_children 46 = .ok (.goto (-41), 3) := by decide +kernel
theorem dX8_children_49 : decode cX8_children 49 = .ok (.iload_n 3, 1) := by decide +kernel
theorem dX8_children_50 : decode cX8_children 50 = .ok (.ireturn, 1) := by decide +kernel
theorem dX8_removes_0 : decode cX8_removes 0 = .ok (.aload_n 0, 1) := by decide +kernel
theorem dX8_removes_1 : decode cX8_removes 1 = .ok (.getfield 45, 3) := by decide +kernel
theorem dX8_removes_4 : decode cX8_removes 4 = .ok (.iload_n 1, 1) := by decide +kernel
theorem dX8_removes_5 : decode cX8_removes 5 = .ok (.dup2, 1) := by decide +kernel
theorem dX8_removes_6 : decode cX8_removes 6 = .ok (.iaload, 1) := by decide +kernel
theorem dX8_removes_7 : decode cX8_removes 7 = .ok (.iconst 1, 1) := by decide +kernel
theorem dX8_removes_8 : decode cX8_removes 8 = .ok (.isub, 1) := by decide +kernel
theorem dX8_removes_9 : decode cX8_removes 9 = .ok (.iastore, 1) := by decide +kernel
theorem dX8_removes_10 : decode cX8_removes 10 = .ok (.bipush 12, 2) := by decide +kernel
theorem dX8_removes_12 : decode cX8_removes 12 = .ok (.iload_n 1, 1) := by decide +kernel
theorem dX8_removes_13 : decode cX8_removes 13 = .ok (.imul, 1) := by decide +kernel
theorem dX8_removes_14 : decode cX8_removes 14 = .ok (.aload_n 0, 1) := by decide +kernel
theorem dX8_removes_15 : decode cX8_removes 15 = .ok (.getfield 45, 3) := by decide +kernel
theorem dX8_removes_18 : decode cX8_removes 18 = .ok (.iload_n 1, 1) := by decide +kernel
theorem dX8_removes_19 : decode cX8_removes 19 = .ok (.iaload, 1) := by decide +kernel
theorem dX8_removes_20 : decode cX8_removes 20 = .ok (.iadd, 1) := by decide +kernel
theorem dX8_removes_21 : decode cX8_removes 21 = .ok (.istore_n 3, 1) := by decide +kernel
theorem dX8_removes_22 : decode cX8_removes 22 = .ok (.aload_n 0, 1) := by decide +kernel
theorem dX8_removes_23 : decode cX8_removes 23 = .ok (.getfield 48, 3) := by decide +kernel
theorem dX8_removes_26 : decode cX8_removes 26 = .ok (.iload_n 2, 1) := by decide +kernel
theorem dX8_removes_27 : decode cX8_removes 27 = .ok (.aload_n 0, 1) := by decide +kernel
theorem dX8_removes_28 : decode cX8_removes 28 = .ok (.getfield 48, 3) := by decide +kernel
theorem dX8_removes_31 : decode cX8_removes 31 = .ok (.iload_n 3, 1) := by decide +kernel
theorem dX8_removes_32 : decode cX8_removes 32 = .ok (.iaload, 1) := by decide +kernel
theorem dX8_removes_33 : decode cX8_removes 33 = .ok (.iastore, 1) := by decide +kernel
theorem dX8_removes_34 : decode cX8_removes 34 = .ok (.aload_n 0, 1) := by decide +kernel
theorem dX8_removes_35 : decode cX8_removes 35 = .ok (.getfield 51, 3) := by decide +kernel
theorem dX8_removes_38 : decode cX8_removes 38 = .ok (.iload_n 2, 1) := by decide +kernel
theorem dX8_removes_39 : decode cX8_removes 39 = .ok (.aload_n 0, 1) := by decide +kernel
theorem dX8_removes_40 : decode cX8_removes 40 = .ok (.getfield 51, 3) := by decide +kernel
theorem dX8_removes_43 : decode cX8_removes 43 = .ok (.iload_n 3, 1) := by decide +kernel
theorem dX8_removes_44 : decode cX8_removes 44 = .ok (.iaload, 1) := by decide +kernel
theorem dX8_removes_45 : decode cX8_removes 45 = .ok (.iastore, 1) := by decide +kernel
theorem dX8_removes_46 : decode cX8_removes 46 = .ok (.aload_n 0, 1) := by decide +kernel
theorem dX8_removes_47 : decode cX8_removes 47 = .ok (.getfield 54, 3) := by decide +kernel
theorem dX8_removes_50 : decode cX8_removes 50 = .ok (.iload_n 2, 1) := by decide +kernel
theorem dX8_removes_51 : decode cX8_removes 51 = .ok (.aload_n 0, 1) := by decide +kernel
theorem dX8_removes_52 : decode cX8_removes 52 = .ok (.getfield 54, 3) := by decide +kernel
theorem dX8_removes_55 : decode cX8_removes 55 = .ok (.iload_n 3, 1) := by decide +kernel
theorem dX8_removes_56 : decode cX8_removes 56 = .ok (.iaload, 1) := by decide +kernel
theorem dX8_removes_57 : decode cX8_removes 57 = .ok (.iastore, 1) := by decide +kernel
theorem dX8_removes_58 : decode cX8_removes 58 = .ok (.aload_n 0, 1) := by decide +kernel
theorem dX8_removes_59 : decode cX8_removes 59 = .ok (.getfield 57, 3) := by decide +kernel
theorem dX8_removes_62 : decode cX8_removes 62 = .ok (.iload_n 2, 1) := by decide +kernel
theorem dX8_removes_63 : decode cX8_removes 63 = .ok (.aload_n 0, 1) := by decide +kernel
theorem dX8_removes_64 : decode cX8_removes 64 = .ok (.getfield 57, 3) := by decide +kernel
theorem dX8_removes_67 : decode cX8_removes 67 = .ok (.iload_n 3, 1) := by decide +kernel
theorem dX8_removes_68 : decode cX8_removes 68 = .ok (.iaload, 1) := by decide +kernel
theorem dX8_removes_69 : decode cX8_removes 69 = .ok (.iastore, 1) := by decide +kernel
theorem dX8_removes_70 : decode cX8_removes 70 = .ok (.return_, 1) := by decide +kernel
theorem dX8_firstOf_0 : decode cX8_firstOf 0 = .ok (.bipush (-8), 2) := by decide +kernel
theorem dX8_firstOf_2 : decode cX8_firstOf 2 = .ok (.istore_n 3, 1) := by decide +kernel
theorem dX8_firstOf_3 : decode cX8_firstOf 3 = .ok (.bipush 12, 2) := by decide +kernel
theorem dX8_firstOf_5 : decode cX8_firstOf 5 = .ok (.iload_n 1, 1) := by decide +kernel
theorem dX8_firstOf_6 : decode cX8_firstOf 6 = .ok (.imul, 1) := by decide +kernel
theorem dX8_firstOf_7 : decode cX8_firstOf 7 = .ok (.istore 4, 2) := by decide +kernel
theorem dX8_firstOf_9 : decode cX8_firstOf 9 = .ok (.iload 4, 2) := by decide +kernel
theorem dX8_firstOf_11 : decode cX8_firstOf 11 = .ok (.bipush 12, 2) := by decide +kernel
theorem dX8_firstOf_13 : decode cX8_firstOf 13 = .ok (.iload_n 1, 1) := by decide +kernel
theorem dX8_firstOf_14 : decode cX8_firstOf 14 = .ok (.imul, 1) := by decide +kernel
theorem dX8_firstOf_15 : decode cX8_firstOf 15 = .ok (.aload_n 0, 1) := by decide +kernel
theorem dX8_firstOf_16 : decode cX8_firstOf 16 = .ok (.getfield 45, 3) := by decide +kernel
theorem dX8_firstOf_19 : decode cX8_firstOf 19 = .ok (.iload_n 1, 1) := by decide +kernel
theorem dX8_firstOf_20 : decode cX8_firstOf 20 = .ok (.iaload, 1) := by decide +kernel
theorem dX8_firstOf_21 : decode cX8_firstOf 21 = .ok (.iadd, 1) := by decide +kernel
theorem dX8_firstOf_22 : decode cX8_firstOf 22 = .ok (.if_icmp .ge 49, 3) := by decide +kernel
theorem dX8_firstOf_25 : decode cX8_firstOf 25 = .ok (.aload_n 0, 1) := by decide +kernel
theorem dX8_firstOf_26 : decode cX8_firstOf 26 = .ok (.getfield 57, 3) := by decide +kernel
theorem dX8_firstOf_29 : decode cX8_firstOf 29 = .ok (.iload 4, 2) := by decide +kernel
theorem dX8_firstOf_31 : decode cX8_firstOf 31 = .ok (.iaload, 1) := by decide +kernel
theorem dX8_firstOf_32 : decode cX8_firstOf 32 = .ok (.iload_n 2, 1) := by decide +kernel
theorem dX8_firstOf_33 : decode cX8_firstOf 33 = .ok (.if_icmp .ne 30, 3) := by decide +kernel
theorem dX8_firstOf_36 : decode cX8_firstOf 36 = .ok (.iload_n 3, 1) := by decide +kernel
theorem dX8_firstOf_37 : decode cX8_firstOf 37 = .ok (.bipush (-8), 2) := by decide +kernel
theorem dX8_firstOf_39 : decode cX8_firstOf 39 = .ok (.if_icmp .eq 19, 3) := by decide +kernel
theorem dX8_firstOf_42 : decode cX8_firstOf 42 = .ok (.aload_n 0, 1) := by decide +kernel
theorem dX8_firstOf_43 : decode cX8_firstOf 43 = .ok (.getfield 48, 3) := by decide +kernel
theorem dX8_firstOf_46 : decode cX8_firstOf 46 = .ok (.iload 4, 2) := by decide +kernel
theorem dX8_firstOf_48 : decode cX8_firstOf 48 = .ok (.iaload, 1) := by decide +kernel
theorem dX8_firstOf_49 : decode cX8_firstOf 49 = .ok (.aload_n 0, 1) := by decide +kernel
theorem dX8_firstOf_50 : decode cX8_firstOf 50 = .ok (.getfield 48, 3) := by decide +kernel
theorem dX8_firstOf_53 : decode cX8_firstOf 53 = .ok (.iload_n 3, 1) := by decide +kernel
theorem dX8_firstOf_54 : decode cX8_firstOf 54 = .ok (.iaload, 1) := by decide +kernel
theorem dX8_firstOf_55 : decode cX8_firstOf 55 = .ok (.if_icmp .ge 8, 3) := by decide +kernel
theorem dX8_firstOf_58 : decode cX8_firstOf 58 = .ok (.iload 4, 2) := by decide +kernel
theorem dX8_firstOf_60 : decode cX8_firstOf 60 = .ok (.goto 4, 3) := by decide +kernel
theorem dX8_firstOf_63 : decode cX8_firstOf 63 = .ok (.iload_n 3, 1) := by decide +kernel
theorem dX8_firstOf_64 : decode cX8_firstOf 64 = .ok (.istore_n 3, 1) := by decide +kernel
theorem dX8_firstOf_65 : decode cX8_firstOf 65 = .ok (.iinc 4 1, 3) := by decide +kernel
theorem dX8_firstOf_68 : decode cX8_firstOf 68 = .ok (.goto (-59), 3) := by decide +kernel
theorem dX8_firstOf_71 : decode cX8_firstOf 71 = .ok (.iload_n 3, 1) := by decide +kernel
theorem dX8_firstOf_72 : decode cX8_firstOf 72 = .ok (.ireturn, 1) := by decide +kernel
