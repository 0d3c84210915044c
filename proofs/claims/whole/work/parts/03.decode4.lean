theorem dX5_tick_106 : decode cX5_tick 106 = .ok (.iconst 4, 1) := by decide +kernel
theorem dX5_tick_107 : decode cX5_tick 107 = .ok (.if_icmp .eq 12, 3) := by decide +kernel
theorem dX5_tick_110 : decode cX5_tick 110 = .ok (.aload_n 0, 1) := by decide +kernel
theorem dX5_tick_111 : decode cX5_tick 111 = .ok (.getfield 74, 3) := by decide +kernel
theorem dX5_tick_114 : decode cX5_tick 114 = .ok (.bipush 8, 2) := by decide +kernel
theorem dX5_tick_116 : decode cX5_tick 116 = .ok (.if_icmp .ne 18, 3) := by decide +kernel
theorem dX5_tick_119 : decode cX5_tick 119 = .ok (.aload_n 0, 1) := by decide +kernel
theorem dX5_tick_120 : decode cX5_tick 120 = .ok (.getfield 163, 3) := by decide +kernel
theorem dX5_tick_123 : decode cX5_tick 123 = .ok (.ifCond .ne 11, 3) := by decide +kernel
theorem dX5_tick_126 : decode cX5_tick 126 = .ok (.aload_n 0, 1) := by decide +kernel
theorem dX5_tick_127 : decode cX5_tick 127 = .ok (.iconst 5, 1) := by decide +kernel
theorem dX5_tick_128 : decode cX5_tick 128 = .ok (.iconst (-1), 1) := by decide +kernel
theorem dX5_tick_129 : decode cX5_tick 129 = .ok (.iconst 0, 1) := by decide +kernel
theorem dX5_tick_130 : decode cX5_tick 130 = .ok (.iconst 0, 1) := by decide +kernel
theorem dX5_tick_131 : decode cX5_tick 131 = .ok (.invokevirtual 63, 3) := by decide +kernel
theorem dX5_tick_134 : decode cX5_tick 134 = .ok (.return_, 1) := by decide +kernel
set_option maxRecDepth 20000 in
theorem ggX5_pass_X5_within : GoodIn wsX5_pass wsX5_within := goodIn_r _ [5] (by decide +kernel) (by decide +kernel)
set_option maxRecDepth 20000 in
theorem gX5_pass_X5_within : GoodIn wsX5_pass (va_wsS RX5 67 yX5_within wsX5_within) := goodIn_app (goodIn_of _ (by decide +kernel)) ggX5_pass_X5_within
set_option maxRecDepth 20000 in
theorem ggX5_pass_X5_tick : GoodIn wsX5_pass wsX5_tick := goodIn_r _ [9, 1, 10, 11, 12, 13, 14, 15, 16, 17, 4, 18, 19, 20, 21, 22, 23, 24, 25, 26, 27, 28, 29, 30, 31, 32, 33, 34, 35, 36, 37, 38, 39, 40, 41, 42, 43, 44, 45, 46, 47, 48, 49, 50, 51, 52, 53, 54, 55, 56, 57, 58, 59, 60, 61, 62, 63, 64, 65, 66, 67, 68, 69, 70, 71, 72, 73, 74, 75, 76, 77, 78, 79, 80, 81, 82, 83, 84, 85, 86] (by decide +kernel) (by decide +kernel)
set_option maxRecDepth 20000 in
theorem gX5_pass_X5_tick : GoodIn wsX5_pass (wsV RX5 167 RX5 yX5_tick wsX5_tick) := goodIn_app (goodIn_of _ (by decide +kernel)) ggX5_pass_X5_tick
theorem dX5_pass_0 : decode cX5_pass 0 = .ok (.iload_n 1, 1) := by decide +kernel
theorem dX5_pass_1 : decode cX5_pass 1 = .ok (.iconst 1, 1) := by decide +kernel
theorem dX5_pass_2 : decode cX5_pass 2 = .ok (.bipush 60, 2) := by decide +kernel
theorem dX5_pass_4 : decode cX5_pass 4 = .ok (.invokestatic 67, 3) := by decide +kernel
theorem dX5_pass_7 : decode cX5_pass 7 = .ok (.ifCond .ne 6, 3) := by decide +kernel
theorem dX5_pass_10 : decode cX5_pass 10 = .ok (.bipush (-102), 2) := by decide +kernel
theorem dX5_pass_12 : decode cX5_pass 12 = .ok (.ireturn, 1) := by decide +kernel
theorem dX5_pass_13 : decode cX5_pass 13 = .ok (.iconst 0, 1) := by decide +kernel
theorem dX5_pass_14 : decode cX5_pass 14 = .ok (.istore_n 2, 1) := by decide +kernel
theorem dX5_pass_15 : decode cX5_pass 15 = .ok (.iload_n 2, 1) := by decide +kernel
theorem dX5_pass_16 : decode cX5_pass 16 = .ok (.iload_n 1, 1) := by decide +kernel
theorem dX5_pass_17 : decode cX5_pass 17 = .ok (.if_icmp .ge 13, 3) := by decide +kernel
theorem dX5_pass_20 : decode cX5_pass 20 = .ok (.aload_n 0, 1) := by decide +kernel
theorem dX5_pass_21 : decode cX5_pass 21 = .ok (.invokevirtual 167, 3) := by decide +kernel
theorem dX5_pass_24 : decode cX5_pass 24 = .ok (.iinc 2 1, 3) := by decide +kernel
theorem dX5_pass_27 : decode cX5_pass 27 = .ok (.goto (-12), 3) := by decide +kernel
theorem dX5_pass_30 : decode cX5_pass 30 = .ok (.aload_n 0, 1) := by decide +kernel
theorem dX5_pass_31 : decode cX5_pass 31 = .ok (.getfield 74, 3) := by decide +kernel
theorem dX5_pass_34 : decode cX5_pass 34 = .ok (.ireturn, 1) := by decide +kernel
set_option maxRecDepth 20000 in
theorem ggX5_send_X5_isAddress : GoodIn wsX5_send wsX5_isAddress := goodIn_r _ [5, 6, 7, 4, 8] (by decide +kernel) (by decide +kernel)
set_option maxRecDepth 20000 in
theorem gX5_send_X5_isAddress : GoodIn wsX5_send (va_wsS RX5 170 yX5_isAddress wsX5_isAddress) := goodIn_app (goodIn_of _ (by decide +kernel)) ggX5_send_X5_isAddress
set_option maxRecDepth 20000 in
theorem ggX5_send_X5_isLetter : GoodIn wsX5_send wsX5_isLetter := goodIn_r _ [11, 6, 7, 4, 8] (by decide +kernel) (by decide +kernel)
set_option maxRecDepth 20000 in
theorem gX5_send_X5_isLetter : GoodIn wsX5_send (va_wsS RX5 173 yX5_isLetter wsX5_isLetter) := goodIn_app (goodIn_of _ (by decide +kernel)) ggX5_send_X5_isLetter
set_option maxRecDepth 20000 in
theorem ggX5_send_X5_isOurs : GoodIn wsX5_send wsX5_isOurs := goodIn_r _ [15, 16, 17, 75, 76, 77, 78, 79, 80, 81, 82, 83, 84, 85, 86, 87, 88, 89, 90, 91, 92, 93, 94, 95, 96, 97, 98, 99, 100, 101, 102] (by decide +kernel) (by decide +kernel)
set_option maxRecDepth 20000 in
theorem gX5_send_X5_isOurs : GoodIn wsX5_send (wsV RX5 176 RX5 yX5_isOurs wsX5_isOurs) := goodIn_app (goodIn_of _ (by decide +kernel)) ggX5_send_X5_isOurs
set_option maxRecDepth 20000 in
theorem ggX5_send_X5_isRoom : GoodIn wsX5_send wsX5_isRoom := goodIn_r _ [21, 22, 23, 24, 4, 25, 1, 26, 27, 28, 29, 30, 31, 75, 76, 77, 78, 79, 80, 81, 82, 83, 84, 85, 86, 87, 88, 89, 90, 91, 92, 93, 94, 95, 96, 97, 98, 99, 100, 101, 102] (by decide +kernel) (by decide +kernel)
set_option maxRecDepth 20000 in
theorem gX5_send_X5_isRoom : GoodIn wsX5_send (wsV RX5 119 RX5 yX5_isRoom wsX5_isRoom) := goodIn_app (goodIn_of _ (by decide +kernel)) ggX5_send_X5_isRoom
set_option maxRecDepth 20000 in
theorem ggX5_send_X5_sendNow : GoodIn wsX5_send wsX5_sendNow := goodIn_r _ [35, 1, 31, 36, 26, 37, 38, 39, 40, 4, 41, 42, 22, 23, 24, 25, 27, 28, 29, 30, 43, 44, 45, 46, 47, 48, 49, 50, 51, 52, 53, 54, 55, 56, 57, 58, 59, 60, 61, 62, 63, 64, 65, 66, 67, 68, 69, 70, 71, 72, 73, 74, 75, 76, 77, 78, 79, 80, 81, 82, 83, 84, 85, 86, 87, 88, 89, 90, 91, 92, 93, 94, 95, 96, 97, 98, 99, 100, 101, 102] (by decide +kernel) (by decide +kernel)
set_option maxRecDepth 20000 in
theorem gX5_send_X5_sendNow : GoodIn wsX5_send (wsV RX5 179 RX5 yX5_sendNow wsX5_sendNow) := goodIn_app (goodIn_of _ (by decide +kernel)) ggX5_send_X5_sendNow
theorem dX5_send_0 : decode cX5_send 0 = .ok (.iload_n 1, 1) := by decide +kernel
theorem dX5_send_1 : decode cX5_send 1 = .ok (.invokestatic 170, 3) := by decide +kernel
theorem dX5_send_4 : decode cX5_send 4 = .ok (.ifCond .eq 10, 3) := by decide +kernel
theorem dX5_send_7 : decode cX5_send 7 = .ok (.iload_n 2, 1) := by decide +kernel
theorem dX5_send_8 : decode cX5_send 8 = .ok (.invokestatic 173, 3) := by decide +kernel
theorem dX5_send_11 : decode cX5_send 11 = .ok (.ifCond .ne 6, 3) := by decide +kernel
theorem dX5_send_14 : decode cX5_send 14 = .ok (.bipush (-102), 2) := by decide +kernel
theorem dX5_send_16 : decode cX5_send 16 = .ok (.ireturn, 1) := by decide +kernel
theorem dX5_send_17 : decode cX5_send 17 = .ok (.aload_n 0, 1) := by decide +kernel
theorem dX5_send_18 : decode cX5_send 18 = .ok (.iload_n 1, 1) := by decide +kernel
theorem dX5_send_19 : decode cX5_send 19 = .ok (.invokevirtual 176, 3) := by decide +kernel
theorem dX5_send_22 : decode cX5_send 22 = .ok (.ifCond .eq 6, 3) := by decide +kernel
theorem dX5_send_25 : decode cX5_send 25 = .ok (.bipush (-103), 2) := by decide +kernel
theorem dX5_send_27 : decode cX5_send 27 = .ok (.ireturn, 1) := by decide +kernel
theorem dX5_send_28 : decode cX5_send 28 = .ok (.aload_n 0, 1) := by decide +kernel
theorem dX5_send_29 : decode cX5_send 29 = .ok (.getfield 7, 3) := by decide +kernel
theorem dX5_send_32 : decode cX5_send 32 = .ok (.iload_n 1, 1) := by decide +kernel
theorem dX5_send_33 : decode cX5_send 33 = .ok (.baload, 1) := by decide +kernel
theorem dX5_send_34 : decode cX5_send 34 = .ok (.ifCond .ne 10, 3) := by decide +kernel
theorem dX5_send_37 : decode cX5_send 37 = .ok (.aload_n 0, 1) := by decide +kernel
theorem dX5_send_38 : decode cX5_send 38 = .ok (.invokevirtual 119, 3) := by decide +kernel
theorem dX5_send_41 : decode cX5_send 41 = .ok (.ifCond .eq 12, 3) := by decide +kernel
theorem dX5_send_44 : decode cX5_send 44 = .ok (.aload_n 0, 1) := by decide +kernel
theorem dX5_send_45 : decode cX5_send 45 = .ok (.iload_n 1, 1) := by decide +kernel
theorem dX5_send_46 : decode cX5_send 46 = .ok (.iload_n 2, 1) := by decide +kernel
theorem dX5_send_47 : decode cX5_send 47 = .ok (.invokevirtual 179, 3) := by decide +kernel
theorem dX5_send_50 : decode cX5_send 50 = .ok (.goto 5, 3) := by decide +kernel
theorem dX5_send_53 : decode cX5_send 53 = .ok (.bipush (-104), 2) := by decide +kernel
theorem dX5_send_55 : decode cX5_send 55 = .ok (.ireturn, 1) := by decide +kernel
set_option maxRecDepth 20000 in
theorem ggX5_route_X5_isGoal : GoodIn wsX5_route wsX5_isGoal := goodIn_r _ [6, 7, 8, 5, 9] (by decide +kernel) (by decide +kernel)
set_option maxRecDepth 20000 in
theorem gX5_route_X5_isGoal : GoodIn wsX5_route (va_wsS RX5 183 yX5_isGoal wsX5_isGoal) := goodIn_app (goodIn_of _ (by decide +kernel)) ggX5_route_X5_isGoal
set_option maxRecDepth 20000 in
theorem ggX5_route_X5_isLetter : GoodIn wsX5_route wsX5_isLetter := goodIn_r _ [12, 7, 8, 5, 9] (by decide +kernel) (by decide +kernel)
set_option maxRecDepth 20000 in
theorem gX5_route_X5_isLetter : GoodIn wsX5_route (va_wsS RX5 173 yX5_isLetter wsX5_isLetter) := goodIn_app (goodIn_of _ (by decide +kernel)) ggX5_route_X5_isLetter
set_option maxRecDepth 20000 in
theorem ggX5_route_X5_hopNow : GoodIn wsX5_route wsX5_hopNow := goodIn_r _ [16, 17, 18, 19, 20, 21, 5, 22, 23, 24, 25, 26, 27, 28, 29, 30, 31, 32, 33, 34, 35, 36, 37, 38, 39, 40, 41, 42, 43, 44, 45, 46, 47, 48, 49, 1, 50, 51, 52, 53, 54, 2, 108, 109, 110, 111, 112, 113, 114, 115, 116, 117, 118, 119, 120, 121, 122, 123, 124, 125, 126, 127, 128, 129, 130, 131, 132, 133, 134, 135] (by decide +kernel) (by decide +kernel)
set_option maxRecDepth 20000 in
theorem gX5_route_X5_hopNow : GoodIn wsX5_route (wsV RX5 186 RX5 yX5_hopNow wsX5_hopNow) := goodIn_app (goodIn_of _ (by decide +kernel)) ggX5_route_X5_hopNow
set_option maxRecDepth 20000 in
theorem ggX5_route_X5_isRoom : GoodIn wsX5_route wsX5_isRoom := goodIn_r _ [58, 59, 60, 61, 5, 62, 1, 50, 63, 64, 65, 66, 67, 108, 109, 110, 111, 112, 113, 114, 115, 116, 117, 118, 119, 120, 121, 122, 123, 124, 125, 126, 127, 128, 129, 130, 131, 132, 133, 134, 135] (by decide +kernel) (by decide +kernel)
set_option maxRecDepth 20000 in
theorem gX5_route_X5_isRoom : GoodIn wsX5_route (wsV RX5 119 RX5 yX5_isRoom wsX5_isRoom) := goodIn_app (goodIn_of _ (by decide +kernel)) ggX5_route_X5_isRoom
set_option maxRecDepth 20000 in
theorem ggX5_route_X5_isByTurn : GoodIn wsX5_route wsX5_isByTurn := goodIn_r _ [32, 17, 19, 20, 21, 5, 22, 23, 24, 25, 26, 27, 28, 33, 34, 35, 36, 37, 38, 39, 40, 41, 42, 43, 44, 45, 46, 47, 48, 49, 1, 50, 108, 109, 110, 111, 112, 113, 114, 115, 116, 117, 118, 119, 120, 121, 122, 123, 124, 125, 126, 127, 128, 129, 130, 131, 132, 133, 134, 135] (by decide +kernel) (by decide +kernel)
set_option maxRecDepth 20000 in
theorem gX5_route_X5_isByTurn : GoodIn wsX5_route (wsV RX5 145 RX5 yX5_isByTurn wsX5_isByTurn) := goodIn_app (goodIn_of _ (by decide +kernel)) ggX5_route_X5_isByTurn
set_option maxRecDepth 20000 in
theorem ggX5_route_X5_sendNow : GoodIn wsX5_route wsX5_sendNow := goodIn_r _ [71, 1, 67, 72, 50, 73, 74, 75, 76, 5, 77, 78, 59, 60, 61, 62, 63, 64, 65, 66, 79, 80, 81, 82, 83, 84, 85, 86, 87, 88, 17, 18, 23, 89, 90, 91, 92, 93, 94, 95, 96, 97, 98, 99, 100, 101, 102, 103, 104, 105, 106, 107, 108, 109, 110, 111, 112, 113, 114, 115, 116, 117, 118, 119, 120, 121, 122, 123, 124, 125, 126, 127, 128, 129, 130, 131, 132, 133, 134, 135] (by decide +kernel) (by decide +kernel)
set_option maxRecDepth 20000 in
theorem gX5_route_X5_sendNow : GoodIn wsX5_route (wsV RX5 179 RX5 yX5_sendNow wsX5_sendNow) := goodIn_app (goodIn_of _ (by decide +kernel)) ggX5_route_X5_sendNow
theorem dX5_route_0 : decode cX5_route 0 = .ok (.iload_n 1, 1) := by decide +kernel
theorem dX5_route_1 : decode cX5_route 1 = .ok (.invokestatic 183, 3) := by decide +kernel
theorem dX5_route_4 : decode cX5_route 4 = .ok (.ifCond .eq 10, 3) := by decide +kernel
theorem dX5_route_7 : decode cX5_route 7 = .ok (.iload_n 2, 1) := by decide +kernel
theorem dX5_route_8 : decode cX5_route 8 = .ok (.invokestatic 173, 3) := by decide +kernel
theorem dX5_route_11 : decode cX5_route 11 = .ok (.ifCond .ne 6, 3) := by decide +kernel
theorem dX5_route_14 : decode cX5_route 14 = .ok (.bipush (-102), 2) := by decide +kernel
theorem dX5_route_16 : decode cX5_route 16 = .ok (.ireturn, 1) := by decide +kernel
theorem dX5_route_17 : decode cX5_route 17 = .ok (.aload_n 0, 1) := by decide +kernel
theorem dX5_route_18 : decode cX5_route 18 = .ok (.iload_n 1, 1) := by decide +kernel
theorem dX5_route_19 : decode cX5_route 19 = .ok (.invokevirtual 186, 3) := by decide +kernel
theorem dX5_route_22 : decode cX5_route 22 = .ok (.istore_n 3, 1) := by decide +kernel
theorem dX5_route_23 : decode cX5_route 23 = .ok (.iload_n 3, 1) := by decide +kernel
theorem dX5_route_24 : decode cX5_route 24 = .ok (.iconst (-1), 1) := by decide +kernel
theorem dX5_route_25 : decode cX5_route 25 = .ok (.if_icmp .ne 6, 3) := by decide +kernel
theorem dX5_route_28 : decode cX5_route 28 = .ok (.bipush (-103), 2) := by decide +kernel
theorem dX5_route_30 : decode cX5_route 30 = .ok (.ireturn, 1) := by decide +kernel
theorem dX5_route_31 : decode cX5_route 31 = .ok (.aload_n 0, 1) := by decide +kernel
theorem dX5_route_32 : decode cX5_route 32 = .ok (.getfield 7, 3) := by decide +kernel
theorem dX5_route_35 : decode cX5_route 35 = .ok (.iload_n 3, 1) := by decide +kernel
theorem dX5_route_36 : decode cX5_route 36 = .ok (.baload, 1) := by decide +kernel
theorem dX5_route_37 : decode cX5_route 37 = .ok (.ifCond .ne 13, 3) := by decide +kernel
theorem dX5_route_40 : decode cX5_route 40 = .ok (.aload_n 0, 1) := by decide +kernel
theorem dX5_route_41 : decode cX5_route 41 = .ok (.invokevirtual 119, 3) := by decide +kernel
theorem dX5_route_44 : decode cX5_route 44 = .ok (.ifCond .ne 6, 3) := by decide +kernel
theorem dX5_route_47 : decode cX5_route 47 = .ok (.bipush (-104), 2) := by decide +kernel
theorem dX5_route_49 : decode cX5_route 49 = .ok (.ireturn, 1) := by decide +kernel
theorem dX5_route_50 : decode cX5_route 50 = .ok (.aload_n 0, 1) := by decide +kernel
theorem dX5_route_51 : decode cX5_route 51 = .ok (.aload_n 0, 1) := by decide +kernel
theorem dX5_route_52 : decode cX5_route 52 = .ok (.iload_n 1, 1) := by decide +kernel
theorem dX5_route_53 : decode cX5_route 53 = .ok (.invokevirtual 145, 3) := by decide +kernel
theorem dX5_route_56 : decode cX5_route 56 = .ok (.ifCond .eq 7, 3) := by decide +kernel
theorem dX5_route_59 : decode cX5_route 59 = .ok (.iload_n 3, 1) := by decide +kernel
theorem dX5_route_60 : decode cX5_route 60 = .ok (.goto 7, 3) := by decide +kernel
theorem dX5_route_63 : decode cX5_route 63 = .ok (.aload_n 0, 1) := by decide +kernel
theorem dX5_route_64 : decode cX5_route 64 = .ok (.getfield 44, 3) := by decide +kernel
theorem dX5_route_67 : decode cX5_route 67 = .ok (.putfield 44, 3) := by decide +kernel
theorem dX5_route_70 : decode cX5_route 70 = .ok (.aload_n 0, 1) := by decide +kernel
theorem dX5_route_71 : decode cX5_route 71 = .ok (.iload_n 3, 1) := by decide +kernel
theorem dX5_route_72 : decode cX5_route 72 = .ok (.iload_n 2, 1) := by decide +kernel
theorem dX5_route_73 : decode cX5_route 73 = .ok (.invokevirtual 179, 3) := by decide +kernel
theorem dX5_route_76 : decode cX5_route 76 = .ok (.ireturn, 1) := by decide +kernel
set_option maxRecDepth 20000 in
theorem ggX5_hint_X5_isAddress : GoodIn wsX5_hint wsX5_isAddress := goodIn_r _ [6, 7, 8, 5, 9] (by decide +kernel) (by decide +kernel)
set_option maxRecDepth 20000 in
theorem gX5_hint_X5_isAddress : GoodIn wsX5_hint (va_wsS RX5 170 yX5_isAddress wsX5_isAddress) := goodIn_app (goodIn_of _ (by decide +kernel)) ggX5_hint_X5_isAddress
set_option maxRecDepth 20000 in
theorem ggX5_hint_X5_become : GoodIn wsX5_hint wsX5_become := goodIn_r _ [13, 2, 14, 15, 16, 17, 18, 19, 20, 21, 22, 23, 24, 25, 26, 27, 28, 29, 30, 31, 32, 33, 34, 35, 36, 37, 38, 39, 40, 41, 42, 43, 44] (by decide +kernel) (by decide +kernel)
set_option maxRecDepth 20000 in
theorem gX5_hint_X5_become : GoodIn wsX5_hint (wsV RX5 111 RX5 yX5_become wsX5_become) := goodIn_app (goodIn_of _ (by decide +kernel)) ggX5_hint_X5_become
theorem dX5_hint_0 : decode cX5_hint 0 = .ok (.iload_n 1, 1) := by decide +kernel
theorem dX5_hint_1 : decode cX5_hint 1 = .ok (.invokestatic 170, 3) := by decide +kernel
theorem dX5_hint_4 : decode cX5_hint 4 = .ok (.ifCond .ne 6, 3) := by decide +kernel
theorem dX5_hint_7 : decode cX5_hint 7 = .ok (.bipush (-102), 2) := by decide +kernel
theorem dX5_hint_9 : decode cX5_hint 9 = .ok (.ireturn, 1) := by decide +kernel
theorem dX5_hint_10 : decode cX5_hint 10 = .ok (.aload_n 0, 1) := by decide +kernel
theorem dX5_hint_11 : decode cX5_hint 11 = .ok (.getfield 7, 3) := by decide +kernel
theorem dX5_hint_14 : decode cX5_hint 14 = .ok (.iload_n 1, 1) := by decide +kernel
theorem dX5_hint_15 : decode cX5_hint 15 = .ok (.baload, 1) := by decide +kernel
theorem dX5_hint_16 : decode cX5_hint 16 = .ok (.ifCond .ne 5, 3) := by decide +kernel
theorem dX5_hint_19 : decode cX5_hint 19 = .ok (.iconst (-1), 1) := by decide +kernel
theorem dX5_hint_20 : decode cX5_hint 20 = .ok (.ireturn, 1) := by decide +kernel
theorem dX5_hint_21 : decode cX5_hint 21 = .ok (.aload_n 0, 1) := by decide +kernel
theorem dX5_hint_22 : decode cX5_hint 22 = .ok (.getfield 13, 3) := by decide +kernel
theorem dX5_hint_25 : decode cX5_hint 25 = .ok (.iload_n 1, 1) := by decide +kernel
theorem dX5_hint_26 : decode cX5_hint 26 = .ok (.iaload, 1) := by decide +kernel
theorem dX5_hint_27 : decode cX5_hint 27 = .ok (.ifCond .eq 11, 3) := by decide +kernel
theorem dX5_hint_30 : decode cX5_hint 30 = .ok (.aload_n 0, 1) := by decide +kernel
theorem dX5_hint_31 : decode cX5_hint 31 = .ok (.iload_n 1, 1) := by decide +kernel
theorem dX5_hint_32 : decode cX5_hint 32 = .ok (.iconst 1, 1) := by decide +kernel
theorem dX5_hint_33 : decode cX5_hint 33 = .ok (.bipush 30, 2) := by decide +kernel
theorem dX5_hint_35 : decode cX5_hint 35 = .ok (.invokevirtual 111, 3) := by decide +kernel
theorem dX5_hint_38 : decode cX5_hint 38 = .ok (.aload_n 0, 1) := by decide +kernel
theorem dX5_hint_39 : decode cX5_hint 39 = .ok (.getfield 13, 3) := by decide +kernel
theorem dX5_hint_42 : decode cX5_hint 42 = .ok (.iload_n 1, 1) := by decide +kernel
theorem dX5_hint_43 : decode cX5_hint 43 = .ok (.iaload, 1) := by decide +kernel
theorem dX5_hint_44 : decode cX5_hint 44 = .ok (.ireturn, 1) := by decide +kernel
set_option maxRecDepth 20000 in
theorem ggX5_freshen_X5_become : GoodIn wsX5_freshen wsX5_become := goodIn_r _ [6, 7, 8, 9, 10, 11, 12, 13, 14, 15, 16, 17, 18, 19, 20, 21, 22, 23, 24, 25, 26, 27, 28, 29, 30, 31, 32, 33, 34, 35, 36, 37, 38] (by decide +kernel) (by decide +kernel)
set_option maxRecDepth 20000 in
theorem gX5_freshen_X5_become : GoodIn wsX5_freshen (wsV RX5 111 RX5 yX5_become wsX5_become) := goodIn_app (goodIn_of _ (by decide +kernel)) ggX5_freshen_X5_become
theorem dX5_freshen_0 : decode cX5_freshen 0 = .ok (.aload_n 0, 1) := by decide +kernel
theorem dX5_freshen_1 : decode cX5_freshen 1 = .ok (.getfield 17, 3) := by decide +kernel
theorem dX5_freshen_4 : decode cX5_freshen 4 = .ok (.iload_n 1, 1) := by decide +kernel
theorem dX5_freshen_5 : decode cX5_freshen 5 = .ok (.iload_n 2, 1) := by decide +kernel
theorem dX5_freshen_6 : decode cX5_freshen 6 = .ok (.iastore, 1) := by decide +kernel
theorem dX5_freshen_7 : decode cX5_freshen 7 = .ok (.aload_n 0, 1) := by decide +kernel
theorem dX5_freshen_8 : decode cX5_freshen 8 = .ok (.iload_n 1, 1) := by decide +kernel
theorem dX5_freshen_9 : decode cX5_freshen 9 = .ok (.iconst 1, 1) := by decide +kernel
theorem dX5_freshen_10 : decode cX5_freshen 10 = .ok (.bipush 30, 2) := by decide +kernel
theorem dX5_freshen_12 : decode cX5_freshen 12 = .ok (.invokevirtual 111, 3) := by decide +kernel
theorem dX5_freshen_15 : decode cX5_freshen 15 = .ok (.return_, 1) := by decide +kernel
set_option maxRecDepth 20000 in
theorem ggX5_answerAsking_X5_become : GoodIn wsX5_answerAsking wsX5_become := goodIn_r _ [6, 7, 8, 9, 10, 25, 26, 27, 28, 29, 30, 31, 32, 33, 34, 35, 36, 37, 38, 39, 40, 41, 42, 43, 44, 45, 46, 47, 48, 49, 50, 51, 52] (by decide +kernel) (by decide +kernel)
set_option maxRecDepth 20000 in
theorem gX5_answerAsking_X5_become : GoodIn wsX5_answerAsking (wsV RX5 111 RX5 yX5_become wsX5_become) := goodIn_app (goodIn_of _ (by decide +kernel)) ggX5_answerAsking_X5_become
set_option maxRecDepth 20000 in
theorem ggX5_answerAsking_X5_letGo : GoodIn wsX5_answerAsking wsX5_letGo := goodIn_r _ [14, 15, 1, 16, 17, 18, 19, 5, 20, 21, 22, 9, 23, 24, 25, 26, 27, 28, 29, 30, 31, 32, 33, 34, 35, 36, 37, 38, 39, 40, 41, 42, 43, 44, 45, 46, 47, 48, 49, 50, 51, 52] (by decide +kernel) (by decide +kernel)
set_option maxRecDepth 20000 in
theorem gX5_answerAsking_X5_letGo : GoodIn wsX5_answerAsking (wsV RX5 123 RX5 yX5_letGo wsX5_letGo) := goodIn_app (goodIn_of _ (by decide +kernel)) ggX5_answerAsking_X5_letGo
theorem dX5_answerAsking_0 : decode cX5_answerAsking 0 = .ok (.aload_n 0, 1) := by decide +kernel
theorem dX5_answerAsking_1 : decode cX5_answerAsking 1 = .ok (.getfield 17, 3) := by decide +kernel
theorem dX5_answerAsking_4 : decode cX5_answerAsking 4 = .ok (.iload_n 1, 1) := by decide +kernel
theorem dX5_answerAsking_5 : decode cX5_answerAsking 5 = .ok (.iload_n 2, 1) := by decide +kernel
theorem dX5_answerAsking_6 : decode cX5_answerAsking 6 = .ok (.iastore, 1) := by decide +kernel
theorem dX5_answerAsking_7 : decode cX5_answerAsking 7 = .ok (.iload_n 3, 1) := by decide +kernel
theorem dX5_answerAsking_8 : decode cX5_answerAsking 8 = .ok (.ifCond .eq 14, 3) := by decide +kernel
theorem dX5_answerAsking_11 : decode cX5_answerAsking 11 = .ok (.aload_n 0, 1) := by decide +kernel
theorem dX5_answerAsking_12 : decode cX5_answerAsking 12 = .ok (.iload_n 1, 1) := by decide +kernel
theorem dX5_answerAsking_13 : decode cX5_answerAsking 13 = .ok (.iconst 1, 1) := by decide +kernel
theorem dX5_answerAsking_14 : decode cX5_answerAsking 14 = .ok (.bipush 30, 2) := by decide +kernel
theorem dX5_answerAsking_16 : decode cX5_answerAsking 16 = .ok (.invokevirtual 111, 3) := by decide +kernel
theorem dX5_answerAsking_19 : decode cX5_answerAsking 19 = .ok (.goto 10, 3) := by decide +kernel
theorem dX5_answerAsking_22 : decode cX5_answerAsking 22 = .ok (.aload_n 0, 1) := by decide +kernel
theorem dX5_answerAsking_23 : decode cX5_answerAsking 23 = .ok (.iload_n 1, 1) := by decide +kernel
theorem dX5_answerAsking_24 : decode cX5_answerAsking 24 = .ok (.iconst 2, 1) := by decide +kernel
theorem dX5_answerAsking_25 : decode cX5_answerAsking 25 = .ok (.iconst 0, 1) := by decide +kernel
theorem dX5_answerAsking_26 : decode cX5_answerAsking 26 = .ok (.invokevirtual 111, 3) := by decide +kernel
theorem dX5_answerAsking_29 : decode cX5_answerAsking 29 = .ok (.aload_n 0, 1) := by decide +kernel
theorem dX5_answerAsking_30 : decode cX5_answerAsking 30 = .ok (.iload_n 1, 1) := by decide +kernel
theorem dX5_answerAsking_31 : decode cX5_answerAsking 31 = .ok (.invokevirtual 123, 3) := by decide +kernel
theorem dX5_answerAsking_34 : decode cX5_answerAsking 34 = .ok (.return_, 1) := by decide +kernel
set_option maxRecDepth 20000 in
theorem ggX5_answerKnown_X5_become : GoodIn wsX5_answerKnown wsX5_become := goodIn_r _ [7, 2, 8, 9, 10, 15, 16, 17, 18, 19, 20, 21, 22, 23, 24, 25, 26, 27, 28, 29, 30, 31, 32, 33, 34, 35, 36, 37, 38, 39, 40, 41, 42] (by decide +kernel) (by decide +kernel)
set_option maxRecDepth 20000 in
theorem gX5_answerKnown_X5_become : GoodIn wsX5_answerKnown (wsV RX5 111 RX5 yX5_become wsX5_become) := goodIn_app (goodIn_of _ (by decide +kernel)) ggX5_answerKnown_X5_become
set_option maxRecDepth 20000 in
theorem ggX5_answerKnown_X5_freshen : GoodIn wsX5_answerKnown wsX5_freshen := goodIn_r _ [14, 1, 3, 4, 5, 6, 7, 2, 8, 9, 10, 15, 16, 17, 18, 19, 20, 21, 22, 23, 24, 25, 26, 27, 28, 29, 30, 31, 32, 33, 34, 35, 36, 37, 38, 39, 40, 41, 42] (by decide +kernel) (by decide +kernel)
set_option maxRecDepth 20000 in
theorem gX5_answerKnown_X5_freshen : GoodIn wsX5_answerKnown (wsV RX5 189 RX5 yX5_freshen wsX5_freshen) := goodIn_app (goodIn_of _ (by decide +kernel)) ggX5_answerKnown_X5_freshen
theorem dX5_answerKnown_0 : decode cX5_answerKnown 0 = .ok (.aload_n 0, 1) := by decide +kernel
theorem dX5_answerKnown_1 : decode cX5_answerKnown 1 = .ok (.getfield 17, 3) := by decide +kernel
theorem dX5_answerKnown_4 : decode cX5_answerKnown 4 = .ok (.iload_n 1, 1) := by decide +kernel
theorem dX5_answerKnown_5 : decode cX5_answerKnown 5 = .ok (.iaload, 1) := by decide +kernel
theorem dX5_answerKnown_6 : decode cX5_answerKnown 6 = .ok (.iload_n 2, 1) := by decide +kernel
theorem dX5_answerKnown_7 : decode cX5_answerKnown 7 = .ok (.if_icmp .eq 7, 3) := by decide +kernel
theorem dX5_answerKnown_10 : decode cX5_answerKnown 10 = .ok (.iconst 1, 1) := by decide +kernel
theorem dX5_answerKnown_11 : decode cX5_answerKnown 11 = .ok (.goto 4, 3) := by decide +kernel
theorem dX5_answerKnown_14 : decode cX5_answerKnown 14 = .ok (.iconst 0, 1) := by decide +kernel
theorem dX5_answerKnown_15 : decode cX5_answerKnown 15 = .ok (.istore 5, 2) := by decide +kernel
theorem dX5_answerKnown_17 : decode cX5_answerKnown 17 = .ok (.iload 5, 2) := by decide +kernel
theorem dX5_answerKnown_19 : decode cX5_answerKnown 19 = .ok (.ifCond .eq 26, 3) := by decide +kernel
theorem dX5_answerKnown_22 : decode cX5_answerKnown 22 = .ok (.iload 4, 2) := by decide +kernel
theorem dX5_answerKnown_24 : decode cX5_answerKnown 24 = .ok (.ifCond .ne 21, 3) := by decide +kernel
theorem dX5_answerKnown_27 : decode cX5_answerKnown 27 = .ok (.aload_n 0, 1) := by decide +kernel
theorem dX5_answerKnown_28 : decode cX5_answerKnown 28 = .ok (.getfield 13, 3) := by decide +kernel
theorem dX5_answerKnown_31 : decode cX5_answerKnown 31 = .ok (.iload_n 1, 1) := by decide +kernel
theorem dX5_answerKnown_32 : decode cX5_answerKnown 32 = .ok (.iaload, 1) := by decide +kernel
theorem dX5_answerKnown_33 : decode cX5_answerKnown 33 = .ok (.iconst 1, 1) := by decide +kernel
theorem dX5_answerKnown_34 : decode cX5_answerKnown 34 = .ok (.if_icmp .ne 10, 3) := by decide +kernel
theorem dX5_answerKnown_37 : decode cX5_answerKnown 37 = .ok (.aload_n 0, 1) := by decide +kernel
theorem dX5_answerKnown_38 : decode cX5_answerKnown 38 = .ok (.iload_n 1, 1) := by decide +kernel
theorem dX5_answerKnown_39 : decode cX5_answerKnown 39 = .ok (.iconst 2, 1) := by decide +kernel
theorem dX5_answerKnown_40 : decode cX5_answerKnown 40 = .ok (.iconst 0, 1) := by decide +kernel
theorem dX5_answerKnown_41 : decode cX5_answerKnown 41 = .ok (.invokevirtual 111, 3) := by decide +kernel
theorem dX5_answerKnown_44 : decode cX5_answerKnown 44 = .ok (.return_, 1) := by decide +kernel
theorem dX5_answerKnown_45 : decode cX5_answerKnown 45 = .ok (.iload_n 3, 1) := by decide +kernel
theorem dX5_answerKnown_46 : decode cX5_answerKnown 46 = .ok (.ifCond .eq 12, 3) := by decide +kernel
theorem dX5_answerKnown_49 : decode cX5_answerKnown 49 = .ok (.aload_n 0, 1) := by decide +kernel
theorem dX5_answerKnown_50 : decode cX5_answerKnown 50 = .ok (.iload_n 1, 1) := by decide +kernel
theorem dX5_answerKnown_51 : decode cX5_answerKnown 51 = .ok (.iload_n 2, 1) := by decide +kernel
theorem dX5_answerKnown_52 : decode cX5_answerKnown 52 = .ok (.invokevirtual 189, 3) := by decide +kernel
theorem dX5_answerKnown_55 : decode cX5_answerKnown 55 = .ok (.goto 22, 3) := by decide +kernel
theorem dX5_answerKnown_58 : decode cX5_answerKnown 58 = .ok (.iload 5, 2) := by decide +kernel
theorem dX5_answerKnown_60 : decode cX5_answerKnown 60 = .ok (.ifCond .eq 17, 3) := by decide +kernel
theorem dX5_answerKnown_63 : decode cX5_answerKnown 63 = .ok (.aload_n 0, 1) := by decide +kernel
theorem dX5_answerKnown_64 : decode cX5_answerKnown 64 = .ok (.getfield 17, 3) := by decide +kernel
theorem dX5_answerKnown_67 : decode cX5_answerKnown 67 = .ok (.iload_n 1, 1) := by decide +kernel
theorem dX5_answerKnown_68 : decode cX5_answerKnown 68 = .ok (.iload_n 2, 1) := by decide +kernel
theorem dX5_answerKnown_69 : decode cX5_answerKnown 69 = .ok (.iastore, 1) := by decide +kernel
theorem dX5_answerKnown_70 : decode cX5_answerKnown 70 = .ok (.aload_n 0, 1) := by decide +kernel
theorem dX5_answerKnown_71 : decode cX5_answerKnown 71 = .ok (.iload_n 1, 1) := by decide +kernel
theorem dX5_answerKnown_72 : decode cX5_answerKnown 72 = .ok (.iconst 2, 1) := by decide +kernel
theorem dX5_answerKnown_73 : decode cX5_answerKnown 73 = .ok (.iconst 0, 1) := by decide +kernel
theorem dX5_answerKnown_74 : decode cX5_answerKnown 74 = .ok (.invokevirtual 111, 3) := by decide +kernel
theorem dX5_answerKnown_77 : decode cX5_answerKnown 77 = .ok (.return_, 1) := by decide +kernel
set_option maxRecDepth 20000 in
theorem ggX5_answered_X5_isAddress : GoodIn wsX5_answered wsX5_isAddress := goodIn_r _ [9, 10, 11, 8, 12] (by decide +kernel) (by decide +kernel)
set_option maxRecDepth 20000 in
theorem gX5_answered_X5_isAddress : GoodIn wsX5_answered (va_wsS RX5 170 yX5_isAddress wsX5_isAddress) := goodIn_app (goodIn_of _ (by decide +kernel)) ggX5_answered_X5_isAddress
set_option maxRecDepth 20000 in
theorem ggX5_answered_X5_isMark : GoodIn wsX5_answered wsX5_isMark := goodIn_r _ [15, 10, 11, 8, 12] (by decide +kernel) (by decide +kernel)
set_option maxRecDepth 20000 in
theorem gX5_answered_X5_isMark : GoodIn wsX5_answered (va_wsS RX5 192 yX5_isMark wsX5_isMark) := goodIn_app (goodIn_of _ (by decide +kernel)) ggX5_answered_X5_isMark
set_option maxRecDepth 20000 in
theorem ggX5_answered_X5_answerAsking : GoodIn wsX5_answered wsX5_answerAsking := goodIn_r _ [19, 20, 21, 22, 23, 8, 24, 4, 25, 26, 27, 28, 29, 30, 31, 32, 33, 34, 35, 36, 37, 38, 39, 40, 41, 50, 51, 52, 53, 54, 55, 56, 57, 58, 59, 60, 61, 62, 63, 64, 65, 66, 67, 68, 69, 70, 71, 72, 73, 74, 75, 76, 77] (by decide +kernel) (by decide +kernel)
set_option maxRecDepth 20000 in
theorem gX5_answered_X5_answerAsking : GoodIn wsX5_answered (wsV RX5 198 RX5 yX5_answerAsking wsX5_answerAsking) := goodIn_app (goodIn_of _ (by decide +kernel)) ggX5_answered_X5_answerAsking
set_option maxRecDepth 20000 in
theorem ggX5_answered_X5_answerKnown : GoodIn wsX5_answered wsX5_answerKnown := goodIn_r _ [45, 20, 4, 21, 22, 23, 8, 24, 25, 26, 27, 46, 47, 48, 49, 50, 51, 52, 53, 54, 55, 56, 57, 58, 59, 60, 61, 62, 63, 64, 65, 66, 67, 68, 69, 70, 71, 72, 73, 74, 75, 76, 77] (by decide +kernel) (by decide +kernel)
set_option maxRecDepth 20000 in
theorem gX5_answered_X5_answerKnown : GoodIn wsX5_answered (wsV RX5 202 RX5 yX5_answerKnown wsX5_answerKnown) := goodIn_app (goodIn_of _ (by decide +kernel)) ggX5_answered_X5_answerKnown
theorem dX5_answered_0 : decode cX5_answered 0 = .ok (.iload_n 1, 1) := by decide +kernel
theorem dX5_answered_1 : decode cX5_answered 1 = .ok (.invokestatic 170, 3) := by decide +kernel
theorem dX5_answered_4 : decode cX5_answered 4 = .ok (.ifCond .eq 10, 3) := by decide +kernel
theorem dX5_answered_7 : decode cX5_answered 7 = .ok (.iload_n 2, 1) := by decide +kernel
theorem dX5_answered_8 : decode cX5_answered 8 = .ok (.invokestatic 192, 3) := by decide +kernel
theorem dX5_answered_11 : decode cX5_answered 11 = .ok (.ifCond .ne 6, 3) := by decide +kernel
theorem dX5_answered_14 : decode cX5_answered 14 = .ok (.bipush (-102), 2) := by decide +kernel
theorem dX5_answered_16 : decode cX5_answered 16 = .ok (.ireturn, 1) := by decide +kernel
theorem dX5_answered_17 : decode cX5_answered 17 = .ok (.iload_n 1, 1) := by decide +kernel
theorem dX5_answered_18 : decode cX5_answered 18 = .ok (.aload_n 0, 1) := by decide +kernel
theorem dX5_answered_19 : decode cX5_answered 19 = .ok (.getfield 57, 3) := by decide +kernel
theorem dX5_answered_22 : decode cX5_answered 22 = .ok (.if_icmp .ne 20, 3) := by decide +kernel
theorem dX5_answered_25 : decode cX5_answered 25 = .ok (.aload_n 0, 1) := by decide +kernel
theorem dX5_answered_26 : decode cX5_answered 26 = .ok (.dup, 1) := by decide +kernel
theorem dX5_answered_27 : decode cX5_answered 27 = .ok (.getfield 195, 3) := by decide +kernel
theorem dX5_answered_30 : decode cX5_answered 30 = .ok (.iconst 1, 1) := by decide +kernel
theorem dX5_answered_31 : decode cX5_answered 31 = .ok (.iload_n 1, 1) := by decide +kernel
theorem dX5_answered_32 : decode cX5_answered 32 = .ok (.ishl, 1) := by decide +kernel
theorem dX5_answered_33 : decode cX5_answered 33 = .ok (.ior, 1) := by decide +kernel
theorem dX5_answered_34 : decode cX5_answered 34 = .ok (.putfield 195, 3) := by decide +kernel
theorem dX5_answered_37 : decode cX5_answered 37 = .ok (.aload_n 0, 1) := by decide +kernel
theorem dX5_answered_38 : decode cX5_answered 38 = .ok (.iconst (-1), 1) := by decide +kernel
theorem dX5_answered_39 : decode cX5_answered 39 = .ok (.putfield 57, 3) := by decide +kernel
theorem dX5_answered_42 : decode cX5_answered 42 = .ok (.aload_n 0, 1) := by decide +kernel
theorem dX5_answered_43 : decode cX5_answered 43 = .ok (.getfield 7, 3) := by decide +kernel
theorem dX5_answered_46 : decode cX5_answered 46 = .ok (.iload_n 1, 1) := by decide +kernel
theorem dX5_answered_47 : decode cX5_answered 47 = .ok (.baload, 1) := by decide +kernel
theorem dX5_answered_48 : decode cX5_answered 48 = .ok (.ifCond .ne 5, 3) := by decide +kernel
theorem dX5_answered_51 : decode cX5_answered 51 = .ok (.iconst (-1), 1) := by decide +kernel
theorem dX5_answered_52 : decode cX5_answered 52 = .ok (.ireturn, 1) := by decide +kernel
theorem dX5_answered_53 : decode cX5_answered 53 = .ok (.aload_n 0, 1) := by decide +kernel
theorem dX5_answered_54 : decode cX5_answered 54 = .ok (.getfield 13, 3) := by decide +kernel
theorem dX5_answered_57 : decode cX5_answered 57 = .ok (.iload_n 1, 1) := by decide +kernel
theorem dX5_answered_58 : decode cX5_answered 58 = .ok (.iaload, 1) := by decide +kernel
theorem dX5_answered_59 : decode cX5_answered 59 = .ok (.ifCond .ne 13, 3) := by decide +kernel
theorem dX5_answered_62 : decode cX5_answered 62 = .ok (.aload_n 0, 1) := by decide +kernel
theorem dX5_answered_63 : decode cX5_answered 63 = .ok (.iload_n 1, 1) := by decide +kernel
theorem dX5_answered_64 : decode cX5_answered 64 = .ok (.iload_n 2, 1) := by decide +kernel
theorem dX5_answered_65 : decode cX5_answered 65 = .ok (.iload_n 3, 1) := by decide +kernel
theorem dX5_answered_66 : decode cX5_answered 66 = .ok (.invokevirtual 198, 3) := by decide +kernel
theorem dX5_answered_69 : decode cX5_answered 69 = .ok (.goto 12, 3) := by decide +kernel
theorem dX5_answered_72 : decode cX5_answered 72 = .ok (.aload_n 0, 1) := by decide +kernel
theorem dX5_answered_73 : decode cX5_answered 73 = .ok (.iload_n 1, 1) := by decide +kernel
theorem dX5_answered_74 : decode cX5_answered 74 = .ok (.iload_n 2, 1) := by decide +kernel
theorem dX5_answered_75 : decode cX5_answered 75 = .ok (.iload_n 3, 1) := by decide +kernel
theorem dX5_answered_76 : decode cX5_answered 76 = .ok (.iload 4, 2) := by decide +kernel
theorem dX5_answered_78 : decode cX5_answered 78 = .ok (.invokevirtual 202, 3) := by decide +kernel
theorem dX5_answered_81 : decode cX5_answered 81 = .ok (.aload_n 0, 1) := by decide +kernel
theorem dX5_answered_82 : decode cX5_answered 82 = .ok (.getfield 35, 3) := by decide +kernel
theorem dX5_answered_85 : decode cX5_answered 85 = .ok (.iload_n 1, 1) := by decide +kernel
theorem dX5_answered_86 : decode cX5_answered 86 = .ok (.aload_n 0, 1) := by decide +kernel
theorem dX5_answered_87 : decode cX5_answered 87 = .ok (.getfield 35, 3) := by decide +kernel
theorem dX5_answered_90 : decode cX5_answered 90 = .ok (.iload_n 1, 1) := by decide +kernel
theorem dX5_answered_91 : decode cX5_answered 91 = .ok (.baload, 1) := by decide +kernel
theorem dX5_answered_92 : decode cX5_answered 92 = .ok (.ifCond .eq 12, 3) := by decide +kernel
theorem dX5_answered_95 : decode cX5_answered 95 = .ok (.iload 5, 2) := by decide +kernel
theorem dX5_answered_97 : decode cX5_answered 97 = .ok (.ifCond .eq 7, 3) := by decide +kernel
theorem dX5_answered_100 : decode cX5_answered 100 = .ok (.iconst 1, 1) := by decide +kernel
theorem dX5_answered_101 : decode cX5_answered 101 = .ok (.goto 4, 3) := by decide +kernel
theorem dX5_answered_104 : decode cX5_answered 104 = .ok (.iconst 0, 1) := by decide +kernel
theorem dX5_answered_105 : decode cX5_answered 105 = .ok (.bastore, 1) := by decide +kernel
theorem dX5_answered_106 : decode cX5_answered 106 = .ok (.aload_n 0, 1) := by decide +kernel
theorem dX5_answered_107 : decode cX5_answered 107 = .ok (.getfield 13, 3) := by decide +kernel
theorem dX5_answered_110 : decode cX5_answered 110 = .ok (.iload_n 1, 1) := by decide +kernel
theorem dX5_answered_111 : decode cX5_answered 111 = .ok (.iaload, 1) := by decide +kernel
theorem dX5_answered_112 : decode cX5_answered 112 = .ok (.ireturn, 1) := by decide +kernel
set_option maxRecDepth 20000 in
theorem ggX5_asksOwn_X5_hear : GoodIn wsX5_asksOwn wsX5_hear := goodIn_r _ [5, 6, 7, 8, 9, 10, 11, 4, 12, 13, 14, 15, 16, 17, 18, 19, 20, 21, 22, 23, 24, 25, 26, 27, 28, 29, 30, 31, 32, 33, 34, 35, 36, 37, 38, 39, 40, 41, 42, 43, 44, 45, 46, 47, 48, 49, 50, 51, 52, 53, 54, 55, 56, 57, 58, 59, 60, 61, 62, 63, 64, 65, 66, 67, 68, 69, 70, 71, 72, 73, 74, 75, 76, 77, 78, 79, 80, 81, 82, 83, 84, 85, 86, 87] (by decide +kernel) (by decide +kernel)
set_option maxRecDepth 20000 in
theorem gX5_asksOwn_X5_hear : GoodIn wsX5_asksOwn (wsV RX5 206 RX5 yX5_hear wsX5_hear) := goodIn_app (goodIn_of _ (by decide +kernel)) ggX5_asksOwn_X5_hear
set_option maxRecDepth 20000 in
theorem ggX5_asksOwn_X5_goOut : GoodIn wsX5_asksOwn wsX5_goOut := goodIn_r _ [55, 56, 57, 26, 58, 59, 60, 61, 62, 63, 64, 65, 66, 67, 68, 69, 70, 71, 72, 73, 74, 75, 76, 77, 78, 79, 80, 81, 82, 83, 84, 85, 86, 87] (by decide +kernel) (by decide +kernel)
set_option maxRecDepth 20000 in
theorem gX5_asksOwn_X5_goOut : GoodIn wsX5_asksOwn (wsV RX5 63 RX5 yX5_goOut wsX5_goOut) := goodIn_app (goodIn_of _ (by decide +kernel)) ggX5_asksOwn_X5_goOut
theorem dX5_asksOwn_0 : decode cX5_asksOwn 0 = .ok (.iload_n 1, 1) := by decide +kernel
theorem dX5_asksOwn_1 : decode cX5_asksOwn 1 = .ok (.iconst (-1), 1) := by decide +kernel
theorem dX5_asksOwn_2 : decode cX5_asksOwn 2 = .ok (.if_icmp .eq 9, 3) := by decide +kernel
theorem dX5_asksOwn_5 : decode cX5_asksOwn 5 = .ok (.aload_n 0, 1) := by decide +kernel
theorem dX5_asksOwn_6 : decode cX5_asksOwn 6 = .ok (.iload_n 1, 1) := by decide +kernel
theorem dX5_asksOwn_7 : decode cX5_asksOwn 7 = .ok (.iload_n 2, 1) := by decide +kernel
theorem dX5_asksOwn_8 : decode cX5_asksOwn 8 = .ok (.invokevirtual 206, 3) := by decide +kernel
theorem dX5_asksOwn_11 : decode cX5_asksOwn 11 = .ok (.aload_n 0, 1) := by decide +kernel
theorem dX5_asksOwn_12 : decode cX5_asksOwn 12 = .ok (.iconst 3, 1) := by decide +kernel
theorem dX5_asksOwn_13 : decode cX5_asksOwn 13 = .ok (.iload_n 1, 1) := by decide +kernel
theorem dX5_asksOwn_14 : decode cX5_asksOwn 14 = .ok (.iload_n 1, 1) := by decide +kernel
theorem dX5_asksOwn_15 : decode cX5_asksOwn 15 = .ok (.iconst (-1), 1) := by decide +kernel
theorem dX5_asksOwn_16 : decode cX5_asksOwn 16 = .ok (.if_icmp .ne 7, 3) := by decide +kernel
theorem dX5_asksOwn_19 : decode cX5_asksOwn 19 = .ok (.iconst 0, 1) := by decide +kernel
theorem dX5_asksOwn_20 : decode cX5_asksOwn 20 = .ok (.goto 4, 3) := by decide +kernel
theorem dX5_asksOwn_23 : decode cX5_asksOwn 23 = .ok (.iload_n 2, 1) := by decide +kernel
theorem dX5_asksOwn_24 : decode cX5_asksOwn 24 = .ok (.iconst 0, 1) := by decide +kernel
theorem dX5_asksOwn_25 : decode cX5_asksOwn 25 = .ok (.invokevirtual 63, 3) := by decide +kernel
theorem dX5_asksOwn_28 : decode cX5_asksOwn 28 = .ok (.iconst 1, 1) := by decide +kernel
theorem dX5_asksOwn_29 : decode cX5_asksOwn 29 = .ok (.ireturn, 1) := by decide +kernel
set_option maxRecDepth 20000 in
theorem ggX5_asks_X5_within : GoodIn wsX5_asks wsX5_within := goodIn_r _ [7] (by decide +kernel) (by decide +kernel)
set_option maxRecDepth 20000 in
theorem gX5_asks_X5_within : GoodIn wsX5_asks (va_wsS RX5 67 yX5_within wsX5_within) := goodIn_app (goodIn_of _ (by decide +kernel)) ggX5_asks_X5_within
set_option maxRecDepth 20000 in
theorem ggX5_asks_X5_isMark : GoodIn wsX5_asks wsX5_isMark := goodIn_r _ [10, 4, 5, 6, 7] (by decide +kernel) (by decide +kernel)
set_option maxRecDepth 20000 in
theorem gX5_asks_X5_isMark : GoodIn wsX5_asks (va_wsS RX5 192 yX5_isMark wsX5_isMark) := goodIn_app (goodIn_of _ (by decide +kernel)) ggX5_asks_X5_isMark
set_option maxRecDepth 20000 in
theorem ggX5_asks_X5_isAddress : GoodIn wsX5_asks wsX5_isAddress := goodIn_r _ [13, 4, 5, 6, 7] (by decide +kernel) (by decide +kernel)
set_option maxRecDepth 20000 in
theorem gX5_asks_X5_isAddress : GoodIn wsX5_asks (va_wsS RX5 170 yX5_isAddress wsX5_isAddress) := goodIn_app (goodIn_of _ (by decide +kernel)) ggX5_asks_X5_isAddress
set_option maxRecDepth 20000 in
theorem ggX5_asks_X5_isOurs : GoodIn wsX5_asks wsX5_isOurs := goodIn_r _ [17, 1, 2, 80, 81, 82, 83, 84, 85, 86, 87, 88, 89, 90, 91, 92, 93, 94, 95, 96, 97, 98, 99, 100, 101, 102, 103, 104, 105, 106, 107] (by decide +kernel) (by decide +kernel)
set_option maxRecDepth 20000 in
theorem gX5_asks_X5_isOurs : GoodIn wsX5_asks (wsV RX5 176 RX5 yX5_isOurs wsX5_isOurs) := goodIn_app (goodIn_of _ (by decide +kernel)) ggX5_asks_X5_isOurs
set_option maxRecDepth 20000 in
theorem ggX5_asks_X5_asksOwn : GoodIn wsX5_asks wsX5_asksOwn := goodIn_r _ [21, 22, 23, 24, 6, 25, 26, 27, 28, 29, 30, 31, 32, 33, 34, 35, 36, 37, 38, 39, 40, 41, 42, 43, 44, 45, 46, 47, 48, 49, 50, 51, 52, 53, 54, 55, 56, 57, 58, 59, 60, 61, 62, 63, 64, 65, 66, 67, 68, 69, 70, 71, 72, 73, 74, 75, 76, 77, 78, 79, 80, 81, 82, 83, 84, 85, 86, 87, 88, 89, 90, 91, 92, 93, 94, 95, 96, 97, 98, 99, 100, 101, 102, 103, 104, 105, 106, 107] (by decide +kernel) (by decide +kernel)
set_option maxRecDepth 20000 in
theorem gX5_asks_X5_asksOwn : GoodIn wsX5_asks (wsV RX5 209 RX5 yX5_asksOwn wsX5_asksOwn) := goodIn_app (goodIn_of _ (by decide +kernel)) ggX5_asks_X5_asksOwn
theorem dX5_asks_0 : decode cX5_asks 0 = .ok (.iload_n 1, 1) := by decide +kernel
theorem dX5_asks_1 : decode cX5_asks 1 = .ok (.iconst (-1), 1) := by decide +kernel
theorem dX5_asks_2 : decode cX5_asks 2 = .ok (.bipush 15, 2) := by decide +kernel
theorem dX5_asks_4 : decode cX5_asks 4 = .ok (.invokestatic 67, 3) := by decide +kernel
theorem dX5_asks_7 : decode cX5_asks 7 = .ok (.ifCond .eq 17, 3) := by decide +kernel
theorem dX5_asks_10 : decode cX5_asks 10 = .ok (.iload_n 2, 1) := by decide +kernel
theorem dX5_asks_11 : decode cX5_asks 11 = .ok (.invokestatic 192, 3) := by decide +kernel
theorem dX5_asks_14 : decode cX5_asks 14 = .ok (.ifCond .eq 10, 3) := by decide +kernel
theorem dX5_asks_17 : decode cX5_asks 17 = .ok (.iload_n 3, 1) := by decide +kernel
theorem dX5_asks_18 : decode cX5_asks 18 = .ok (.invokestatic 170, 3) := by decide +kernel
theorem dX5_asks_21 : decode cX5_asks 21 = .ok (.ifCond .ne 6, 3) := by decide +kernel
theorem dX5_asks_24 : decode cX5_asks 24 = .ok (.bipush (-102), 2) := by decide +kernel
theorem dX5_asks_26 : decode cX5_asks 26 = .ok (.ireturn, 1) := by decide +kernel
theorem dX5_asks_27 : decode cX5_asks 27 = .ok (.aload_n 0, 1) := by decide +kernel
theorem dX5_asks_28 : decode cX5_asks 28 = .ok (.iload_n 1, 1) := by decide +kernel
theorem dX5_asks_29 : decode cX5_asks 29 = .ok (.invokevirtual 176, 3) := by decide +kernel
theorem dX5_asks_32 : decode cX5_asks 32 = .ok (.ifCond .eq 6, 3) := by decide +kernel
theorem dX5_asks_35 : decode cX5_asks 35 = .ok (.bipush (-103), 2) := by decide +kernel
theorem dX5_asks_37 : decode cX5_asks 37 = .ok (.ireturn, 1) := by decide +kernel
theorem dX5_asks_38 : decode cX5_asks 38 = .ok (.iload_n 3, 1) := by decide +kernel
theorem dX5_asks_39 : decode cX5_asks 39 = .ok (.aload_n 0, 1) := by decide +kernel
theorem dX5_asks_40 : decode cX5_asks 40 = .ok (.getfield 54, 3) := by decide +kernel
theorem dX5_asks_43 : decode cX5_asks 43 = .ok (.if_icmp .ne 10, 3) := by decide +kernel
theorem dX5_asks_46 : decode cX5_asks 46 = .ok (.aload_n 0, 1) := by decide +kernel
theorem dX5_asks_47 : decode cX5_asks 47 = .ok (.iload_n 1, 1) := by decide +kernel
theorem dX5_asks_48 : decode cX5_asks 48 = .ok (.iload_n 2, 1) := by decide +kernel
theorem dX5_asks_49 : decode cX5_asks 49 = .ok (.invokevirtual 209, 3) := by decide +kernel
theorem dX5_asks_52 : decode cX5_asks 52 = .ok (.ireturn, 1) := by decide +kernel
theorem dX5_asks_53 : decode cX5_asks 53 = .ok (.iload_n 3, 1) := by decide +kernel
theorem dX5_asks_54 : decode cX5_asks 54 = .ok (.aload_n 0, 1) := by decide +kernel
theorem dX5_asks_55 : decode cX5_asks 55 = .ok (.getfield 57, 3) := by decide +kernel
theorem dX5_asks_58 : decode cX5_asks 58 = .ok (.if_icmp .ne 27, 3) := by decide +kernel
theorem dX5_asks_61 : decode cX5_asks 61 = .ok (.iload_n 1, 1) := by decide +kernel
theorem dX5_asks_62 : decode cX5_asks 62 = .ok (.iconst (-1), 1) := by decide +kernel
theorem dX5_asks_63 : decode cX5_asks 63 = .ok (.if_icmp .ne 22, 3) := by decide +kernel
theorem dX5_asks_66 : decode cX5_asks 66 = .ok (.aload_n 0, 1) := by decide +kernel
theorem dX5_asks_67 : decode cX5_asks 67 = .ok (.dup, 1) := by decide +kernel
theorem dX5_asks_68 : decode cX5_asks 68 = .ok (.getfield 195, 3) := by decide +kernel
theorem dX5_asks_71 : decode cX5_asks 71 = .ok (.iconst 1, 1) := by decide +kernel
theorem dX5_asks_72 : decode cX5_asks 72 = .ok (.iload_n 3, 1) := by decide +kernel
theorem dX5_asks_73 : decode cX5_asks 73 = .ok (.ishl, 1) := by decide +kernel
theorem dX5_asks_74 : decode cX5_asks 74 = .ok (.ior, 1) := by decide +kernel
theorem dX5_asks_75 : decode cX5_asks 75 = .ok (.putfield 195, 3) := by decide +kernel
theorem dX5_asks_78 : decode cX5_asks 78 = .ok (.aload_n 0, 1) := by decide +kernel
theorem dX5_asks_79 : decode cX5_asks 79 = .ok (.iconst (-1), 1) := by decide +kernel
theorem dX5_asks_80 : decode cX5_asks 80 = .ok (.putfield 57, 3) := by decide +kernel
theorem dX5_asks_83 : decode cX5_asks 83 = .ok (.iconst 2, 1) := by decide +kernel
theorem dX5_asks_84 : decode cX5_asks 84 = .ok (.ireturn, 1) := by decide +kernel
theorem dX5_asks_85 : decode cX5_asks 85 = .ok (.iconst 0, 1) := by decide +kernel
theorem dX5_asks_86 : decode cX5_asks 86 = .ok (.ireturn, 1) := by decide +kernel
set_option maxRecDepth 20000 in
theorem ggX5_told_X5_isAddress : GoodIn wsX5_told wsX5_isAddress := goodIn_r _ [9, 10, 11, 8, 12] (by decide +kernel) (by decide +kernel)
set_option maxRecDepth 20000 in
theorem gX5_told_X5_isAddress : GoodIn wsX5_told (va_wsS RX5 170 yX5_isAddress wsX5_isAddress) := goodIn_app (goodIn_of _ (by decide +kernel)) ggX5_told_X5_isAddress
set_option maxRecDepth 20000 in
theorem ggX5_told_X5_isMark : GoodIn wsX5_told wsX5_isMark := goodIn_r _ [15, 10, 11, 8, 12] (by decide +kernel) (by decide +kernel)
set_option maxRecDepth 20000 in
theorem gX5_told_X5_isMark : GoodIn wsX5_told (va_wsS RX5 192 yX5_isMark wsX5_isMark) := goodIn_app (goodIn_of _ (by decide +kernel)) ggX5_told_X5_isMark
set_option maxRecDepth 20000 in
theorem ggX5_told_X5_within : GoodIn wsX5_told wsX5_within := goodIn_r _ [12] (by decide +kernel) (by decide +kernel)
set_option maxRecDepth 20000 in
theorem gX5_told_X5_within : GoodIn wsX5_told (va_wsS RX5 67 yX5_within wsX5_within) := goodIn_app (goodIn_of _ (by decide +kernel)) ggX5_told_X5_within
set_option maxRecDepth 20000 in
theorem ggX5_told_X5_isOurs : GoodIn wsX5_told wsX5_isOurs := goodIn_r _ [19, 20, 21, 83, 84, 85, 86, 87, 88, 89, 90, 91, 92, 93, 94, 95, 96, 97, 98, 99, 100, 101, 102, 103, 104, 105, 106, 107, 108, 109, 110] (by decide +kernel) (by decide +kernel)
set_option maxRecDepth 20000 in
theorem gX5_told_X5_isOurs : GoodIn wsX5_told (wsV RX5 176 RX5 yX5_isOurs wsX5_isOurs) := goodIn_app (goodIn_of _ (by decide +kernel)) ggX5_told_X5_isOurs
set_option maxRecDepth 20000 in
theorem ggX5_told_X5_routers : GoodIn wsX5_told wsX5_routers := goodIn_r _ [25, 1, 83, 84, 85, 86, 87, 88, 89, 90, 91, 92, 93, 94, 95, 96, 97, 98, 99, 100, 101, 102, 103, 104, 105, 106, 107, 108, 109, 110] (by decide +kernel) (by decide +kernel)
set_option maxRecDepth 20000 in
theorem gX5_told_X5_routers : GoodIn wsX5_told (wsV RX5 139 RX5 yX5_routers wsX5_routers) := goodIn_app (goodIn_of _ (by decide +kernel)) ggX5_told_X5_routers
set_option maxRecDepth 20000 in
theorem ggX5_told_X5_hear : GoodIn wsX5_told wsX5_hear := goodIn_r _ [29, 30, 31, 32, 33, 34, 35, 8, 36, 37, 38, 39, 40, 41, 42, 43, 44, 45, 46, 47, 48, 49, 5, 50, 51, 52, 53, 54, 55, 56, 57, 58, 59, 60, 61, 62, 63, 64, 65, 66, 67, 68, 69, 70, 71, 72, 73, 74, 75, 76, 77, 78, 79, 80, 81, 82, 83, 84, 85, 86, 87, 88, 89, 90, 91, 92, 93, 94, 95, 96, 97, 98, 99, 100, 101, 102, 103, 104, 105, 106, 107, 108, 109, 110] (by decide +kernel) (by decide +kernel)
set_option maxRecDepth 20000 in
theorem gX5_told_X5_hear : GoodIn wsX5_told (wsV RX5 206 RX5 yX5_hear wsX5_hear) := goodIn_app (goodIn_of _ (by decide +kernel)) ggX5_told_X5_hear
theorem dX5_told_0 : decode cX5_told 0 = .ok (.iload_n 1, 1) := by decide +kernel
theorem dX5_told_1 : decode cX5_told 1 = .ok (.invokestatic 170, 3) := by decide +kernel
theorem dX5_told_4 : decode cX5_told 4 = .ok (.ifCond .eq 31, 3) := by decide +kernel
theorem dX5_told_7 : decode cX5_told 7 = .ok (.iload_n 2, 1) := by decide +kernel
theorem dX5_told_8 : decode cX5_told 8 = .ok (.invokestatic 192, 3) := by decide +kernel
theorem dX5_told_11 : decode cX5_told 11 = .ok (.ifCond .eq 24, 3) := by decide +kernel
theorem dX5_told_14 : decode cX5_told 14 = .ok (.iload_n 3, 1) := by decide +kernel
theorem dX5_told_15 : decode cX5_told 15 = .ok (.iconst 0, 1) := by decide +kernel
theorem dX5_told_16 : decode cX5_told 16 = .ok (.sipush 200, 3) := by decide +kernel
theorem dX5_told_19 : decode cX5_told 19 = .ok (.invokestatic 67, 3) := by decide +kernel
theorem dX5_told_22 : decode cX5_told 22 = .ok (.ifCond .eq 13, 3) := by decide +kernel
theorem dX5_told_25 : decode cX5_told 25 = .ok (.iload 4, 2) := by decide +kernel
theorem dX5_told_27 : decode cX5_told 27 = .ok (.iconst (-1), 1) := by decide +kernel
theorem dX5_told_28 : decode cX5_told 28 = .ok (.iconst 1, 1) := by decide +kernel
theorem dX5_told_29 : decode cX5_told 29 = .ok (.invokestatic 67, 3) := by decide +kernel
theorem dX5_told_32 : decode cX5_told 32 = .ok (.ifCond .ne 6, 3) := by decide +kernel
theorem dX5_told_35 : decode cX5_told 35 = .ok (.bipush (-102), 2) := by decide +kernel
theorem dX5_told_37 : decode cX5_told 37 = .ok (.ireturn, 1) := by decide +kernel
theorem dX5_told_38 : decode cX5_told 38 = .ok (.aload_n 0, 1) := by decide +kernel
theorem dX5_told_39 : decode cX5_told 39 = .ok (.iload_n 1, 1) := by decide +kernel
theorem dX5_told_40 : decode cX5_told 40 = .ok (.invokevirtual 176, 3) := by decide +kernel
theorem dX5_told_43 : decode cX5_told 43 = .ok (.ifCond .eq 6, 3) := by decide +kernel
theorem dX5_told_46 : decode cX5_told 46 = .ok (.bipush (-103), 2) := by decide +kernel
theorem dX5_told_48 : decode cX5_told 48 = .ok (.ireturn, 1) := by decide +kernel
theorem dX5_told_49 : decode cX5_told 49 = .ok (.aload_n 0, 1) := by decide +kernel
theorem dX5_told_50 : decode cX5_told 50 = .ok (.getfield 35, 3) := by decide +kernel
theorem dX5_told_53 : decode cX5_told 53 = .ok (.iload_n 1, 1) := by decide +kernel
theorem dX5_told_54 : decode cX5_told 54 = .ok (.baload, 1) := by decide +kernel
theorem dX5_told_55 : decode cX5_told 55 = .ok (.ifCond .ne 18, 3) := by decide +kernel
theorem dX5_told_58 : decode cX5_told 58 = .ok (.iload_n 3, 1) := by decide +kernel
theorem dX5_told_59 : decode cX5_told 59 = .ok (.ifCond .le 14, 3) := by decide +kernel
theorem dX5_told_62 : decode cX5_told 62 = .ok (.aload_n 0, 1) := by decide +kernel
theorem dX5_told_63 : decode cX5_told 63 = .ok (.invokevirtual 139, 3) := by decide +kernel
theorem dX5_told_66 : decode cX5_told 66 = .ok (.iconst 4, 1) := by decide +kernel
theorem dX5_told_67 : decode cX5_told 67 = .ok (.if_icmp .ne 6, 3) := by decide +kernel
theorem dX5_told_70 : decode cX5_told 70 = .ok (.bipush (-104), 2) := by decide +kernel
theorem dX5_told_72 : decode cX5_told 72 = .ok (.ireturn, 1) := by decide +kernel
theorem dX5_told_73 : decode cX5_told 73 = .ok (.aload_n 0, 1) := by decide +kernel
theorem dX5_told_74 : decode cX5_told 74 = .ok (.iload_n 1, 1) := by decide +kernel
theorem dX5_told_75 : decode cX5_told 75 = .ok (.iload_n 2, 1) := by decide +kernel
theorem dX5_told_76 : decode cX5_told 76 = .ok (.invokevirtual 206, 3) := by decide +kernel
theorem dX5_told_79 : decode cX5_told 79 = .ok (.aload_n 0, 1) := by decide +kernel
theorem dX5_told_80 : decode cX5_told 80 = .ok (.aload_n 0, 1) := by decide +kernel
theorem dX5_told_81 : decode cX5_told 81 = .ok (.getfield 163, 3) := by decide +kernel
theorem dX5_told_84 : decode cX5_told 84 = .ok (.ifCond .ne 7, 3) := by decide +kernel
theorem dX5_told_87 : decode cX5_told 87 = .ok (.iload_n 3, 1) := by decide +kernel
theorem dX5_told_88 : decode cX5_told 88 = .ok (.ifCond .le 7, 3) := by decide +kernel
theorem dX5_told_91 : decode cX5_told 91 = .ok (.iconst 1, 1) := by decide +kernel
theorem dX5_told_92 : decode cX5_told 92 = .ok (.goto 4, 3) := by decide +kernel
theorem dX5_told_95 : decode cX5_told 95 = .ok (.iconst 0, 1) := by decide +kernel
theorem dX5_told_96 : decode cX5_told 96 = .ok (.putfield 163, 3) := by decide +kernel
theorem dX5_told_99 : decode cX5_told 99 = .ok (.aload_n 0, 1) := by decide +kernel
theorem dX5_told_100 : decode cX5_told 100 = .ok (.getfield 35, 3) := by decide +kernel
theorem dX5_told_103 : decode cX5_told 103 = .ok (.iload_n 1, 1) := by decide +kernel
theorem dX5_told_104 : decode cX5_told 104 = .ok (.iload_n 3, 1) := by decide +kernel
theorem dX5_told_105 : decode cX5_told 105 = .ok (.ifCond .le 7, 3) := by decide +kernel
theorem dX5_told_108 : decode cX5_told 108 = .ok (.iconst 1, 1) := by decide +kernel
theorem dX5_told_109 : decode cX5_told 109 = .ok (.goto 4, 3) := by decide +kernel
theorem dX5_told_112 : decode cX5_told 112 = .ok (.iconst 0, 1) := by decide +kernel
theorem dX5_told_113 : decode cX5_told 113 = .ok (.bastore, 1) := by decide +kernel
theorem dX5_told_114 : decode cX5_told 114 = .ok (.aload_n 0, 1) := by decide +kernel
theorem dX5_told_115 : decode cX5_told 115 = .ok (.getfield 38, 3) := by decide +kernel
theorem dX5_told_118 : decode cX5_told 118 = .ok (.iload_n 1, 1) := by decide +kernel
theorem dX5_told_119 : decode cX5_told 119 = .ok (.iload 4, 2) := by decide +kernel
theorem dX5_told_121 : decode cX5_told 121 = .ok (.iastore, 1) := by decide +kernel
theorem dX5_told_122 : decode cX5_told 122 = .ok (.aload_n 0, 1) := by decide +kernel
theorem dX5_told_123 : decode cX5_told 123 = .ok (.getfield 41, 3) := by decide +kernel
theorem dX5_told_126 : decode cX5_told 126 = .ok (.iload_n 1, 1) := by decide +kernel
theorem dX5_told_127 : decode cX5_told 127 = .ok (.aload_n 0, 1) := by decide +kernel
theorem dX5_told_128 : decode cX5_told 128 = .ok (.getfield 74, 3) := by decide +kernel
theorem dX5_told_131 : decode cX5_told 131 = .ok (.iload_n 3, 1) := by decide +kernel
theorem dX5_told_132 : decode cX5_told 132 = .ok (.iadd, 1) := by decide +kernel
theorem dX5_told_133 : decode cX5_told 133 = .ok (.iastore, 1) := by decide +kernel
theorem dX5_told_134 : decode cX5_told 134 = .ok (.aload_n 0, 1) := by decide +kernel
theorem dX5_told_135 : decode cX5_told 135 = .ok (.invokevirtual 139, 3) := by decide +kernel
theorem dX5_told_138 : decode cX5_told 138 = .ok (.ireturn, 1) := by decide +kernel
set_option maxRecDepth 20000 in
theorem ggX5_keep_X5_keptFor : GoodIn wsX5_keep wsX5_keptFor := goodIn_r _ [8, 3, 1, 9, 10, 11, 12, 13, 14, 15, 16, 17, 18, 19, 20, 21, 22, 23, 24, 25, 26, 27, 28, 29, 30, 31, 32, 33, 34, 35, 36] (by decide +kernel) (by decide +kernel)
set_option maxRecDepth 20000 in
theorem gX5_keep_X5_keptFor : GoodIn wsX5_keep (wsV RX5 136 RX5 yX5_keptFor wsX5_keptFor) := goodIn_app (goodIn_of _ (by decide +kernel)) ggX5_keep_X5_keptFor
theorem dX5_keep_0 : decode cX5_keep 0 = .ok (.aload_n 0, 1) := by decide +kernel
theorem dX5_keep_1 : decode cX5_keep 1 = .ok (.iload_n 1, 1) := by decide +kernel
theorem dX5_keep_2 : decode cX5_keep 2 = .ok (.invokevirtual 136, 3) := by decide +kernel
theorem dX5_keep_5 : decode cX5_keep 5 = .ok (.istore_n 3, 1) := by decide +kernel
theorem dX5_keep_6 : decode cX5_keep 6 = .ok (.iload_n 3, 1) := by decide +kernel
theorem dX5_keep_7 : decode cX5_keep 7 = .ok (.iconst 4, 1) := by decide +kernel
theorem dX5_keep_8 : decode cX5_keep 8 = .ok (.if_icmp .ne 63, 3) := by decide +kernel
theorem dX5_keep_11 : decode cX5_keep 11 = .ok (.iconst 1, 1) := by decide +kernel
theorem dX5_keep_12 : decode cX5_keep 12 = .ok (.istore 4, 2) := by decide +kernel
theorem dX5_keep_14 : decode cX5_keep 14 = .ok (.iload 4, 2) := by decide +kernel
theorem dX5_keep_16 : decode cX5_keep 16 = .ok (.iconst 4, 1) := by decide +kernel
theorem dX5_keep_17 : decode cX5_keep 17 = .ok (.if_icmp .ge 41, 3) := by decide +kernel
theorem dX5_keep_20 : decode cX5_keep 20 = .ok (.aload_n 0, 1) := by decide +kernel
theorem dX5_keep_21 : decode cX5_keep 21 = .ok (.getfield 48, 3) := by decide +kernel
theorem dX5_keep_24 : decode cX5_keep 24 = .ok (.iload 4, 2) := by decide +kernel
theorem dX5_keep_26 : decode cX5_keep 26 = .ok (.iconst 1, 1) := by decide +kernel
theorem dX5_keep_27 : decode cX5_keep 27 = .ok (.isub, 1) := by decide +kernel
theorem dX5_keep_28 : decode cX5_keep 28 = .ok (.aload_n 0, 1) := by decide +kernel
theorem dX5_keep_29 : decode cX5_keep 29 = .ok (.getfield 48, 3) := by decide +kernel
theorem dX5_keep_32 : decode cX5_keep 32 = .ok (.iload 4, 2) := by decide +kernel
theorem dX5_keep_34 : decode cX5_keep 34 = .ok (.iaload, 1) := by decide +kernel
theorem dX5_keep_35 : decode cX5_keep 35 = .ok (.iastore, 1) := by decide +kernel
theorem dX5_keep_36 : decode cX5_keep 36 = .ok (.aload_n 0, 1) := by decide +kernel
theorem dX5_keep_37 : decode cX5_keep 37 = .ok (.getfield 51, 3) := by decide +kernel
theorem dX5_keep_40 : decode cX5_keep 40 = .ok (.iload 4, 2) := by decide +kernel
theorem dX5_keep_42 : decode cX5_keep 42 = .ok (.iconst 1, 1) := by decide +kernel
theorem dX5_keep_43 : decode cX5_keep 43 = .ok (.isub, 1) := by decide +kernel
theorem dX5_keep_44 : decode cX5_keep 44 = .ok (.aload_n 0, 1) := by decide +kernel
theorem dX5_keep_45 : decode cX5_keep 45 = .ok (.getfield 51, 3) := by decide +kernel
theorem dX5_keep_48 : decode cX5_keep 48 = .ok (.iload 4, 2) := by decide +kernel
theorem dX5_keep_50 : decode cX5_keep 50 = .ok (.iaload, 1) := by decide +kernel
theorem dX5_keep_51 : decode cX5_keep 51 = .ok (.iastore, 1) := by decide +kernel
theorem dX5_keep_52 : decode cX5_keep 52 = .ok (.iinc 4 1, 3) := by decide +kernel
theorem dX5_keep_55 : decode cX5_keep 55 = .ok (.goto (-41), 3) := by decide +kernel
theorem dX5_keep_58 : decode cX5_keep 58 = .ok (.iinc 3 (-1), 3) := by decide +kernel
theorem dX5_keep_61 : decode cX5_keep 61 = .ok (.aload_n 0, 1) := by decide +kernel
theorem dX5_keep_62 : decode cX5_keep 62 = .ok (.dup, 1) := by decide +kernel
theorem dX5_keep_63 : decode cX5_keep 63 = .ok (.getfield 83, 3) := by decide +kernel
theorem dX5_keep_66 : decode cX5_keep 66 = .ok (.iconst 1, 1) := by decide +kernel
theorem dX5_keep_67 : decode cX5_keep 67 = .ok (.isub, 1) := by decide +kernel
theorem dX5_keep_68 : decode cX5_keep 68 = .ok (.putfield 83, 3) := by decide +kernel
theorem dX5_keep_71 : decode cX5_keep 71 = .ok (.aload_n 0, 1) := by decide +kernel
theorem dX5_keep_72 : decode cX5_keep 72 = .ok (.iload_n 3, 1) := by decide +kernel
theorem dX5_keep_73 : decode cX5_keep 73 = .ok (.aload_n 0, 1) := by decide +kernel
theorem dX5_keep_74 : decode cX5_keep 74 = .ok (.getfield 83, 3) := by decide +kernel
theorem dX5_keep_77 : decode cX5_keep 77 = .ok (.if_icmp .ne 12, 3) := by decide +kernel
theorem dX5_keep_80 : decode cX5_keep 80 = .ok (.aload_n 0, 1) := by decide +kernel
theorem dX5_keep_81 : decode cX5_keep 81 = .ok (.getfield 83, 3) := by decide +kernel
theorem dX5_keep_84 : decode cX5_keep 84 = .ok (.iconst 1, 1) := by decide +kernel
theorem dX5_keep_85 : decode cX5_keep 85 = .ok (.iadd, 1) := by decide +kernel
theorem dX5_keep_86 : decode cX5_keep 86 = .ok (.goto 7, 3) := by decide +kernel
theorem dX5_keep_89 : decode cX5_keep 89 = .ok (.aload_n 0, 1) := by decide +kernel
theorem dX5_keep_90 : decode cX5_keep 90 = .ok (.getfield 83, 3) := by decide +kernel
theorem dX5_keep_93 : decode cX5_keep 93 = .ok (.putfield 83, 3) := by decide +kernel
theorem dX5_keep_96 : decode cX5_keep 96 = .ok (.aload_n 0, 1) := by decide +kernel
theorem dX5_keep_97 : decode cX5_keep 97 = .ok (.getfield 48, 3) := by decide +kernel
theorem dX5_keep_100 : decode cX5_keep 100 = .ok (.iload_n 3, 1) := by decide +kernel
theorem dX5_keep_101 : decode cX5_keep 101 = .ok (.iload_n 1, 1) := by decide +kernel
theorem dX5_keep_102 : decode cX5_keep 102 = .ok (.iastore, 1) := by decide +kernel
theorem dX5_keep_103 : decode cX5_keep 103 = .ok (.aload_n 0, 1) := by decide +kernel
theorem dX5_keep_104 : decode cX5_keep 104 = .ok (.getfield 51, 3) := by decide +kernel
theorem dX5_keep_107 : decode cX5_keep 107 = .ok (.iload_n 3, 1) := by decide +kernel
theorem dX5_keep_108 : decode cX5_keep 108 = .ok (.iload_n 2, 1) := by decide +kernel
theorem dX5_keep_109 : decode cX5_keep 109 = .ok (.iastore, 1) := by decide +kernel
theorem dX5_keep_110 : decode cX5_keep 110 = .ok (.return_, 1) := by decide +kernel
set_option maxRecDepth 20000 in
theorem ggX5_better_X5_isAddress : GoodIn wsX5_better wsX5_isAddress := goodIn_r _ [4, 5, 6, 3, 7] (by decide +kernel) (by decide +kernel)
set_option maxRecDepth 20000 in
theorem gX5_better_X5_isAddress : GoodIn wsX5_better (va_wsS RX5 170 yX5_isAddress wsX5_isAddress) := goodIn_app (goodIn_of _ (by decide +kernel)) ggX5_better_X5_isAddress
set_option maxRecDepth 20000 in
theorem ggX5_better_X5_isGoal : GoodIn wsX5_better wsX5_isGoal := goodIn_r _ [10, 5, 6, 3, 7] (by decide +kernel) (by decide +kernel)
set_option maxRecDepth 20000 in
theorem gX5_better_X5_isGoal : GoodIn wsX5_better (va_wsS RX5 183 yX5_isGoal wsX5_isGoal) := goodIn_app (goodIn_of _ (by decide +kernel)) ggX5_better_X5_isGoal
set_option maxRecDepth 20000 in
theorem ggX5_better_X5_isOurs : GoodIn wsX5_better wsX5_isOurs := goodIn_r _ [14, 15, 16, 65, 66, 67, 68, 69, 70, 71, 72, 73, 74, 75, 76, 77, 78, 79, 80, 81, 82, 83, 84, 85, 86, 87, 88, 89, 90, 91, 92] (by decide +kernel) (by decide +kernel)
set_option maxRecDepth 20000 in
theorem gX5_better_X5_isOurs : GoodIn wsX5_better (wsV RX5 176 RX5 yX5_isOurs wsX5_isOurs) := goodIn_app (goodIn_of _ (by decide +kernel)) ggX5_better_X5_isOurs
set_option maxRecDepth 20000 in
theorem ggX5_better_X5_hopNow : GoodIn wsX5_better wsX5_hopNow := goodIn_r _ [20, 21, 22, 23, 24, 25, 3, 26, 27, 28, 29, 30, 31, 32, 33, 34, 35, 36, 37, 38, 39, 40, 41, 42, 43, 44, 45, 46, 47, 48, 49, 50, 51, 52, 53, 54, 55, 56, 57, 58, 59, 60, 65, 66, 67, 68, 69, 70, 71, 72, 73, 74, 75, 76, 77, 78, 79, 80, 81, 82, 83, 84, 85, 86, 87, 88, 89, 90, 91, 92] (by decide +kernel) (by decide +kernel)
set_option maxRecDepth 20000 in
theorem gX5_better_X5_hopNow : GoodIn wsX5_better (wsV RX5 186 RX5 yX5_hopNow wsX5_hopNow) := goodIn_app (goodIn_of _ (by decide +kernel)) ggX5_better_X5_hopNow
set_option maxRecDepth 20000 in
theorem ggX5_better_X5_keep : GoodIn wsX5_better wsX5_keep := goodIn_r _ [64, 27, 22, 21, 23, 24, 25, 3, 26, 65, 66, 67, 68, 69, 70, 71, 72, 73, 74, 75, 76, 77, 78, 79, 80, 81, 82, 83, 84, 85, 86, 87, 88, 89, 90, 91, 92] (by decide +kernel) (by decide +kernel)
set_option maxRecDepth 20000 in
theorem gX5_better_X5_keep : GoodIn wsX5_better (wsV RX5 212 RX5 yX5_keep wsX5_keep) := goodIn_app (goodIn_of _ (by decide +kernel)) ggX5_better_X5_keep
theorem dX5_better_0 : decode cX5_better 0 = .ok (.iload_n 1, 1) := by decide +kernel
theorem dX5_better_1 : decode cX5_better 1 = .ok (.invokestatic 170, 3) := by decide +kernel
theorem dX5_better_4 : decode cX5_better 4 = .ok (.ifCond .eq 17, 3) := by decide +kernel
theorem dX5_better_7 : decode cX5_better 7 = .ok (.iload_n 2, 1) := by decide +kernel
theorem dX5_better_8 : decode cX5_better 8 = .ok (.invokestatic 183, 3) := by decide +kernel
theorem dX5_better_11 : decode cX5_better 11 = .ok (.ifCond .eq 10, 3) := by decide +kernel
theorem dX5_better_14 : decode cX5_better 14 = .ok (.iload_n 3, 1) := by decide +kernel
theorem dX5_better_15 : decode cX5_better 15 = .ok (.invokestatic 170, 3) := by decide +kernel
theorem dX5_better_18 : decode cX5_better 18 = .ok (.ifCond .ne 6, 3) := by decide +kernel
theorem dX5_better_21 : decode cX5_better 21 = .ok (.bipush (-102), 2) := by decide +kernel
theorem dX5_better_23 : decode cX5_better 23 = .ok (.ireturn, 1) := by decide +kernel
theorem dX5_better_24 : decode cX5_better 24 = .ok (.aload_n 0, 1) := by decide +kernel
theorem dX5_better_25 : decode cX5_better 25 = .ok (.iload_n 3, 1) := by decide +kernel
theorem dX5_better_26 : decode cX5_better 26 = .ok (.invokevirtual 176, 3) := by decide +kernel
theorem dX5_better_29 : decode cX5_better 29 = .ok (.ifCond .eq 6, 3) := by decide +kernel
theorem dX5_better_32 : decode cX5_better 32 = .ok (.bipush (-103), 2) := by decide +kernel
theorem dX5_better_34 : decode cX5_better 34 = .ok (.ireturn, 1) := by decide +kernel
theorem dX5_better_35 : decode cX5_better 35 = .ok (.aload_n 0, 1) := by decide +kernel
theorem dX5_better_36 : decode cX5_better 36 = .ok (.iload_n 2, 1) := by decide +kernel
theorem dX5_better_37 : decode cX5_better 37 = .ok (.invokevirtual 186, 3) := by decide +kernel
theorem dX5_better_40 : decode cX5_better 40 = .ok (.iload_n 1, 1) := by decide +kernel
theorem dX5_better_41 : decode cX5_better 41 = .ok (.if_icmp .eq 5, 3) := by decide +kernel
theorem dX5_better_44 : decode cX5_better 44 = .ok (.iconst 0, 1) := by decide +kernel
theorem dX5_better_45 : decode cX5_better 45 = .ok (.ireturn, 1) := by decide +kernel
theorem dX5_better_46 : decode cX5_better 46 = .ok (.aload_n 0, 1) := by decide +kernel
theorem dX5_better_47 : decode cX5_better 47 = .ok (.iload_n 2, 1) := by decide +kernel
theorem dX5_better_48 : decode cX5_better 48 = .ok (.iload_n 3, 1) := by decide +kernel
theorem dX5_better_49 : decode cX5_better 49 = .ok (.invokevirtual 212, 3) := by decide +kernel
theorem dX5_better_52 : decode cX5_better 52 = .ok (.iconst 1, 1) := by decide +kernel
theorem dX5_better_53 : decode cX5_better 53 = .ok (.ireturn, 1) := by decide +kernel
theorem dX5_isHop_0 : decode cX5_isHop 0 = .ok (.iconst 0, 1) := by decide +kernel
theorem dX5_isHop_1 : decode cX5_isHop 1 = .ok (.istore_n 2, 1) := by decide +kernel
theorem dX5_isHop_2 : decode cX5_isHop 2 = .ok (.iconst 0, 1) := by decide +kernel
theorem dX5_isHop_3 : decode cX5_isHop 3 = .ok (.istore_n 3, 1) := by decide +kernel
theorem dX5_isHop_4 : decode cX5_isHop 4 = .ok (.iload_n 3, 1) := by decide +kernel
theorem dX5_isHop_5 : decode cX5_isHop 5 = .ok (.aload_n 0, 1) := by decide +kernel
theorem dX5_isHop_6 : decode cX5_isHop 6 = .ok (.getfield 83, 3) := by decide +kernel
theorem dX5_isHop_9 : decode cX5_isHop 9 = .ok (.if_icmp .ge 29, 3) := by decide +kernel
theorem dX5_isHop_12 : decode cX5_isHop 12 = .ok (.iload_n 2, 1) := by decide +kernel
theorem dX5_isHop_13 : decode cX5_isHop 13 = .ok (.ifCond .ne 13, 3) := by decide +kernel
theorem dX5_isHop_16 : decode cX5_isHop 16 = .ok (.aload_n 0, 1) := by decide +kernel
theorem dX5_isHop_17 : decode cX5_isHop 17 = .ok (.getfield 51, 3) := by decide +kernel
theorem dX5_isHop_20 : decode cX5_isHop 20 = .ok (.iload_n 3, 1) := by decide +kernel
theorem dX5_isHop_21 : decode cX5_isHop 21 = .ok (.iaload, 1) := by decide +kernel
theorem dX5_isHop_22 : decode cX5_isHop 22 = .ok (.iload_n 1, 1) := by decide +kernel
theorem dX5_isHop_23 : decode cX5_isHop 23 = .ok (.if_icmp .ne 7, 3) := by decide +kernel
theorem dX5_isHop_26 : decode cX5_isHop 26 = .ok (.iconst 1, 1) := by decide +kernel
theorem dX5_isHop_27 : decode cX5_isHop 27 = .ok (.goto 4, 3) := by decide +kernel
theorem dX5_isHop_30 : decode cX5_isHop 30 = .ok (.iconst 0, 1) := by decide +kernel
theorem dX5_isHop_31 : decode cX5_isHop 31 = .ok (.istore_n 2, 1) := by decide +kernel
theorem dX5_isHop_32 : decode cX5_isHop 32 = .ok (.iinc 3 1, 3) := by decide +kernel
theorem dX5_isHop_35 : decode cX5_isHop 35 = .ok (.goto (-31), 3) := by decide +kernel
theorem dX5_isHop_38 : decode cX5_isHop 38 = .ok (.iload_n 2, 1) := by decide +kernel
theorem dX5_isHop_39 : decode cX5_isHop 39 = .ok (.ireturn, 1) := by decide +kernel
set_option maxRecDepth 20000 in
theorem ggX5_claim_X5_isAddress : GoodIn wsX5_claim wsX5_isAddress := goodIn_r _ [11, 12, 13, 10, 14] (by decide +kernel) (by decide +kernel)
set_option maxRecDepth 20000 in
theorem gX5_claim_X5_isAddress : GoodIn wsX5_claim (va_wsS RX5 170 yX5_isAddress wsX5_isAddress) := goodIn_app (goodIn_of _ (by decide +kernel)) ggX5_claim_X5_isAddress
set_option maxRecDepth 20000 in
theorem ggX5_claim_X5_isHop : GoodIn wsX5_claim wsX5_isHop := goodIn_r _ [18, 19, 20, 29, 30, 31, 32, 33, 34, 35, 36, 37, 38, 39, 40, 41, 42, 43, 44, 45, 46, 47, 48, 49, 50, 51, 52, 53, 54, 55, 56] (by decide +kernel) (by decide +kernel)
set_option maxRecDepth 20000 in
theorem gX5_claim_X5_isHop : GoodIn wsX5_claim (wsV RX5 215 RX5 yX5_isHop wsX5_isHop) := goodIn_app (goodIn_of _ (by decide +kernel)) ggX5_claim_X5_isHop
set_option maxRecDepth 20000 in
theorem ggX5_claim_X5_goOut : GoodIn wsX5_claim wsX5_goOut := goodIn_r _ [24, 25, 26, 6, 27, 28, 29, 30, 31, 32, 33, 34, 35, 36, 37, 38, 39, 40, 41, 42, 43, 44, 45, 46, 47, 48, 49, 50, 51, 52, 53, 54, 55, 56] (by decide +kernel) (by decide +kernel)
set_option maxRecDepth 20000 in
theorem gX5_claim_X5_goOut : GoodIn wsX5_claim (wsV RX5 63 RX5 yX5_goOut wsX5_goOut) := goodIn_app (goodIn_of _ (by decide +kernel)) ggX5_claim_X5_goOut
theorem dX5_claim_0 : decode cX5_claim 0 = .ok (.iload_n 1, 1) := by decide +kernel
theorem dX5_claim_1 : decode cX5_claim 1 = .ok (.invokestatic 170, 3) := by decide +kernel
theorem dX5_claim_4 : decode cX5_claim 4 = .ok (.ifCond .ne 6, 3) := by decide +kernel
theorem dX5_claim_7 : decode cX5_claim 7 = .ok (.bipush (-102), 2) := by decide +kernel
theorem dX5_claim_9 : decode cX5_claim 9 = .ok (.ireturn, 1) := by decide +kernel
theorem dX5_claim_10 : decode cX5_claim 10 = .ok (.aload_n 0, 1) := by decide +kernel
theorem dX5_claim_11 : decode cX5_claim 11 = .ok (.getfield 7, 3) := by decide +kernel
theorem dX5_claim_14 : decode cX5_claim 14 = .ok (.iload_n 1, 1) := by decide +kernel
theorem dX5_claim_15 : decode cX5_claim 15 = .ok (.baload, 1) := by decide +kernel
theorem dX5_claim_16 : decode cX5_claim 16 = .ok (.ifCond .ne 32, 3) := by decide +kernel
theorem dX5_claim_19 : decode cX5_claim 19 = .ok (.aload_n 0, 1) := by decide +kernel
theorem dX5_claim_20 : decode cX5_claim 20 = .ok (.getfield 35, 3) := by decide +kernel
theorem dX5_claim_23 : decode cX5_claim 23 = .ok (.iload_n 1, 1) := by decide +kernel
theorem dX5_claim_24 : decode cX5_claim 24 = .ok (.baload, 1) := by decide +kernel
theorem dX5_claim_25 : decode cX5_claim 25 = .ok (.ifCond .ne 23, 3) := by decide +kernel
theorem dX5_claim_28 : decode cX5_claim 28 = .ok (.aload_n 0, 1) := by decide +kernel
theorem dX5_claim_29 : decode cX5_claim 29 = .ok (.iload_n 1, 1) := by decide +kernel
theorem dX5_claim_30 : decode cX5_claim 30 = .ok (.invokevirtual 215, 3) := by decide +kernel
theorem dX5_claim_33 : decode cX5_claim 33 = .ok (.ifCond .ne 15, 3) := by decide +kernel
theorem dX5_claim_36 : decode cX5_claim 36 = .ok (.aload_n 0, 1) := by decide +kernel
theorem dX5_claim_37 : decode cX5_claim 37 = .ok (.getfield 195, 3) := by decide +kernel
theorem dX5_claim_40 : decode cX5_claim 40 = .ok (.iload_n 1, 1) := by decide +kernel
theorem dX5_claim_41 : decode cX5_claim 41 = .ok (.ishr, 1) := by decide +kernel
theorem dX5_claim_42 : decode cX5_claim 42 = .ok (.iconst 1, 1) := by decide +kernel
theorem dX5_claim_43 : decode cX5_claim 43 = .ok (.iand, 1) := by decide +kernel
theorem dX5_claim_44 : decode cX5_claim 44 = .ok (.iconst 1, 1) := by decide +kernel
theorem dX5_claim_45 : decode cX5_claim 45 = .ok (.if_icmp .ne 7, 3) := by decide +kernel
theorem dX5_claim_48 : decode cX5_claim 48 = .ok (.iconst 1, 1) := by decide +kernel
theorem dX5_claim_49 : decode cX5_claim 49 = .ok (.goto 4, 3) := by decide +kernel
theorem dX5_claim_52 : decode cX5_claim 52 = .ok (.iconst 0, 1) := by decide +kernel
theorem dX5_claim_53 : decode cX5_claim 53 = .ok (.istore_n 2, 1) := by decide +kernel
theorem dX5_claim_54 : decode cX5_claim 54 = .ok (.aload_n 0, 1) := by decide +kernel
theorem dX5_claim_55 : decode cX5_claim 55 = .ok (.getfield 54, 3) := by decide +kernel
theorem dX5_claim_58 : decode cX5_claim 58 = .ok (.iconst (-1), 1) := by decide +kernel
theorem dX5_claim_59 : decode cX5_claim 59 = .ok (.if_icmp .ne 15, 3) := by decide +kernel
theorem dX5_claim_62 : decode cX5_claim 62 = .ok (.aload_n 0, 1) := by decide +kernel
theorem dX5_claim_63 : decode cX5_claim 63 = .ok (.getfield 57, 3) := by decide +kernel
theorem dX5_claim_66 : decode cX5_claim 66 = .ok (.iconst (-1), 1) := by decide +kernel
theorem dX5_claim_67 : decode cX5_claim 67 = .ok (.if_icmp .ne 7, 3) := by decide +kernel
theorem dX5_claim_70 : decode cX5_claim 70 = .ok (.iload_n 2, 1) := by decide +kernel
theorem dX5_claim_71 : decode cX5_claim 71 = .ok (.ifCond .eq 6, 3) := by decide +kernel
theorem dX5_claim_74 : decode cX5_claim 74 = .ok (.bipush (-103), 2) := by decide +kernel
theorem dX5_claim_76 : decode cX5_claim 76 = .ok (.ireturn, 1) := by decide +kernel
theorem dX5_claim_77 : decode cX5_claim 77 = .ok (.aload_n 0, 1) := by decide +kernel
theorem dX5_claim_78 : decode cX5_claim 78 = .ok (.iload_n 1, 1) := by decide +kernel
theorem dX5_claim_79 : decode cX5_claim 79 = .ok (.putfield 57, 3) := by decide +kernel
theorem dX5_claim_82 : decode cX5_claim 82 = .ok (.aload_n 0, 1) := by decide +kernel
theorem dX5_claim_83 : decode cX5_claim 83 = .ok (.aload_n 0, 1) := by decide +kernel
theorem dX5_claim_84 : decode cX5_claim 84 = .ok (.getfield 74, 3) := by decide +kernel
theorem dX5_claim_87 : decode cX5_claim 87 = .ok (.putfield 154, 3) := by decide +kernel
theorem dX5_claim_90 : decode cX5_claim 90 = .ok (.aload_n 0, 1) := by decide +kernel
theorem dX5_claim_91 : decode cX5_claim 91 = .ok (.iconst 4, 1) := by decide +kernel
theorem dX5_claim_92 : decode cX5_claim 92 = .ok (.iload_n 1, 1) := by decide +kernel
theorem dX5_claim_93 : decode cX5_claim 93 = .ok (.iconst 0, 1) := by decide +kernel
theorem dX5_claim_94 : decode cX5_claim 94 = .ok (.iconst 0, 1) := by decide +kernel
theorem dX5_claim_95 : decode cX5_claim 95 = .ok (.invokevirtual 63, 3) := by decide +kernel
theorem dX5_claim_98 : decode cX5_claim 98 = .ok (.aload_n 0, 1) := by decide +kernel
theorem dX5_claim_99 : decode cX5_claim 99 = .ok (.getfield 74, 3) := by decide +kernel
theorem dX5_claim_102 : decode cX5_claim 102 = .ok (.bipush 10, 2) := by decide +kernel
theorem dX5_claim_104 : decode cX5_claim 104 = .ok (.iadd, 1) := by decide +kernel
theorem dX5_claim_105 : decode cX5_claim 105 = .ok (.ireturn, 1) := by decide +kernel
theorem dX5_give_0 : decode cX5_give 0 = .ok (.aload_n 0, 1) := by decide +kernel
theorem dX5_give_1 : decode cX5_give 1 = .ok (.getfield 54, 3) := by decide +kernel
theorem dX5_give_4 : decode cX5_give 4 = .ok (.iconst (-1), 1) := by decide +kernel
theorem dX5_give_5 : decode cX5_give 5 = .ok (.if_icmp .ne 14, 3) := by decide +kernel
theorem dX5_give_8 : decode cX5_give 8 = .ok (.aload_n 0, 1) := by decide +kernel
theorem dX5_give_9 : decode cX5_give 9 = .ok (.getfield 57, 3) := by decide +kernel
theorem dX5_give_12 : decode cX5_give 12 = .ok (.iconst (-1), 1) := by decide +kernel
theorem dX5_give_13 : decode cX5_give 13 = .ok (.if_icmp .ne 6, 3) := by decide +kernel
theorem dX5_give_16 : decode cX5_give 16 = .ok (.bipush (-103), 2) := by decide +kernel
theorem dX5_give_18 : decode cX5_give 18 = .ok (.ireturn, 1) := by decide +kernel
theorem dX5_give_19 : decode cX5_give 19 = .ok (.aload_n 0, 1) := by decide +kernel
theorem dX5_give_20 : decode cX5_give 20 = .ok (.getfield 54, 3) := by decide +kernel
theorem dX5_give_23 : decode cX5_give 23 = .ok (.iconst (-1), 1) := by decide +kernel
theorem dX5_give_24 : decode cX5_give 24 = .ok (.if_icmp .ne 10, 3) := by decide +kernel
theorem dX5_give_27 : decode cX5_give 27 = .ok (.aload_n 0, 1) := by decide +kernel
theorem dX5_give_28 : decode cX5_give 28 = .ok (.getfield 57, 3) := by decide +kernel
theorem dX5_give_31 : decode cX5_give 31 = .ok (.goto 7, 3) := by decide +kernel
theorem dX5_give_34 : decode cX5_give 34 = .ok (.aload_n 0, 1) := by decide +kernel
theorem dX5_give_35 : decode cX5_give 35 = .ok (.getfield 54, 3) := by decide +kernel
theorem dX5_give_38 : decode cX5_give 38 = .ok (.istore_n 1, 1) := by decide +kernel
theorem dX5_give_39 : decode cX5_give 39 = .ok (.aload_n 0, 1) := by decide +kernel
theorem dX5_give_40 : decode cX5_give 40 = .ok (.iconst (-1), 1) := by decide +kernel
theorem dX5_give_41 : decode cX5_give 41 = .ok (.putfield 54, 3) := by decide +kernel
theorem dX5_give_44 : decode cX5_give 44 = .ok (.aload_n 0, 1) := by decide +kernel
theorem dX5_give_45 : decode cX5_give 45 = .ok (.iconst (-1), 1) := by decide +kernel
theorem dX5_give_46 : decode cX5_give 46 = .ok (.putfield 57, 3) := by decide +kernel
theorem dX5_give_49 : decode cX5_give 49 = .ok (.iload_n 1, 1) := by decide +kernel
theorem dX5_give_50 : decode cX5_give 50 = .ok (.ireturn, 1) := by decide +kernel
theorem dX5_goneAt_0 : decode cX5_goneAt 0 = .ok (.aload_n 0, 1) := by decide +kernel
theorem dX5_goneAt_1 : decode cX5_goneAt 1 = .ok (.getfield 13, 3) := by decide +kernel
theorem dX5_goneAt_4 : decode cX5_goneAt 4 = .ok (.iload_n 1, 1) := by decide +kernel
theorem dX5_goneAt_5 : decode cX5_goneAt 5 = .ok (.iaload, 1) := by decide +kernel
theorem dX5_goneAt_6 : decode cX5_goneAt 6 = .ok (.tableswitch 81 0 4 #[34, 81, 81, 53, 63], 34) := by decide +kernel
theorem dX5_goneAt_40 : decode cX5_goneAt 40 = .ok (.aload_n 0, 1) := by decide +kernel
theorem dX5_goneAt_41 : decode cX5_goneAt 41 = .ok (.getfield 20, 3) := by decide +kernel
theorem dX5_goneAt_44 : decode cX5_goneAt 44 = .ok (.iload_n 1, 1) := by decide +kernel
theorem dX5_goneAt_45 : decode cX5_goneAt 45 = .ok (.iaload, 1) := by decide +kernel
theorem dX5_goneAt_46 : decode cX5_goneAt 46 = .ok (.bipush 6, 2) := by decide +kernel
theorem dX5_goneAt_48 : decode cX5_goneAt 48 = .ok (.iconst 3, 1) := by decide +kernel
theorem dX5_goneAt_49 : decode cX5_goneAt 49 = .ok (.aload_n 0, 1) := by decide +kernel
theorem dX5_goneAt_50 : decode cX5_goneAt 50 = .ok (.getfield 23, 3) := by decide +kernel
theorem dX5_goneAt_53 : decode cX5_goneAt 53 = .ok (.iload_n 1, 1) := by decide +kernel
theorem dX5_goneAt_54 : decode cX5_goneAt 54 = .ok (.iaload, 1) := by decide +kernel
theorem dX5_goneAt_55 : decode cX5_goneAt 55 = .ok (.isub, 1) := by decide +kernel
theorem dX5_goneAt_56 : decode cX5_goneAt 56 = .ok (.imul, 1) := by decide +kernel
theorem dX5_goneAt_57 : decode cX5_goneAt 57 = .ok (.iadd, 1) := by decide +kernel
theorem dX5_goneAt_58 : decode cX5_goneAt 58 = .ok (.ireturn, 1) := by decide +kernel
theorem dX5_goneAt_59 : decode cX5_goneAt 59 = .ok (.aload_n 0, 1) := by decide +kernel
theorem dX5_goneAt_60 : decode cX5_goneAt 60 = .ok (.getfield 20, 3) := by decide +kernel
theorem dX5_goneAt_63 : decode cX5_goneAt 63 = .ok (.iload_n 1, 1) := by decide +kernel
theorem dX5_goneAt_64 : decode cX5_goneAt 64 = .ok (.iaload, 1) := by decide +kernel
theorem dX5_goneAt_65 : decode cX5_goneAt 65 = .ok (.bipush 12, 2) := by decide +kernel
theorem dX5_goneAt_67 : decode cX5_goneAt 67 = .ok (.iadd, 1) := by decide +kernel
theorem dX5_goneAt_68 : decode cX5_goneAt 68 = .ok (.ireturn, 1) := by decide +kernel
theorem dX5_goneAt_69 : decode cX5_goneAt 69 = .ok (.aload_n 0, 1) := by decide +kernel
theorem dX5_goneAt_70 : decode cX5_goneAt 70 = .ok (.getfield 20, 3) := by decide +kernel
theorem dX5_goneAt_73 : decode cX5_goneAt 73 = .ok (.iload_n 1, 1) := by decide +kernel
theorem dX5_goneAt_74 : decode cX5_goneAt 74 = .ok (.iaload, 1) := by decide +kernel
theorem dX5_goneAt_75 : decode cX5_goneAt 75 = .ok (.iconst 4, 1) := by decide +kernel
theorem dX5_goneAt_76 : decode cX5_goneAt 76 = .ok (.iconst 3, 1) := by decide +kernel
theorem dX5_goneAt_77 : decode cX5_goneAt 77 = .ok (.aload_n 0, 1) := by decide +kernel
theorem dX5_goneAt_78 : decode cX5_goneAt 78 = .ok (.getfield 23, 3) := by decide +kernel
theorem dX5_goneAt_81 : decode cX5_goneAt 81 = .ok (.iload_n 1, 1) := by decide +kernel
theorem dX5_goneAt_82 : decode cX5_goneAt 82 = .ok (.iaload, 1) := by decide +kernel
theorem dX5_goneAt_83 : decode cX5_goneAt 83 = .ok (.isub, 1) := by decide +kernel
theorem dX5_goneAt_84 : decode cX5_goneAt 84 = .ok (.imul, 1) := by decide +kernel
theorem dX5_goneAt_85 : decode cX5_goneAt 85 = .ok (.iadd, 1) := by decide +kernel
theorem dX5_goneAt_86 : decode cX5_goneAt 86 = .ok (.ireturn, 1) := by decide +kernel
theorem dX5_goneAt_87 : decode cX5_goneAt 87 = .ok (.iconst (-1), 1) := by decide +kernel
theorem dX5_goneAt_88 : decode cX5_goneAt 88 = .ok (.ireturn, 1) := by decide +kernel
set_option maxRecDepth 20000 in
theorem ggX5_entryNow_X5_goneAt : GoodIn wsX5_entryNow wsX5_goneAt := goodIn_r _ [12, 1, 3, 4, 13, 14, 15, 16, 17, 18, 19, 20, 21, 22, 23, 24, 25, 26, 27, 28, 29, 30, 31, 32, 33, 34, 35, 36, 37, 38, 39, 40] (by decide +kernel) (by decide +kernel)
set_option maxRecDepth 20000 in
theorem gX5_entryNow_X5_goneAt : GoodIn wsX5_entryNow (wsV RX5 218 RX5 yX5_goneAt wsX5_goneAt) := goodIn_app (goodIn_of _ (by decide +kernel)) ggX5_entryNow_X5_goneAt
theorem dX5_entryNow_0 : decode cX5_entryNow 0 = .ok (.iload_n 2, 1) := by decide +kernel
theorem dX5_entryNow_1 : decode cX5_entryNow 1 = .ok (.tableswitch 113 0 6 #[43, 50, 70, 77, 84, 91, 106], 43) := by decide +kernel
theorem dX5_entryNow_44 : decode cX5_entryNow 44 = .ok (.aload_n 0, 1) := by decide +kernel
theorem dX5_entryNow_45 : decode cX5_entryNow 45 = .ok (.getfield 13, 3) := by decide +kernel
theorem dX5_entryNow_48 : decode cX5_entryNow 48 = .ok (.iload_n 1, 1) := by decide +kernel
theorem dX5_entryNow_49 : decode cX5_entryNow 49 = .ok (.iaload, 1) := by decide +kernel
theorem dX5_entryNow_50 : decode cX5_entryNow 50 = .ok (.ireturn, 1) := by decide +kernel
theorem dX5_entryNow_51 : decode cX5_entryNow 51 = .ok (.aload_n 0, 1) := by decide +kernel
theorem dX5_entryNow_52 : decode cX5_entryNow 52 = .ok (.getfield 13, 3) := by decide +kernel
theorem dX5_entryNow_55 : decode cX5_entryNow 55 = .ok (.iload_n 1, 1) := by decide +kernel
theorem dX5_entryNow_56 : decode cX5_entryNow 56 = .ok (.iaload, 1) := by decide +kernel
theorem dX5_entryNow_57 : decode cX5_entryNow 57 = .ok (.ifCond .ne 7, 3) := by decide +kernel
theorem dX5_entryNow_60 : decode cX5_entryNow 60 = .ok (.iconst 0, 1) := by decide +kernel
theorem dX5_entryNow_61 : decode cX5_entryNow 61 = .ok (.goto 9, 3) := by decide +kernel
theorem dX5_entryNow_64 : decode cX5_entryNow 64 = .ok (.aload_n 0, 1) := by decide +kernel
theorem dX5_entryNow_65 : decode cX5_entryNow 65 = .ok (.getfield 17, 3) := by decide +kernel
theorem dX5_entryNow_68 : decode cX5_entryNow 68 = .ok (.iload_n 1, 1) := by decide +kernel
theorem dX5_entryNow_69 : decode cX5_entryNow 69 = .ok (.iaload, 1) := by decide +kernel
theorem dX5_entryNow_70 : decode cX5_entryNow 70 = .ok (.ireturn, 1) := by decide +kernel
theorem dX5_entryNow_71 : decode cX5_entryNow 71 = .ok (.aload_n 0, 1) := by decide +kernel
theorem dX5_entryNow_72 : decode cX5_entryNow 72 = .ok (.getfield 20, 3) := by decide +kernel
theorem dX5_entryNow_75 : decode cX5_entryNow 75 = .ok (.iload_n 1, 1) := by decide +kernel
theorem dX5_entryNow_76 : decode cX5_entryNow 76 = .ok (.iaload, 1) := by decide +kernel
theorem dX5_entryNow_77 : decode cX5_entryNow 77 = .ok (.ireturn, 1) := by decide +kernel
theorem dX5_entryNow_78 : decode cX5_entryNow 78 = .ok (.aload_n 0, 1) := by decide +kernel
theorem dX5_entryNow_79 : decode cX5_entryNow 79 = .ok (.getfield 23, 3) := by decide +kernel
theorem dX5_entryNow_82 : decode cX5_entryNow 82 = .ok (.iload_n 1, 1) := by decide +kernel
theorem dX5_entryNow_83 : decode cX5_entryNow 83 = .ok (.iaload, 1) := by decide +kernel
theorem dX5_entryNow_84 : decode cX5_entryNow 84 = .ok (.ireturn, 1) := by decide +kernel
theorem dX5_entryNow_85 : decode cX5_entryNow 85 = .ok (.aload_n 0, 1) := by decide +kernel
theorem dX5_entryNow_86 : decode cX5_entryNow 86 = .ok (.getfield 29, 3) := by decide +kernel
theorem dX5_entryNow_89 : decode cX5_entryNow 89 = .ok (.iload_n 1, 1) := by decide +kernel
theorem dX5_entryNow_90 : decode cX5_entryNow 90 = .ok (.iaload, 1) := by decide +kernel
theorem dX5_entryNow_91 : decode cX5_entryNow 91 = .ok (.ireturn, 1) := by decide +kernel
theorem dX5_entryNow_92 : decode cX5_entryNow 92 = .ok (.aload_n 0, 1) := by decide +kernel
theorem dX5_entryNow_93 : decode cX5_entryNow 93 = .ok (.getfield 35, 3) := by decide +kernel
theorem dX5_entryNow_96 : decode cX5_entryNow 96 = .ok (.iload_n 1, 1) := by decide +kernel
theorem dX5_entryNow_97 : decode cX5_entryNow 97 = .ok (.baload, 1) := by decide +kernel
theorem dX5_entryNow_98 : decode cX5_entryNow 98 = .ok (.ifCond .eq 7, 3) := by decide +kernel
theorem dX5_entryNow_101 : decode cX5_entryNow 101 = .ok (.iconst 1, 1) := by decide +kernel
theorem dX5_entryNow_102 : decode cX5_entryNow 102 = .ok (.goto 4, 3) := by decide +kernel
theorem dX5_entryNow_105 : decode cX5_entryNow 105 = .ok (.iconst 0, 1) := by decide +kernel
theorem dX5_entryNow_106 : decode cX5_entryNow 106 = .ok (.ireturn, 1) := by decide +kernel
theorem dX5_entryNow_107 : decode cX5_entryNow 107 = .ok (.aload_n 0, 1) := by decide +kernel
theorem dX5_entryNow_108 : decode cX5_entryNow 108 = .ok (.getfield 26, 3) := by decide +kernel
theorem dX5_entryNow_111 : decode cX5_entryNow 111 = .ok (.iload_n 1, 1) := by decide +kernel
theorem dX5_entryNow_112 : decode cX5_entryNow 112 = .ok (.iaload, 1) := by decide +kernel
theorem dX5_entryNow_113 : decode cX5_entryNow 113 = .ok (.ireturn, 1) := by decide +kernel
theorem dX5_entryNow_114 : decode cX5_entryNow 114 = .ok (.aload_n 0, 1) := by decide +kernel
theorem dX5_entryNow_115 : decode cX5_entryNow 115 = .ok (.iload_n 1, 1) := by decide +kernel
theorem dX5_entryNow_116 : decode cX5_entryNow 116 = .ok (.invokevirtual 218, 3) := by decide +kernel
theorem dX5_entryNow_119 : decode cX5_entryNow 119 = .ok (.ireturn, 1) := by decide +kernel
set_option maxRecDepth 20000 in
theorem ggX5_isEntry_X5_isAddress : GoodIn wsX5_isEntry wsX5_isAddress := goodIn_r _ [5, 6, 7, 4, 8] (by decide +kernel) (by decide +kernel)
set_option maxRecDepth 20000 in
theorem gX5_isEntry_X5_isAddress : GoodIn wsX5_isEntry (va_wsS RX5 170 yX5_isAddress wsX5_isAddress) := goodIn_app (goodIn_of _ (by decide +kernel)) ggX5_isEntry_X5_isAddress
theorem dX5_isEntry_0 : decode cX5_isEntry 0 = .ok (.iload_n 1, 1) := by decide +kernel
theorem dX5_isEntry_1 : decode cX5_isEntry 1 = .ok (.invokestatic 170, 3) := by decide +kernel
theorem dX5_isEntry_4 : decode cX5_isEntry 4 = .ok (.ifCond .eq 16, 3) := by decide +kernel
theorem dX5_isEntry_7 : decode cX5_isEntry 7 = .ok (.aload_n 0, 1) := by decide +kernel
theorem dX5_isEntry_8 : decode cX5_isEntry 8 = .ok (.getfield 7, 3) := by decide +kernel
theorem dX5_isEntry_11 : decode cX5_isEntry 11 = .ok (.iload_n 1, 1) := by decide +kernel
theorem dX5_isEntry_12 : decode cX5_isEntry 12 = .ok (.baload, 1) := by decide +kernel
theorem dX5_isEntry_13 : decode cX5_isEntry 13 = .ok (.ifCond .eq 7, 3) := by decide +kernel
theorem dX5_isEntry_16 : decode cX5_isEntry 16 = .ok (.iconst 1, 1) := by decide +kernel
theorem dX5_isEntry_17 : decode cX5_isEntry 17 = .ok (.goto 4, 3) := by decide +kernel
theorem dX5_isEntry_20 : decode cX5_isEntry 20 = .ok (.iconst 0, 1) := by decide +kernel
theorem dX5_isEntry_21 : decode cX5_isEntry 21 = .ok (.ireturn, 1) := by decide +kernel
set_option maxRecDepth 20000 in
theorem ggX5_entry_X5_isEntry : GoodIn wsX5_entry wsX5_isEntry := goodIn_r _ [5, 6, 7, 8, 4, 9, 10, 11, 12, 28, 29, 30, 31, 32, 33, 34, 35, 36, 37, 38, 39, 40, 41, 42, 43, 44, 45, 46, 47, 48, 49, 50, 51, 52, 53, 54, 55] (by decide +kernel) (by decide +kernel)
set_option maxRecDepth 20000 in
theorem gX5_entry_X5_isEntry : GoodIn wsX5_entry (wsV RX5 221 RX5 yX5_isEntry wsX5_isEntry) := goodIn_app (goodIn_of _ (by decide +kernel)) ggX5_entry_X5_isEntry
set_option maxRecDepth 20000 in
theorem ggX5_entry_X5_within : GoodIn wsX5_entry wsX5_within := goodIn_r _ [12] (by decide +kernel) (by decide +kernel)
set_option maxRecDepth 20000 in
theorem gX5_entry_X5_within : GoodIn wsX5_entry (va_wsS RX5 67 yX5_within wsX5_within) := goodIn_app (goodIn_of _ (by decide +kernel)) ggX5_entry_X5_within
set_option maxRecDepth 20000 in
theorem ggX5_entry_X5_entryNow : GoodIn wsX5_entry wsX5_entryNow := goodIn_r _ [16, 17, 18, 19, 20, 21, 22, 23, 24, 25, 26, 4, 27, 28, 29, 30, 31, 32, 33, 34, 35, 36, 37, 38, 39, 40, 41, 42, 43, 44, 45, 46, 47, 48, 49, 50, 51, 52, 53, 54, 55] (by decide +kernel) (by decide +kernel)
set_option maxRecDepth 20000 in
theorem gX5_entry_X5_entryNow : GoodIn wsX5_entry (wsV RX5 224 RX5 yX5_entryNow wsX5_entryNow) := goodIn_app (goodIn_of _ (by decide +kernel)) ggX5_entry_X5_entryNow
theorem dX5_entry_0 : decode cX5_entry 0 = .ok (.aload_n 0, 1) := by decide +kernel
theorem dX5_entry_1 : decode cX5_entry 1 = .ok (.iload_n 1, 1) := by decide +kernel
theorem dX5_entry_2 : decode cX5_entry 2 = .ok (.invokevirtual 221, 3) := by decide +kernel
theorem dX5_entry_5 : decode cX5_entry 5 = .ok (.ifCond .ne 8, 3) := by decide +kernel
theorem dX5_entry_8 : decode cX5_entry 8 = .ok (.bipush (-101), 2) := by decide +kernel
theorem dX5_entry_10 : decode cX5_entry 10 = .ok (.goto 24, 3) := by decide +kernel
theorem dX5_entry_13 : decode cX5_entry 13 = .ok (.iload_n 2, 1) := by decide +kernel
theorem dX5_entry_14 : decode cX5_entry 14 = .ok (.iconst 0, 1) := by decide +kernel
theorem dX5_entry_15 : decode cX5_entry 15 = .ok (.bipush 7, 2) := by decide +kernel
theorem dX5_entry_17 : decode cX5_entry 17 = .ok (.invokestatic 67, 3) := by decide +kernel
theorem dX5_entry_20 : decode cX5_entry 20 = .ok (.ifCond .eq 12, 3) := by decide +kernel
theorem dX5_entry_23 : decode cX5_entry 23 = .ok (.aload_n 0, 1) := by decide +kernel
theorem dX5_entry_24 : decode cX5_entry 24 = .ok (.iload_n 1, 1) := by decide +kernel
theorem dX5_entry_25 : decode cX5_entry 25 = .ok (.iload_n 2, 1) := by decide +kernel
theorem dX5_entry_26 : decode cX5_entry 26 = .ok (.invokevirtual 224, 3) := by decide +kernel
theorem dX5_entry_29 : decode cX5_entry 29 = .ok (.goto 5, 3) := by decide +kernel
theorem dX5_entry_32 : decode cX5_entry 32 = .ok (.bipush (-102), 2) := by decide +kernel
theorem dX5_entry_34 : decode cX5_entry 34 = .ok (.ireturn, 1) := by decide +kernel
set_option maxRecDepth 20000 in
theorem ggX5_held_X5_isEntry : GoodIn wsX5_held wsX5_isEntry := goodIn_r _ [7, 8, 9, 10, 6, 11, 12, 13, 14, 15, 16, 17, 18, 19, 20, 21, 22, 23, 24, 25, 26, 27, 28, 29, 30, 31, 32, 33, 34, 35, 36, 37, 38, 39, 40, 41, 42] (by decide +kernel) (by decide +kernel)
set_option maxRecDepth 20000 in
theorem gX5_held_X5_isEntry : GoodIn wsX5_held (wsV RX5 221 RX5 yX5_isEntry wsX5_isEntry) := goodIn_app (goodIn_of _ (by decide +kernel)) ggX5_held_X5_isEntry
set_option maxRecDepth 20000 in
theorem ggX5_held_X5_within : GoodIn wsX5_held wsX5_within := goodIn_r _ [14] (by decide +kernel) (by decide +kernel)
set_option maxRecDepth 20000 in
theorem gX5_held_X5_within : GoodIn wsX5_held (va_wsS RX5 67 yX5_within wsX5_within) := goodIn_app (goodIn_of _ (by decide +kernel)) ggX5_held_X5_within
theorem dX5_held_0 : decode cX5_held 0 = .ok (.aload_n 0, 1) := by decide +kernel
theorem dX5_held_1 : decode cX5_held 1 = .ok (.iload_n 1, 1) := by decide +kernel
theorem dX5_held_2 : decode cX5_held 2 = .ok (.invokevirtual 221, 3) := by decide +kernel
theorem dX5_held_5 : decode cX5_held 5 = .ok (.ifCond .eq 32, 3) := by decide +kernel
theorem dX5_held_8 : decode cX5_held 8 = .ok (.iload_n 2, 1) := by decide +kernel
theorem dX5_held_9 : decode cX5_held 9 = .ok (.iconst 0, 1) := by decide +kernel
theorem dX5_held_10 : decode cX5_held 10 = .ok (.aload_n 0, 1) := by decide +kernel
theorem dX5_held_11 : decode cX5_held 11 = .ok (.getfield 29, 3) := by decide +kernel
theorem dX5_held_14 : decode cX5_held 14 = .ok (.iload_n 1, 1) := by decide +kernel
theorem dX5_held_15 : decode cX5_held 15 = .ok (.iaload, 1) := by decide +kernel
theorem dX5_held_16 : decode cX5_held 16 = .ok (.iconst 1, 1) := by decide +kernel
theorem dX5_held_17 : decode cX5_held 17 = .ok (.isub, 1) := by decide +kernel
theorem dX5_held_18 : decode cX5_held 18 = .ok (.invokestatic 67, 3) := by decide +kernel
theorem dX5_held_21 : decode cX5_held 21 = .ok (.ifCond .eq 16, 3) := by decide +kernel
theorem dX5_held_24 : decode cX5_held 24 = .ok (.aload_n 0, 1) := by decide +kernel
theorem dX5_held_25 : decode cX5_held 25 = .ok (.getfield 32, 3) := by decide +kernel
theorem dX5_held_28 : decode cX5_held 28 = .ok (.iconst 3, 1) := by decide +kernel
theorem dX5_held_29 : decode cX5_held 29 = .ok (.iload_n 1, 1) := by decide +kernel
theorem dX5_held_30 : decode cX5_held 30 = .ok (.imul, 1) := by decide +kernel
theorem dX5_held_31 : decode cX5_held 31 = .ok (.iload_n 2, 1) := by decide +kernel
theorem dX5_held_32 : decode cX5_held 32 = .ok (.iadd, 1) := by decide +kernel
theorem dX5_held_33 : decode cX5_held 33 = .ok (.iaload, 1) := by decide +kernel
theorem dX5_held_34 : decode cX5_held 34 = .ok (.goto 5, 3) := by decide +kernel
theorem dX5_held_37 : decode cX5_held 37 = .ok (.bipush (-101), 2) := by decide +kernel
theorem dX5_held_39 : decode cX5_held 39 = .ok (.ireturn, 1) := by decide +kernel
set_option maxRecDepth 20000 in
theorem ggX5_routerNow_X5_isGood : GoodIn wsX5_routerNow wsX5_isGood := goodIn_r _ [7, 8, 9, 10, 11, 12, 13, 14, 15, 16, 17, 18, 19, 20, 21, 22, 23, 24, 25, 26, 27, 28, 29, 30, 31, 32, 33, 34, 35, 36, 37] (by decide +kernel) (by decide +kernel)
set_option maxRecDepth 20000 in
theorem gX5_routerNow_X5_isGood : GoodIn wsX5_routerNow (wsV RX5 126 RX5 yX5_isGood wsX5_isGood) := goodIn_app (goodIn_of _ (by decide +kernel)) ggX5_routerNow_X5_isGood
theorem dX5_routerNow_0 : decode cX5_routerNow 0 = .ok (.iload_n 2, 1) := by decide +kernel
theorem dX5_routerNow_1 : decode cX5_routerNow 1 = .ok (.ifCond .ne 7, 3) := by decide +kernel
theorem dX5_routerNow_4 : decode cX5_routerNow 4 = .ok (.iload_n 1, 1) := by decide +kernel
theorem dX5_routerNow_5 : decode cX5_routerNow 5 = .ok (.goto 44, 3) := by decide +kernel
theorem dX5_routerNow_8 : decode cX5_routerNow 8 = .ok (.iload_n 2, 1) := by decide +kernel
theorem dX5_routerNow_9 : decode cX5_routerNow 9 = .ok (.iconst 1, 1) := by decide +kernel
theorem dX5_routerNow_10 : decode cX5_routerNow 10 = .ok (.if_icmp .ne 12, 3) := by decide +kernel
theorem dX5_routerNow_13 : decode cX5_routerNow 13 = .ok (.aload_n 0, 1) := by decide +kernel
theorem dX5_routerNow_14 : decode cX5_routerNow 14 = .ok (.getfield 38, 3) := by decide +kernel
theorem dX5_routerNow_17 : decode cX5_routerNow 17 = .ok (.iload_n 1, 1) := by decide +kernel
theorem dX5_routerNow_18 : decode cX5_routerNow 18 = .ok (.iaload, 1) := by decide +kernel
theorem dX5_routerNow_19 : decode cX5_routerNow 19 = .ok (.goto 30, 3) := by decide +kernel
theorem dX5_routerNow_22 : decode cX5_routerNow 22 = .ok (.iload_n 2, 1) := by decide +kernel
theorem dX5_routerNow_23 : decode cX5_routerNow 23 = .ok (.iconst 2, 1) := by decide +kernel
theorem dX5_routerNow_24 : decode cX5_routerNow 24 = .ok (.if_icmp .ne 12, 3) := by decide +kernel
theorem dX5_routerNow_27 : decode cX5_routerNow 27 = .ok (.aload_n 0, 1) := by decide +kernel
theorem dX5_routerNow_28 : decode cX5_routerNow 28 = .ok (.getfield 41, 3) := by decide +kernel
theorem dX5_routerNow_31 : decode cX5_routerNow 31 = .ok (.iload_n 1, 1) := by decide +kernel
theorem dX5_routerNow_32 : decode cX5_routerNow 32 = .ok (.iaload, 1) := by decide +kernel
theorem dX5_routerNow_33 : decode cX5_routerNow 33 = .ok (.goto 16, 3) := by decide +kernel
theorem dX5_routerNow_36 : decode cX5_routerNow 36 = .ok (.aload_n 0, 1) := by decide +kernel
theorem dX5_routerNow_37 : decode cX5_routerNow 37 = .ok (.iload_n 1, 1) := by decide +kernel
theorem dX5_routerNow_38 : decode cX5_routerNow 38 = .ok (.invokevirtual 126, 3) := by decide +kernel
theorem dX5_routerNow_41 : decode cX5_routerNow 41 = .ok (.ifCond .eq 7, 3) := by decide +kernel
theorem dX5_routerNow_44 : decode cX5_routerNow 44 = .ok (.iconst 1, 1) := by decide +kernel
theorem dX5_routerNow_45 : decode cX5_routerNow 45 = .ok (.goto 4, 3) := by decide +kernel
theorem dX5_routerNow_48 : decode cX5_routerNow 48 = .ok (.iconst 0, 1) := by decide +kernel
theorem dX5_routerNow_49 : decode cX5_routerNow 49 = .ok (.ireturn, 1) := by decide +kernel
set_option maxRecDepth 20000 in
theorem ggX5_router_X5_routers : GoodIn wsX5_router wsX5_routers := goodIn_r _ [5, 6, 34, 35, 36, 37, 38, 39, 40, 41, 42, 43, 44, 45, 46, 47, 48, 49, 50, 51, 52, 53, 54, 55, 56, 57, 58, 59, 60, 61] (by decide +kernel) (by decide +kernel)
set_option maxRecDepth 20000 in
theorem gX5_router_X5_routers : GoodIn wsX5_router (wsV RX5 139 RX5 yX5_routers wsX5_routers) := goodIn_app (goodIn_of _ (by decide +kernel)) ggX5_router_X5_routers
set_option maxRecDepth 20000 in
theorem ggX5_router_X5_within : GoodIn wsX5_router wsX5_within := goodIn_r _ [9] (by decide +kernel) (by decide +kernel)
set_option maxRecDepth 20000 in
theorem gX5_router_X5_within : GoodIn wsX5_router (va_wsS RX5 67 yX5_within wsX5_within) := goodIn_app (goodIn_of _ (by decide +kernel)) ggX5_router_X5_within
set_option maxRecDepth 20000 in
theorem ggX5_router_X5_routerAt : GoodIn wsX5_router wsX5_routerAt := goodIn_r _ [13, 6, 14, 15, 16, 4, 17, 18, 19, 20, 21, 22, 23, 24, 25, 26, 27, 28, 34, 35, 36, 37, 38, 39, 40, 41, 42, 43, 44, 45, 46, 47, 48, 49, 50, 51, 52, 53, 54, 55, 56, 57, 58, 59, 60, 61] (by decide +kernel) (by decide +kernel)
set_option maxRecDepth 20000 in
theorem gX5_router_X5_routerAt : GoodIn wsX5_router (wsV RX5 142 RX5 yX5_routerAt wsX5_routerAt) := goodIn_app (goodIn_of _ (by decide +kernel)) ggX5_router_X5_routerAt
set_option maxRecDepth 20000 in
theorem ggX5_router_X5_routerNow : GoodIn wsX5_router wsX5_routerNow := goodIn_r _ [32, 22, 33, 23, 24, 25, 4, 26, 27, 28, 34, 35, 36, 37, 38, 39, 40, 41, 42, 43, 44, 45, 46, 47, 48, 49, 50, 51, 52, 53, 54, 55, 56, 57, 58, 59, 60, 61] (by decide +kernel) (by decide +kernel)
set_option maxRecDepth 20000 in
theorem gX5_router_X5_routerNow : GoodIn wsX5_router (wsV RX5 227 RX5 yX5_routerNow wsX5_routerNow) := goodIn_app (goodIn_of _ (by decide +kernel)) ggX5_router_X5_routerNow
theorem dX5_router_0 : decode cX5_router 0 = .ok (.iload_n 1, 1) := by decide +kernel
theorem dX5_router_1 : decode cX5_router 1 = .ok (.iconst 0, 1) := by decide +kernel
theorem dX5_router_2 : decode cX5_router 2 = .ok (.aload_n 0, 1) := by decide +kernel
theorem dX5_router_3 : decode cX5_router 3 = .ok (.invokevirtual 139, 3) := by decide +kernel
theorem dX5_router_6 : decode cX5_router 6 = .ok (.iconst 1, 1) := by decide +kernel
theorem dX5_router_7 : decode cX5_router 7 = .ok (.isub, 1) := by decide +kernel
theorem dX5_router_8 : decode cX5_router 8 = .ok (.invokestatic 67, 3) := by decide +kernel
theorem dX5_router_11 : decode cX5_router 11 = .ok (.ifCond .ne 6, 3) := by decide +kernel
theorem dX5_router_14 : decode cX5_router 14 = .ok (.bipush (-101), 2) := by decide +kernel
theorem dX5_router_16 : decode cX5_router 16 = .ok (.ireturn, 1) := by decide +kernel
theorem dX5_router_17 : decode cX5_router 17 = .ok (.iload_n 2, 1) := by decide +kernel
theorem dX5_router_18 : decode cX5_router 18 = .ok (.iconst 0, 1) := by decide +kernel
theorem dX5_router_19 : decode cX5_router 19 = .ok (.iconst 3, 1) := by decide +kernel
theorem dX5_router_20 : decode cX5_router 20 = .ok (.invokestatic 67, 3) := by decide +kernel
theorem dX5_router_23 : decode cX5_router 23 = .ok (.ifCond .eq 16, 3) := by decide +kernel
theorem dX5_router_26 : decode cX5_router 26 = .ok (.aload_n 0, 1) := by decide +kernel
theorem dX5_router_27 : decode cX5_router 27 = .ok (.aload_n 0, 1) := by decide +kernel
theorem dX5_router_28 : decode cX5_router 28 = .ok (.iload_n 1, 1) := by decide +kernel
theorem dX5_router_29 : decode cX5_router 29 = .ok (.invokevirtual 142, 3) := by decide +kernel
theorem dX5_router_32 : decode cX5_router 32 = .ok (.iload_n 2, 1) := by decide +kernel
theorem dX5_router_33 : decode cX5_router 33 = .ok (.invokevirtual 227, 3) := by decide +kernel
theorem dX5_router_36 : decode cX5_router 36 = .ok (.goto 5, 3) := by decide +kernel
theorem dX5_router_39 : decode cX5_router 39 = .ok (.bipush (-102), 2) := by decide +kernel
theorem dX5_router_41 : decode cX5_router 41 = .ok (.ireturn, 1) := by decide +kernel
set_option maxRecDepth 20000 in
theorem ggX5_hop_X5_isGoal : GoodIn wsX5_hop wsX5_isGoal := goodIn_r _ [4, 5, 6, 3, 7] (by decide +kernel) (by decide +kernel)
set_option maxRecDepth 20000 in
theorem gX5_hop_X5_isGoal : GoodIn wsX5_hop (va_wsS RX5 183 yX5_isGoal wsX5_isGoal) := goodIn_app (goodIn_of _ (by decide +kernel)) ggX5_hop_X5_isGoal
set_option maxRecDepth 20000 in
theorem ggX5_hop_X5_hopNow : GoodIn wsX5_hop wsX5_hopNow := goodIn_r _ [11, 12, 13, 14, 15, 16, 3, 17, 18, 19, 20, 21, 22, 23, 24, 25, 26, 27, 28, 29, 30, 31, 32, 33, 34, 35, 36, 37, 38, 39, 40, 41, 42, 43, 44, 45, 46, 47, 48, 49, 50, 51, 52, 53, 54, 55, 56, 57, 58, 59, 60, 61, 62, 63, 64, 65, 66, 67, 68, 69, 70, 71, 72, 73, 74, 75, 76, 77, 78, 79] (by decide +kernel) (by decide +kernel)
set_option maxRecDepth 20000 in
theorem gX5_hop_X5_hopNow : GoodIn wsX5_hop (wsV RX5 186 RX5 yX5_hopNow wsX5_hopNow) := goodIn_app (goodIn_of _ (by decide +kernel)) ggX5_hop_X5_hopNow
theorem dX5_hop_0 : decode cX5_hop 0 = .ok (.iload_n 1, 1) := by decide +kernel
theorem dX5_hop_1 : decode cX5_hop 1 = .ok (.invokestatic 183, 3) := by decide +kernel
theorem dX5_hop_4 : decode cX5_hop 4 = .ok (.ifCond .eq 11, 3) := by decide +kernel
theorem dX5_hop_7 : decode cX5_hop 7 = .ok (.aload_n 0, 1) := by decide +kernel
theorem dX5_hop_8 : decode cX5_hop 8 = .ok (.iload_n 1, 1) := by decide +kernel
theorem dX5_hop_9 : decode cX5_hop 9 = .ok (.invokevirtual 186, 3) := by decide +kernel
theorem dX5_hop_12 : decode cX5_hop 12 = .ok (.goto 5, 3) := by decide +kernel
theorem dX5_hop_15 : decode cX5_hop 15 = .ok (.bipush (-102), 2) := by decide +kernel
theorem dX5_hop_17 : decode cX5_hop 17 = .ok (.ireturn, 1) := by decide +kernel
set_option maxRecDepth 20000 in
theorem ggX5_out_X5_within : GoodIn wsX5_out wsX5_within := goodIn_r _ [6] (by decide +kernel) (by decide +kernel)
set_option maxRecDepth 20000 in
theorem gX5_out_X5_within : GoodIn wsX5_out (va_wsS RX5 67 yX5_within wsX5_within) := goodIn_app (goodIn_of _ (by decide +kernel)) ggX5_out_X5_within
theorem dX5_out_0 : decode cX5_out 0 = .ok (.iload_n 1, 1) := by decide +kernel
theorem dX5_out_1 : decode cX5_out 1 = .ok (.iconst 0, 1) := by decide +kernel
theorem dX5_out_2 : decode cX5_out 2 = .ok (.aload_n 0, 1) := by decide +kernel
theorem dX5_out_3 : decode cX5_out 3 = .ok (.getfield 71, 3) := by decide +kernel
theorem dX5_out_6 : decode cX5_out 6 = .ok (.iconst 1, 1) := by decide +kernel
theorem dX5_out_7 : decode cX5_out 7 = .ok (.isub, 1) := by decide +kernel
theorem dX5_out_8 : decode cX5_out 8 = .ok (.invokestatic 67, 3) := by decide +kernel
theorem dX5_out_11 : decode cX5_out 11 = .ok (.ifCond .ne 8, 3) := by decide +kernel
theorem dX5_out_14 : decode cX5_out 14 = .ok (.bipush (-101), 2) := by decide +kernel
theorem dX5_out_16 : decode cX5_out 16 = .ok (.goto 27, 3) := by decide +kernel
theorem dX5_out_19 : decode cX5_out 19 = .ok (.iload_n 2, 1) := by decide +kernel
theorem dX5_out_20 : decode cX5_out 20 = .ok (.iconst 0, 1) := by decide +kernel
theorem dX5_out_21 : decode cX5_out 21 = .ok (.iconst 4, 1) := by decide +kernel
theorem dX5_out_22 : decode cX5_out 22 = .ok (.invokestatic 67, 3) := by decide +kernel
theorem dX5_out_25 : decode cX5_out 25 = .ok (.ifCond .eq 16, 3) := by decide +kernel
theorem dX5_out_28 : decode cX5_out 28 = .ok (.aload_n 0, 1) := by decide +kernel
theorem dX5_out_29 : decode cX5_out 29 = .ok (.getfield 60, 3) := by decide +kernel
theorem dX5_out_32 : decode cX5_out 32 = .ok (.iconst 5, 1) := by decide +kernel
theorem dX5_out_33 : decode cX5_out 33 = .ok (.iload_n 1, 1) := by decide +kernel
theorem dX5_out_34 : decode cX5_out 34 = .ok (.imul, 1) := by decide +kernel
theorem dX5_out_35 : decode cX5_out 35 = .ok (.iload_n 2, 1) := by decide +kernel
theorem dX5_out_36 : decode cX5_out 36 = .ok (.iadd, 1) := by decide +kernel
theorem dX5_out_37 : decode cX5_out 37 = .ok (.iaload, 1) := by decide +kernel
theorem dX5_out_38 : decode cX5_out 38 = .ok (.goto 5, 3) := by decide +kernel
theorem dX5_out_41 : decode cX5_out 41 = .ok (.bipush (-102), 2) := by decide +kernel
theorem dX5_out_43 : decode cX5_out 43 = .ok (.ireturn, 1) := by decide +kernel
theorem dX5_aboutNow_0 : decode cX5_aboutNow 0 = .ok (.iload_n 1, 1) := by decide +kernel
theorem dX5_aboutNow_1 : decode cX5_aboutNow 1 = .ok (.tableswitch 75 0 4 #[35, 40, 45, 50, 70], 35) := by decide +kernel
theorem dX5_aboutNow_36 : decode cX5_aboutNow 36 = .ok (.aload_n 0, 1) := by decide +kernel
theorem dX5_aboutNow_37 : decode cX5_aboutNow 37 = .ok (.getfield 74, 3) := by decide +kernel
theorem dX5_aboutNow_40 : decode cX5_aboutNow 40 = .ok (.ireturn, 1) := by decide +kernel
theorem dX5_aboutNow_41 : decode cX5_aboutNow 41 = .ok (.aload_n 0, 1) := by decide +kernel
theorem dX5_aboutNow_42 : decode cX5_aboutNow 42 = .ok (.getfield 54, 3) := by decide +kernel
theorem dX5_aboutNow_45 : decode cX5_aboutNow 45 = .ok (.ireturn, 1) := by decide +kernel
theorem dX5_aboutNow_46 : decode cX5_aboutNow 46 = .ok (.aload_n 0, 1) := by decide +kernel
theorem dX5_aboutNow_47 : decode cX5_aboutNow 47 = .ok (.getfield 57, 3) := by decide +kernel
theorem dX5_aboutNow_50 : decode cX5_aboutNow 50 = .ok (.ireturn, 1) := by decide +kernel
theorem dX5_aboutNow_51 : decode cX5_aboutNow 51 = .ok (.aload_n 0, 1) := by decide +kernel
theorem dX5_aboutNow_52 : decode cX5_aboutNow 52 = .ok (.getfield 57, 3) := by decide +kernel
theorem dX5_aboutNow_55 : decode cX5_aboutNow 55 = .ok (.iconst (-1), 1) := by decide +kernel
theorem dX5_aboutNow_56 : decode cX5_aboutNow 56 = .ok (.if_icmp .ne 7, 3) := by decide +kernel
theorem dX5_aboutNow_59 : decode cX5_aboutNow 59 = .ok (.iconst (-1), 1) := by decide +kernel
theorem dX5_aboutNow_60 : decode cX5_aboutNow 60 = .ok (.goto 10, 3) := by decide +kernel
theorem dX5_aboutNow_63 : decode cX5_aboutNow 63 = .ok (.aload_n 0, 1) := by decide +kernel
theorem dX5_aboutNow_64 : decode cX5_aboutNow 64 = .ok (.getfield 154, 3) := by decide +kernel
theorem dX5_aboutNow_67 : decode cX5_aboutNow 67 = .ok (.bipush 10, 2) := by decide +kernel
theorem dX5_aboutNow_69 : decode cX5_aboutNow 69 = .ok (.iadd, 1) := by decide +kernel
theorem dX5_aboutNow_70 : decode cX5_aboutNow 70 = .ok (.ireturn, 1) := by decide +kernel
theorem dX5_aboutNow_71 : decode cX5_aboutNow 71 = .ok (.aload_n 0, 1) := by decide +kernel
theorem dX5_aboutNow_72 : decode cX5_aboutNow 72 = .ok (.getfield 195, 3) := by decide +kernel
theorem dX5_aboutNow_75 : decode cX5_aboutNow 75 = .ok (.ireturn, 1) := by decide +kernel
theorem dX5_aboutNow_76 : decode cX5_aboutNow 76 = .ok (.aload_n 0, 1) := by decide +kernel
theorem dX5_aboutNow_77 : decode cX5_aboutNow 77 = .ok (.getfield 44, 3) := by decide +kernel
theorem dX5_aboutNow_80 : decode cX5_aboutNow 80 = .ok (.ireturn, 1) := by decide +kernel
set_option maxRecDepth 20000 in
theorem ggX5_about_X5_within : GoodIn wsX5_about wsX5_within := goodIn_r _ [4] (by decide +kernel) (by decide +kernel)
set_option maxRecDepth 20000 in
theorem gX5_about_X5_within : GoodIn wsX5_about (va_wsS RX5 67 yX5_within wsX5_within) := goodIn_app (goodIn_of _ (by decide +kernel)) ggX5_about_X5_within
set_option maxRecDepth 20000 in
theorem ggX5_about_X5_aboutNow : GoodIn wsX5_about wsX5_aboutNow := goodIn_r _ [8, 9, 10, 11, 12, 13, 14, 15, 16, 17, 18, 19, 20, 21, 22, 23, 24, 25, 26, 27, 28, 29, 30, 31, 32, 33, 34, 35, 36, 37, 38, 39, 40, 41, 42] (by decide +kernel) (by decide +kernel)
set_option maxRecDepth 20000 in
theorem gX5_about_X5_aboutNow : GoodIn wsX5_about (wsV RX5 230 RX5 yX5_aboutNow wsX5_aboutNow) := goodIn_app (goodIn_of _ (by decide +kernel)) ggX5_about_X5_aboutNow
theorem dX5_about_0 : decode cX5_about 0 = .ok (.iload_n 1, 1) := by decide +kernel
theorem dX5_about_1 : decode cX5_about 1 = .ok (.iconst 0, 1) := by decide +kernel
theorem dX5_about_2 : decode cX5_about 2 = .ok (.iconst 5, 1) := by decide +kernel
theorem dX5_about_3 : decode cX5_about 3 = .ok (.invokestatic 67, 3) := by decide +kernel
theorem dX5_about_6 : decode cX5_about 6 = .ok (.ifCond .eq 11, 3) := by decide +kernel
theorem dX5_about_9 : decode cX5_about 9 = .ok (.aload_n 0, 1) := by decide +kernel
theorem dX5_about_10 : decode cX5_about 10 = .ok (.iload_n 1, 1) := by decide +kernel
theorem dX5_about_11 : decode cX5_about 11 = .ok (.invokevirtual 230, 3) := by decide +kernel
theorem dX5_about_14 : decode cX5_about 14 = .ok (.goto 5, 3) := by decide +kernel
theorem dX5_about_17 : decode cX5_about 17 = .ok (.bipush (-102), 2) := by decide +kernel
theorem dX5_about_19 : decode cX5_about 19 = .ok (.ireturn, 1) := by decide +kernel
theorem dX5_heldAll_0 : decode cX5_heldAll 0 = .ok (.iconst 0, 1) := by decide +kernel
theorem dX5_heldAll_1 : decode cX5_heldAll 1 = .ok (.istore_n 1, 1) := by decide +kernel
theorem dX5_heldAll_2 : decode cX5_heldAll 2 = .ok (.iconst 0, 1) := by decide +kernel
theorem dX5_heldAll_3 : decode cX5_heldAll 3 = .ok (.istore_n 2, 1) := by decide +kernel
theorem dX5_heldAll_4 : decode cX5_heldAll 4 = .ok (.iload_n 2, 1) := by decide +kernel
theorem dX5_heldAll_5 : decode cX5_heldAll 5 = .ok (.bipush 16, 2) := by decide +kernel
theorem dX5_heldAll_7 : decode cX5_heldAll 7 = .ok (.if_icmp .ge 31, 3) := by decide +kernel
theorem dX5_heldAll_10 : decode cX5_heldAll 10 = .ok (.iload_n 1, 1) := by decide +kernel
theorem dX5_heldAll_11 : decode cX5_heldAll 11 = .ok (.aload_n 0, 1) := by decide +kernel
theorem dX5_heldAll_12 : decode cX5_heldAll 12 = .ok (.getfield 7, 3) := by decide +kernel
theorem dX5_heldAll_15 : decode cX5_heldAll 15 = .ok (.iload_n 2, 1) := by decide +kernel
theorem dX5_heldAll_16 : decode cX5_heldAll 16 = .ok (.baload, 1) := by decide +kernel
theorem dX5_heldAll_17 : decode cX5_heldAll 17 = .ok (.ifCond .eq 12, 3) := by decide +kernel
theorem dX5_heldAll_20 : decode cX5_heldAll 20 = .ok (.aload_n 0, 1) := by decide +kernel
theorem dX5_heldAll_21 : decode cX5_heldAll 21 = .ok (.getfield 29, 3) := by decide +kernel
theorem dX5_heldAll_24 : decode cX5_heldAll 24 = .ok (.iload_n 2, 1) := by decide +kernel
theorem dX5_heldAll_25 : decode cX5_heldAll 25 = .ok (.iaload, 1) := by decide +kernel
theorem dX5_heldAll_26 : decode cX5_heldAll 26 = .ok (.goto 4, 3) := by decide +kernel
theorem dX5_heldAll_29 : decode cX5_heldAll 29 = .ok (.iconst 0, 1) := by decide +kernel
theorem dX5_heldAll_30 : decode cX5_heldAll 30 = .ok (.iadd, 1) := by decide +kernel
theorem dX5_heldAll_31 : decode cX5_heldAll 31 = .ok (.istore_n 1, 1) := by decide +kernel
theorem dX5_heldAll_32 : decode cX5_heldAll 32 = .ok (.iinc 2 1, 3) := by decide +kernel
theorem dX5_heldAll_35 : decode cX5_heldAll 35 = .ok (.goto (-31), 3) := by decide +kernel
theorem dX5_heldAll_38 : decode cX5_heldAll 38 = .ok (.iload_n 1, 1) := by decide +kernel
theorem dX5_heldAll_39 : decode cX5_heldAll 39 = .ok (.ireturn, 1) := by decide +kernel
set_option maxRecDepth 20000 in
theorem ggX5_howMany_X5_entries : GoodIn wsX5_howMany wsX5_entries := goodIn_r _ [10, 11, 12, 23, 24, 25, 26, 27, 28, 29, 30, 31, 32, 33, 34, 35, 36, 37, 38, 39, 40, 41, 42, 43, 44, 45, 46, 47, 48, 49, 50] (by decide +kernel) (by decide +kernel)
set_option maxRecDepth 20000 in
theorem gX5_howMany_X5_entries : GoodIn wsX5_howMany (wsV RX5 96 RX5 yX5_entries wsX5_entries) := goodIn_app (goodIn_of _ (by decide +kernel)) ggX5_howMany_X5_entries
set_option maxRecDepth 20000 in
theorem ggX5_howMany_X5_routers : GoodIn wsX5_howMany wsX5_routers := goodIn_r _ [16, 17, 23, 24, 25, 26, 27, 28, 29, 30, 31, 32, 33, 34, 35, 36, 37, 38, 39, 40, 41, 42, 43, 44, 45, 46, 47, 48, 49, 50] (by decide +kernel) (by decide +kernel)
set_option maxRecDepth 20000 in
theorem gX5_howMany_X5_routers : GoodIn wsX5_howMany (wsV RX5 139 RX5 yX5_routers wsX5_routers) := goodIn_app (goodIn_of _ (by decide +kernel)) ggX5_howMany_X5_routers
set_option maxRecDepth 20000 in
theorem ggX5_howMany_X5_heldAll : GoodIn wsX5_howMany wsX5_heldAll := goodIn_r _ [21, 11, 22, 23, 24, 25, 26, 27, 28, 29, 30, 31, 32, 33, 34, 35, 36, 37, 38, 39, 40, 41, 42, 43, 44, 45, 46, 47, 48, 49, 50] (by decide +kernel) (by decide +kernel)
set_option maxRecDepth 20000 in
theorem gX5_howMany_X5_heldAll : GoodIn wsX5_howMany (wsV RX5 233 RX5 yX5_heldAll wsX5_heldAll) := goodIn_app (goodIn_of _ (by decide +kernel)) ggX5_howMany_X5_heldAll
theorem dX5_howMany_0 : decode cX5_howMany 0 = .ok (.iload_n 1, 1) := by decide +kernel
theorem dX5_howMany_1 : decode cX5_howMany 1 = .ok (.tableswitch 98 0 8 #[51, 57, 62, 67, 72, 77, 82, 87, 92], 51) := by decide +kernel
theorem dX5_howMany_52 : decode cX5_howMany 52 = .ok (.aload_n 0, 1) := by decide +kernel
theorem dX5_howMany_53 : decode cX5_howMany 53 = .ok (.iconst (-1), 1) := by decide +kernel
theorem dX5_howMany_54 : decode cX5_howMany 54 = .ok (.invokevirtual 96, 3) := by decide +kernel
theorem dX5_howMany_57 : decode cX5_howMany 57 = .ok (.ireturn, 1) := by decide +kernel
theorem dX5_howMany_58 : decode cX5_howMany 58 = .ok (.aload_n 0, 1) := by decide +kernel
theorem dX5_howMany_59 : decode cX5_howMany 59 = .ok (.invokevirtual 139, 3) := by decide +kernel
theorem dX5_howMany_62 : decode cX5_howMany 62 = .ok (.ireturn, 1) := by decide +kernel
theorem dX5_howMany_63 : decode cX5_howMany 63 = .ok (.aload_n 0, 1) := by decide +kernel
theorem dX5_howMany_64 : decode cX5_howMany 64 = .ok (.getfield 83, 3) := by decide +kernel
theorem dX5_howMany_67 : decode cX5_howMany 67 = .ok (.ireturn, 1) := by decide +kernel
theorem dX5_howMany_68 : decode cX5_howMany 68 = .ok (.aload_n 0, 1) := by decide +kernel
theorem dX5_howMany_69 : decode cX5_howMany 69 = .ok (.invokevirtual 233, 3) := by decide +kernel
theorem dX5_howMany_72 : decode cX5_howMany 72 = .ok (.ireturn, 1) := by decide +kernel
theorem dX5_howMany_73 : decode cX5_howMany 73 = .ok (.aload_n 0, 1) := by decide +kernel
theorem dX5_howMany_74 : decode cX5_howMany 74 = .ok (.getfield 86, 3) := by decide +kernel
theorem dX5_howMany_77 : decode cX5_howMany 77 = .ok (.ireturn, 1) := by decide +kernel
theorem dX5_howMany_78 : decode cX5_howMany 78 = .ok (.aload_n 0, 1) := by decide +kernel
theorem dX5_howMany_79 : decode cX5_howMany 79 = .ok (.getfield 80, 3) := by decide +kernel
theorem dX5_howMany_82 : decode cX5_howMany 82 = .ok (.ireturn, 1) := by decide +kernel
theorem dX5_howMany_83 : decode cX5_howMany 83 = .ok (.aload_n 0, 1) := by decide +kernel
theorem dX5_howMany_84 : decode cX5_howMany 84 = .ok (.getfield 77, 3) := by decide +kernel
theorem dX5_howMany_87 : decode cX5_howMany 87 = .ok (.ireturn, 1) := by decide +kernel
theorem dX5_howMany_88 : decode cX5_howMany 88 = .ok (.aload_n 0, 1) := by decide +kernel
theorem dX5_howMany_89 : decode cX5_howMany 89 = .ok (.getfield 89, 3) := by decide +kernel
theorem dX5_howMany_92 : decode cX5_howMany 92 = .ok (.ireturn, 1) := by decide +kernel
theorem dX5_howMany_93 : decode cX5_howMany 93 = .ok (.aload_n 0, 1) := by decide +kernel
theorem dX5_howMany_94 : decode cX5_howMany 94 = .ok (.iconst 1, 1) := by decide +kernel
theorem dX5_howMany_95 : decode cX5_howMany 95 = .ok (.invokevirtual 96, 3) := by decide +kernel
theorem dX5_howMany_98 : decode cX5_howMany 98 = .ok (.ireturn, 1) := by decide +kernel
theorem dX5_howMany_99 : decode cX5_howMany 99 = .ok (.bipush (-102), 2) := by decide +kernel
theorem dX5_howMany_101 : decode cX5_howMany 101 = .ok (.ireturn, 1) := by decide +kernel
set_option maxRecDepth 20000 in
theorem ggX5_count_X5_howMany : GoodIn wsX5_count wsX5_howMany := goodIn_r _ [5, 6, 7, 8, 9, 10, 11, 12, 13, 4, 14, 15, 16, 17, 18, 19, 20, 21, 22, 23, 24, 25, 26, 27, 28, 29, 30, 31, 32, 33, 34, 35, 36, 37, 38, 39, 40, 41, 42, 43, 44, 45, 46, 47, 48, 49, 50, 51, 52, 53, 54] (by decide +kernel) (by decide +kernel)
set_option maxRecDepth 20000 in
theorem gX5_count_X5_howMany : GoodIn wsX5_count (wsV RX5 236 RX5 yX5_howMany wsX5_howMany) := goodIn_app (goodIn_of _ (by decide +kernel)) ggX5_count_X5_howMany
theorem dX5_count_0 : decode cX5_count 0 = .ok (.aload_n 0, 1) := by decide +kernel
theorem dX5_count_1 : decode cX5_count 1 = .ok (.iload_n 1, 1) := by decide +kernel
theorem dX5_count_2 : decode cX5_count 2 = .ok (.invokevirtual 236, 3) := by decide +kernel
theorem dX5_count_5 : decode cX5_count 5 = .ok (.ireturn, 1) := by decide +kernel
theorem dX5_mix_0 : decode cX5_mix 0 = .ok (.aload_n 0, 1) := by decide +kernel
theorem dX5_mix_1 : decode cX5_mix 1 = .ok (.ldc2_w 239, 3) := by decide +kernel
theorem dX5_mix_4 : decode cX5_mix 4 = .ok (.aload_n 0, 1) := by decide +kernel
theorem dX5_mix_5 : decode cX5_mix 5 = .ok (.getfield 241, 3) := by decide +kernel
theorem dX5_mix_8 : decode cX5_mix 8 = .ok (.lmul, 1) := by decide +kernel
theorem dX5_mix_9 : decode cX5_mix 9 = .ok (.lload_n 1, 1) := by decide +kernel
theorem dX5_mix_10 : decode cX5_mix 10 = .ok (.ladd, 1) := by decide +kernel
theorem dX5_mix_11 : decode cX5_mix 11 = .ok (.putfield 241, 3) := by decide +kernel
theorem dX5_mix_14 : decode cX5_mix 14 = .ok (.return_, 1) := by decide +kernel
set_option maxRecDepth 20000 in
theorem ggX5_mixEntry_X5_mix : GoodIn wsX5_mixEntry wsX5_mix := goodIn_r _ [9, 10, 11, 26, 27, 28, 29, 30, 31, 32, 33, 34, 35, 36, 37, 38, 39, 40, 41, 42, 43, 44, 45, 46, 47, 48, 49, 50, 51, 52, 53] (by decide +kernel) (by decide +kernel)
set_option maxRecDepth 20000 in
theorem gX5_mixEntry_X5_mix : GoodIn wsX5_mixEntry (wsV RX5 247 RX5 yX5_mix wsX5_mix) := goodIn_app (goodIn_of _ (by decide +kernel)) ggX5_mixEntry_X5_mix
set_option maxRecDepth 20000 in
theorem ggX5_mixEntry_X5_entryNow : GoodIn wsX5_mixEntry wsX5_entryNow := goodIn_r _ [15, 16, 17, 18, 19, 3, 20, 21, 22, 23, 24, 8, 25, 26, 27, 28, 29, 30, 31, 32, 33, 34, 35, 36, 37, 38, 39, 40, 41, 42, 43, 44, 45, 46, 47, 48, 49, 50, 51, 52, 53] (by decide +kernel) (by decide +kernel)
set_option maxRecDepth 20000 in
theorem gX5_mixEntry_X5_entryNow : GoodIn wsX5_mixEntry (wsV RX5 224 RX5 yX5_entryNow wsX5_entryNow) := goodIn_app (goodIn_of _ (by decide +kernel)) ggX5_mixEntry_X5_entryNow
theorem dX5_mixEntry_0 : decode cX5_mixEntry 0 = .ok (.aload_n 0, 1) := by decide +kernel
theorem dX5_mixEntry_1 : decode cX5_mixEntry 1 = .ok (.getfield 7, 3) := by decide +kernel
theorem dX5_mixEntry_4 : decode cX5_mixEntry 4 = .ok (.iload_n 1, 1) := by decide +kernel
theorem dX5_mixEntry_5 : decode cX5_mixEntry 5 = .ok (.baload, 1) := by decide +kernel
theorem dX5_mixEntry_6 : decode cX5_mixEntry 6 = .ok (.ifCond .ne 11, 3) := by decide +kernel
theorem dX5_mixEntry_9 : decode cX5_mixEntry 9 = .ok (.aload_n 0, 1) := by decide +kernel
theorem dX5_mixEntry_10 : decode cX5_mixEntry 10 = .ok (.ldc2_w 245, 3) := by decide +kernel
theorem dX5_mixEntry_13 : decode cX5_mixEntry 13 = .ok (.invokevirtual 247, 3) := by decide +kernel
theorem dX5_mixEntry_16 : decode cX5_mixEntry 16 = .ok (.return_, 1) := by decide +kernel
theorem dX5_mixEntry_17 : decode cX5_mixEntry 17 = .ok (.iconst 0, 1) := by decide +kernel
theorem dX5_mixEntry_18 : decode cX5_mixEntry 18 = .ok (.istore_n 2, 1) := by decide +kernel
theorem dX5_mixEntry_19 : decode cX5_mixEntry 19 = .ok (.iload_n 2, 1) := by decide +kernel
theorem dX5_mixEntry_20 : decode cX5_mixEntry 20 = .ok (.bipush 8, 2) := by decide +kernel
theorem dX5_mixEntry_22 : decode cX5_mixEntry 22 = .ok (.if_icmp .ge 20, 3) := by decide +kernel
theorem dX5_mixEntry_25 : decode cX5_mixEntry 25 = .ok (.aload_n 0, 1) := by decide +kernel
theorem dX5_mixEntry_26 : decode cX5_mixEntry 26 = .ok (.aload_n 0, 1) := by decide +kernel
theorem dX5_mixEntry_27 : decode cX5_mixEntry 27 = .ok (.iload_n 1, 1) := by decide +kernel
theorem dX5_mixEntry_28 : decode cX5_mixEntry 28 = .ok (.iload_n 2, 1) := by decide +kernel
theorem dX5_mixEntry_29 : decode cX5_mixEntry 29 = .ok (.invokevirtual 224, 3) := by decide +kernel
theorem dX5_mixEntry_32 : decode cX5_mixEntry 32 = .ok (.i2l, 1) := by decide +kernel
theorem dX5_mixEntry_33 : decode cX5_mixEntry 33 = .ok (.invokevirtual 247, 3) := by decide +kernel
theorem dX5_mixEntry_36 : decode cX5_mixEntry 36 = .ok (.iinc 2 1, 3) := by decide +kernel
theorem dX5_mixEntry_39 : decode cX5_mixEntry 39 = .ok (.goto (-20), 3) := by decide +kernel
theorem dX5_mixEntry_42 : decode cX5_mixEntry 42 = .ok (.iconst 0, 1) := by decide +kernel
theorem dX5_mixEntry_43 : decode cX5_mixEntry 43 = .ok (.istore_n 2, 1) := by decide +kernel
theorem dX5_mixEntry_44 : decode cX5_mixEntry 44 = .ok (.iload_n 2, 1) := by decide +kernel
theorem dX5_mixEntry_45 : decode cX5_mixEntry 45 = .ok (.aload_n 0, 1) := by decide +kernel
theorem dX5_mixEntry_46 : decode cX5_mixEntry 46 = .ok (.getfield 29, 3) := by decide +kernel
theorem dX5_mixEntry_49 : decode cX5_mixEntry 49 = .ok (.iload_n 1, 1) := by decide +kernel
theorem dX5_mixEntry_50 : decode cX5_mixEntry 50 = .ok (.iaload, 1) := by decide +kernel
theorem dX5_mixEntry_51 : decode cX5_mixEntry 51 = .ok (.if_icmp .ge 24, 3) := by decide +kernel
theorem dX5_mixEntry_54 : decode cX5_mixEntry 54 = .ok (.aload_n 0, 1) := by decide +kernel
theorem dX5_mixEntry_55 : decode cX5_mixEntry 55 = .ok (.aload_n 0, 1) := by decide +kernel
theorem dX5_mixEntry_56 : decode cX5_mixEntry 56 = .ok (.getfield 32, 3) := by decide +kernel
theorem dX5_mixEntry_59 : decode cX5_mixEntry 59 = .ok (.iconst 3, 1) := by decide +kernel
theorem dX5_mixEntry_60 : decode cX5_mixEntry 60 = .ok (.iload_n 1, 1) := by decide +kernel
theorem dX5_mixEntry_61 : decode cX5_mixEntry 61 = .ok (.imul, 1) := by decide +kernel
theorem dX5_mixEntry_62 : decode cX5_mixEntry 62 = .ok (.iload_n 2, 1) := by decide +kernel
theorem dX5_mixEntry_63 : decode cX5_mixEntry 63 = .ok (.iadd, 1) := by decide +kernel
theorem dX5_mixEntry_64 : decode cX5_mixEntry 64 = .ok (.iaload, 1) := by decide +kernel
theorem dX5_mixEntry_65 : decode cX5_mixEntry 65 = .ok (.i2l, 1) := by decide +kernel
theorem dX5_mixEntry_66 : decode cX5_mixEntry 66 = .ok (.invokevirtual 247, 3) := by decide +kernel
theorem dX5_mixEntry_69 : decode cX5_mixEntry 69 = .ok (.iinc 2 1, 3) := by decide +kernel
theorem dX5_mixEntry_72 : decode cX5_mixEntry 72 = .ok (.goto (-28), 3) := by decide +kernel
theorem dX5_mixEntry_75 : decode cX5_mixEntry 75 = .ok (.return_, 1) := by decide +kernel
set_option maxRecDepth 20000 in
theorem ggX5_mixRouters_X5_routers : GoodIn wsX5_mixRouters wsX5_routers := goodIn_r _ [5, 6, 37, 38, 39, 40, 41, 42, 43, 44, 45, 46, 47, 48, 49, 50, 51, 52, 53, 54, 55, 56, 57, 58, 59, 60, 61, 62, 63, 64] (by decide +kernel) (by decide +kernel)
set_option maxRecDepth 20000 in
theorem gX5_mixRouters_X5_routers : GoodIn wsX5_mixRouters (wsV RX5 139 RX5 yX5_routers wsX5_routers) := goodIn_app (goodIn_of _ (by decide +kernel)) ggX5_mixRouters_X5_routers
set_option maxRecDepth 20000 in
theorem ggX5_mixRouters_X5_routerAt : GoodIn wsX5_mixRouters wsX5_routerAt := goodIn_r _ [10, 6, 11, 12, 13, 4, 14, 15, 16, 17, 18, 19, 20, 21, 22, 23, 24, 25, 37, 38, 39, 40, 41, 42, 43, 44, 45, 46, 47, 48, 49, 50, 51, 52, 53, 54, 55, 56, 57, 58, 59, 60, 61, 62, 63, 64] (by decide +kernel) (by decide +kernel)
set_option maxRecDepth 20000 in
theorem gX5_mixRouters_X5_routerAt : GoodIn wsX5_mixRouters (wsV RX5 142 RX5 yX5_routerAt wsX5_routerAt) := goodIn_app (goodIn_of _ (by decide +kernel)) ggX5_mixRouters_X5_routerAt
set_option maxRecDepth 20000 in
theorem ggX5_mixRouters_X5_routerNow : GoodIn wsX5_mixRouters wsX5_routerNow := goodIn_r _ [29, 19, 30, 20, 21, 22, 4, 23, 24, 25, 37, 38, 39, 40, 41, 42, 43, 44, 45, 46, 47, 48, 49, 50, 51, 52, 53, 54, 55, 56, 57, 58, 59, 60, 61, 62, 63, 64] (by decide +kernel) (by decide +kernel)
set_option maxRecDepth 20000 in
theorem gX5_mixRouters_X5_routerNow : GoodIn wsX5_mixRouters (wsV RX5 227 RX5 yX5_routerNow wsX5_routerNow) := goodIn_app (goodIn_of _ (by decide +kernel)) ggX5_mixRouters_X5_routerNow
set_option maxRecDepth 20000 in
theorem ggX5_mixRouters_X5_mix : GoodIn wsX5_mixRouters wsX5_mix := goodIn_r _ [34, 35, 36, 37, 38, 39, 40, 41, 42, 43, 44, 45, 46, 47, 48, 49, 50, 51, 52, 53, 54, 55, 56, 57, 58, 59, 60, 61, 62, 63, 64] (by decide +kernel) (by decide +kernel)
set_option maxRecDepth 20000 in
theorem gX5_mixRouters_X5_mix : GoodIn wsX5_mixRouters (wsV RX5 247 RX5 yX5_mix wsX5_mix) := goodIn_app (goodIn_of _ (by decide +kernel)) ggX5_mixRouters_X5_mix
theorem dX5_mixRouters_0 : decode cX5_mixRouters 0 = .ok (.aload_n 0, 1) := by decide +kernel
theorem dX5_mixRouters_1 : decode cX5_mixRouters 1 = .ok (.invokevirtual 139, 3) := by decide +kernel
theorem dX5_mixRouters_4 : decode cX5_mixRouters 4 = .ok (.istore_n 1, 1) := by decide +kernel
theorem dX5_mixRouters_5 : decode cX5_mixRouters 5 = .ok (.iconst 0, 1) := by decide +kernel
theorem dX5_mixRouters_6 : decode cX5_mixRouters 6 = .ok (.istore_n 2, 1) := by decide +kernel
theorem dX5_mixRouters_7 : decode cX5_mixRouters 7 = .ok (.iload_n 2, 1) := by decide +kernel
theorem dX5_mixRouters_8 : decode cX5_mixRouters 8 = .ok (.iconst 4, 1) := by decide +kernel
theorem dX5_mixRouters_9 : decode cX5_mixRouters 9 = .ok (.iload_n 1, 1) := by decide +kernel
theorem dX5_mixRouters_10 : decode cX5_mixRouters 10 = .ok (.imul, 1) := by decide +kernel
theorem dX5_mixRouters_11 : decode cX5_mixRouters 11 = .ok (.if_icmp .ge 28, 3) := by decide +kernel
theorem dX5_mixRouters_14 : decode cX5_mixRouters 14 = .ok (.aload_n 0, 1) := by decide +kernel
theorem dX5_mixRouters_15 : decode cX5_mixRouters 15 = .ok (.aload_n 0, 1) := by decide +kernel
theorem dX5_mixRouters_16 : decode cX5_mixRouters 16 = .ok (.aload_n 0, 1) := by decide +kernel
theorem dX5_mixRouters_17 : decode cX5_mixRouters 17 = .ok (.iload_n 2, 1) := by decide +kernel
theorem dX5_mixRouters_18 : decode cX5_mixRouters 18 = .ok (.iconst 4, 1) := by decide +kernel
theorem dX5_mixRouters_19 : decode cX5_mixRouters 19 = .ok (.idiv, 1) := by decide +kernel
theorem dX5_mixRouters_20 : decode cX5_mixRouters 20 = .ok (.invokevirtual 142, 3) := by decide +kernel
theorem dX5_mixRouters_23 : decode cX5_mixRouters 23 = .ok (.iload_n 2, 1) := by decide +kernel
theorem dX5_mixRouters_24 : decode cX5_mixRouters 24 = .ok (.iconst 4, 1) := by decide +kernel
theorem dX5_mixRouters_25 : decode cX5_mixRouters 25 = .ok (.irem, 1) := by decide +kernel
theorem dX5_mixRouters_26 : decode cX5_mixRouters 26 = .ok (.invokevirtual 227, 3) := by decide +kernel
theorem dX5_mixRouters_29 : decode cX5_mixRouters 29 = .ok (.i2l, 1) := by decide +kernel
theorem dX5_mixRouters_30 : decode cX5_mixRouters 30 = .ok (.invokevirtual 247, 3) := by decide +kernel
theorem dX5_mixRouters_33 : decode cX5_mixRouters 33 = .ok (.iinc 2 1, 3) := by decide +kernel
theorem dX5_mixRouters_36 : decode cX5_mixRouters 36 = .ok (.goto (-29), 3) := by decide +kernel
theorem dX5_mixRouters_39 : decode cX5_mixRouters 39 = .ok (.return_, 1) := by decide +kernel
set_option maxRecDepth 20000 in
theorem ggX5_digest_X5_aboutNow : GoodIn wsX5_digest wsX5_aboutNow := goodIn_r _ [9, 10, 11, 12, 13, 14, 15, 108, 109, 110, 111, 112, 113, 114, 115, 116, 117, 118, 119, 120, 121, 122, 123, 124, 125, 126, 127, 128, 129, 130, 131, 132, 133, 134, 135] (by decide +kernel) (by decide +kernel)
set_option maxRecDepth 20000 in
theorem gX5_digest_X5_aboutNow : GoodIn wsX5_digest (wsV RX5 230 RX5 yX5_aboutNow wsX5_aboutNow) := goodIn_app (goodIn_of _ (by decide +kernel)) ggX5_digest_X5_aboutNow
set_option maxRecDepth 20000 in
theorem ggX5_digest_X5_mix : GoodIn wsX5_digest wsX5_mix := goodIn_r _ [19, 20, 2, 108, 109, 110, 111, 112, 113, 114, 115, 116, 117, 118, 119, 120, 121, 122, 123, 124, 125, 126, 127, 128, 129, 130, 131, 132, 133, 134, 135] (by decide +kernel) (by decide +kernel)
set_option maxRecDepth 20000 in
theorem gX5_digest_X5_mix : GoodIn wsX5_digest (wsV RX5 247 RX5 yX5_mix wsX5_mix) := goodIn_app (goodIn_of _ (by decide +kernel)) ggX5_digest_X5_mix
set_option maxRecDepth 20000 in
theorem ggX5_digest_X5_mixEntry : GoodIn wsX5_digest wsX5_mixEntry := goodIn_r _ [24, 25, 26, 27, 28, 16, 17, 18, 8, 19, 20, 2, 29, 30, 31, 32, 33, 34, 35, 36, 37, 38, 39, 40, 41, 42, 108, 109, 110, 111, 112, 113, 114, 115, 116, 117, 118, 119, 120, 121, 122, 123, 124, 125, 126, 127, 128, 129, 130, 131, 132, 133, 134, 135] (by decide +kernel) (by decide +kernel)
set_option maxRecDepth 20000 in
theorem gX5_digest_X5_mixEntry : GoodIn wsX5_digest (wsV RX5 253 RX5 yX5_mixEntry wsX5_mixEntry) := goodIn_app (goodIn_of _ (by decide +kernel)) ggX5_digest_X5_mixEntry
set_option maxRecDepth 20000 in
theorem ggX5_digest_X5_mixRouters : GoodIn wsX5_digest wsX5_mixRouters := goodIn_r _ [46, 47, 48, 49, 8, 50, 37, 51, 52, 53, 54, 55, 56, 57, 58, 59, 60, 61, 62, 63, 64, 65, 66, 67, 25, 33, 68, 69, 70, 71, 72, 16, 17, 18, 19, 20, 2, 108, 109, 110, 111, 112, 113, 114, 115, 116, 117, 118, 119, 120, 121, 122, 123, 124, 125, 126, 127, 128, 129, 130, 131, 132, 133, 134, 135] (by decide +kernel) (by decide +kernel)
set_option maxRecDepth 20000 in
theorem gX5_digest_X5_mixRouters : GoodIn wsX5_digest (wsV RX5 256 RX5 yX5_mixRouters wsX5_mixRouters) := goodIn_app (goodIn_of _ (by decide +kernel)) ggX5_digest_X5_mixRouters
set_option maxRecDepth 20000 in
theorem ggX5_digest_X5_hopNow : GoodIn wsX5_digest wsX5_hopNow := goodIn_r _ [76, 77, 78, 79, 80, 81, 8, 82, 83, 47, 48, 49, 50, 37, 84, 85, 86, 87, 51, 52, 53, 54, 55, 56, 57, 58, 59, 60, 61, 62, 63, 64, 65, 66, 67, 25, 33, 88, 89, 90, 91, 15, 108, 109, 110, 111, 112, 113, 114, 115, 116, 117, 118, 119, 120, 121, 122, 123, 124, 125, 126, 127, 128, 129, 130, 131, 132, 133, 134, 135] (by decide +kernel) (by decide +kernel)
set_option maxRecDepth 20000 in
theorem gX5_digest_X5_hopNow : GoodIn wsX5_digest (wsV RX5 186 RX5 yX5_hopNow wsX5_hopNow) := goodIn_app (goodIn_of _ (by decide +kernel)) ggX5_digest_X5_hopNow
set_option maxRecDepth 20000 in
theorem ggX5_digest_X5_howMany : GoodIn wsX5_digest wsX5_howMany := goodIn_r _ [95, 77, 96, 97, 98, 99, 100, 101, 102, 8, 103, 25, 33, 47, 48, 49, 50, 37, 104, 105, 106, 107, 27, 108, 109, 110, 111, 112, 113, 114, 115, 116, 117, 118, 119, 120, 121, 122, 123, 124, 125, 126, 127, 128, 129, 130, 131, 132, 133, 134, 135] (by decide +kernel) (by decide +kernel)
set_option maxRecDepth 20000 in
theorem gX5_digest_X5_howMany : GoodIn wsX5_digest (wsV RX5 236 RX5 yX5_howMany wsX5_howMany) := goodIn_app (goodIn_of _ (by decide +kernel)) ggX5_digest_X5_howMany
theorem dX5_digest_0 : decode cX5_digest 0 = .ok (.aload_n 0, 1) := by decide +kernel
theorem dX5_digest_1 : decode cX5_digest 1 = .ok (.ldc2_w 251, 3) := by decide +kernel
theorem dX5_digest_4 : decode cX5_digest 4 = .ok (.putfield 241, 3) := by decide +kernel
theorem dX5_digest_7 : decode cX5_digest 7 = .ok (.iconst 0, 1) := by decide +kernel
theorem dX5_digest_8 : decode cX5_digest 8 = .ok (.istore_n 1, 1) := by decide +kernel
theorem dX5_digest_9 : decode cX5_digest 9 = .ok (.iload_n 1, 1) := by decide +kernel
theorem dX5_digest_10 : decode cX5_digest 10 = .ok (.bipush 6, 2) := by decide +kernel
theorem dX5_digest_12 : decode cX5_digest 12 = .ok (.if_icmp .ge 19, 3) := by decide +kernel
theorem dX5_digest_15 : decode cX5_digest 15 = .ok (.aload_n 0, 1) := by decide +kernel
theorem dX5_digest_16 : decode cX5_digest 16 = .ok (.aload_n 0, 1) := by decide +kernel
theorem dX5_digest_17 : decode cX5_digest 17 = .ok (.iload_n 1, 1) := by decide +kernel
theorem dX5_digest_18 : decode cX5_digest 18 = .ok (.invokevirtual 230, 3) := by decide +kernel
theorem dX5_digest_21 : decode cX5_digest 21 = .ok (.i2l, 1) := by decide +kernel
theorem dX5_digest_22 : decode cX5_digest 22 = .ok (.invokevirtual 247, 3) := by decide +kernel
theorem dX5_digest_25 : decode cX5_digest 25 = .ok (.iinc 1 1, 3) := by decide +kernel
theorem dX5_digest_28 : decode cX5_digest 28 = .ok (.goto (-19), 3) := by decide +kernel
theorem dX5_digest_31 : decode cX5_digest 31 = .ok (.iconst 0, 1) := by decide +kernel
theorem dX5_digest_32 : decode cX5_digest 32 = .ok (.istore_n 1, 1) := by decide +kernel
theorem dX5_digest_33 : decode cX5_digest 33 = .ok (.iload_n 1, 1) := by decide +kernel
theorem dX5_digest_34 : decode cX5_digest 34 = .ok (.bipush 16, 2) := by decide +kernel
theorem dX5_digest_36 : decode cX5_digest 36 = .ok (.if_icmp .ge 14, 3) := by decide +kernel
theorem dX5_digest_39 : decode cX5_digest 39 = .ok (.aload_n 0, 1) := by decide +kernel
theorem dX5_digest_40 : decode cX5_digest 40 = .ok (.iload_n 1, 1) := by decide +kernel
theorem dX5_digest_41 : decode cX5_digest 41 = .ok (.invokevirtual 253, 3) := by decide +kernel
theorem dX5_digest_44 : decode cX5_digest 44 = .ok (.iinc 1 1, 3) := by decide +kernel
theorem dX5_digest_47 : decode cX5_digest 47 = .ok (.goto (-14), 3) := by decide +kernel
theorem dX5_digest_50 : decode cX5_digest 50 = .ok (.aload_n 0, 1) := by decide +kernel
theorem dX5_digest_51 : decode cX5_digest 51 = .ok (.invokevirtual 256, 3) := by decide +kernel
theorem dX5_digest_54 : decode cX5_digest 54 = .ok (.bipush 16, 2) := by decide +kernel
theorem dX5_digest_56 : decode cX5_digest 56 = .ok (.istore_n 1, 1) := by decide +kernel
theorem dX5_digest_57 : decode cX5_digest 57 = .ok (.iload_n 1, 1) := by decide +kernel
theorem dX5_digest_58 : decode cX5_digest 58 = .ok (.bipush 20, 2) := by decide +kernel
theorem dX5_digest_60 : decode cX5_digest 60 = .ok (.if_icmp .ge 19, 3) := by decide +kernel
theorem dX5_digest_63 : decode cX5_digest 63 = .ok (.aload_n 0, 1) := by decide +kernel
theorem dX5_digest_64 : decode cX5_digest 64 = .ok (.aload_n 0, 1) := by decide +kernel
theorem dX5_digest_65 : decode cX5_digest 65 = .ok (.iload_n 1, 1) := by decide +kernel
theorem dX5_digest_66 : decode cX5_digest 66 = .ok (.invokevirtual 186, 3) := by decide +kernel
theorem dX5_digest_69 : decode cX5_digest 69 = .ok (.i2l, 1) := by decide +kernel
theorem dX5_digest_70 : decode cX5_digest 70 = .ok (.invokevirtual 247, 3) := by decide +kernel
theorem dX5_digest_73 : decode cX5_digest 73 = .ok (.iinc 1 1, 3) := by decide +kernel
theorem dX5_digest_76 : decode cX5_digest 76 = .ok (.goto (-19), 3) := by decide +kernel
theorem dX5_digest_79 : decode cX5_digest 79 = .ok (.iconst 0, 1) := by decide +kernel
theorem dX5_digest_80 : decode cX5_digest 80 = .ok (.istore_n 1, 1) := by decide +kernel
theorem dX5_digest_81 : decode cX5_digest 81 = .ok (.iload_n 1, 1) := by decide +kernel
theorem dX5_digest_82 : decode cX5_digest 82 = .ok (.iconst 5, 1) := by decide +kernel
theorem dX5_digest_83 : decode cX5_digest 83 = .ok (.aload_n 0, 1) := by decide +kernel
theorem dX5_digest_84 : decode cX5_digest 84 = .ok (.getfield 71, 3) := by decide +kernel
theorem dX5_digest_87 : decode cX5_digest 87 = .ok (.imul, 1) := by decide +kernel
theorem dX5_digest_88 : decode cX5_digest 88 = .ok (.if_icmp .ge 20, 3) := by decide +kernel
theorem dX5_digest_91 : decode cX5_digest 91 = .ok (.aload_n 0, 1) := by decide +kernel
theorem dX5_digest_92 : decode cX5_digest 92 = .ok (.aload_n 0, 1) := by decide +kernel
theorem dX5_digest_93 : decode cX5_digest 93 = .ok (.getfield 60, 3) := by decide +kernel
theorem dX5_digest_96 : decode cX5_digest 96 = .ok (.iload_n 1, 1) := by decide +kernel
theorem dX5_digest_97 : decode cX5_digest 97 = .ok (.iaload, 1) := by decide +kernel
theorem dX5_digest_98 : decode cX5_digest 98 = .ok (.i2l, 1) := by decide +kernel
theorem dX5_digest_99 : decode cX5_digest 99 = .ok (.invokevirtual 247, 3) := by decide +kernel
theorem dX5_digest_102 : decode cX5_digest 102 = .ok (.iinc 1 1, 3) := by decide +kernel
theorem dX5_digest_105 : decode cX5_digest 105 = .ok (.goto (-24), 3) := by decide +kernel
theorem dX5_digest_108 : decode cX5_digest 108 = .ok (.iconst 0, 1) := by decide +kernel
theorem dX5_digest_109 : decode cX5_digest 109 = .ok (.istore_n 1, 1) := by decide +kernel
theorem dX5_digest_110 : decode cX5_digest 110 = .ok (.iload_n 1, 1) := by decide +kernel
theorem dX5_digest_111 : decode cX5_digest 111 = .ok (.bipush 9, 2) := by decide +kernel
theorem dX5_digest_113 : decode cX5_digest 113 = .ok (.if_icmp .ge 19, 3) := by decide +kernel
theorem dX5_digest_116 : decode cX5_digest 116 = .ok (.aload_n 0, 1) := by decide +kernel
theorem dX5_digest_117 : decode cX5_digest 117 = .ok (.aload_n 0, 1) := by decide +kernel
theorem dX5_digest_118 : decode cX5_digest 118 = .ok (.iload_n 1, 1) := by decide +kernel
theorem dX5_digest_119 : decode cX5_digest 119 = .ok (.invokevirtual 236, 3) := by decide +kernel
theorem dX5_digest_122 : decode cX5_digest 122 = .ok (.i2l, 1) := by decide +kernel
theorem dX5_digest_123 : decode cX5_digest 123 = .ok (.invokevirtual 247, 3) := by decide +kernel
theorem dX5_digest_126 : decode cX5_digest 126 = .ok (.iinc 1 1, 3) := by decide +kernel
theorem dX5_digest_129 : decode cX5_digest 129 = .ok (.goto (-19), 3) := by decide +kernel
theorem dX5_digest_132 : decode cX5_digest 132 = .ok (.aload_n 0, 1) := by decide +kernel
theorem dX5_digest_133 : decode cX5_digest 133 = .ok (.getfield 241, 3) := by decide +kernel
theorem dX5_digest_136 : decode cX5_digest 136 = .ok (.lreturn, 1) := by decide +kernel
