set_option maxRecDepth 20000 in
theorem gX4_mixEntry_X4_mix : GoodIn wsX4_mixEntry (va_wsS RX4 209 yX4_mix wsX4_mix) := goodIn_app (goodIn_of _ (by decide +kernel)) ggX4_mixEntry_X4_mix
set_option maxRecDepth 20000 in
theorem ggX4_mixEntry_X0_waitingAt : GoodIn wsX4_mixEntry wsX0_waitingAt := goodIn_r _ [41, 29, 42, 8, 10, 9, 11, 12, 63, 64, 65, 66, 67, 68, 69, 70, 71, 72, 73, 74] (by decide +kernel) (by decide +kernel)
set_option maxRecDepth 20000 in
theorem gX4_mixEntry_X0_waitingAt_n234 : GoodIn wsX4_mixEntry (wsX0_waitingAt) := ggX4_mixEntry_X0_waitingAt
set_option maxRecDepth 20000 in
theorem ggX4_mixEntry_X4_held : GoodIn wsX4_mixEntry wsX4_held := goodIn_r _ [46, 1, 47, 9, 48, 49, 50, 51, 39, 40, 41, 29, 42, 8, 10, 11, 12, 52, 53, 54, 55, 56, 57, 58, 59, 60, 61, 62, 63, 64, 65, 66, 67, 68, 69, 70, 71, 72, 73, 74] (by decide +kernel) (by decide +kernel)
set_option maxRecDepth 20000 in
theorem gX4_mixEntry_X4_held : GoodIn wsX4_mixEntry (wsV RX4 237 RX4 yX4_held wsX4_held) := goodIn_app (goodIn_of _ (by decide +kernel)) ggX4_mixEntry_X4_held
theorem dX4_mixEntry_0 : decode cX4_mixEntry 0 = .ok (.lload_n 1, 1) := by decide +kernel
theorem dX4_mixEntry_1 : decode cX4_mixEntry 1 = .ok (.lstore 4, 2) := by decide +kernel
theorem dX4_mixEntry_3 : decode cX4_mixEntry 3 = .ok (.iconst 0, 1) := by decide +kernel
theorem dX4_mixEntry_4 : decode cX4_mixEntry 4 = .ok (.istore 6, 2) := by decide +kernel
theorem dX4_mixEntry_6 : decode cX4_mixEntry 6 = .ok (.iload 6, 2) := by decide +kernel
theorem dX4_mixEntry_8 : decode cX4_mixEntry 8 = .ok (.bipush 8, 2) := by decide +kernel
theorem dX4_mixEntry_10 : decode cX4_mixEntry 10 = .ok (.if_icmp .ge 23, 3) := by decide +kernel
theorem dX4_mixEntry_13 : decode cX4_mixEntry 13 = .ok (.lload 4, 2) := by decide +kernel
theorem dX4_mixEntry_15 : decode cX4_mixEntry 15 = .ok (.aload_n 0, 1) := by decide +kernel
theorem dX4_mixEntry_16 : decode cX4_mixEntry 16 = .ok (.iload_n 3, 1) := by decide +kernel
theorem dX4_mixEntry_17 : decode cX4_mixEntry 17 = .ok (.iload 6, 2) := by decide +kernel
theorem dX4_mixEntry_19 : decode cX4_mixEntry 19 = .ok (.invokevirtual 231, 3) := by decide +kernel
theorem dX4_mixEntry_22 : decode cX4_mixEntry 22 = .ok (.invokestatic 209, 3) := by decide +kernel
theorem dX4_mixEntry_25 : decode cX4_mixEntry 25 = .ok (.lstore 4, 2) := by decide +kernel
theorem dX4_mixEntry_27 : decode cX4_mixEntry 27 = .ok (.iinc 6 1, 3) := by decide +kernel
theorem dX4_mixEntry_30 : decode cX4_mixEntry 30 = .ok (.goto (-24), 3) := by decide +kernel
theorem dX4_mixEntry_33 : decode cX4_mixEntry 33 = .ok (.aload_n 0, 1) := by decide +kernel
theorem dX4_mixEntry_34 : decode cX4_mixEntry 34 = .ok (.getfield 28, 3) := by decide +kernel
theorem dX4_mixEntry_37 : decode cX4_mixEntry 37 = .ok (.iload_n 3, 1) := by decide +kernel
theorem dX4_mixEntry_38 : decode cX4_mixEntry 38 = .ok (.invokevirtual 234, 3) := by decide +kernel
theorem dX4_mixEntry_41 : decode cX4_mixEntry 41 = .ok (.istore 6, 2) := by decide +kernel
theorem dX4_mixEntry_43 : decode cX4_mixEntry 43 = .ok (.iconst 0, 1) := by decide +kernel
theorem dX4_mixEntry_44 : decode cX4_mixEntry 44 = .ok (.istore 7, 2) := by decide +kernel
theorem dX4_mixEntry_46 : decode cX4_mixEntry 46 = .ok (.iload 7, 2) := by decide +kernel
theorem dX4_mixEntry_48 : decode cX4_mixEntry 48 = .ok (.iload 6, 2) := by decide +kernel
theorem dX4_mixEntry_50 : decode cX4_mixEntry 50 = .ok (.if_icmp .ge 23, 3) := by decide +kernel
theorem dX4_mixEntry_53 : decode cX4_mixEntry 53 = .ok (.lload 4, 2) := by decide +kernel
theorem dX4_mixEntry_55 : decode cX4_mixEntry 55 = .ok (.aload_n 0, 1) := by decide +kernel
theorem dX4_mixEntry_56 : decode cX4_mixEntry 56 = .ok (.iload_n 3, 1) := by decide +kernel
theorem dX4_mixEntry_57 : decode cX4_mixEntry 57 = .ok (.iload 7, 2) := by decide +kernel
theorem dX4_mixEntry_59 : decode cX4_mixEntry 59 = .ok (.invokevirtual 237, 3) := by decide +kernel
theorem dX4_mixEntry_62 : decode cX4_mixEntry 62 = .ok (.invokestatic 209, 3) := by decide +kernel
theorem dX4_mixEntry_65 : decode cX4_mixEntry 65 = .ok (.lstore 4, 2) := by decide +kernel
theorem dX4_mixEntry_67 : decode cX4_mixEntry 67 = .ok (.iinc 7 1, 3) := by decide +kernel
theorem dX4_mixEntry_70 : decode cX4_mixEntry 70 = .ok (.goto (-24), 3) := by decide +kernel
theorem dX4_mixEntry_73 : decode cX4_mixEntry 73 = .ok (.lload 4, 2) := by decide +kernel
theorem dX4_mixEntry_75 : decode cX4_mixEntry 75 = .ok (.lreturn, 1) := by decide +kernel
set_option maxRecDepth 20000 in
theorem ggX4_mixRouters_X3_howMany : GoodIn wsX4_mixRouters wsX3_howMany := goodIn_r _ [5, 6, 49, 50, 51, 52] (by decide +kernel) (by decide +kernel)
set_option maxRecDepth 20000 in
theorem gX4_mixRouters_X3_howMany_n142 : GoodIn wsX4_mixRouters (wsX3_howMany) := ggX4_mixRouters_X3_howMany
set_option maxRecDepth 20000 in
theorem ggX4_mixRouters_X4_router : GoodIn wsX4_mixRouters wsX4_router := goodIn_r _ [11, 1, 12, 13, 3, 14, 15, 6, 16, 17, 18, 19, 20, 21, 22, 23, 24, 25, 26, 27, 28, 29, 30, 31, 32, 33, 38, 39, 40, 41, 42, 43, 44, 45, 46, 47, 48, 49, 50, 51, 52, 53, 54, 55, 56, 57, 58, 59, 60, 61, 62, 63, 64] (by decide +kernel) (by decide +kernel)
set_option maxRecDepth 20000 in
theorem gX4_mixRouters_X4_router : GoodIn wsX4_mixRouters (wsV RX4 240 RX4 yX4_router wsX4_router) := goodIn_app (goodIn_of _ (by decide +kernel)) ggX4_mixRouters_X4_router
set_option maxRecDepth 20000 in
theorem ggX4_mixRouters_X4_mix : GoodIn wsX4_mixRouters wsX4_mix := goodIn_r _ [36, 37] (by decide +kernel) (by decide +kernel)
set_option maxRecDepth 20000 in
theorem gX4_mixRouters_X4_mix : GoodIn wsX4_mixRouters (va_wsS RX4 209 yX4_mix wsX4_mix) := goodIn_app (goodIn_of _ (by decide +kernel)) ggX4_mixRouters_X4_mix
theorem dX4_mixRouters_0 : decode cX4_mixRouters 0 = .ok (.lload_n 1, 1) := by decide +kernel
theorem dX4_mixRouters_1 : decode cX4_mixRouters 1 = .ok (.lstore_n 3, 1) := by decide +kernel
theorem dX4_mixRouters_2 : decode cX4_mixRouters 2 = .ok (.aload_n 0, 1) := by decide +kernel
theorem dX4_mixRouters_3 : decode cX4_mixRouters 3 = .ok (.getfield 35, 3) := by decide +kernel
theorem dX4_mixRouters_6 : decode cX4_mixRouters 6 = .ok (.invokevirtual 142, 3) := by decide +kernel
theorem dX4_mixRouters_9 : decode cX4_mixRouters 9 = .ok (.istore 5, 2) := by decide +kernel
theorem dX4_mixRouters_11 : decode cX4_mixRouters 11 = .ok (.iconst 0, 1) := by decide +kernel
theorem dX4_mixRouters_12 : decode cX4_mixRouters 12 = .ok (.istore 6, 2) := by decide +kernel
theorem dX4_mixRouters_14 : decode cX4_mixRouters 14 = .ok (.iload 6, 2) := by decide +kernel
theorem dX4_mixRouters_16 : decode cX4_mixRouters 16 = .ok (.iload 5, 2) := by decide +kernel
theorem dX4_mixRouters_18 : decode cX4_mixRouters 18 = .ok (.if_icmp .ge 37, 3) := by decide +kernel
theorem dX4_mixRouters_21 : decode cX4_mixRouters 21 = .ok (.iconst 0, 1) := by decide +kernel
theorem dX4_mixRouters_22 : decode cX4_mixRouters 22 = .ok (.istore 7, 2) := by decide +kernel
theorem dX4_mixRouters_24 : decode cX4_mixRouters 24 = .ok (.iload 7, 2) := by decide +kernel
theorem dX4_mixRouters_26 : decode cX4_mixRouters 26 = .ok (.iconst 4, 1) := by decide +kernel
theorem dX4_mixRouters_27 : decode cX4_mixRouters 27 = .ok (.if_icmp .ge 22, 3) := by decide +kernel
theorem dX4_mixRouters_30 : decode cX4_mixRouters 30 = .ok (.lload_n 3, 1) := by decide +kernel
theorem dX4_mixRouters_31 : decode cX4_mixRouters 31 = .ok (.aload_n 0, 1) := by decide +kernel
theorem dX4_mixRouters_32 : decode cX4_mixRouters 32 = .ok (.iload 6, 2) := by decide +kernel
theorem dX4_mixRouters_34 : decode cX4_mixRouters 34 = .ok (.iload 7, 2) := by decide +kernel
theorem dX4_mixRouters_36 : decode cX4_mixRouters 36 = .ok (.invokevirtual 240, 3) := by decide +kernel
theorem dX4_mixRouters_39 : decode cX4_mixRouters 39 = .ok (.invokestatic 209, 3) := by decide +kernel
theorem dX4_mixRouters_42 : decode cX4_mixRouters 42 = .ok (.lstore_n 3, 1) := by decide +kernel
theorem dX4_mixRouters_43 : decode cX4_mixRouters 43 = .ok (.iinc 7 1, 3) := by decide +kernel
theorem dX4_mixRouters_46 : decode cX4_mixRouters 46 = .ok (.goto (-22), 3) := by decide +kernel
theorem dX4_mixRouters_49 : decode cX4_mixRouters 49 = .ok (.iinc 6 1, 3) := by decide +kernel
theorem dX4_mixRouters_52 : decode cX4_mixRouters 52 = .ok (.goto (-38), 3) := by decide +kernel
theorem dX4_mixRouters_55 : decode cX4_mixRouters 55 = .ok (.lload_n 3, 1) := by decide +kernel
theorem dX4_mixRouters_56 : decode cX4_mixRouters 56 = .ok (.lreturn, 1) := by decide +kernel
set_option maxRecDepth 20000 in
theorem ggX4_mixOutbox_X2_howMany : GoodIn wsX4_mixOutbox wsX2_howMany := goodIn_r _ [5, 6, 32, 33, 34, 35, 36] (by decide +kernel) (by decide +kernel)
set_option maxRecDepth 20000 in
theorem gX4_mixOutbox_X2_howMany_n243 : GoodIn wsX4_mixOutbox (wsX2_howMany) := ggX4_mixOutbox_X2_howMany
set_option maxRecDepth 20000 in
theorem ggX4_mixOutbox_X4_out : GoodIn wsX4_mixOutbox wsX4_out := goodIn_r _ [11, 1, 12, 3, 13, 14, 6, 15, 16, 21, 22, 23, 24, 25, 26, 27, 28, 29, 30, 31, 32, 33, 34, 35, 36] (by decide +kernel) (by decide +kernel)
set_option maxRecDepth 20000 in
theorem gX4_mixOutbox_X4_out : GoodIn wsX4_mixOutbox (wsV RX4 244 RX4 yX4_out wsX4_out) := goodIn_app (goodIn_of _ (by decide +kernel)) ggX4_mixOutbox_X4_out
set_option maxRecDepth 20000 in
theorem ggX4_mixOutbox_X4_mix : GoodIn wsX4_mixOutbox wsX4_mix := goodIn_r _ [19, 20] (by decide +kernel) (by decide +kernel)
set_option maxRecDepth 20000 in
theorem gX4_mixOutbox_X4_mix : GoodIn wsX4_mixOutbox (va_wsS RX4 209 yX4_mix wsX4_mix) := goodIn_app (goodIn_of _ (by decide +kernel)) ggX4_mixOutbox_X4_mix
theorem dX4_mixOutbox_0 : decode cX4_mixOutbox 0 = .ok (.lload_n 1, 1) := by decide +kernel
theorem dX4_mixOutbox_1 : decode cX4_mixOutbox 1 = .ok (.lstore_n 3, 1) := by decide +kernel
theorem dX4_mixOutbox_2 : decode cX4_mixOutbox 2 = .ok (.aload_n 0, 1) := by decide +kernel
theorem dX4_mixOutbox_3 : decode cX4_mixOutbox 3 = .ok (.getfield 13, 3) := by decide +kernel
theorem dX4_mixOutbox_6 : decode cX4_mixOutbox 6 = .ok (.invokevirtual 243, 3) := by decide +kernel
theorem dX4_mixOutbox_9 : decode cX4_mixOutbox 9 = .ok (.istore 5, 2) := by decide +kernel
theorem dX4_mixOutbox_11 : decode cX4_mixOutbox 11 = .ok (.iconst 0, 1) := by decide +kernel
theorem dX4_mixOutbox_12 : decode cX4_mixOutbox 12 = .ok (.istore 6, 2) := by decide +kernel
theorem dX4_mixOutbox_14 : decode cX4_mixOutbox 14 = .ok (.iload 6, 2) := by decide +kernel
theorem dX4_mixOutbox_16 : decode cX4_mixOutbox 16 = .ok (.iload 5, 2) := by decide +kernel
theorem dX4_mixOutbox_18 : decode cX4_mixOutbox 18 = .ok (.if_icmp .ge 37, 3) := by decide +kernel
theorem dX4_mixOutbox_21 : decode cX4_mixOutbox 21 = .ok (.iconst 0, 1) := by decide +kernel
theorem dX4_mixOutbox_22 : decode cX4_mixOutbox 22 = .ok (.istore 7, 2) := by decide +kernel
theorem dX4_mixOutbox_24 : decode cX4_mixOutbox 24 = .ok (.iload 7, 2) := by decide +kernel
theorem dX4_mixOutbox_26 : decode cX4_mixOutbox 26 = .ok (.iconst 5, 1) := by decide +kernel
theorem dX4_mixOutbox_27 : decode cX4_mixOutbox 27 = .ok (.if_icmp .ge 22, 3) := by decide +kernel
theorem dX4_mixOutbox_30 : decode cX4_mixOutbox 30 = .ok (.lload_n 3, 1) := by decide +kernel
theorem dX4_mixOutbox_31 : decode cX4_mixOutbox 31 = .ok (.aload_n 0, 1) := by decide +kernel
theorem dX4_mixOutbox_32 : decode cX4_mixOutbox 32 = .ok (.iload 6, 2) := by decide +kernel
theorem dX4_mixOutbox_34 : decode cX4_mixOutbox 34 = .ok (.iload 7, 2) := by decide +kernel
theorem dX4_mixOutbox_36 : decode cX4_mixOutbox 36 = .ok (.invokevirtual 244, 3) := by decide +kernel
theorem dX4_mixOutbox_39 : decode cX4_mixOutbox 39 = .ok (.invokestatic 209, 3) := by decide +kernel
theorem dX4_mixOutbox_42 : decode cX4_mixOutbox 42 = .ok (.lstore_n 3, 1) := by decide +kernel
theorem dX4_mixOutbox_43 : decode cX4_mixOutbox 43 = .ok (.iinc 7 1, 3) := by decide +kernel
theorem dX4_mixOutbox_46 : decode cX4_mixOutbox 46 = .ok (.goto (-22), 3) := by decide +kernel
theorem dX4_mixOutbox_49 : decode cX4_mixOutbox 49 = .ok (.iinc 6 1, 3) := by decide +kernel
theorem dX4_mixOutbox_52 : decode cX4_mixOutbox 52 = .ok (.goto (-38), 3) := by decide +kernel
theorem dX4_mixOutbox_55 : decode cX4_mixOutbox 55 = .ok (.lload_n 3, 1) := by decide +kernel
theorem dX4_mixOutbox_56 : decode cX4_mixOutbox 56 = .ok (.lreturn, 1) := by decide +kernel
theorem dX4_isAddress_0 : decode cX4_isAddress 0 = .ok (.iload_n 0, 1) := by decide +kernel
theorem dX4_isAddress_1 : decode cX4_isAddress 1 = .ok (.ifCond .lt 13, 3) := by decide +kernel
theorem dX4_isAddress_4 : decode cX4_isAddress 4 = .ok (.iload_n 0, 1) := by decide +kernel
theorem dX4_isAddress_5 : decode cX4_isAddress 5 = .ok (.bipush 16, 2) := by decide +kernel
theorem dX4_isAddress_7 : decode cX4_isAddress 7 = .ok (.if_icmp .ge 7, 3) := by decide +kernel
theorem dX4_isAddress_10 : decode cX4_isAddress 10 = .ok (.iconst 1, 1) := by decide +kernel
theorem dX4_isAddress_11 : decode cX4_isAddress 11 = .ok (.goto 4, 3) := by decide +kernel
theorem dX4_isAddress_14 : decode cX4_isAddress 14 = .ok (.iconst 0, 1) := by decide +kernel
theorem dX4_isAddress_15 : decode cX4_isAddress 15 = .ok (.ireturn, 1) := by decide +kernel
theorem dX4_isMark_0 : decode cX4_isMark 0 = .ok (.iload_n 0, 1) := by decide +kernel
theorem dX4_isMark_1 : decode cX4_isMark 1 = .ok (.iconst 1, 1) := by decide +kernel
theorem dX4_isMark_2 : decode cX4_isMark 2 = .ok (.if_icmp .lt 13, 3) := by decide +kernel
theorem dX4_isMark_5 : decode cX4_isMark 5 = .ok (.iload_n 0, 1) := by decide +kernel
theorem dX4_isMark_6 : decode cX4_isMark 6 = .ok (.bipush 99, 2) := by decide +kernel
theorem dX4_isMark_8 : decode cX4_isMark 8 = .ok (.if_icmp .gt 7, 3) := by decide +kernel
theorem dX4_isMark_11 : decode cX4_isMark 11 = .ok (.iconst 1, 1) := by decide +kernel
theorem dX4_isMark_12 : decode cX4_isMark 12 = .ok (.goto 4, 3) := by decide +kernel
theorem dX4_isMark_15 : decode cX4_isMark 15 = .ok (.iconst 0, 1) := by decide +kernel
theorem dX4_isMark_16 : decode cX4_isMark 16 = .ok (.ireturn, 1) := by decide +kernel
theorem dX4_isLetter_0 : decode cX4_isLetter 0 = .ok (.iload_n 0, 1) := by decide +kernel
theorem dX4_isLetter_1 : decode cX4_isLetter 1 = .ok (.iconst 1, 1) := by decide +kernel
theorem dX4_isLetter_2 : decode cX4_isLetter 2 = .ok (.if_icmp .lt 14, 3) := by decide +kernel
theorem dX4_isLetter_5 : decode cX4_isLetter 5 = .ok (.iload_n 0, 1) := by decide +kernel
theorem dX4_isLetter_6 : decode cX4_isLetter 6 = .ok (.sipush 999, 3) := by decide +kernel
theorem dX4_isLetter_9 : decode cX4_isLetter 9 = .ok (.if_icmp .gt 7, 3) := by decide +kernel
theorem dX4_isLetter_12 : decode cX4_isLetter 12 = .ok (.iconst 1, 1) := by decide +kernel
theorem dX4_isLetter_13 : decode cX4_isLetter 13 = .ok (.goto 4, 3) := by decide +kernel
theorem dX4_isLetter_16 : decode cX4_isLetter 16 = .ok (.iconst 0, 1) := by decide +kernel
theorem dX4_isLetter_17 : decode cX4_isLetter 17 = .ok (.ireturn, 1) := by decide +kernel
theorem dX4_isGoal_0 : decode cX4_isGoal 0 = .ok (.iload_n 0, 1) := by decide +kernel
theorem dX4_isGoal_1 : decode cX4_isGoal 1 = .ok (.bipush 16, 2) := by decide +kernel
theorem dX4_isGoal_3 : decode cX4_isGoal 3 = .ok (.if_icmp .lt 13, 3) := by decide +kernel
theorem dX4_isGoal_6 : decode cX4_isGoal 6 = .ok (.iload_n 0, 1) := by decide +kernel
theorem dX4_isGoal_7 : decode cX4_isGoal 7 = .ok (.bipush 47, 2) := by decide +kernel
theorem dX4_isGoal_9 : decode cX4_isGoal 9 = .ok (.if_icmp .gt 7, 3) := by decide +kernel
theorem dX4_isGoal_12 : decode cX4_isGoal 12 = .ok (.iconst 1, 1) := by decide +kernel
theorem dX4_isGoal_13 : decode cX4_isGoal 13 = .ok (.goto 4, 3) := by decide +kernel
theorem dX4_isGoal_16 : decode cX4_isGoal 16 = .ok (.iconst 0, 1) := by decide +kernel
theorem dX4_isGoal_17 : decode cX4_isGoal 17 = .ok (.ireturn, 1) := by decide +kernel
theorem dX4_isOwnOrTrial_0 : decode cX4_isOwnOrTrial 0 = .ok (.iload_n 1, 1) := by decide +kernel
theorem dX4_isOwnOrTrial_1 : decode cX4_isOwnOrTrial 1 = .ok (.aload_n 0, 1) := by decide +kernel
theorem dX4_isOwnOrTrial_2 : decode cX4_isOwnOrTrial 2 = .ok (.getfield 43, 3) := by decide +kernel
theorem dX4_isOwnOrTrial_5 : decode cX4_isOwnOrTrial 5 = .ok (.if_icmp .eq 11, 3) := by decide +kernel
theorem dX4_isOwnOrTrial_8 : decode cX4_isOwnOrTrial 8 = .ok (.iload_n 1, 1) := by decide +kernel
theorem dX4_isOwnOrTrial_9 : decode cX4_isOwnOrTrial 9 = .ok (.aload_n 0, 1) := by decide +kernel
theorem dX4_isOwnOrTrial_10 : decode cX4_isOwnOrTrial 10 = .ok (.getfield 46, 3) := by decide +kernel
theorem dX4_isOwnOrTrial_13 : decode cX4_isOwnOrTrial 13 = .ok (.if_icmp .ne 7, 3) := by decide +kernel
theorem dX4_isOwnOrTrial_16 : decode cX4_isOwnOrTrial 16 = .ok (.iconst 1, 1) := by decide +kernel
theorem dX4_isOwnOrTrial_17 : decode cX4_isOwnOrTrial 17 = .ok (.goto 4, 3) := by decide +kernel
theorem dX4_isOwnOrTrial_20 : decode cX4_isOwnOrTrial 20 = .ok (.iconst 0, 1) := by decide +kernel
theorem dX4_isOwnOrTrial_21 : decode cX4_isOwnOrTrial 21 = .ok (.ireturn, 1) := by decide +kernel
set_option maxRecDepth 20000 in
theorem ggX5_init_X5_goOut : GoodIn wsX5_init wsX5_goOut := goodIn_r _ [27, 28, 22, 29, 30, 31, 32, 33, 34, 35, 36, 37, 38, 39, 40, 41, 42, 43, 44, 45, 46, 47, 48, 49, 50, 51, 52, 53, 54, 55, 56, 57, 58, 59] (by decide +kernel) (by decide +kernel)
set_option maxRecDepth 20000 in
theorem gX5_init_X5_goOut : GoodIn wsX5_init (wsV RX5 63 RX5 yX5_goOut wsX5_goOut) := goodIn_app (goodIn_of _ (by decide +kernel)) ggX5_init_X5_goOut
theorem dX5_init_0 : decode cX5_init 0 = .ok (.aload_n 0, 1) := by decide +kernel
theorem dX5_init_1 : decode cX5_init 1 = .ok (.invokespecial 1, 3) := by decide +kernel
theorem dX5_init_4 : decode cX5_init 4 = .ok (.aload_n 0, 1) := by decide +kernel
theorem dX5_init_5 : decode cX5_init 5 = .ok (.bipush 16, 2) := by decide +kernel
theorem dX5_init_7 : decode cX5_init 7 = .ok (.newarray .boolean, 2) := by decide +kernel
theorem dX5_init_9 : decode cX5_init 9 = .ok (.putfield 7, 3) := by decide +kernel
theorem dX5_init_12 : decode cX5_init 12 = .ok (.aload_n 0, 1) := by decide +kernel
theorem dX5_init_13 : decode cX5_init 13 = .ok (.bipush 16, 2) := by decide +kernel
theorem dX5_init_15 : decode cX5_init 15 = .ok (.newarray .int, 2) := by decide +kernel
theorem dX5_init_17 : decode cX5_init 17 = .ok (.putfield 13, 3) := by decide +kernel
theorem dX5_init_20 : decode cX5_init 20 = .ok (.aload_n 0, 1) := by decide +kernel
theorem dX5_init_21 : decode cX5_init 21 = .ok (.bipush 16, 2) := by decide +kernel
theorem dX5_init_23 : decode cX5_init 23 = .ok (.newarray .int, 2) := by decide +kernel
theorem dX5_init_25 : decode cX5_init 25 = .ok (.putfield 17, 3) := by decide +kernel
theorem dX5_init_28 : decode cX5_init 28 = .ok (.aload_n 0, 1) := by decide +kernel
theorem dX5_init_29 : decode cX5_init 29 = .ok (.bipush 16, 2) := by decide +kernel
theorem dX5_init_31 : decode cX5_init 31 = .ok (.newarray .int, 2) := by decide +kernel
theorem dX5_init_33 : decode cX5_init 33 = .ok (.putfield 20, 3) := by decide +kernel
theorem dX5_init_36 : decode cX5_init 36 = .ok (.aload_n 0, 1) := by decide +kernel
theorem dX5_init_37 : decode cX5_init 37 = .ok (.bipush 16, 2) := by decide +kernel
theorem dX5_init_39 : decode cX5_init 39 = .ok (.newarray .int, 2) := by decide +kernel
theorem dX5_init_41 : decode cX5_init 41 = .ok (.putfield 23, 3) := by decide +kernel
theorem dX5_init_44 : decode cX5_init 44 = .ok (.aload_n 0, 1) := by decide +kernel
theorem dX5_init_45 : decode cX5_init 45 = .ok (.bipush 16, 2) := by decide +kernel
theorem dX5_init_47 : decode cX5_init 47 = .ok (.newarray .int, 2) := by decide +kernel
theorem dX5_init_49 : decode cX5_init 49 = .ok (.putfield 26, 3) := by decide +kernel
theorem dX5_init_52 : decode cX5_init 52 = .ok (.aload_n 0, 1) := by decide +kernel
theorem dX5_init_53 : decode cX5_init 53 = .ok (.bipush 16, 2) := by decide +kernel
theorem dX5_init_55 : decode cX5_init 55 = .ok (.newarray .int, 2) := by decide +kernel
theorem dX5_init_57 : decode cX5_init 57 = .ok (.putfield 29, 3) := by decide +kernel
theorem dX5_init_60 : decode cX5_init 60 = .ok (.aload_n 0, 1) := by decide +kernel
theorem dX5_init_61 : decode cX5_init 61 = .ok (.bipush 48, 2) := by decide +kernel
theorem dX5_init_63 : decode cX5_init 63 = .ok (.newarray .int, 2) := by decide +kernel
theorem dX5_init_65 : decode cX5_init 65 = .ok (.putfield 32, 3) := by decide +kernel
theorem dX5_init_68 : decode cX5_init 68 = .ok (.aload_n 0, 1) := by decide +kernel
theorem dX5_init_69 : decode cX5_init 69 = .ok (.bipush 16, 2) := by decide +kernel
theorem dX5_init_71 : decode cX5_init 71 = .ok (.newarray .boolean, 2) := by decide +kernel
theorem dX5_init_73 : decode cX5_init 73 = .ok (.putfield 35, 3) := by decide +kernel
theorem dX5_init_76 : decode cX5_init 76 = .ok (.aload_n 0, 1) := by decide +kernel
theorem dX5_init_77 : decode cX5_init 77 = .ok (.bipush 16, 2) := by decide +kernel
theorem dX5_init_79 : decode cX5_init 79 = .ok (.newarray .int, 2) := by decide +kernel
theorem dX5_init_81 : decode cX5_init 81 = .ok (.putfield 38, 3) := by decide +kernel
theorem dX5_init_84 : decode cX5_init 84 = .ok (.aload_n 0, 1) := by decide +kernel
theorem dX5_init_85 : decode cX5_init 85 = .ok (.bipush 16, 2) := by decide +kernel
theorem dX5_init_87 : decode cX5_init 87 = .ok (.newarray .int, 2) := by decide +kernel
theorem dX5_init_89 : decode cX5_init 89 = .ok (.putfield 41, 3) := by decide +kernel
theorem dX5_init_92 : decode cX5_init 92 = .ok (.aload_n 0, 1) := by decide +kernel
theorem dX5_init_93 : decode cX5_init 93 = .ok (.iconst (-1), 1) := by decide +kernel
theorem dX5_init_94 : decode cX5_init 94 = .ok (.putfield 44, 3) := by decide +kernel
theorem dX5_init_97 : decode cX5_init 97 = .ok (.aload_n 0, 1) := by decide +kernel
theorem dX5_init_98 : decode cX5_init 98 = .ok (.iconst 4, 1) := by decide +kernel
theorem dX5_init_99 : decode cX5_init 99 = .ok (.newarray .int, 2) := by decide +kernel
theorem dX5_init_101 : decode cX5_init 101 = .ok (.putfield 48, 3) := by decide +kernel
theorem dX5_init_104 : decode cX5_init 104 = .ok (.aload_n 0, 1) := by decide +kernel
theorem dX5_init_105 : decode cX5_init 105 = .ok (.iconst 4, 1) := by decide +kernel
theorem dX5_init_106 : decode cX5_init 106 = .ok (.newarray .int, 2) := by decide +kernel
theorem dX5_init_108 : decode cX5_init 108 = .ok (.putfield 51, 3) := by decide +kernel
theorem dX5_init_111 : decode cX5_init 111 = .ok (.aload_n 0, 1) := by decide +kernel
theorem dX5_init_112 : decode cX5_init 112 = .ok (.iconst (-1), 1) := by decide +kernel
theorem dX5_init_113 : decode cX5_init 113 = .ok (.putfield 54, 3) := by decide +kernel
theorem dX5_init_116 : decode cX5_init 116 = .ok (.aload_n 0, 1) := by decide +kernel
theorem dX5_init_117 : decode cX5_init 117 = .ok (.iconst (-1), 1) := by decide +kernel
theorem dX5_init_118 : decode cX5_init 118 = .ok (.putfield 57, 3) := by decide +kernel
theorem dX5_init_121 : decode cX5_init 121 = .ok (.aload_n 0, 1) := by decide +kernel
theorem dX5_init_122 : decode cX5_init 122 = .ok (.bipush 50, 2) := by decide +kernel
theorem dX5_init_124 : decode cX5_init 124 = .ok (.newarray .int, 2) := by decide +kernel
theorem dX5_init_126 : decode cX5_init 126 = .ok (.putfield 60, 3) := by decide +kernel
theorem dX5_init_129 : decode cX5_init 129 = .ok (.aload_n 0, 1) := by decide +kernel
theorem dX5_init_130 : decode cX5_init 130 = .ok (.iconst 5, 1) := by decide +kernel
theorem dX5_init_131 : decode cX5_init 131 = .ok (.iconst (-1), 1) := by decide +kernel
theorem dX5_init_132 : decode cX5_init 132 = .ok (.iconst 0, 1) := by decide +kernel
theorem dX5_init_133 : decode cX5_init 133 = .ok (.iconst 0, 1) := by decide +kernel
theorem dX5_init_134 : decode cX5_init 134 = .ok (.invokevirtual 63, 3) := by decide +kernel
theorem dX5_init_137 : decode cX5_init 137 = .ok (.return_, 1) := by decide +kernel
theorem dX5_within_0 : decode cX5_within 0 = .ok (.iload_n 0, 1) := by decide +kernel
theorem dX5_within_1 : decode cX5_within 1 = .ok (.iload_n 1, 1) := by decide +kernel
theorem dX5_within_2 : decode cX5_within 2 = .ok (.if_icmp .lt 12, 3) := by decide +kernel
theorem dX5_within_5 : decode cX5_within 5 = .ok (.iload_n 0, 1) := by decide +kernel
theorem dX5_within_6 : decode cX5_within 6 = .ok (.iload_n 2, 1) := by decide +kernel
theorem dX5_within_7 : decode cX5_within 7 = .ok (.if_icmp .gt 7, 3) := by decide +kernel
theorem dX5_within_10 : decode cX5_within 10 = .ok (.iconst 1, 1) := by decide +kernel
theorem dX5_within_11 : decode cX5_within 11 = .ok (.goto 4, 3) := by decide +kernel
theorem dX5_within_14 : decode cX5_within 14 = .ok (.iconst 0, 1) := by decide +kernel
theorem dX5_within_15 : decode cX5_within 15 = .ok (.ireturn, 1) := by decide +kernel
set_option maxRecDepth 20000 in
theorem ggX5_isAddress_X5_within : GoodIn wsX5_isAddress wsX5_within := goodIn_r _ [4] (by decide +kernel) (by decide +kernel)
set_option maxRecDepth 20000 in
theorem gX5_isAddress_X5_within : GoodIn wsX5_isAddress (va_wsS RX5 67 yX5_within wsX5_within) := goodIn_app (goodIn_of _ (by decide +kernel)) ggX5_isAddress_X5_within
theorem dX5_isAddress_0 : decode cX5_isAddress 0 = .ok (.iload_n 0, 1) := by decide +kernel
theorem dX5_isAddress_1 : decode cX5_isAddress 1 = .ok (.iconst 0, 1) := by decide +kernel
theorem dX5_isAddress_2 : decode cX5_isAddress 2 = .ok (.bipush 15, 2) := by decide +kernel
theorem dX5_isAddress_4 : decode cX5_isAddress 4 = .ok (.invokestatic 67, 3) := by decide +kernel
theorem dX5_isAddress_7 : decode cX5_isAddress 7 = .ok (.ireturn, 1) := by decide +kernel
set_option maxRecDepth 20000 in
theorem ggX5_isMark_X5_within : GoodIn wsX5_isMark wsX5_within := goodIn_r _ [4] (by decide +kernel) (by decide +kernel)
set_option maxRecDepth 20000 in
theorem gX5_isMark_X5_within : GoodIn wsX5_isMark (va_wsS RX5 67 yX5_within wsX5_within) := goodIn_app (goodIn_of _ (by decide +kernel)) ggX5_isMark_X5_within
theorem dX5_isMark_0 : decode cX5_isMark 0 = .ok (.iload_n 0, 1) := by decide +kernel
theorem dX5_isMark_1 : decode cX5_isMark 1 = .ok (.iconst 1, 1) := by decide +kernel
theorem dX5_isMark_2 : decode cX5_isMark 2 = .ok (.bipush 99, 2) := by decide +kernel
theorem dX5_isMark_4 : decode cX5_isMark 4 = .ok (.invokestatic 67, 3) := by decide +kernel
theorem dX5_isMark_7 : decode cX5_isMark 7 = .ok (.ireturn, 1) := by decide +kernel
set_option maxRecDepth 20000 in
theorem ggX5_isLetter_X5_within : GoodIn wsX5_isLetter wsX5_within := goodIn_r _ [4] (by decide +kernel) (by decide +kernel)
set_option maxRecDepth 20000 in
theorem gX5_isLetter_X5_within : GoodIn wsX5_isLetter (va_wsS RX5 67 yX5_within wsX5_within) := goodIn_app (goodIn_of _ (by decide +kernel)) ggX5_isLetter_X5_within
theorem dX5_isLetter_0 : decode cX5_isLetter 0 = .ok (.iload_n 0, 1) := by decide +kernel
theorem dX5_isLetter_1 : decode cX5_isLetter 1 = .ok (.iconst 1, 1) := by decide +kernel
theorem dX5_isLetter_2 : decode cX5_isLetter 2 = .ok (.sipush 999, 3) := by decide +kernel
theorem dX5_isLetter_5 : decode cX5_isLetter 5 = .ok (.invokestatic 67, 3) := by decide +kernel
theorem dX5_isLetter_8 : decode cX5_isLetter 8 = .ok (.ireturn, 1) := by decide +kernel
set_option maxRecDepth 20000 in
theorem ggX5_isGoal_X5_within : GoodIn wsX5_isGoal wsX5_within := goodIn_r _ [4] (by decide +kernel) (by decide +kernel)
set_option maxRecDepth 20000 in
theorem gX5_isGoal_X5_within : GoodIn wsX5_isGoal (va_wsS RX5 67 yX5_within wsX5_within) := goodIn_app (goodIn_of _ (by decide +kernel)) ggX5_isGoal_X5_within
theorem dX5_isGoal_0 : decode cX5_isGoal 0 = .ok (.iload_n 0, 1) := by decide +kernel
theorem dX5_isGoal_1 : decode cX5_isGoal 1 = .ok (.bipush 16, 2) := by decide +kernel
theorem dX5_isGoal_3 : decode cX5_isGoal 3 = .ok (.bipush 47, 2) := by decide +kernel
theorem dX5_isGoal_5 : decode cX5_isGoal 5 = .ok (.invokestatic 67, 3) := by decide +kernel
theorem dX5_isGoal_8 : decode cX5_isGoal 8 = .ok (.ireturn, 1) := by decide +kernel
theorem dX5_isOurs_0 : decode cX5_isOurs 0 = .ok (.iload_n 1, 1) := by decide +kernel
theorem dX5_isOurs_1 : decode cX5_isOurs 1 = .ok (.iconst (-1), 1) := by decide +kernel
theorem dX5_isOurs_2 : decode cX5_isOurs 2 = .ok (.if_icmp .eq 23, 3) := by decide +kernel
theorem dX5_isOurs_5 : decode cX5_isOurs 5 = .ok (.iload_n 1, 1) := by decide +kernel
theorem dX5_isOurs_6 : decode cX5_isOurs 6 = .ok (.aload_n 0, 1) := by decide +kernel
theorem dX5_isOurs_7 : decode cX5_isOurs 7 = .ok (.getfield 54, 3) := by decide +kernel
theorem dX5_isOurs_10 : decode cX5_isOurs 10 = .ok (.if_icmp .eq 11, 3) := by decide +kernel
theorem dX5_isOurs_13 : decode cX5_isOurs 13 = .ok (.iload_n 1, 1) := by decide +kernel
theorem dX5_isOurs_14 : decode cX5_isOurs 14 = .ok (.aload_n 0, 1) := by decide +kernel
theorem dX5_isOurs_15 : decode cX5_isOurs 15 = .ok (.getfield 57, 3) := by decide +kernel
theorem dX5_isOurs_18 : decode cX5_isOurs 18 = .ok (.if_icmp .ne 7, 3) := by decide +kernel
theorem dX5_isOurs_21 : decode cX5_isOurs 21 = .ok (.iconst 1, 1) := by decide +kernel
theorem dX5_isOurs_22 : decode cX5_isOurs 22 = .ok (.goto 4, 3) := by decide +kernel
theorem dX5_isOurs_25 : decode cX5_isOurs 25 = .ok (.iconst 0, 1) := by decide +kernel
theorem dX5_isOurs_26 : decode cX5_isOurs 26 = .ok (.ireturn, 1) := by decide +kernel
theorem dX5_goOut_0 : decode cX5_goOut 0 = .ok (.aload_n 0, 1) := by decide +kernel
theorem dX5_goOut_1 : decode cX5_goOut 1 = .ok (.getfield 71, 3) := by decide +kernel
theorem dX5_goOut_4 : decode cX5_goOut 4 = .ok (.bipush 10, 2) := by decide +kernel
theorem dX5_goOut_6 : decode cX5_goOut 6 = .ok (.if_icmp .ge 10, 3) := by decide +kernel
theorem dX5_goOut_9 : decode cX5_goOut 9 = .ok (.aload_n 0, 1) := by decide +kernel
theorem dX5_goOut_10 : decode cX5_goOut 10 = .ok (.getfield 71, 3) := by decide +kernel
theorem dX5_goOut_13 : decode cX5_goOut 13 = .ok (.goto 5, 3) := by decide +kernel
theorem dX5_goOut_16 : decode cX5_goOut 16 = .ok (.bipush 9, 2) := by decide +kernel
theorem dX5_goOut_18 : decode cX5_goOut 18 = .ok (.istore 5, 2) := by decide +kernel
theorem dX5_goOut_20 : decode cX5_goOut 20 = .ok (.iconst 5, 1) := by decide +kernel
theorem dX5_goOut_21 : decode cX5_goOut 21 = .ok (.iload 5, 2) := by decide +kernel
theorem dX5_goOut_23 : decode cX5_goOut 23 = .ok (.imul, 1) := by decide +kernel
theorem dX5_goOut_24 : decode cX5_goOut 24 = .ok (.iconst 1, 1) := by decide +kernel
theorem dX5_goOut_25 : decode cX5_goOut 25 = .ok (.isub, 1) := by decide +kernel
theorem dX5_goOut_26 : decode cX5_goOut 26 = .ok (.istore 6, 2) := by decide +kernel
theorem dX5_goOut_28 : decode cX5_goOut 28 = .ok (.iload 6, 2) := by decide +kernel
theorem dX5_goOut_30 : decode cX5_goOut 30 = .ok (.ifCond .lt 25, 3) := by decide +kernel
theorem dX5_goOut_33 : decode cX5_goOut 33 = .ok (.aload_n 0, 1) := by decide +kernel
theorem dX5_goOut_34 : decode cX5_goOut 34 = .ok (.getfield 60, 3) := by decide +kernel
theorem dX5_goOut_37 : decode cX5_goOut 37 = .ok (.iload 6, 2) := by decide +kernel
theorem dX5_goOut_39 : decode cX5_goOut 39 = .ok (.iconst 5, 1) := by decide +kernel
theorem dX5_goOut_40 : decode cX5_goOut 40 = .ok (.iadd, 1) := by decide +kernel
theorem dX5_goOut_41 : decode cX5_goOut 41 = .ok (.aload_n 0, 1) := by decide +kernel
theorem dX5_goOut_42 : decode cX5_goOut 42 = .ok (.getfield 60, 3) := by decide +kernel
theorem dX5_goOut_45 : decode cX5_goOut 45 = .ok (.iload 6, 2) := by decide +kernel
theorem dX5_goOut_47 : decode cX5_goOut 47 = .ok (.iaload, 1) := by decide +kernel
theorem dX5_goOut_48 : decode cX5_goOut 48 = .ok (.iastore, 1) := by decide +kernel
theorem dX5_goOut_49 : decode cX5_goOut 49 = .ok (.iinc 6 (-1), 3) := by decide +kernel
theorem dX5_goOut_52 : decode cX5_goOut 52 = .ok (.goto (-24), 3) := by decide +kernel
theorem dX5_goOut_55 : decode cX5_goOut 55 = .ok (.aload_n 0, 1) := by decide +kernel
theorem dX5_goOut_56 : decode cX5_goOut 56 = .ok (.getfield 60, 3) := by decide +kernel
theorem dX5_goOut_59 : decode cX5_goOut 59 = .ok (.iconst 0, 1) := by decide +kernel
theorem dX5_goOut_60 : decode cX5_goOut 60 = .ok (.iload_n 1, 1) := by decide +kernel
theorem dX5_goOut_61 : decode cX5_goOut 61 = .ok (.iastore, 1) := by decide +kernel
theorem dX5_goOut_62 : decode cX5_goOut 62 = .ok (.aload_n 0, 1) := by decide +kernel
theorem dX5_goOut_63 : decode cX5_goOut 63 = .ok (.getfield 60, 3) := by decide +kernel
theorem dX5_goOut_66 : decode cX5_goOut 66 = .ok (.iconst 1, 1) := by decide +kernel
theorem dX5_goOut_67 : decode cX5_goOut 67 = .ok (.iload_n 2, 1) := by decide +kernel
theorem dX5_goOut_68 : decode cX5_goOut 68 = .ok (.iastore, 1) := by decide +kernel
theorem dX5_goOut_69 : decode cX5_goOut 69 = .ok (.aload_n 0, 1) := by decide +kernel
theorem dX5_goOut_70 : decode cX5_goOut 70 = .ok (.getfield 60, 3) := by decide +kernel
theorem dX5_goOut_73 : decode cX5_goOut 73 = .ok (.iconst 2, 1) := by decide +kernel
theorem dX5_goOut_74 : decode cX5_goOut 74 = .ok (.iload_n 3, 1) := by decide +kernel
theorem dX5_goOut_75 : decode cX5_goOut 75 = .ok (.iastore, 1) := by decide +kernel
theorem dX5_goOut_76 : decode cX5_goOut 76 = .ok (.aload_n 0, 1) := by decide +kernel
theorem dX5_goOut_77 : decode cX5_goOut 77 = .ok (.getfield 60, 3) := by decide +kernel
theorem dX5_goOut_80 : decode cX5_goOut 80 = .ok (.iconst 3, 1) := by decide +kernel
theorem dX5_goOut_81 : decode cX5_goOut 81 = .ok (.iload 4, 2) := by decide +kernel
theorem dX5_goOut_83 : decode cX5_goOut 83 = .ok (.iastore, 1) := by decide +kernel
theorem dX5_goOut_84 : decode cX5_goOut 84 = .ok (.aload_n 0, 1) := by decide +kernel
theorem dX5_goOut_85 : decode cX5_goOut 85 = .ok (.getfield 60, 3) := by decide +kernel
theorem dX5_goOut_88 : decode cX5_goOut 88 = .ok (.iconst 4, 1) := by decide +kernel
theorem dX5_goOut_89 : decode cX5_goOut 89 = .ok (.aload_n 0, 1) := by decide +kernel
theorem dX5_goOut_90 : decode cX5_goOut 90 = .ok (.getfield 74, 3) := by decide +kernel
theorem dX5_goOut_93 : decode cX5_goOut 93 = .ok (.iastore, 1) := by decide +kernel
theorem dX5_goOut_94 : decode cX5_goOut 94 = .ok (.aload_n 0, 1) := by decide +kernel
theorem dX5_goOut_95 : decode cX5_goOut 95 = .ok (.iload 5, 2) := by decide +kernel
theorem dX5_goOut_97 : decode cX5_goOut 97 = .ok (.iconst 1, 1) := by decide +kernel
theorem dX5_goOut_98 : decode cX5_goOut 98 = .ok (.iadd, 1) := by decide +kernel
theorem dX5_goOut_99 : decode cX5_goOut 99 = .ok (.putfield 71, 3) := by decide +kernel
theorem dX5_goOut_102 : decode cX5_goOut 102 = .ok (.aload_n 0, 1) := by decide +kernel
theorem dX5_goOut_103 : decode cX5_goOut 103 = .ok (.dup, 1) := by decide +kernel
theorem dX5_goOut_104 : decode cX5_goOut 104 = .ok (.getfield 77, 3) := by decide +kernel
theorem dX5_goOut_107 : decode cX5_goOut 107 = .ok (.iconst 1, 1) := by decide +kernel
theorem dX5_goOut_108 : decode cX5_goOut 108 = .ok (.iadd, 1) := by decide +kernel
theorem dX5_goOut_109 : decode cX5_goOut 109 = .ok (.putfield 77, 3) := by decide +kernel
theorem dX5_goOut_112 : decode cX5_goOut 112 = .ok (.aload_n 0, 1) := by decide +kernel
theorem dX5_goOut_113 : decode cX5_goOut 113 = .ok (.dup, 1) := by decide +kernel
theorem dX5_goOut_114 : decode cX5_goOut 114 = .ok (.getfield 80, 3) := by decide +kernel
theorem dX5_goOut_117 : decode cX5_goOut 117 = .ok (.iload_n 1, 1) := by decide +kernel
theorem dX5_goOut_118 : decode cX5_goOut 118 = .ok (.ifCond .ne 7, 3) := by decide +kernel
theorem dX5_goOut_121 : decode cX5_goOut 121 = .ok (.iconst 1, 1) := by decide +kernel
theorem dX5_goOut_122 : decode cX5_goOut 122 = .ok (.goto 4, 3) := by decide +kernel
theorem dX5_goOut_125 : decode cX5_goOut 125 = .ok (.iconst 0, 1) := by decide +kernel
theorem dX5_goOut_126 : decode cX5_goOut 126 = .ok (.iadd, 1) := by decide +kernel
theorem dX5_goOut_127 : decode cX5_goOut 127 = .ok (.putfield 80, 3) := by decide +kernel
theorem dX5_goOut_130 : decode cX5_goOut 130 = .ok (.return_, 1) := by decide +kernel
theorem dX5_entries_0 : decode cX5_entries 0 = .ok (.iconst 0, 1) := by decide +kernel
theorem dX5_entries_1 : decode cX5_entries 1 = .ok (.istore_n 2, 1) := by decide +kernel
theorem dX5_entries_2 : decode cX5_entries 2 = .ok (.iconst 0, 1) := by decide +kernel
theorem dX5_entries_3 : decode cX5_entries 3 = .ok (.istore_n 3, 1) := by decide +kernel
theorem dX5_entries_4 : decode cX5_entries 4 = .ok (.iload_n 3, 1) := by decide +kernel
theorem dX5_entries_5 : decode cX5_entries 5 = .ok (.bipush 16, 2) := by decide +kernel
theorem dX5_entries_7 : decode cX5_entries 7 = .ok (.if_icmp .ge 41, 3) := by decide +kernel
theorem dX5_entries_10 : decode cX5_entries 10 = .ok (.iload_n 2, 1) := by decide +kernel
theorem dX5_entries_11 : decode cX5_entries 11 = .ok (.aload_n 0, 1) := by decide +kernel
theorem dX5_entries_12 : decode cX5_entries 12 = .ok (.getfield 7, 3) := by decide +kernel
theorem dX5_entries_15 : decode cX5_entries 15 = .ok (.iload_n 3, 1) := by decide +kernel
theorem dX5_entries_16 : decode cX5_entries 16 = .ok (.baload, 1) := by decide +kernel
theorem dX5_entries_17 : decode cX5_entries 17 = .ok (.ifCond .eq 22, 3) := by decide +kernel
theorem dX5_entries_20 : decode cX5_entries 20 = .ok (.iload_n 1, 1) := by decide +kernel
theorem dX5_entries_21 : decode cX5_entries 21 = .ok (.iconst (-1), 1) := by decide +kernel
theorem dX5_entries_22 : decode cX5_entries 22 = .ok (.if_icmp .eq 13, 3) := by decide +kernel
theorem dX5_entries_25 : decode cX5_entries 25 = .ok (.aload_n 0, 1) := by decide +kernel
theorem dX5_entries_26 : decode cX5_entries 26 = .ok (.getfield 13, 3) := by decide +kernel
theorem dX5_entries_29 : decode cX5_entries 29 = .ok (.iload_n 3, 1) := by decide +kernel
theorem dX5_entries_30 : decode cX5_entries 30 = .ok (.iaload, 1) := by decide +kernel
theorem dX5_entries_31 : decode cX5_entries 31 = .ok (.iload_n 1, 1) := by decide +kernel
theorem dX5_entries_32 : decode cX5_entries 32 = .ok (.if_icmp .ne 7, 3) := by decide +kernel
theorem dX5_entries_35 : decode cX5_entries 35 = .ok (.iconst 1, 1) := by decide +kernel
theorem dX5_entries_36 : decode cX5_entries 36 = .ok (.goto 4, 3) := by decide +kernel
theorem dX5_entries_39 : decode cX5_entries 39 = .ok (.iconst 0, 1) := by decide +kernel
theorem dX5_entries_40 : decode cX5_entries 40 = .ok (.iadd, 1) := by decide +kernel
theorem dX5_entries_41 : decode cX5_entries 41 = .ok (.istore_n 2, 1) := by decide +kernel
theorem dX5_entries_42 : decode cX5_entries 42 = .ok (.iinc 3 1, 3) := by decide +kernel
theorem dX5_entries_45 : decode cX5_entries 45 = .ok (.goto (-41), 3) := by decide +kernel
theorem dX5_entries_48 : decode cX5_entries 48 = .ok (.iload_n 2, 1) := by decide +kernel
theorem dX5_entries_49 : decode cX5_entries 49 = .ok (.ireturn, 1) := by decide +kernel
theorem dX5_become_0 : decode cX5_become 0 = .ok (.aload_n 0, 1) := by decide +kernel
theorem dX5_become_1 : decode cX5_become 1 = .ok (.getfield 13, 3) := by decide +kernel
theorem dX5_become_4 : decode cX5_become 4 = .ok (.iload_n 1, 1) := by decide +kernel
theorem dX5_become_5 : decode cX5_become 5 = .ok (.iload_n 2, 1) := by decide +kernel
theorem dX5_become_6 : decode cX5_become 6 = .ok (.iastore, 1) := by decide +kernel
theorem dX5_become_7 : decode cX5_become 7 = .ok (.aload_n 0, 1) := by decide +kernel
theorem dX5_become_8 : decode cX5_become 8 = .ok (.getfield 20, 3) := by decide +kernel
theorem dX5_become_11 : decode cX5_become 11 = .ok (.iload_n 1, 1) := by decide +kernel
theorem dX5_become_12 : decode cX5_become 12 = .ok (.iload_n 3, 1) := by decide +kernel
theorem dX5_become_13 : decode cX5_become 13 = .ok (.ifCond .ne 7, 3) := by decide +kernel
theorem dX5_become_16 : decode cX5_become 16 = .ok (.iconst (-1), 1) := by decide +kernel
theorem dX5_become_17 : decode cX5_become 17 = .ok (.goto 9, 3) := by decide +kernel
theorem dX5_become_20 : decode cX5_become 20 = .ok (.aload_n 0, 1) := by decide +kernel
theorem dX5_become_21 : decode cX5_become 21 = .ok (.getfield 74, 3) := by decide +kernel
theorem dX5_become_24 : decode cX5_become 24 = .ok (.iload_n 3, 1) := by decide +kernel
theorem dX5_become_25 : decode cX5_become 25 = .ok (.iadd, 1) := by decide +kernel
theorem dX5_become_26 : decode cX5_become 26 = .ok (.iastore, 1) := by decide +kernel
theorem dX5_become_27 : decode cX5_become 27 = .ok (.aload_n 0, 1) := by decide +kernel
theorem dX5_become_28 : decode cX5_become 28 = .ok (.getfield 23, 3) := by decide +kernel
theorem dX5_become_31 : decode cX5_become 31 = .ok (.iload_n 1, 1) := by decide +kernel
theorem dX5_become_32 : decode cX5_become 32 = .ok (.iload_n 2, 1) := by decide +kernel
theorem dX5_become_33 : decode cX5_become 33 = .ok (.ifCond .eq 8, 3) := by decide +kernel
theorem dX5_become_36 : decode cX5_become 36 = .ok (.iload_n 2, 1) := by decide +kernel
theorem dX5_become_37 : decode cX5_become 37 = .ok (.iconst 4, 1) := by decide +kernel
theorem dX5_become_38 : decode cX5_become 38 = .ok (.if_icmp .ne 7, 3) := by decide +kernel
theorem dX5_become_41 : decode cX5_become 41 = .ok (.iconst 1, 1) := by decide +kernel
theorem dX5_become_42 : decode cX5_become 42 = .ok (.goto 4, 3) := by decide +kernel
theorem dX5_become_45 : decode cX5_become 45 = .ok (.iconst 0, 1) := by decide +kernel
theorem dX5_become_46 : decode cX5_become 46 = .ok (.iastore, 1) := by decide +kernel
theorem dX5_become_47 : decode cX5_become 47 = .ok (.return_, 1) := by decide +kernel
theorem dX5_dropHops_0 : decode cX5_dropHops 0 = .ok (.iconst 0, 1) := by decide +kernel
theorem dX5_dropHops_1 : decode cX5_dropHops 1 = .ok (.istore_n 2, 1) := by decide +kernel
theorem dX5_dropHops_2 : decode cX5_dropHops 2 = .ok (.iconst 0, 1) := by decide +kernel
theorem dX5_dropHops_3 : decode cX5_dropHops 3 = .ok (.istore_n 3, 1) := by decide +kernel
theorem dX5_dropHops_4 : decode cX5_dropHops 4 = .ok (.iload_n 3, 1) := by decide +kernel
theorem dX5_dropHops_5 : decode cX5_dropHops 5 = .ok (.aload_n 0, 1) := by decide +kernel
theorem dX5_dropHops_6 : decode cX5_dropHops 6 = .ok (.getfield 83, 3) := by decide +kernel
theorem dX5_dropHops_9 : decode cX5_dropHops 9 = .ok (.if_icmp .ge 46, 3) := by decide +kernel
theorem dX5_dropHops_12 : decode cX5_dropHops 12 = .ok (.aload_n 0, 1) := by decide +kernel
theorem dX5_dropHops_13 : decode cX5_dropHops 13 = .ok (.getfield 51, 3) := by decide +kernel
theorem dX5_dropHops_16 : decode cX5_dropHops 16 = .ok (.iload_n 3, 1) := by decide +kernel
theorem dX5_dropHops_17 : decode cX5_dropHops 17 = .ok (.iaload, 1) := by decide +kernel
theorem dX5_dropHops_18 : decode cX5_dropHops 18 = .ok (.iload_n 1, 1) := by decide +kernel
theorem dX5_dropHops_19 : decode cX5_dropHops 19 = .ok (.if_icmp .eq 30, 3) := by decide +kernel
theorem dX5_dropHops_22 : decode cX5_dropHops 22 = .ok (.aload_n 0, 1) := by decide +kernel
theorem dX5_dropHops_23 : decode cX5_dropHops 23 = .ok (.getfield 48, 3) := by decide +kernel
theorem dX5_dropHops_26 : decode cX5_dropHops 26 = .ok (.iload_n 2, 1) := by decide +kernel
theorem dX5_dropHops_27 : decode cX5_dropHops 27 = .ok (.aload_n 0, 1) := by decide +kernel
theorem dX5_dropHops_28 : decode cX5_dropHops 28 = .ok (.getfield 48, 3) := by decide +kernel
theorem dX5_dropHops_31 : decode cX5_dropHops 31 = .ok (.iload_n 3, 1) := by decide +kernel
theorem dX5_dropHops_32 : decode cX5_dropHops 32 = .ok (.iaload, 1) := by decide +kernel
theorem dX5_dropHops_33 : decode cX5_dropHops 33 = .ok (.iastore, 1) := by decide +kernel
theorem dX5_dropHops_34 : decode cX5_dropHops 34 = .ok (.aload_n 0, 1) := by decide +kernel
theorem dX5_dropHops_35 : decode cX5_dropHops 35 = .ok (.getfield 51, 3) := by decide +kernel
theorem dX5_dropHops_38 : decode cX5_dropHops 38 = .ok (.iload_n 2, 1) := by decide +kernel
theorem dX5_dropHops_39 : decode cX5_dropHops 39 = .ok (.aload_n 0, 1) := by decide +kernel
theorem dX5_dropHops_40 : decode cX5_dropHops 40 = .ok (.getfield 51, 3) := by decide +kernel
theorem dX5_dropHops_43 : decode cX5_dropHops 43 = .ok (.iload_n 3, 1) := by decide +kernel
theorem dX5_dropHops_44 : decode cX5_dropHops 44 = .ok (.iaload, 1) := by decide +kernel
theorem dX5_dropHops_45 : decode cX5_dropHops 45 = .ok (.iastore, 1) := by decide +kernel
theorem dX5_dropHops_46 : decode cX5_dropHops 46 = .ok (.iinc 2 1, 3) := by decide +kernel
theorem dX5_dropHops_49 : decode cX5_dropHops 49 = .ok (.iinc 3 1, 3) := by decide +kernel
theorem dX5_dropHops_52 : decode cX5_dropHops 52 = .ok (.goto (-48), 3) := by decide +kernel
theorem dX5_dropHops_55 : decode cX5_dropHops 55 = .ok (.aload_n 0, 1) := by decide +kernel
theorem dX5_dropHops_56 : decode cX5_dropHops 56 = .ok (.iload_n 2, 1) := by decide +kernel
theorem dX5_dropHops_57 : decode cX5_dropHops 57 = .ok (.putfield 83, 3) := by decide +kernel
theorem dX5_dropHops_60 : decode cX5_dropHops 60 = .ok (.return_, 1) := by decide +kernel
set_option maxRecDepth 20000 in
theorem ggX5_goes_X5_dropHops : GoodIn wsX5_goes wsX5_dropHops := goodIn_r _ [9, 10, 11, 12, 13, 14, 15, 16, 17, 18, 19, 20, 21, 22, 23, 24, 25, 26, 27, 28, 29, 30, 31, 32, 33, 34, 35, 36, 37, 38, 39, 40] (by decide +kernel) (by decide +kernel)
set_option maxRecDepth 20000 in
theorem gX5_goes_X5_dropHops : GoodIn wsX5_goes (wsV RX5 92 RX5 yX5_dropHops wsX5_dropHops) := goodIn_app (goodIn_of _ (by decide +kernel)) ggX5_goes_X5_dropHops
theorem dX5_goes_0 : decode cX5_goes 0 = .ok (.aload_n 0, 1) := by decide +kernel
theorem dX5_goes_1 : decode cX5_goes 1 = .ok (.getfield 7, 3) := by decide +kernel
theorem dX5_goes_4 : decode cX5_goes 4 = .ok (.iload_n 1, 1) := by decide +kernel
theorem dX5_goes_5 : decode cX5_goes 5 = .ok (.iconst 0, 1) := by decide +kernel
theorem dX5_goes_6 : decode cX5_goes 6 = .ok (.bastore, 1) := by decide +kernel
theorem dX5_goes_7 : decode cX5_goes 7 = .ok (.aload_n 0, 1) := by decide +kernel
theorem dX5_goes_8 : decode cX5_goes 8 = .ok (.dup, 1) := by decide +kernel
theorem dX5_goes_9 : decode cX5_goes 9 = .ok (.getfield 86, 3) := by decide +kernel
theorem dX5_goes_12 : decode cX5_goes 12 = .ok (.aload_n 0, 1) := by decide +kernel
theorem dX5_goes_13 : decode cX5_goes 13 = .ok (.getfield 29, 3) := by decide +kernel
theorem dX5_goes_16 : decode cX5_goes 16 = .ok (.iload_n 1, 1) := by decide +kernel
theorem dX5_goes_17 : decode cX5_goes 17 = .ok (.iaload, 1) := by decide +kernel
theorem dX5_goes_18 : decode cX5_goes 18 = .ok (.iadd, 1) := by decide +kernel
theorem dX5_goes_19 : decode cX5_goes 19 = .ok (.putfield 86, 3) := by decide +kernel
theorem dX5_goes_22 : decode cX5_goes 22 = .ok (.aload_n 0, 1) := by decide +kernel
theorem dX5_goes_23 : decode cX5_goes 23 = .ok (.getfield 29, 3) := by decide +kernel
theorem dX5_goes_26 : decode cX5_goes 26 = .ok (.iload_n 1, 1) := by decide +kernel
theorem dX5_goes_27 : decode cX5_goes 27 = .ok (.iconst 0, 1) := by decide +kernel
theorem dX5_goes_28 : decode cX5_goes 28 = .ok (.iastore, 1) := by decide +kernel
theorem dX5_goes_29 : decode cX5_goes 29 = .ok (.aload_n 0, 1) := by decide +kernel
theorem dX5_goes_30 : decode cX5_goes 30 = .ok (.dup, 1) := by decide +kernel
theorem dX5_goes_31 : decode cX5_goes 31 = .ok (.getfield 89, 3) := by decide +kernel
theorem dX5_goes_34 : decode cX5_goes 34 = .ok (.iconst 1, 1) := by decide +kernel
theorem dX5_goes_35 : decode cX5_goes 35 = .ok (.iadd, 1) := by decide +kernel
theorem dX5_goes_36 : decode cX5_goes 36 = .ok (.putfield 89, 3) := by decide +kernel
theorem dX5_goes_39 : decode cX5_goes 39 = .ok (.aload_n 0, 1) := by decide +kernel
theorem dX5_goes_40 : decode cX5_goes 40 = .ok (.iload_n 1, 1) := by decide +kernel
theorem dX5_goes_41 : decode cX5_goes 41 = .ok (.invokevirtual 92, 3) := by decide +kernel
theorem dX5_goes_44 : decode cX5_goes 44 = .ok (.return_, 1) := by decide +kernel
theorem dX5_oldest_0 : decode cX5_oldest 0 = .ok (.iconst (-1), 1) := by decide +kernel
theorem dX5_oldest_1 : decode cX5_oldest 1 = .ok (.istore_n 1, 1) := by decide +kernel
theorem dX5_oldest_2 : decode cX5_oldest 2 = .ok (.iconst 0, 1) := by decide +kernel
theorem dX5_oldest_3 : decode cX5_oldest 3 = .ok (.istore_n 2, 1) := by decide +kernel
theorem dX5_oldest_4 : decode cX5_oldest 4 = .ok (.iload_n 2, 1) := by decide +kernel
theorem dX5_oldest_5 : decode cX5_oldest 5 = .ok (.bipush 16, 2) := by decide +kernel
theorem dX5_oldest_7 : decode cX5_oldest 7 = .ok (.if_icmp .ge 64, 3) := by decide +kernel
theorem dX5_oldest_10 : decode cX5_oldest 10 = .ok (.aload_n 0, 1) := by decide +kernel
theorem dX5_oldest_11 : decode cX5_oldest 11 = .ok (.getfield 7, 3) := by decide +kernel
theorem dX5_oldest_14 : decode cX5_oldest 14 = .ok (.iload_n 2, 1) := by decide +kernel
theorem dX5_oldest_15 : decode cX5_oldest 15 = .ok (.baload, 1) := by decide +kernel
theorem dX5_oldest_16 : decode cX5_oldest 16 = .ok (.ifCond .eq 17, 3) := by decide +kernel
theorem dX5_oldest_19 : decode cX5_oldest 19 = .ok (.aload_n 0, 1) := by decide +kernel
theorem dX5_oldest_20 : decode cX5_oldest 20 = .ok (.getfield 13, 3) := by decide +kernel
theorem dX5_oldest_23 : decode cX5_oldest 23 = .ok (.iload_n 2, 1) := by decide +kernel
theorem dX5_oldest_24 : decode cX5_oldest 24 = .ok (.iaload, 1) := by decide +kernel
theorem dX5_oldest_25 : decode cX5_oldest 25 = .ok (.iconst 2, 1) := by decide +kernel
theorem dX5_oldest_26 : decode cX5_oldest 26 = .ok (.if_icmp .ne 7, 3) := by decide +kernel
theorem dX5_oldest_29 : decode cX5_oldest 29 = .ok (.iconst 1, 1) := by decide +kernel
theorem dX5_oldest_30 : decode cX5_oldest 30 = .ok (.goto 4, 3) := by decide +kernel
theorem dX5_oldest_33 : decode cX5_oldest 33 = .ok (.iconst 0, 1) := by decide +kernel
theorem dX5_oldest_34 : decode cX5_oldest 34 = .ok (.istore_n 3, 1) := by decide +kernel
theorem dX5_oldest_35 : decode cX5_oldest 35 = .ok (.iload_n 3, 1) := by decide +kernel
theorem dX5_oldest_36 : decode cX5_oldest 36 = .ok (.ifCond .eq 27, 3) := by decide +kernel
theorem dX5_oldest_39 : decode cX5_oldest 39 = .ok (.iload_n 1, 1) := by decide +kernel
theorem dX5_oldest_40 : decode cX5_oldest 40 = .ok (.iconst (-1), 1) := by decide +kernel
theorem dX5_oldest_41 : decode cX5_oldest 41 = .ok (.if_icmp .eq 18, 3) := by decide +kernel
theorem dX5_oldest_44 : decode cX5_oldest 44 = .ok (.aload_n 0, 1) := by decide +kernel
theorem dX5_oldest_45 : decode cX5_oldest 45 = .ok (.getfield 26, 3) := by decide +kernel
theorem dX5_oldest_48 : decode cX5_oldest 48 = .ok (.iload_n 2, 1) := by decide +kernel
theorem dX5_oldest_49 : decode cX5_oldest 49 = .ok (.iaload, 1) := by decide +kernel
theorem dX5_oldest_50 : decode cX5_oldest 50 = .ok (.aload_n 0, 1) := by decide +kernel
theorem dX5_oldest_51 : decode cX5_oldest 51 = .ok (.getfield 26, 3) := by decide +kernel
theorem dX5_oldest_54 : decode cX5_oldest 54 = .ok (.iload_n 1, 1) := by decide +kernel
theorem dX5_oldest_55 : decode cX5_oldest 55 = .ok (.iaload, 1) := by decide +kernel
theorem dX5_oldest_56 : decode cX5_oldest 56 = .ok (.if_icmp .ge 7, 3) := by decide +kernel
theorem dX5_oldest_59 : decode cX5_oldest 59 = .ok (.iload_n 2, 1) := by decide +kernel
theorem dX5_oldest_60 : decode cX5_oldest 60 = .ok (.goto 4, 3) := by decide +kernel
theorem dX5_oldest_63 : decode cX5_oldest 63 = .ok (.iload_n 1, 1) := by decide +kernel
theorem dX5_oldest_64 : decode cX5_oldest 64 = .ok (.istore_n 1, 1) := by decide +kernel
theorem dX5_oldest_65 : decode cX5_oldest 65 = .ok (.iinc 2 1, 3) := by decide +kernel
theorem dX5_oldest_68 : decode cX5_oldest 68 = .ok (.goto (-64), 3) := by decide +kernel
theorem dX5_oldest_71 : decode cX5_oldest 71 = .ok (.iload_n 1, 1) := by decide +kernel
theorem dX5_oldest_72 : decode cX5_oldest 72 = .ok (.ireturn, 1) := by decide +kernel
set_option maxRecDepth 20000 in
theorem ggX5_isRoom_X5_entries : GoodIn wsX5_isRoom wsX5_entries := goodIn_r _ [5, 6, 7, 13, 14, 15, 16, 17, 18, 19, 20, 21, 22, 23, 24, 25, 26, 27, 28, 29, 30, 31, 32, 33, 34, 35, 36, 37, 38, 39, 40] (by decide +kernel) (by decide +kernel)
set_option maxRecDepth 20000 in
theorem gX5_isRoom_X5_entries : GoodIn wsX5_isRoom (wsV RX5 96 RX5 yX5_entries wsX5_entries) := goodIn_app (goodIn_of _ (by decide +kernel)) ggX5_isRoom_X5_entries
set_option maxRecDepth 20000 in
theorem ggX5_isRoom_X5_oldest : GoodIn wsX5_isRoom wsX5_oldest := goodIn_r _ [11, 6, 7, 12, 13, 14, 15, 16, 17, 18, 19, 20, 21, 22, 23, 24, 25, 26, 27, 28, 29, 30, 31, 32, 33, 34, 35, 36, 37, 38, 39, 40] (by decide +kernel) (by decide +kernel)
set_option maxRecDepth 20000 in
theorem gX5_isRoom_X5_oldest : GoodIn wsX5_isRoom (wsV RX5 100 RX5 yX5_oldest wsX5_oldest) := goodIn_app (goodIn_of _ (by decide +kernel)) ggX5_isRoom_X5_oldest
theorem dX5_isRoom_0 : decode cX5_isRoom 0 = .ok (.aload_n 0, 1) := by decide +kernel
theorem dX5_isRoom_1 : decode cX5_isRoom 1 = .ok (.iconst (-1), 1) := by decide +kernel
theorem dX5_isRoom_2 : decode cX5_isRoom 2 = .ok (.invokevirtual 96, 3) := by decide +kernel
theorem dX5_isRoom_5 : decode cX5_isRoom 5 = .ok (.iconst 5, 1) := by decide +kernel
theorem dX5_isRoom_6 : decode cX5_isRoom 6 = .ok (.if_icmp .lt 11, 3) := by decide +kernel
theorem dX5_isRoom_9 : decode cX5_isRoom 9 = .ok (.aload_n 0, 1) := by decide +kernel
theorem dX5_isRoom_10 : decode cX5_isRoom 10 = .ok (.invokevirtual 100, 3) := by decide +kernel
theorem dX5_isRoom_13 : decode cX5_isRoom 13 = .ok (.iconst (-1), 1) := by decide +kernel
theorem dX5_isRoom_14 : decode cX5_isRoom 14 = .ok (.if_icmp .eq 7, 3) := by decide +kernel
theorem dX5_isRoom_17 : decode cX5_isRoom 17 = .ok (.iconst 1, 1) := by decide +kernel
theorem dX5_isRoom_18 : decode cX5_isRoom 18 = .ok (.goto 4, 3) := by decide +kernel
theorem dX5_isRoom_21 : decode cX5_isRoom 21 = .ok (.iconst 0, 1) := by decide +kernel
theorem dX5_isRoom_22 : decode cX5_isRoom 22 = .ok (.ireturn, 1) := by decide +kernel
set_option maxRecDepth 20000 in
theorem ggX5_comes_X5_entries : GoodIn wsX5_comes wsX5_entries := goodIn_r _ [10, 1, 11, 29, 30, 31, 32, 33, 34, 35, 36, 37, 38, 39, 40, 41, 42, 43, 44, 45, 46, 47, 48, 49, 50, 51, 52, 53, 54, 55, 56] (by decide +kernel) (by decide +kernel)
set_option maxRecDepth 20000 in
theorem gX5_comes_X5_entries : GoodIn wsX5_comes (wsV RX5 96 RX5 yX5_entries wsX5_entries) := goodIn_app (goodIn_of _ (by decide +kernel)) ggX5_comes_X5_entries
set_option maxRecDepth 20000 in
theorem ggX5_comes_X5_oldest : GoodIn wsX5_comes wsX5_oldest := goodIn_r _ [15, 1, 11, 3, 29, 30, 31, 32, 33, 34, 35, 36, 37, 38, 39, 40, 41, 42, 43, 44, 45, 46, 47, 48, 49, 50, 51, 52, 53, 54, 55, 56] (by decide +kernel) (by decide +kernel)
set_option maxRecDepth 20000 in
theorem gX5_comes_X5_oldest : GoodIn wsX5_comes (wsV RX5 100 RX5 yX5_oldest wsX5_oldest) := goodIn_app (goodIn_of _ (by decide +kernel)) ggX5_comes_X5_oldest
set_option maxRecDepth 20000 in
theorem ggX5_comes_X5_goes : GoodIn wsX5_comes wsX5_goes := goodIn_r _ [19, 1, 20, 5, 21, 22, 23, 24, 9, 25, 26, 27, 28, 29, 30, 31, 32, 33, 34, 35, 36, 37, 38, 39, 40, 41, 42, 43, 44, 45, 46, 47, 48, 49, 50, 51, 52, 53, 54, 55, 56] (by decide +kernel) (by decide +kernel)
set_option maxRecDepth 20000 in
theorem gX5_comes_X5_goes : GoodIn wsX5_comes (wsV RX5 104 RX5 yX5_goes wsX5_goes) := goodIn_app (goodIn_of _ (by decide +kernel)) ggX5_comes_X5_goes
theorem dX5_comes_0 : decode cX5_comes 0 = .ok (.aload_n 0, 1) := by decide +kernel
theorem dX5_comes_1 : decode cX5_comes 1 = .ok (.iconst (-1), 1) := by decide +kernel
theorem dX5_comes_2 : decode cX5_comes 2 = .ok (.invokevirtual 96, 3) := by decide +kernel
theorem dX5_comes_5 : decode cX5_comes 5 = .ok (.iconst 5, 1) := by decide +kernel
theorem dX5_comes_6 : decode cX5_comes 6 = .ok (.if_icmp .ne 11, 3) := by decide +kernel
theorem dX5_comes_9 : decode cX5_comes 9 = .ok (.aload_n 0, 1) := by decide +kernel
theorem dX5_comes_10 : decode cX5_comes 10 = .ok (.aload_n 0, 1) := by decide +kernel
theorem dX5_comes_11 : decode cX5_comes 11 = .ok (.invokevirtual 100, 3) := by decide +kernel
theorem dX5_comes_14 : decode cX5_comes 14 = .ok (.invokevirtual 104, 3) := by decide +kernel
theorem dX5_comes_17 : decode cX5_comes 17 = .ok (.aload_n 0, 1) := by decide +kernel
theorem dX5_comes_18 : decode cX5_comes 18 = .ok (.getfield 7, 3) := by decide +kernel
theorem dX5_comes_21 : decode cX5_comes 21 = .ok (.iload_n 1, 1) := by decide +kernel
theorem dX5_comes_22 : decode cX5_comes 22 = .ok (.iconst 1, 1) := by decide +kernel
theorem dX5_comes_23 : decode cX5_comes 23 = .ok (.bastore, 1) := by decide +kernel
theorem dX5_comes_24 : decode cX5_comes 24 = .ok (.aload_n 0, 1) := by decide +kernel
theorem dX5_comes_25 : decode cX5_comes 25 = .ok (.getfield 17, 3) := by decide +kernel
theorem dX5_comes_28 : decode cX5_comes 28 = .ok (.iload_n 1, 1) := by decide +kernel
theorem dX5_comes_29 : decode cX5_comes 29 = .ok (.iload_n 2, 1) := by decide +kernel
theorem dX5_comes_30 : decode cX5_comes 30 = .ok (.iastore, 1) := by decide +kernel
theorem dX5_comes_31 : decode cX5_comes 31 = .ok (.aload_n 0, 1) := by decide +kernel
theorem dX5_comes_32 : decode cX5_comes 32 = .ok (.getfield 26, 3) := by decide +kernel
theorem dX5_comes_35 : decode cX5_comes 35 = .ok (.iload_n 1, 1) := by decide +kernel
theorem dX5_comes_36 : decode cX5_comes 36 = .ok (.aload_n 0, 1) := by decide +kernel
theorem dX5_comes_37 : decode cX5_comes 37 = .ok (.getfield 74, 3) := by decide +kernel
theorem dX5_comes_40 : decode cX5_comes 40 = .ok (.iastore, 1) := by decide +kernel
theorem dX5_comes_41 : decode cX5_comes 41 = .ok (.aload_n 0, 1) := by decide +kernel
theorem dX5_comes_42 : decode cX5_comes 42 = .ok (.getfield 29, 3) := by decide +kernel
theorem dX5_comes_45 : decode cX5_comes 45 = .ok (.iload_n 1, 1) := by decide +kernel
theorem dX5_comes_46 : decode cX5_comes 46 = .ok (.iconst 0, 1) := by decide +kernel
theorem dX5_comes_47 : decode cX5_comes 47 = .ok (.iastore, 1) := by decide +kernel
theorem dX5_comes_48 : decode cX5_comes 48 = .ok (.return_, 1) := by decide +kernel
set_option maxRecDepth 20000 in
theorem ggX5_letGo_X5_goOut : GoodIn wsX5_letGo wsX5_goOut := goodIn_r _ [8, 9, 10, 11, 12, 13, 14, 15, 16, 17, 18, 19, 20, 21, 22, 23, 24, 25, 26, 27, 28, 29, 30, 31, 32, 33, 34, 35, 36, 37, 38, 39, 40, 41] (by decide +kernel) (by decide +kernel)
set_option maxRecDepth 20000 in
theorem gX5_letGo_X5_goOut : GoodIn wsX5_letGo (wsV RX5 63 RX5 yX5_goOut wsX5_goOut) := goodIn_app (goodIn_of _ (by decide +kernel)) ggX5_letGo_X5_goOut
theorem dX5_letGo_0 : decode cX5_letGo 0 = .ok (.iconst 0, 1) := by decide +kernel
theorem dX5_letGo_1 : decode cX5_letGo 1 = .ok (.istore_n 2, 1) := by decide +kernel
theorem dX5_letGo_2 : decode cX5_letGo 2 = .ok (.iload_n 2, 1) := by decide +kernel
theorem dX5_letGo_3 : decode cX5_letGo 3 = .ok (.aload_n 0, 1) := by decide +kernel
theorem dX5_letGo_4 : decode cX5_letGo 4 = .ok (.getfield 29, 3) := by decide +kernel
theorem dX5_letGo_7 : decode cX5_letGo 7 = .ok (.iload_n 1, 1) := by decide +kernel
theorem dX5_letGo_8 : decode cX5_letGo 8 = .ok (.iaload, 1) := by decide +kernel
theorem dX5_letGo_9 : decode cX5_letGo 9 = .ok (.if_icmp .ge 31, 3) := by decide +kernel
theorem dX5_letGo_12 : decode cX5_letGo 12 = .ok (.aload_n 0, 1) := by decide +kernel
theorem dX5_letGo_13 : decode cX5_letGo 13 = .ok (.iconst 0, 1) := by decide +kernel
theorem dX5_letGo_14 : decode cX5_letGo 14 = .ok (.iload_n 1, 1) := by decide +kernel
theorem dX5_letGo_15 : decode cX5_letGo 15 = .ok (.aload_n 0, 1) := by decide +kernel
theorem dX5_letGo_16 : decode cX5_letGo 16 = .ok (.getfield 17, 3) := by decide +kernel
theorem dX5_letGo_19 : decode cX5_letGo 19 = .ok (.iload_n 1, 1) := by decide +kernel
theorem dX5_letGo_20 : decode cX5_letGo 20 = .ok (.iaload, 1) := by decide +kernel
theorem dX5_letGo_21 : decode cX5_letGo 21 = .ok (.aload_n 0, 1) := by decide +kernel
theorem dX5_letGo_22 : decode cX5_letGo 22 = .ok (.getfield 32, 3) := by decide +kernel
theorem dX5_letGo_25 : decode cX5_letGo 25 = .ok (.iconst 3, 1) := by decide +kernel
theorem dX5_letGo_26 : decode cX5_letGo 26 = .ok (.iload_n 1, 1) := by decide +kernel
theorem dX5_letGo_27 : decode cX5_letGo 27 = .ok (.imul, 1) := by decide +kernel
theorem dX5_letGo_28 : decode cX5_letGo 28 = .ok (.iload_n 2, 1) := by decide +kernel
theorem dX5_letGo_29 : decode cX5_letGo 29 = .ok (.iadd, 1) := by decide +kernel
theorem dX5_letGo_30 : decode cX5_letGo 30 = .ok (.iaload, 1) := by decide +kernel
theorem dX5_letGo_31 : decode cX5_letGo 31 = .ok (.invokevirtual 63, 3) := by decide +kernel
theorem dX5_letGo_34 : decode cX5_letGo 34 = .ok (.iinc 2 1, 3) := by decide +kernel
theorem dX5_letGo_37 : decode cX5_letGo 37 = .ok (.goto (-35), 3) := by decide +kernel
theorem dX5_letGo_40 : decode cX5_letGo 40 = .ok (.aload_n 0, 1) := by decide +kernel
theorem dX5_letGo_41 : decode cX5_letGo 41 = .ok (.getfield 29, 3) := by decide +kernel
theorem dX5_letGo_44 : decode cX5_letGo 44 = .ok (.iload_n 1, 1) := by decide +kernel
theorem dX5_letGo_45 : decode cX5_letGo 45 = .ok (.iconst 0, 1) := by decide +kernel
theorem dX5_letGo_46 : decode cX5_letGo 46 = .ok (.iastore, 1) := by decide +kernel
theorem dX5_letGo_47 : decode cX5_letGo 47 = .ok (.return_, 1) := by decide +kernel
theorem dX5_hold_0 : decode cX5_hold 0 = .ok (.aload_n 0, 1) := by decide +kernel
theorem dX5_hold_1 : decode cX5_hold 1 = .ok (.getfield 29, 3) := by decide +kernel
theorem dX5_hold_4 : decode cX5_hold 4 = .ok (.iload_n 1, 1) := by decide +kernel
theorem dX5_hold_5 : decode cX5_hold 5 = .ok (.iaload, 1) := by decide +kernel
theorem dX5_hold_6 : decode cX5_hold 6 = .ok (.iconst 3, 1) := by decide +kernel
theorem dX5_hold_7 : decode cX5_hold 7 = .ok (.if_icmp .ne 7, 3) := by decide +kernel
theorem dX5_hold_10 : decode cX5_hold 10 = .ok (.iconst 1, 1) := by decide +kernel
theorem dX5_hold_11 : decode cX5_hold 11 = .ok (.goto 4, 3) := by decide +kernel
theorem dX5_hold_14 : decode cX5_hold 14 = .ok (.iconst 0, 1) := by decide +kernel
theorem dX5_hold_15 : decode cX5_hold 15 = .ok (.istore_n 3, 1) := by decide +kernel
theorem dX5_hold_16 : decode cX5_hold 16 = .ok (.iload_n 3, 1) := by decide +kernel
theorem dX5_hold_17 : decode cX5_hold 17 = .ok (.ifCond .eq 61, 3) := by decide +kernel
theorem dX5_hold_20 : decode cX5_hold 20 = .ok (.aload_n 0, 1) := by decide +kernel
theorem dX5_hold_21 : decode cX5_hold 21 = .ok (.getfield 32, 3) := by decide +kernel
theorem dX5_hold_24 : decode cX5_hold 24 = .ok (.iconst 3, 1) := by decide +kernel
theorem dX5_hold_25 : decode cX5_hold 25 = .ok (.iload_n 1, 1) := by decide +kernel
theorem dX5_hold_26 : decode cX5_hold 26 = .ok (.imul, 1) := by decide +kernel
theorem dX5_hold_27 : decode cX5_hold 27 = .ok (.aload_n 0, 1) := by decide +kernel
theorem dX5_hold_28 : decode cX5_hold 28 = .ok (.getfield 32, 3) := by decide +kernel
theorem dX5_hold_31 : decode cX5_hold 31 = .ok (.iconst 3, 1) := by decide +kernel
theorem dX5_hold_32 : decode cX5_hold 32 = .ok (.iload_n 1, 1) := by decide +kernel
theorem dX5_hold_33 : decode cX5_hold 33 = .ok (.imul, 1) := by decide +kernel
theorem dX5_hold_34 : decode cX5_hold 34 = .ok (.iconst 1, 1) := by decide +kernel
theorem dX5_hold_35 : decode cX5_hold 35 = .ok (.iadd, 1) := by decide +kernel
theorem dX5_hold_36 : decode cX5_hold 36 = .ok (.iaload, 1) := by decide +kernel
theorem dX5_hold_37 : decode cX5_hold 37 = .ok (.iastore, 1) := by decide +kernel
theorem dX5_hold_38 : decode cX5_hold 38 = .ok (.aload_n 0, 1) := by decide +kernel
theorem dX5_hold_39 : decode cX5_hold 39 = .ok (.getfield 32, 3) := by decide +kernel
theorem dX5_hold_42 : decode cX5_hold 42 = .ok (.iconst 3, 1) := by decide +kernel
theorem dX5_hold_43 : decode cX5_hold 43 = .ok (.iload_n 1, 1) := by decide +kernel
theorem dX5_hold_44 : decode cX5_hold 44 = .ok (.imul, 1) := by decide +kernel
theorem dX5_hold_45 : decode cX5_hold 45 = .ok (.iconst 1, 1) := by decide +kernel
theorem dX5_hold_46 : decode cX5_hold 46 = .ok (.iadd, 1) := by decide +kernel
theorem dX5_hold_47 : decode cX5_hold 47 = .ok (.aload_n 0, 1) := by decide +kernel
theorem dX5_hold_48 : decode cX5_hold 48 = .ok (.getfield 32, 3) := by decide +kernel
theorem dX5_hold_51 : decode cX5_hold 51 = .ok (.iconst 3, 1) := by decide +kernel
theorem dX5_hold_52 : decode cX5_hold 52 = .ok (.iload_n 1, 1) := by decide +kernel
theorem dX5_hold_53 : decode cX5_hold 53 = .ok (.imul, 1) := by decide +kernel
theorem dX5_hold_54 : decode cX5_hold 54 = .ok (.iconst 2, 1) := by decide +kernel
theorem dX5_hold_55 : decode cX5_hold 55 = .ok (.iadd, 1) := by decide +kernel
theorem dX5_hold_56 : decode cX5_hold 56 = .ok (.iaload, 1) := by decide +kernel
theorem dX5_hold_57 : decode cX5_hold 57 = .ok (.iastore, 1) := by decide +kernel
theorem dX5_hold_58 : decode cX5_hold 58 = .ok (.aload_n 0, 1) := by decide +kernel
theorem dX5_hold_59 : decode cX5_hold 59 = .ok (.getfield 29, 3) := by decide +kernel
theorem dX5_hold_62 : decode cX5_hold 62 = .ok (.iload_n 1, 1) := by decide +kernel
theorem dX5_hold_63 : decode cX5_hold 63 = .ok (.dup2, 1) := by decide +kernel
theorem dX5_hold_64 : decode cX5_hold 64 = .ok (.iaload, 1) := by decide +kernel
theorem dX5_hold_65 : decode cX5_hold 65 = .ok (.iconst 1, 1) := by decide +kernel
theorem dX5_hold_66 : decode cX5_hold 66 = .ok (.isub, 1) := by decide +kernel
theorem dX5_hold_67 : decode cX5_hold 67 = .ok (.iastore, 1) := by decide +kernel
theorem dX5_hold_68 : decode cX5_hold 68 = .ok (.aload_n 0, 1) := by decide +kernel
theorem dX5_hold_69 : decode cX5_hold 69 = .ok (.dup, 1) := by decide +kernel
theorem dX5_hold_70 : decode cX5_hold 70 = .ok (.getfield 86, 3) := by decide +kernel
theorem dX5_hold_73 : decode cX5_hold 73 = .ok (.iconst 1, 1) := by decide +kernel
theorem dX5_hold_74 : decode cX5_hold 74 = .ok (.iadd, 1) := by decide +kernel
theorem dX5_hold_75 : decode cX5_hold 75 = .ok (.putfield 86, 3) := by decide +kernel
theorem dX5_hold_78 : decode cX5_hold 78 = .ok (.aload_n 0, 1) := by decide +kernel
theorem dX5_hold_79 : decode cX5_hold 79 = .ok (.getfield 32, 3) := by decide +kernel
theorem dX5_hold_82 : decode cX5_hold 82 = .ok (.iconst 3, 1) := by decide +kernel
theorem dX5_hold_83 : decode cX5_hold 83 = .ok (.iload_n 1, 1) := by decide +kernel
theorem dX5_hold_84 : decode cX5_hold 84 = .ok (.imul, 1) := by decide +kernel
theorem dX5_hold_85 : decode cX5_hold 85 = .ok (.aload_n 0, 1) := by decide +kernel
theorem dX5_hold_86 : decode cX5_hold 86 = .ok (.getfield 29, 3) := by decide +kernel
theorem dX5_hold_89 : decode cX5_hold 89 = .ok (.iload_n 1, 1) := by decide +kernel
theorem dX5_hold_90 : decode cX5_hold 90 = .ok (.iaload, 1) := by decide +kernel
theorem dX5_hold_91 : decode cX5_hold 91 = .ok (.iadd, 1) := by decide +kernel
theorem dX5_hold_92 : decode cX5_hold 92 = .ok (.iload_n 2, 1) := by decide +kernel
theorem dX5_hold_93 : decode cX5_hold 93 = .ok (.iastore, 1) := by decide +kernel
theorem dX5_hold_94 : decode cX5_hold 94 = .ok (.aload_n 0, 1) := by decide +kernel
theorem dX5_hold_95 : decode cX5_hold 95 = .ok (.getfield 29, 3) := by decide +kernel
theorem dX5_hold_98 : decode cX5_hold 98 = .ok (.iload_n 1, 1) := by decide +kernel
theorem dX5_hold_99 : decode cX5_hold 99 = .ok (.dup2, 1) := by decide +kernel
theorem dX5_hold_100 : decode cX5_hold 100 = .ok (.iaload, 1) := by decide +kernel
theorem dX5_hold_101 : decode cX5_hold 101 = .ok (.iconst 1, 1) := by decide +kernel
theorem dX5_hold_102 : decode cX5_hold 102 = .ok (.iadd, 1) := by decide +kernel
theorem dX5_hold_103 : decode cX5_hold 103 = .ok (.iastore, 1) := by decide +kernel
theorem dX5_hold_104 : decode cX5_hold 104 = .ok (.iload_n 3, 1) := by decide +kernel
theorem dX5_hold_105 : decode cX5_hold 105 = .ok (.ireturn, 1) := by decide +kernel
set_option maxRecDepth 20000 in
theorem ggX5_sendNow_X5_comes : GoodIn wsX5_sendNow wsX5_comes := goodIn_r _ [10, 1, 5, 2, 3, 11, 12, 13, 14, 9, 15, 4, 16, 17, 18, 19, 20, 21, 22, 23, 24, 25, 26, 27, 28, 29, 30, 31, 32, 52, 53, 54, 55, 56, 57, 58, 59, 60, 61, 62, 63, 64, 65, 66, 67, 68, 69, 70, 71, 72, 73, 74, 75, 76, 77, 78, 79] (by decide +kernel) (by decide +kernel)
set_option maxRecDepth 20000 in
theorem gX5_sendNow_X5_comes : GoodIn wsX5_sendNow (wsV RX5 107 RX5 yX5_comes wsX5_comes) := goodIn_app (goodIn_of _ (by decide +kernel)) ggX5_sendNow_X5_comes
set_option maxRecDepth 20000 in
theorem ggX5_sendNow_X5_become : GoodIn wsX5_sendNow wsX5_become := goodIn_r _ [36, 4, 37, 3, 38, 52, 53, 54, 55, 56, 57, 58, 59, 60, 61, 62, 63, 64, 65, 66, 67, 68, 69, 70, 71, 72, 73, 74, 75, 76, 77, 78, 79] (by decide +kernel) (by decide +kernel)
set_option maxRecDepth 20000 in
theorem gX5_sendNow_X5_become : GoodIn wsX5_sendNow (wsV RX5 111 RX5 yX5_become wsX5_become) := goodIn_app (goodIn_of _ (by decide +kernel)) ggX5_sendNow_X5_become
set_option maxRecDepth 20000 in
theorem ggX5_sendNow_X5_goOut : GoodIn wsX5_sendNow wsX5_goOut := goodIn_r _ [42, 43, 44, 3, 45, 46, 52, 53, 54, 55, 56, 57, 58, 59, 60, 61, 62, 63, 64, 65, 66, 67, 68, 69, 70, 71, 72, 73, 74, 75, 76, 77, 78, 79] (by decide +kernel) (by decide +kernel)
set_option maxRecDepth 20000 in
theorem gX5_sendNow_X5_goOut : GoodIn wsX5_sendNow (wsV RX5 63 RX5 yX5_goOut wsX5_goOut) := goodIn_app (goodIn_of _ (by decide +kernel)) ggX5_sendNow_X5_goOut
set_option maxRecDepth 20000 in
theorem ggX5_sendNow_X5_hold : GoodIn wsX5_sendNow wsX5_hold := goodIn_r _ [50, 11, 51, 24, 52, 53, 54, 55, 56, 57, 58, 59, 60, 61, 62, 63, 64, 65, 66, 67, 68, 69, 70, 71, 72, 73, 74, 75, 76, 77, 78, 79] (by decide +kernel) (by decide +kernel)
set_option maxRecDepth 20000 in
theorem gX5_sendNow_X5_hold : GoodIn wsX5_sendNow (wsV RX5 115 RX5 yX5_hold wsX5_hold) := goodIn_app (goodIn_of _ (by decide +kernel)) ggX5_sendNow_X5_hold
theorem dX5_sendNow_0 : decode cX5_sendNow 0 = .ok (.aload_n 0, 1) := by decide +kernel
theorem dX5_sendNow_1 : decode cX5_sendNow 1 = .ok (.getfield 7, 3) := by decide +kernel
theorem dX5_sendNow_4 : decode cX5_sendNow 4 = .ok (.iload_n 1, 1) := by decide +kernel
theorem dX5_sendNow_5 : decode cX5_sendNow 5 = .ok (.baload, 1) := by decide +kernel
theorem dX5_sendNow_6 : decode cX5_sendNow 6 = .ok (.ifCond .ne 25, 3) := by decide +kernel
theorem dX5_sendNow_9 : decode cX5_sendNow 9 = .ok (.aload_n 0, 1) := by decide +kernel
theorem dX5_sendNow_10 : decode cX5_sendNow 10 = .ok (.iload_n 1, 1) := by decide +kernel
theorem dX5_sendNow_11 : decode cX5_sendNow 11 = .ok (.iconst 0, 1) := by decide +kernel
theorem dX5_sendNow_12 : decode cX5_sendNow 12 = .ok (.invokevirtual 107, 3) := by decide +kernel
theorem dX5_sendNow_15 : decode cX5_sendNow 15 = .ok (.aload_n 0, 1) := by decide +kernel
theorem dX5_sendNow_16 : decode cX5_sendNow 16 = .ok (.iload_n 1, 1) := by decide +kernel
theorem dX5_sendNow_17 : decode cX5_sendNow 17 = .ok (.iconst 0, 1) := by decide +kernel
theorem dX5_sendNow_18 : decode cX5_sendNow 18 = .ok (.bipush 6, 2) := by decide +kernel
theorem dX5_sendNow_20 : decode cX5_sendNow 20 = .ok (.invokevirtual 111, 3) := by decide +kernel
theorem dX5_sendNow_23 : decode cX5_sendNow 23 = .ok (.aload_n 0, 1) := by decide +kernel
theorem dX5_sendNow_24 : decode cX5_sendNow 24 = .ok (.iconst 1, 1) := by decide +kernel
theorem dX5_sendNow_25 : decode cX5_sendNow 25 = .ok (.iload_n 1, 1) := by decide +kernel
theorem dX5_sendNow_26 : decode cX5_sendNow 26 = .ok (.iconst 0, 1) := by decide +kernel
theorem dX5_sendNow_27 : decode cX5_sendNow 27 = .ok (.iconst 0, 1) := by decide +kernel
theorem dX5_sendNow_28 : decode cX5_sendNow 28 = .ok (.invokevirtual 63, 3) := by decide +kernel
theorem dX5_sendNow_31 : decode cX5_sendNow 31 = .ok (.aload_n 0, 1) := by decide +kernel
theorem dX5_sendNow_32 : decode cX5_sendNow 32 = .ok (.getfield 26, 3) := by decide +kernel
theorem dX5_sendNow_35 : decode cX5_sendNow 35 = .ok (.iload_n 1, 1) := by decide +kernel
theorem dX5_sendNow_36 : decode cX5_sendNow 36 = .ok (.aload_n 0, 1) := by decide +kernel
theorem dX5_sendNow_37 : decode cX5_sendNow 37 = .ok (.getfield 74, 3) := by decide +kernel
theorem dX5_sendNow_40 : decode cX5_sendNow 40 = .ok (.iastore, 1) := by decide +kernel
theorem dX5_sendNow_41 : decode cX5_sendNow 41 = .ok (.aload_n 0, 1) := by decide +kernel
theorem dX5_sendNow_42 : decode cX5_sendNow 42 = .ok (.getfield 13, 3) := by decide +kernel
theorem dX5_sendNow_45 : decode cX5_sendNow 45 = .ok (.iload_n 1, 1) := by decide +kernel
theorem dX5_sendNow_46 : decode cX5_sendNow 46 = .ok (.iaload, 1) := by decide +kernel
theorem dX5_sendNow_47 : decode cX5_sendNow 47 = .ok (.ifCond .ne 18, 3) := by decide +kernel
theorem dX5_sendNow_50 : decode cX5_sendNow 50 = .ok (.aload_n 0, 1) := by decide +kernel
theorem dX5_sendNow_51 : decode cX5_sendNow 51 = .ok (.iload_n 1, 1) := by decide +kernel
theorem dX5_sendNow_52 : decode cX5_sendNow 52 = .ok (.iload_n 2, 1) := by decide +kernel
theorem dX5_sendNow_53 : decode cX5_sendNow 53 = .ok (.invokevirtual 115, 3) := by decide +kernel
theorem dX5_sendNow_56 : decode cX5_sendNow 56 = .ok (.ifCond .eq 7, 3) := by decide +kernel
theorem dX5_sendNow_59 : decode cX5_sendNow 59 = .ok (.iconst 2, 1) := by decide +kernel
theorem dX5_sendNow_60 : decode cX5_sendNow 60 = .ok (.goto 4, 3) := by decide +kernel
theorem dX5_sendNow_63 : decode cX5_sendNow 63 = .ok (.iconst 1, 1) := by decide +kernel
theorem dX5_sendNow_64 : decode cX5_sendNow 64 = .ok (.ireturn, 1) := by decide +kernel
theorem dX5_sendNow_65 : decode cX5_sendNow 65 = .ok (.aload_n 0, 1) := by decide +kernel
theorem dX5_sendNow_66 : decode cX5_sendNow 66 = .ok (.iconst 0, 1) := by decide +kernel
theorem dX5_sendNow_67 : decode cX5_sendNow 67 = .ok (.iload_n 1, 1) := by decide +kernel
theorem dX5_sendNow_68 : decode cX5_sendNow 68 = .ok (.aload_n 0, 1) := by decide +kernel
theorem dX5_sendNow_69 : decode cX5_sendNow 69 = .ok (.getfield 17, 3) := by decide +kernel
theorem dX5_sendNow_72 : decode cX5_sendNow 72 = .ok (.iload_n 1, 1) := by decide +kernel
theorem dX5_sendNow_73 : decode cX5_sendNow 73 = .ok (.iaload, 1) := by decide +kernel
theorem dX5_sendNow_74 : decode cX5_sendNow 74 = .ok (.iload_n 2, 1) := by decide +kernel
theorem dX5_sendNow_75 : decode cX5_sendNow 75 = .ok (.invokevirtual 63, 3) := by decide +kernel
theorem dX5_sendNow_78 : decode cX5_sendNow 78 = .ok (.aload_n 0, 1) := by decide +kernel
theorem dX5_sendNow_79 : decode cX5_sendNow 79 = .ok (.getfield 13, 3) := by decide +kernel
theorem dX5_sendNow_82 : decode cX5_sendNow 82 = .ok (.iload_n 1, 1) := by decide +kernel
theorem dX5_sendNow_83 : decode cX5_sendNow 83 = .ok (.iaload, 1) := by decide +kernel
theorem dX5_sendNow_84 : decode cX5_sendNow 84 = .ok (.iconst 2, 1) := by decide +kernel
theorem dX5_sendNow_85 : decode cX5_sendNow 85 = .ok (.if_icmp .ne 10, 3) := by decide +kernel
theorem dX5_sendNow_88 : decode cX5_sendNow 88 = .ok (.aload_n 0, 1) := by decide +kernel
theorem dX5_sendNow_89 : decode cX5_sendNow 89 = .ok (.iload_n 1, 1) := by decide +kernel
theorem dX5_sendNow_90 : decode cX5_sendNow 90 = .ok (.iconst 3, 1) := by decide +kernel
theorem dX5_sendNow_91 : decode cX5_sendNow 91 = .ok (.iconst 5, 1) := by decide +kernel
theorem dX5_sendNow_92 : decode cX5_sendNow 92 = .ok (.invokevirtual 111, 3) := by decide +kernel
theorem dX5_sendNow_95 : decode cX5_sendNow 95 = .ok (.iconst 0, 1) := by decide +kernel
theorem dX5_sendNow_96 : decode cX5_sendNow 96 = .ok (.ireturn, 1) := by decide +kernel
set_option maxRecDepth 20000 in
theorem ggX5_hear_X5_isRoom : GoodIn wsX5_hear wsX5_isRoom := goodIn_r _ [8, 9, 10, 11, 7, 12, 1, 2, 13, 14, 15, 16, 17, 56, 57, 58, 59, 60, 61, 62, 63, 64, 65, 66, 67, 68, 69, 70, 71, 72, 73, 74, 75, 76, 77, 78, 79, 80, 81, 82, 83] (by decide +kernel) (by decide +kernel)
set_option maxRecDepth 20000 in
theorem gX5_hear_X5_isRoom : GoodIn wsX5_hear (wsV RX5 119 RX5 yX5_isRoom wsX5_isRoom) := goodIn_app (goodIn_of _ (by decide +kernel)) ggX5_hear_X5_isRoom
set_option maxRecDepth 20000 in
theorem ggX5_hear_X5_comes : GoodIn wsX5_hear wsX5_comes := goodIn_r _ [21, 1, 3, 17, 22, 23, 9, 10, 11, 7, 12, 2, 13, 14, 15, 16, 24, 25, 26, 27, 28, 29, 30, 31, 32, 33, 34, 35, 36, 56, 57, 58, 59, 60, 61, 62, 63, 64, 65, 66, 67, 68, 69, 70, 71, 72, 73, 74, 75, 76, 77, 78, 79, 80, 81, 82, 83] (by decide +kernel) (by decide +kernel)
set_option maxRecDepth 20000 in
theorem gX5_hear_X5_comes : GoodIn wsX5_hear (wsV RX5 107 RX5 yX5_comes wsX5_comes) := goodIn_app (goodIn_of _ (by decide +kernel)) ggX5_hear_X5_comes
set_option maxRecDepth 20000 in
theorem ggX5_hear_X5_become : GoodIn wsX5_hear wsX5_become := goodIn_r _ [40, 2, 41, 22, 42, 56, 57, 58, 59, 60, 61, 62, 63, 64, 65, 66, 67, 68, 69, 70, 71, 72, 73, 74, 75, 76, 77, 78, 79, 80, 81, 82, 83] (by decide +kernel) (by decide +kernel)
set_option maxRecDepth 20000 in
theorem gX5_hear_X5_become : GoodIn wsX5_hear (wsV RX5 111 RX5 yX5_become wsX5_become) := goodIn_app (goodIn_of _ (by decide +kernel)) ggX5_hear_X5_become
set_option maxRecDepth 20000 in
theorem ggX5_hear_X5_letGo : GoodIn wsX5_hear wsX5_letGo := goodIn_r _ [46, 23, 3, 47, 48, 49, 50, 7, 51, 52, 53, 22, 54, 55, 56, 57, 58, 59, 60, 61, 62, 63, 64, 65, 66, 67, 68, 69, 70, 71, 72, 73, 74, 75, 76, 77, 78, 79, 80, 81, 82, 83] (by decide +kernel) (by decide +kernel)
set_option maxRecDepth 20000 in
theorem gX5_hear_X5_letGo : GoodIn wsX5_hear (wsV RX5 123 RX5 yX5_letGo wsX5_letGo) := goodIn_app (goodIn_of _ (by decide +kernel)) ggX5_hear_X5_letGo
theorem dX5_hear_0 : decode cX5_hear 0 = .ok (.aload_n 0, 1) := by decide +kernel
theorem dX5_hear_1 : decode cX5_hear 1 = .ok (.getfield 7, 3) := by decide +kernel
theorem dX5_hear_4 : decode cX5_hear 4 = .ok (.iload_n 1, 1) := by decide +kernel
theorem dX5_hear_5 : decode cX5_hear 5 = .ok (.baload, 1) := by decide +kernel
theorem dX5_hear_6 : decode cX5_hear 6 = .ok (.ifCond .ne 24, 3) := by decide +kernel
theorem dX5_hear_9 : decode cX5_hear 9 = .ok (.aload_n 0, 1) := by decide +kernel
theorem dX5_hear_10 : decode cX5_hear 10 = .ok (.invokevirtual 119, 3) := by decide +kernel
theorem dX5_hear_13 : decode cX5_hear 13 = .ok (.ifCond .eq 16, 3) := by decide +kernel
theorem dX5_hear_16 : decode cX5_hear 16 = .ok (.aload_n 0, 1) := by decide +kernel
theorem dX5_hear_17 : decode cX5_hear 17 = .ok (.iload_n 1, 1) := by decide +kernel
theorem dX5_hear_18 : decode cX5_hear 18 = .ok (.iload_n 2, 1) := by decide +kernel
theorem dX5_hear_19 : decode cX5_hear 19 = .ok (.invokevirtual 107, 3) := by decide +kernel
theorem dX5_hear_22 : decode cX5_hear 22 = .ok (.aload_n 0, 1) := by decide +kernel
theorem dX5_hear_23 : decode cX5_hear 23 = .ok (.iload_n 1, 1) := by decide +kernel
theorem dX5_hear_24 : decode cX5_hear 24 = .ok (.iconst 2, 1) := by decide +kernel
theorem dX5_hear_25 : decode cX5_hear 25 = .ok (.iconst 0, 1) := by decide +kernel
theorem dX5_hear_26 : decode cX5_hear 26 = .ok (.invokevirtual 111, 3) := by decide +kernel
theorem dX5_hear_29 : decode cX5_hear 29 = .ok (.return_, 1) := by decide +kernel
theorem dX5_hear_30 : decode cX5_hear 30 = .ok (.aload_n 0, 1) := by decide +kernel
theorem dX5_hear_31 : decode cX5_hear 31 = .ok (.getfield 13, 3) := by decide +kernel
theorem dX5_hear_34 : decode cX5_hear 34 = .ok (.iload_n 1, 1) := by decide +kernel
theorem dX5_hear_35 : decode cX5_hear 35 = .ok (.iaload, 1) := by decide +kernel
theorem dX5_hear_36 : decode cX5_hear 36 = .ok (.ifCond .ne 7, 3) := by decide +kernel
theorem dX5_hear_39 : decode cX5_hear 39 = .ok (.iconst 1, 1) := by decide +kernel
theorem dX5_hear_40 : decode cX5_hear 40 = .ok (.goto 4, 3) := by decide +kernel
theorem dX5_hear_43 : decode cX5_hear 43 = .ok (.iconst 0, 1) := by decide +kernel
theorem dX5_hear_44 : decode cX5_hear 44 = .ok (.istore_n 3, 1) := by decide +kernel
theorem dX5_hear_45 : decode cX5_hear 45 = .ok (.iload_n 3, 1) := by decide +kernel
theorem dX5_hear_46 : decode cX5_hear 46 = .ok (.ifCond .ne 13, 3) := by decide +kernel
theorem dX5_hear_49 : decode cX5_hear 49 = .ok (.aload_n 0, 1) := by decide +kernel
theorem dX5_hear_50 : decode cX5_hear 50 = .ok (.getfield 17, 3) := by decide +kernel
theorem dX5_hear_53 : decode cX5_hear 53 = .ok (.iload_n 1, 1) := by decide +kernel
theorem dX5_hear_54 : decode cX5_hear 54 = .ok (.iaload, 1) := by decide +kernel
theorem dX5_hear_55 : decode cX5_hear 55 = .ok (.iload_n 2, 1) := by decide +kernel
theorem dX5_hear_56 : decode cX5_hear 56 = .ok (.if_icmp .eq 22, 3) := by decide +kernel
theorem dX5_hear_59 : decode cX5_hear 59 = .ok (.aload_n 0, 1) := by decide +kernel
theorem dX5_hear_60 : decode cX5_hear 60 = .ok (.getfield 17, 3) := by decide +kernel
theorem dX5_hear_63 : decode cX5_hear 63 = .ok (.iload_n 1, 1) := by decide +kernel
theorem dX5_hear_64 : decode cX5_hear 64 = .ok (.iload_n 2, 1) := by decide +kernel
theorem dX5_hear_65 : decode cX5_hear 65 = .ok (.iastore, 1) := by decide +kernel
theorem dX5_hear_66 : decode cX5_hear 66 = .ok (.aload_n 0, 1) := by decide +kernel
theorem dX5_hear_67 : decode cX5_hear 67 = .ok (.iload_n 1, 1) := by decide +kernel
theorem dX5_hear_68 : decode cX5_hear 68 = .ok (.iconst 2, 1) := by decide +kernel
theorem dX5_hear_69 : decode cX5_hear 69 = .ok (.iconst 0, 1) := by decide +kernel
theorem dX5_hear_70 : decode cX5_hear 70 = .ok (.invokevirtual 111, 3) := by decide +kernel
theorem dX5_hear_73 : decode cX5_hear 73 = .ok (.aload_n 0, 1) := by decide +kernel
theorem dX5_hear_74 : decode cX5_hear 74 = .ok (.iload_n 1, 1) := by decide +kernel
theorem dX5_hear_75 : decode cX5_hear 75 = .ok (.invokevirtual 123, 3) := by decide +kernel
theorem dX5_hear_78 : decode cX5_hear 78 = .ok (.return_, 1) := by decide +kernel
theorem dX5_isGood_0 : decode cX5_isGood 0 = .ok (.aload_n 0, 1) := by decide +kernel
theorem dX5_isGood_1 : decode cX5_isGood 1 = .ok (.getfield 7, 3) := by decide +kernel
theorem dX5_isGood_4 : decode cX5_isGood 4 = .ok (.iload_n 1, 1) := by decide +kernel
theorem dX5_isGood_5 : decode cX5_isGood 5 = .ok (.baload, 1) := by decide +kernel
theorem dX5_isGood_6 : decode cX5_isGood 6 = .ok (.ifCond .eq 16, 3) := by decide +kernel
theorem dX5_isGood_9 : decode cX5_isGood 9 = .ok (.aload_n 0, 1) := by decide +kernel
theorem dX5_isGood_10 : decode cX5_isGood 10 = .ok (.getfield 13, 3) := by decide +kernel
theorem dX5_isGood_13 : decode cX5_isGood 13 = .ok (.iload_n 1, 1) := by decide +kernel
theorem dX5_isGood_14 : decode cX5_isGood 14 = .ok (.iaload, 1) := by decide +kernel
theorem dX5_isGood_15 : decode cX5_isGood 15 = .ok (.ifCond .eq 7, 3) := by decide +kernel
theorem dX5_isGood_18 : decode cX5_isGood 18 = .ok (.iconst 1, 1) := by decide +kernel
theorem dX5_isGood_19 : decode cX5_isGood 19 = .ok (.goto 4, 3) := by decide +kernel
theorem dX5_isGood_22 : decode cX5_isGood 22 = .ok (.iconst 0, 1) := by decide +kernel
theorem dX5_isGood_23 : decode cX5_isGood 23 = .ok (.ireturn, 1) := by decide +kernel
theorem dX5_routers_0 : decode cX5_routers 0 = .ok (.iconst 0, 1) := by decide +kernel
theorem dX5_routers_1 : decode cX5_routers 1 = .ok (.istore_n 1, 1) := by decide +kernel
theorem dX5_routers_2 : decode cX5_routers 2 = .ok (.iconst 0, 1) := by decide +kernel
theorem dX5_routers_3 : decode cX5_routers 3 = .ok (.istore_n 2, 1) := by decide +kernel
theorem dX5_routers_4 : decode cX5_routers 4 = .ok (.iload_n 2, 1) := by decide +kernel
theorem dX5_routers_5 : decode cX5_routers 5 = .ok (.bipush 16, 2) := by decide +kernel
theorem dX5_routers_7 : decode cX5_routers 7 = .ok (.if_icmp .ge 26, 3) := by decide +kernel
theorem dX5_routers_10 : decode cX5_routers 10 = .ok (.iload_n 1, 1) := by decide +kernel
theorem dX5_routers_11 : decode cX5_routers 11 = .ok (.aload_n 0, 1) := by decide +kernel
theorem dX5_routers_12 : decode cX5_routers 12 = .ok (.getfield 35, 3) := by decide +kernel
theorem dX5_routers_15 : decode cX5_routers 15 = .ok (.iload_n 2, 1) := by decide +kernel
theorem dX5_routers_16 : decode cX5_routers 16 = .ok (.baload, 1) := by decide +kernel
theorem dX5_routers_17 : decode cX5_routers 17 = .ok (.ifCond .eq 7, 3) := by decide +kernel
theorem dX5_routers_20 : decode cX5_routers 20 = .ok (.iconst 1, 1) := by decide +kernel
theorem dX5_routers_21 : decode cX5_routers 21 = .ok (.goto 4, 3) := by decide +kernel
theorem dX5_routers_24 : decode cX5_routers 24 = .ok (.iconst 0, 1) := by decide +kernel
theorem dX5_routers_25 : decode cX5_routers 25 = .ok (.iadd, 1) := by decide +kernel
theorem dX5_routers_26 : decode cX5_routers 26 = .ok (.istore_n 1, 1) := by decide +kernel
theorem dX5_routers_27 : decode cX5_routers 27 = .ok (.iinc 2 1, 3) := by decide +kernel
theorem dX5_routers_30 : decode cX5_routers 30 = .ok (.goto (-26), 3) := by decide +kernel
theorem dX5_routers_33 : decode cX5_routers 33 = .ok (.iload_n 1, 1) := by decide +kernel
theorem dX5_routers_34 : decode cX5_routers 34 = .ok (.ireturn, 1) := by decide +kernel
set_option maxRecDepth 20000 in
theorem ggX5_isAhead_X5_isGood : GoodIn wsX5_isAhead wsX5_isGood := goodIn_r _ [6, 7, 8, 9, 10, 11, 12, 13, 14, 15, 16, 17, 18, 19, 20, 21, 22, 23, 24, 25, 26, 27, 28, 29, 30, 31, 32, 33, 34, 35, 36] (by decide +kernel) (by decide +kernel)
set_option maxRecDepth 20000 in
theorem gX5_isAhead_X5_isGood : GoodIn wsX5_isAhead (wsV RX5 126 RX5 yX5_isGood wsX5_isGood) := goodIn_app (goodIn_of _ (by decide +kernel)) ggX5_isAhead_X5_isGood
theorem dX5_isAhead_0 : decode cX5_isAhead 0 = .ok (.aload_n 0, 1) := by decide +kernel
theorem dX5_isAhead_1 : decode cX5_isAhead 1 = .ok (.iload_n 1, 1) := by decide +kernel
theorem dX5_isAhead_2 : decode cX5_isAhead 2 = .ok (.invokevirtual 126, 3) := by decide +kernel
theorem dX5_isAhead_5 : decode cX5_isAhead 5 = .ok (.aload_n 0, 1) := by decide +kernel
theorem dX5_isAhead_6 : decode cX5_isAhead 6 = .ok (.iload_n 2, 1) := by decide +kernel
theorem dX5_isAhead_7 : decode cX5_isAhead 7 = .ok (.invokevirtual 126, 3) := by decide +kernel
theorem dX5_isAhead_10 : decode cX5_isAhead 10 = .ok (.if_icmp .eq 9, 3) := by decide +kernel
theorem dX5_isAhead_13 : decode cX5_isAhead 13 = .ok (.aload_n 0, 1) := by decide +kernel
theorem dX5_isAhead_14 : decode cX5_isAhead 14 = .ok (.iload_n 1, 1) := by decide +kernel
theorem dX5_isAhead_15 : decode cX5_isAhead 15 = .ok (.invokevirtual 126, 3) := by decide +kernel
theorem dX5_isAhead_18 : decode cX5_isAhead 18 = .ok (.ireturn, 1) := by decide +kernel
theorem dX5_isAhead_19 : decode cX5_isAhead 19 = .ok (.aload_n 0, 1) := by decide +kernel
theorem dX5_isAhead_20 : decode cX5_isAhead 20 = .ok (.getfield 38, 3) := by decide +kernel
theorem dX5_isAhead_23 : decode cX5_isAhead 23 = .ok (.iload_n 1, 1) := by decide +kernel
theorem dX5_isAhead_24 : decode cX5_isAhead 24 = .ok (.iaload, 1) := by decide +kernel
theorem dX5_isAhead_25 : decode cX5_isAhead 25 = .ok (.aload_n 0, 1) := by decide +kernel
theorem dX5_isAhead_26 : decode cX5_isAhead 26 = .ok (.getfield 38, 3) := by decide +kernel
theorem dX5_isAhead_29 : decode cX5_isAhead 29 = .ok (.iload_n 2, 1) := by decide +kernel
theorem dX5_isAhead_30 : decode cX5_isAhead 30 = .ok (.iaload, 1) := by decide +kernel
theorem dX5_isAhead_31 : decode cX5_isAhead 31 = .ok (.if_icmp .gt 23, 3) := by decide +kernel
theorem dX5_isAhead_34 : decode cX5_isAhead 34 = .ok (.aload_n 0, 1) := by decide +kernel
theorem dX5_isAhead_35 : decode cX5_isAhead 35 = .ok (.getfield 38, 3) := by decide +kernel
theorem dX5_isAhead_38 : decode cX5_isAhead 38 = .ok (.iload_n 1, 1) := by decide +kernel
theorem dX5_isAhead_39 : decode cX5_isAhead 39 = .ok (.iaload, 1) := by decide +kernel
theorem dX5_isAhead_40 : decode cX5_isAhead 40 = .ok (.aload_n 0, 1) := by decide +kernel
theorem dX5_isAhead_41 : decode cX5_isAhead 41 = .ok (.getfield 38, 3) := by decide +kernel
theorem dX5_isAhead_44 : decode cX5_isAhead 44 = .ok (.iload_n 2, 1) := by decide +kernel
theorem dX5_isAhead_45 : decode cX5_isAhead 45 = .ok (.iaload, 1) := by decide +kernel
theorem dX5_isAhead_46 : decode cX5_isAhead 46 = .ok (.if_icmp .ne 12, 3) := by decide +kernel
theorem dX5_isAhead_49 : decode cX5_isAhead 49 = .ok (.iload_n 1, 1) := by decide +kernel
theorem dX5_isAhead_50 : decode cX5_isAhead 50 = .ok (.iload_n 2, 1) := by decide +kernel
theorem dX5_isAhead_51 : decode cX5_isAhead 51 = .ok (.if_icmp .ge 7, 3) := by decide +kernel
theorem dX5_isAhead_54 : decode cX5_isAhead 54 = .ok (.iconst 1, 1) := by decide +kernel
theorem dX5_isAhead_55 : decode cX5_isAhead 55 = .ok (.goto 4, 3) := by decide +kernel
theorem dX5_isAhead_58 : decode cX5_isAhead 58 = .ok (.iconst 0, 1) := by decide +kernel
theorem dX5_isAhead_59 : decode cX5_isAhead 59 = .ok (.ireturn, 1) := by decide +kernel
set_option maxRecDepth 20000 in
theorem ggX5_placeOf_X5_isAhead : GoodIn wsX5_placeOf wsX5_isAhead := goodIn_r _ [6, 7, 8, 9, 10, 5, 11, 12, 13, 14, 15, 16, 17, 18, 19, 20, 21, 22, 23, 24, 25, 26, 27, 28, 29, 30, 31, 32, 33, 34, 35, 36, 37, 38, 39, 40, 41] (by decide +kernel) (by decide +kernel)
set_option maxRecDepth 20000 in
theorem gX5_placeOf_X5_isAhead : GoodIn wsX5_placeOf (wsV RX5 130 RX5 yX5_isAhead wsX5_isAhead) := goodIn_app (goodIn_of _ (by decide +kernel)) ggX5_placeOf_X5_isAhead
theorem dX5_placeOf_0 : decode cX5_placeOf 0 = .ok (.iconst 0, 1) := by decide +kernel
theorem dX5_placeOf_1 : decode cX5_placeOf 1 = .ok (.istore_n 2, 1) := by decide +kernel
theorem dX5_placeOf_2 : decode cX5_placeOf 2 = .ok (.iconst 0, 1) := by decide +kernel
theorem dX5_placeOf_3 : decode cX5_placeOf 3 = .ok (.istore_n 3, 1) := by decide +kernel
theorem dX5_placeOf_4 : decode cX5_placeOf 4 = .ok (.iload_n 3, 1) := by decide +kernel
theorem dX5_placeOf_5 : decode cX5_placeOf 5 = .ok (.bipush 16, 2) := by decide +kernel
theorem dX5_placeOf_7 : decode cX5_placeOf 7 = .ok (.if_icmp .ge 40, 3) := by decide +kernel
theorem dX5_placeOf_10 : decode cX5_placeOf 10 = .ok (.iload_n 2, 1) := by decide +kernel
theorem dX5_placeOf_11 : decode cX5_placeOf 11 = .ok (.aload_n 0, 1) := by decide +kernel
theorem dX5_placeOf_12 : decode cX5_placeOf 12 = .ok (.getfield 35, 3) := by decide +kernel
theorem dX5_placeOf_15 : decode cX5_placeOf 15 = .ok (.iload_n 3, 1) := by decide +kernel
theorem dX5_placeOf_16 : decode cX5_placeOf 16 = .ok (.baload, 1) := by decide +kernel
theorem dX5_placeOf_17 : decode cX5_placeOf 17 = .ok (.ifCond .eq 21, 3) := by decide +kernel
theorem dX5_placeOf_20 : decode cX5_placeOf 20 = .ok (.iload_n 3, 1) := by decide +kernel
theorem dX5_placeOf_21 : decode cX5_placeOf 21 = .ok (.iload_n 1, 1) := by decide +kernel
theorem dX5_placeOf_22 : decode cX5_placeOf 22 = .ok (.if_icmp .eq 16, 3) := by decide +kernel
theorem dX5_placeOf_25 : decode cX5_placeOf 25 = .ok (.aload_n 0, 1) := by decide +kernel
theorem dX5_placeOf_26 : decode cX5_placeOf 26 = .ok (.iload_n 3, 1) := by decide +kernel
theorem dX5_placeOf_27 : decode cX5_placeOf 27 = .ok (.iload_n 1, 1) := by decide +kernel
theorem dX5_placeOf_28 : decode cX5_placeOf 28 = .ok (.invokevirtual 130, 3) := by decide +kernel
theorem dX5_placeOf_31 : decode cX5_placeOf 31 = .ok (.ifCond .eq 7, 3) := by decide +kernel
theorem dX5_placeOf_34 : decode cX5_placeOf 34 = .ok (.iconst 1, 1) := by decide +kernel
theorem dX5_placeOf_35 : decode cX5_placeOf 35 = .ok (.goto 4, 3) := by decide +kernel
theorem dX5_placeOf_38 : decode cX5_placeOf 38 = .ok (.iconst 0, 1) := by decide +kernel
theorem dX5_placeOf_39 : decode cX5_placeOf 39 = .ok (.iadd, 1) := by decide +kernel
theorem dX5_placeOf_40 : decode cX5_placeOf 40 = .ok (.istore_n 2, 1) := by decide +kernel
theorem dX5_placeOf_41 : decode cX5_placeOf 41 = .ok (.iinc 3 1, 3) := by decide +kernel
theorem dX5_placeOf_44 : decode cX5_placeOf 44 = .ok (.goto (-40), 3) := by decide +kernel
theorem dX5_placeOf_47 : decode cX5_placeOf 47 = .ok (.iload_n 2, 1) := by decide +kernel
theorem dX5_placeOf_48 : decode cX5_placeOf 48 = .ok (.ireturn, 1) := by decide +kernel
set_option maxRecDepth 20000 in
theorem ggX5_routerAt_X5_placeOf : GoodIn wsX5_routerAt wsX5_placeOf := goodIn_r _ [6, 1, 7, 8, 9, 5, 10, 11, 12, 13, 14, 15, 16, 17, 18, 19, 20, 21, 22, 23, 24, 25, 26, 27, 28, 29, 30, 31, 32, 33, 34, 35, 36, 37, 38, 39, 40, 41, 42, 43, 44, 45] (by decide +kernel) (by decide +kernel)
set_option maxRecDepth 20000 in
theorem gX5_routerAt_X5_placeOf : GoodIn wsX5_routerAt (wsV RX5 133 RX5 yX5_placeOf wsX5_placeOf) := goodIn_app (goodIn_of _ (by decide +kernel)) ggX5_routerAt_X5_placeOf
theorem dX5_routerAt_0 : decode cX5_routerAt 0 = .ok (.iconst 0, 1) := by decide +kernel
theorem dX5_routerAt_1 : decode cX5_routerAt 1 = .ok (.istore_n 2, 1) := by decide +kernel
theorem dX5_routerAt_2 : decode cX5_routerAt 2 = .ok (.aload_n 0, 1) := by decide +kernel
theorem dX5_routerAt_3 : decode cX5_routerAt 3 = .ok (.getfield 35, 3) := by decide +kernel
theorem dX5_routerAt_6 : decode cX5_routerAt 6 = .ok (.iload_n 2, 1) := by decide +kernel
theorem dX5_routerAt_7 : decode cX5_routerAt 7 = .ok (.baload, 1) := by decide +kernel
theorem dX5_routerAt_8 : decode cX5_routerAt 8 = .ok (.ifCond .eq 12, 3) := by decide +kernel
theorem dX5_routerAt_11 : decode cX5_routerAt 11 = .ok (.aload_n 0, 1) := by decide +kernel
theorem dX5_routerAt_12 : decode cX5_routerAt 12 = .ok (.iload_n 2, 1) := by decide +kernel
theorem dX5_routerAt_13 : decode cX5_routerAt 13 = .ok (.invokevirtual 133, 3) := by decide +kernel
theorem dX5_routerAt_16 : decode cX5_routerAt 16 = .ok (.iload_n 1, 1) := by decide +kernel
theorem dX5_routerAt_17 : decode cX5_routerAt 17 = .ok (.if_icmp .eq 9, 3) := by decide +kernel
theorem dX5_routerAt_20 : decode cX5_routerAt 20 = .ok (.iinc 2 1, 3) := by decide +kernel
theorem dX5_routerAt_23 : decode cX5_routerAt 23 = .ok (.goto (-21), 3) := by decide +kernel
theorem dX5_routerAt_26 : decode cX5_routerAt 26 = .ok (.iload_n 2, 1) := by decide +kernel
theorem dX5_routerAt_27 : decode cX5_routerAt 27 = .ok (.ireturn, 1) := by decide +kernel
theorem dX5_inTurn_0 : decode cX5_inTurn 0 = .ok (.iconst (-1), 1) := by decide +kernel
theorem dX5_inTurn_1 : decode cX5_inTurn 1 = .ok (.istore_n 1, 1) := by decide +kernel
theorem dX5_inTurn_2 : decode cX5_inTurn 2 = .ok (.iconst (-1), 1) := by decide +kernel
theorem dX5_inTurn_3 : decode cX5_inTurn 3 = .ok (.istore_n 2, 1) := by decide +kernel
theorem dX5_inTurn_4 : decode cX5_inTurn 4 = .ok (.bipush 15, 2) := by decide +kernel
theorem dX5_inTurn_6 : decode cX5_inTurn 6 = .ok (.istore_n 3, 1) := by decide +kernel
theorem dX5_inTurn_7 : decode cX5_inTurn 7 = .ok (.iload_n 3, 1) := by decide +kernel
theorem dX5_inTurn_8 : decode cX5_inTurn 8 = .ok (.ifCond .lt 55, 3) := by decide +kernel
theorem dX5_inTurn_11 : decode cX5_inTurn 11 = .ok (.aload_n 0, 1) := by decide +kernel
theorem dX5_inTurn_12 : decode cX5_inTurn 12 = .ok (.getfield 35, 3) := by decide +kernel
theorem dX5_inTurn_15 : decode cX5_inTurn 15 = .ok (.iload_n 3, 1) := by decide +kernel
theorem dX5_inTurn_16 : decode cX5_inTurn 16 = .ok (.baload, 1) := by decide +kernel
theorem dX5_inTurn_17 : decode cX5_inTurn 17 = .ok (.ifCond .eq 7, 3) := by decide +kernel
theorem dX5_inTurn_20 : decode cX5_inTurn 20 = .ok (.iload_n 3, 1) := by decide +kernel
theorem dX5_inTurn_21 : decode cX5_inTurn 21 = .ok (.goto 4, 3) := by decide +kernel
theorem dX5_inTurn_24 : decode cX5_inTurn 24 = .ok (.iload_n 1, 1) := by decide +kernel
theorem dX5_inTurn_25 : decode cX5_inTurn 25 = .ok (.istore_n 1, 1) := by decide +kernel
theorem dX5_inTurn_26 : decode cX5_inTurn 26 = .ok (.aload_n 0, 1) := by decide +kernel
theorem dX5_inTurn_27 : decode cX5_inTurn 27 = .ok (.getfield 35, 3) := by decide +kernel
theorem dX5_inTurn_30 : decode cX5_inTurn 30 = .ok (.iload_n 3, 1) := by decide +kernel
theorem dX5_inTurn_31 : decode cX5_inTurn 31 = .ok (.baload, 1) := by decide +kernel
theorem dX5_inTurn_32 : decode cX5_inTurn 32 = .ok (.ifCond .eq 23, 3) := by decide +kernel
theorem dX5_inTurn_35 : decode cX5_inTurn 35 = .ok (.aload_n 0, 1) := by decide +kernel
theorem dX5_inTurn_36 : decode cX5_inTurn 36 = .ok (.getfield 44, 3) := by decide +kernel
theorem dX5_inTurn_39 : decode cX5_inTurn 39 = .ok (.iconst (-1), 1) := by decide +kernel
theorem dX5_inTurn_40 : decode cX5_inTurn 40 = .ok (.if_icmp .eq 15, 3) := by decide +kernel
theorem dX5_inTurn_43 : decode cX5_inTurn 43 = .ok (.iload_n 3, 1) := by decide +kernel
theorem dX5_inTurn_44 : decode cX5_inTurn 44 = .ok (.aload_n 0, 1) := by decide +kernel
theorem dX5_inTurn_45 : decode cX5_inTurn 45 = .ok (.getfield 44, 3) := by decide +kernel
theorem dX5_inTurn_48 : decode cX5_inTurn 48 = .ok (.if_icmp .le 7, 3) := by decide +kernel
theorem dX5_inTurn_51 : decode cX5_inTurn 51 = .ok (.iload_n 3, 1) := by decide +kernel
theorem dX5_inTurn_52 : decode cX5_inTurn 52 = .ok (.goto 4, 3) := by decide +kernel
theorem dX5_inTurn_55 : decode cX5_inTurn 55 = .ok (.iload_n 2, 1) := by decide +kernel
theorem dX5_inTurn_56 : decode cX5_inTurn 56 = .ok (.istore_n 2, 1) := by decide +kernel
theorem dX5_inTurn_57 : decode cX5_inTurn 57 = .ok (.iinc 3 (-1), 3) := by decide +kernel
theorem dX5_inTurn_60 : decode cX5_inTurn 60 = .ok (.goto (-53), 3) := by decide +kernel
theorem dX5_inTurn_63 : decode cX5_inTurn 63 = .ok (.iload_n 2, 1) := by decide +kernel
theorem dX5_inTurn_64 : decode cX5_inTurn 64 = .ok (.iconst (-1), 1) := by decide +kernel
theorem dX5_inTurn_65 : decode cX5_inTurn 65 = .ok (.if_icmp .ne 7, 3) := by decide +kernel
theorem dX5_inTurn_68 : decode cX5_inTurn 68 = .ok (.iload_n 1, 1) := by decide +kernel
theorem dX5_inTurn_69 : decode cX5_inTurn 69 = .ok (.goto 4, 3) := by decide +kernel
theorem dX5_inTurn_72 : decode cX5_inTurn 72 = .ok (.iload_n 2, 1) := by decide +kernel
theorem dX5_inTurn_73 : decode cX5_inTurn 73 = .ok (.ireturn, 1) := by decide +kernel
theorem dX5_keptFor_0 : decode cX5_keptFor 0 = .ok (.iconst 0, 1) := by decide +kernel
theorem dX5_keptFor_1 : decode cX5_keptFor 1 = .ok (.istore_n 2, 1) := by decide +kernel
theorem dX5_keptFor_2 : decode cX5_keptFor 2 = .ok (.iload_n 2, 1) := by decide +kernel
theorem dX5_keptFor_3 : decode cX5_keptFor 3 = .ok (.aload_n 0, 1) := by decide +kernel
theorem dX5_keptFor_4 : decode cX5_keptFor 4 = .ok (.getfield 83, 3) := by decide +kernel
theorem dX5_keptFor_7 : decode cX5_keptFor 7 = .ok (.if_icmp .ge 19, 3) := by decide +kernel
theorem dX5_keptFor_10 : decode cX5_keptFor 10 = .ok (.aload_n 0, 1) := by decide +kernel
theorem dX5_keptFor_11 : decode cX5_keptFor 11 = .ok (.getfield 48, 3) := by decide +kernel
theorem dX5_keptFor_14 : decode cX5_keptFor 14 = .ok (.iload_n 2, 1) := by decide +kernel
theorem dX5_keptFor_15 : decode cX5_keptFor 15 = .ok (.iaload, 1) := by decide +kernel
theorem dX5_keptFor_16 : decode cX5_keptFor 16 = .ok (.iload_n 1, 1) := by decide +kernel
theorem dX5_keptFor_17 : decode cX5_keptFor 17 = .ok (.if_icmp .eq 9, 3) := by decide +kernel
theorem dX5_keptFor_20 : decode cX5_keptFor 20 = .ok (.iinc 2 1, 3) := by decide +kernel
theorem dX5_keptFor_23 : decode cX5_keptFor 23 = .ok (.goto (-21), 3) := by decide +kernel
theorem dX5_keptFor_26 : decode cX5_keptFor 26 = .ok (.iload_n 2, 1) := by decide +kernel
theorem dX5_keptFor_27 : decode cX5_keptFor 27 = .ok (.ireturn, 1) := by decide +kernel
set_option maxRecDepth 20000 in
theorem ggX5_isByTurn_X5_keptFor : GoodIn wsX5_isByTurn wsX5_keptFor := goodIn_r _ [6, 1, 7, 32, 33, 34, 35, 36, 37, 38, 39, 40, 41, 42, 43, 44, 45, 46, 47, 48, 49, 50, 51, 52, 53, 54, 55, 56, 57, 58, 59] (by decide +kernel) (by decide +kernel)
set_option maxRecDepth 20000 in
theorem gX5_isByTurn_X5_keptFor : GoodIn wsX5_isByTurn (wsV RX5 136 RX5 yX5_keptFor wsX5_keptFor) := goodIn_app (goodIn_of _ (by decide +kernel)) ggX5_isByTurn_X5_keptFor
set_option maxRecDepth 20000 in
theorem ggX5_isByTurn_X5_routers : GoodIn wsX5_isByTurn wsX5_routers := goodIn_r _ [11, 12, 32, 33, 34, 35, 36, 37, 38, 39, 40, 41, 42, 43, 44, 45, 46, 47, 48, 49, 50, 51, 52, 53, 54, 55, 56, 57, 58, 59] (by decide +kernel) (by decide +kernel)
set_option maxRecDepth 20000 in
theorem gX5_isByTurn_X5_routers : GoodIn wsX5_isByTurn (wsV RX5 139 RX5 yX5_routers wsX5_routers) := goodIn_app (goodIn_of _ (by decide +kernel)) ggX5_isByTurn_X5_routers
set_option maxRecDepth 20000 in
theorem ggX5_isByTurn_X5_routerAt : GoodIn wsX5_isByTurn wsX5_routerAt := goodIn_r _ [16, 12, 17, 18, 19, 5, 20, 21, 22, 23, 24, 25, 26, 27, 28, 29, 30, 31, 32, 33, 34, 35, 36, 37, 38, 39, 40, 41, 42, 43, 44, 45, 46, 47, 48, 49, 50, 51, 52, 53, 54, 55, 56, 57, 58, 59] (by decide +kernel) (by decide +kernel)
set_option maxRecDepth 20000 in
theorem gX5_isByTurn_X5_routerAt : GoodIn wsX5_isByTurn (wsV RX5 142 RX5 yX5_routerAt wsX5_routerAt) := goodIn_app (goodIn_of _ (by decide +kernel)) ggX5_isByTurn_X5_routerAt
set_option maxRecDepth 20000 in
theorem ggX5_isByTurn_X5_isGood : GoodIn wsX5_isByTurn wsX5_isGood := goodIn_r _ [29, 30, 31, 32, 33, 34, 35, 36, 37, 38, 39, 40, 41, 42, 43, 44, 45, 46, 47, 48, 49, 50, 51, 52, 53, 54, 55, 56, 57, 58, 59] (by decide +kernel) (by decide +kernel)
set_option maxRecDepth 20000 in
theorem gX5_isByTurn_X5_isGood : GoodIn wsX5_isByTurn (wsV RX5 126 RX5 yX5_isGood wsX5_isGood) := goodIn_app (goodIn_of _ (by decide +kernel)) ggX5_isByTurn_X5_isGood
theorem dX5_isByTurn_0 : decode cX5_isByTurn 0 = .ok (.aload_n 0, 1) := by decide +kernel
theorem dX5_isByTurn_1 : decode cX5_isByTurn 1 = .ok (.iload_n 1, 1) := by decide +kernel
theorem dX5_isByTurn_2 : decode cX5_isByTurn 2 = .ok (.invokevirtual 136, 3) := by decide +kernel
theorem dX5_isByTurn_5 : decode cX5_isByTurn 5 = .ok (.aload_n 0, 1) := by decide +kernel
theorem dX5_isByTurn_6 : decode cX5_isByTurn 6 = .ok (.getfield 83, 3) := by decide +kernel
theorem dX5_isByTurn_9 : decode cX5_isByTurn 9 = .ok (.if_icmp .ne 26, 3) := by decide +kernel
theorem dX5_isByTurn_12 : decode cX5_isByTurn 12 = .ok (.aload_n 0, 1) := by decide +kernel
theorem dX5_isByTurn_13 : decode cX5_isByTurn 13 = .ok (.invokevirtual 139, 3) := by decide +kernel
theorem dX5_isByTurn_16 : decode cX5_isByTurn 16 = .ok (.ifCond .le 19, 3) := by decide +kernel
theorem dX5_isByTurn_19 : decode cX5_isByTurn 19 = .ok (.aload_n 0, 1) := by decide +kernel
theorem dX5_isByTurn_20 : decode cX5_isByTurn 20 = .ok (.aload_n 0, 1) := by decide +kernel
theorem dX5_isByTurn_21 : decode cX5_isByTurn 21 = .ok (.iconst 0, 1) := by decide +kernel
theorem dX5_isByTurn_22 : decode cX5_isByTurn 22 = .ok (.invokevirtual 142, 3) := by decide +kernel
theorem dX5_isByTurn_25 : decode cX5_isByTurn 25 = .ok (.invokevirtual 126, 3) := by decide +kernel
theorem dX5_isByTurn_28 : decode cX5_isByTurn 28 = .ok (.ifCond .ne 7, 3) := by decide +kernel
theorem dX5_isByTurn_31 : decode cX5_isByTurn 31 = .ok (.iconst 1, 1) := by decide +kernel
theorem dX5_isByTurn_32 : decode cX5_isByTurn 32 = .ok (.goto 4, 3) := by decide +kernel
theorem dX5_isByTurn_35 : decode cX5_isByTurn 35 = .ok (.iconst 0, 1) := by decide +kernel
theorem dX5_isByTurn_36 : decode cX5_isByTurn 36 = .ok (.ireturn, 1) := by decide +kernel
set_option maxRecDepth 20000 in
theorem ggX5_hopNow_X5_keptFor : GoodIn wsX5_hopNow wsX5_keptFor := goodIn_r _ [7, 1, 8, 42, 43, 44, 45, 46, 47, 48, 49, 50, 51, 52, 53, 54, 55, 56, 57, 58, 59, 60, 61, 62, 63, 64, 65, 66, 67, 68, 69] (by decide +kernel) (by decide +kernel)
set_option maxRecDepth 20000 in
theorem gX5_hopNow_X5_keptFor : GoodIn wsX5_hopNow (wsV RX5 136 RX5 yX5_keptFor wsX5_keptFor) := goodIn_app (goodIn_of _ (by decide +kernel)) ggX5_hopNow_X5_keptFor
set_option maxRecDepth 20000 in
theorem ggX5_hopNow_X5_routers : GoodIn wsX5_hopNow wsX5_routers := goodIn_r _ [12, 13, 42, 43, 44, 45, 46, 47, 48, 49, 50, 51, 52, 53, 54, 55, 56, 57, 58, 59, 60, 61, 62, 63, 64, 65, 66, 67, 68, 69] (by decide +kernel) (by decide +kernel)
set_option maxRecDepth 20000 in
theorem gX5_hopNow_X5_routers : GoodIn wsX5_hopNow (wsV RX5 139 RX5 yX5_routers wsX5_routers) := goodIn_app (goodIn_of _ (by decide +kernel)) ggX5_hopNow_X5_routers
set_option maxRecDepth 20000 in
theorem ggX5_hopNow_X5_isByTurn : GoodIn wsX5_hopNow wsX5_isByTurn := goodIn_r _ [17, 1, 3, 4, 5, 6, 7, 8, 9, 10, 11, 12, 13, 18, 19, 20, 21, 22, 23, 24, 25, 26, 27, 28, 29, 30, 31, 32, 33, 34, 35, 36, 42, 43, 44, 45, 46, 47, 48, 49, 50, 51, 52, 53, 54, 55, 56, 57, 58, 59, 60, 61, 62, 63, 64, 65, 66, 67, 68, 69] (by decide +kernel) (by decide +kernel)
set_option maxRecDepth 20000 in
theorem gX5_hopNow_X5_isByTurn : GoodIn wsX5_hopNow (wsV RX5 145 RX5 yX5_isByTurn wsX5_isByTurn) := goodIn_app (goodIn_of _ (by decide +kernel)) ggX5_hopNow_X5_isByTurn
set_option maxRecDepth 20000 in
theorem ggX5_hopNow_X5_inTurn : GoodIn wsX5_hopNow wsX5_inTurn := goodIn_r _ [40, 13, 41, 42, 43, 44, 45, 46, 47, 48, 49, 50, 51, 52, 53, 54, 55, 56, 57, 58, 59, 60, 61, 62, 63, 64, 65, 66, 67, 68, 69] (by decide +kernel) (by decide +kernel)
set_option maxRecDepth 20000 in
theorem gX5_hopNow_X5_inTurn : GoodIn wsX5_hopNow (wsV RX5 148 RX5 yX5_inTurn wsX5_inTurn) := goodIn_app (goodIn_of _ (by decide +kernel)) ggX5_hopNow_X5_inTurn
set_option maxRecDepth 20000 in
theorem ggX5_hopNow_X5_routerAt : GoodIn wsX5_hopNow wsX5_routerAt := goodIn_r _ [21, 13, 22, 23, 24, 6, 25, 26, 27, 28, 29, 30, 31, 32, 33, 34, 35, 36, 42, 43, 44, 45, 46, 47, 48, 49, 50, 51, 52, 53, 54, 55, 56, 57, 58, 59, 60, 61, 62, 63, 64, 65, 66, 67, 68, 69] (by decide +kernel) (by decide +kernel)
set_option maxRecDepth 20000 in
theorem gX5_hopNow_X5_routerAt : GoodIn wsX5_hopNow (wsV RX5 142 RX5 yX5_routerAt wsX5_routerAt) := goodIn_app (goodIn_of _ (by decide +kernel)) ggX5_hopNow_X5_routerAt
theorem dX5_hopNow_0 : decode cX5_hopNow 0 = .ok (.aload_n 0, 1) := by decide +kernel
theorem dX5_hopNow_1 : decode cX5_hopNow 1 = .ok (.iload_n 1, 1) := by decide +kernel
theorem dX5_hopNow_2 : decode cX5_hopNow 2 = .ok (.invokevirtual 136, 3) := by decide +kernel
theorem dX5_hopNow_5 : decode cX5_hopNow 5 = .ok (.istore_n 2, 1) := by decide +kernel
theorem dX5_hopNow_6 : decode cX5_hopNow 6 = .ok (.iload_n 2, 1) := by decide +kernel
theorem dX5_hopNow_7 : decode cX5_hopNow 7 = .ok (.aload_n 0, 1) := by decide +kernel
theorem dX5_hopNow_8 : decode cX5_hopNow 8 = .ok (.getfield 83, 3) := by decide +kernel
theorem dX5_hopNow_11 : decode cX5_hopNow 11 = .ok (.if_icmp .ge 10, 3) := by decide +kernel
theorem dX5_hopNow_14 : decode cX5_hopNow 14 = .ok (.aload_n 0, 1) := by decide +kernel
theorem dX5_hopNow_15 : decode cX5_hopNow 15 = .ok (.getfield 51, 3) := by decide +kernel
theorem dX5_hopNow_18 : decode cX5_hopNow 18 = .ok (.iload_n 2, 1) := by decide +kernel
theorem dX5_hopNow_19 : decode cX5_hopNow 19 = .ok (.iaload, 1) := by decide +kernel
theorem dX5_hopNow_20 : decode cX5_hopNow 20 = .ok (.ireturn, 1) := by decide +kernel
theorem dX5_hopNow_21 : decode cX5_hopNow 21 = .ok (.aload_n 0, 1) := by decide +kernel
theorem dX5_hopNow_22 : decode cX5_hopNow 22 = .ok (.invokevirtual 139, 3) := by decide +kernel
theorem dX5_hopNow_25 : decode cX5_hopNow 25 = .ok (.ifCond .ne 5, 3) := by decide +kernel
theorem dX5_hopNow_28 : decode cX5_hopNow 28 = .ok (.iconst (-1), 1) := by decide +kernel
theorem dX5_hopNow_29 : decode cX5_hopNow 29 = .ok (.ireturn, 1) := by decide +kernel
theorem dX5_hopNow_30 : decode cX5_hopNow 30 = .ok (.aload_n 0, 1) := by decide +kernel
theorem dX5_hopNow_31 : decode cX5_hopNow 31 = .ok (.iload_n 1, 1) := by decide +kernel
theorem dX5_hopNow_32 : decode cX5_hopNow 32 = .ok (.invokevirtual 145, 3) := by decide +kernel
theorem dX5_hopNow_35 : decode cX5_hopNow 35 = .ok (.ifCond .eq 10, 3) := by decide +kernel
theorem dX5_hopNow_38 : decode cX5_hopNow 38 = .ok (.aload_n 0, 1) := by decide +kernel
theorem dX5_hopNow_39 : decode cX5_hopNow 39 = .ok (.invokevirtual 148, 3) := by decide +kernel
theorem dX5_hopNow_42 : decode cX5_hopNow 42 = .ok (.goto 8, 3) := by decide +kernel
theorem dX5_hopNow_45 : decode cX5_hopNow 45 = .ok (.aload_n 0, 1) := by decide +kernel
theorem dX5_hopNow_46 : decode cX5_hopNow 46 = .ok (.iconst 0, 1) := by decide +kernel
theorem dX5_hopNow_47 : decode cX5_hopNow 47 = .ok (.invokevirtual 142, 3) := by decide +kernel
theorem dX5_hopNow_50 : decode cX5_hopNow 50 = .ok (.ireturn, 1) := by decide +kernel
set_option maxRecDepth 20000 in
theorem ggX5_passEntry_X5_become : GoodIn wsX5_passEntry wsX5_become := goodIn_r _ [7, 1, 8, 9, 10, 38, 39, 40, 41, 42, 43, 44, 45, 46, 47, 48, 49, 50, 51, 52, 53, 54, 55, 56, 57, 58, 59, 60, 61, 62, 63, 64, 65] (by decide +kernel) (by decide +kernel)
set_option maxRecDepth 20000 in
theorem gX5_passEntry_X5_become : GoodIn wsX5_passEntry (wsV RX5 111 RX5 yX5_become wsX5_become) := goodIn_app (goodIn_of _ (by decide +kernel)) ggX5_passEntry_X5_become
set_option maxRecDepth 20000 in
theorem ggX5_passEntry_X5_goOut : GoodIn wsX5_passEntry wsX5_goOut := goodIn_r _ [14, 15, 16, 9, 17, 18, 38, 39, 40, 41, 42, 43, 44, 45, 46, 47, 48, 49, 50, 51, 52, 53, 54, 55, 56, 57, 58, 59, 60, 61, 62, 63, 64, 65] (by decide +kernel) (by decide +kernel)
set_option maxRecDepth 20000 in
theorem gX5_passEntry_X5_goOut : GoodIn wsX5_passEntry (wsV RX5 63 RX5 yX5_goOut wsX5_goOut) := goodIn_app (goodIn_of _ (by decide +kernel)) ggX5_passEntry_X5_goOut
set_option maxRecDepth 20000 in
theorem ggX5_passEntry_X5_tryOn : GoodIn wsX5_passEntry wsX5_tryOn := goodIn_r _ [22, 10, 1, 2, 8, 9, 23, 24, 25, 6, 26, 27, 28, 29, 30, 31, 32, 33, 34, 35, 36, 37, 11, 12, 13, 14, 15, 16, 17, 18, 38, 39, 40, 41, 42, 43, 44, 45, 46, 47, 48, 49, 50, 51, 52, 53, 54, 55, 56, 57, 58, 59, 60, 61, 62, 63, 64, 65] (by decide +kernel) (by decide +kernel)
set_option maxRecDepth 20000 in
theorem gX5_passEntry_X5_tryOn : GoodIn wsX5_passEntry (wsV RX5 151 RX5 yX5_tryOn wsX5_tryOn) := goodIn_app (goodIn_of _ (by decide +kernel)) ggX5_passEntry_X5_tryOn
theorem dX5_passEntry_0 : decode cX5_passEntry 0 = .ok (.aload_n 0, 1) := by decide +kernel
theorem dX5_passEntry_1 : decode cX5_passEntry 1 = .ok (.getfield 13, 3) := by decide +kernel
theorem dX5_passEntry_4 : decode cX5_passEntry 4 = .ok (.iload_n 1, 1) := by decide +kernel
theorem dX5_passEntry_5 : decode cX5_passEntry 5 = .ok (.iaload, 1) := by decide +kernel
theorem dX5_passEntry_6 : decode cX5_passEntry 6 = .ok (.lookupswitch 59 #[(1, 26), (3, 36)], 26) := by decide +kernel
theorem dX5_passEntry_32 : decode cX5_passEntry 32 = .ok (.aload_n 0, 1) := by decide +kernel
theorem dX5_passEntry_33 : decode cX5_passEntry 33 = .ok (.iload_n 1, 1) := by decide +kernel
theorem dX5_passEntry_34 : decode cX5_passEntry 34 = .ok (.iconst 2, 1) := by decide +kernel
theorem dX5_passEntry_35 : decode cX5_passEntry 35 = .ok (.iconst 0, 1) := by decide +kernel
theorem dX5_passEntry_36 : decode cX5_passEntry 36 = .ok (.invokevirtual 111, 3) := by decide +kernel
theorem dX5_passEntry_39 : decode cX5_passEntry 39 = .ok (.goto 31, 3) := by decide +kernel
theorem dX5_passEntry_42 : decode cX5_passEntry 42 = .ok (.aload_n 0, 1) := by decide +kernel
theorem dX5_passEntry_43 : decode cX5_passEntry 43 = .ok (.iload_n 1, 1) := by decide +kernel
theorem dX5_passEntry_44 : decode cX5_passEntry 44 = .ok (.iconst 4, 1) := by decide +kernel
theorem dX5_passEntry_45 : decode cX5_passEntry 45 = .ok (.iconst 4, 1) := by decide +kernel
theorem dX5_passEntry_46 : decode cX5_passEntry 46 = .ok (.invokevirtual 111, 3) := by decide +kernel
theorem dX5_passEntry_49 : decode cX5_passEntry 49 = .ok (.aload_n 0, 1) := by decide +kernel
theorem dX5_passEntry_50 : decode cX5_passEntry 50 = .ok (.iconst 2, 1) := by decide +kernel
theorem dX5_passEntry_51 : decode cX5_passEntry 51 = .ok (.iload_n 1, 1) := by decide +kernel
theorem dX5_passEntry_52 : decode cX5_passEntry 52 = .ok (.aload_n 0, 1) := by decide +kernel
theorem dX5_passEntry_53 : decode cX5_passEntry 53 = .ok (.getfield 17, 3) := by decide +kernel
theorem dX5_passEntry_56 : decode cX5_passEntry 56 = .ok (.iload_n 1, 1) := by decide +kernel
theorem dX5_passEntry_57 : decode cX5_passEntry 57 = .ok (.iaload, 1) := by decide +kernel
theorem dX5_passEntry_58 : decode cX5_passEntry 58 = .ok (.iconst 0, 1) := by decide +kernel
theorem dX5_passEntry_59 : decode cX5_passEntry 59 = .ok (.invokevirtual 63, 3) := by decide +kernel
theorem dX5_passEntry_62 : decode cX5_passEntry 62 = .ok (.goto 8, 3) := by decide +kernel
theorem dX5_passEntry_65 : decode cX5_passEntry 65 = .ok (.aload_n 0, 1) := by decide +kernel
theorem dX5_passEntry_66 : decode cX5_passEntry 66 = .ok (.iload_n 1, 1) := by decide +kernel
theorem dX5_passEntry_67 : decode cX5_passEntry 67 = .ok (.invokevirtual 151, 3) := by decide +kernel
theorem dX5_passEntry_70 : decode cX5_passEntry 70 = .ok (.return_, 1) := by decide +kernel
set_option maxRecDepth 20000 in
theorem ggX5_tryOn_X5_goes : GoodIn wsX5_tryOn wsX5_goes := goodIn_r _ [10, 11, 12, 13, 14, 15, 16, 17, 9, 18, 19, 20, 21, 30, 31, 32, 33, 34, 35, 36, 37, 38, 39, 40, 41, 42, 43, 44, 45, 46, 47, 48, 49, 50, 51, 52, 53, 54, 55, 56, 57] (by decide +kernel) (by decide +kernel)
set_option maxRecDepth 20000 in
theorem gX5_tryOn_X5_goes : GoodIn wsX5_tryOn (wsV RX5 104 RX5 yX5_goes wsX5_goes) := goodIn_app (goodIn_of _ (by decide +kernel)) ggX5_tryOn_X5_goes
set_option maxRecDepth 20000 in
theorem ggX5_tryOn_X5_goOut : GoodIn wsX5_tryOn wsX5_goOut := goodIn_r _ [25, 26, 27, 5, 28, 29, 30, 31, 32, 33, 34, 35, 36, 37, 38, 39, 40, 41, 42, 43, 44, 45, 46, 47, 48, 49, 50, 51, 52, 53, 54, 55, 56, 57] (by decide +kernel) (by decide +kernel)
set_option maxRecDepth 20000 in
theorem gX5_tryOn_X5_goOut : GoodIn wsX5_tryOn (wsV RX5 63 RX5 yX5_goOut wsX5_goOut) := goodIn_app (goodIn_of _ (by decide +kernel)) ggX5_tryOn_X5_goOut
theorem dX5_tryOn_0 : decode cX5_tryOn 0 = .ok (.aload_n 0, 1) := by decide +kernel
theorem dX5_tryOn_1 : decode cX5_tryOn 1 = .ok (.getfield 23, 3) := by decide +kernel
theorem dX5_tryOn_4 : decode cX5_tryOn 4 = .ok (.iload_n 1, 1) := by decide +kernel
theorem dX5_tryOn_5 : decode cX5_tryOn 5 = .ok (.iaload, 1) := by decide +kernel
theorem dX5_tryOn_6 : decode cX5_tryOn 6 = .ok (.iconst 3, 1) := by decide +kernel
theorem dX5_tryOn_7 : decode cX5_tryOn 7 = .ok (.if_icmp .ne 9, 3) := by decide +kernel
theorem dX5_tryOn_10 : decode cX5_tryOn 10 = .ok (.aload_n 0, 1) := by decide +kernel
theorem dX5_tryOn_11 : decode cX5_tryOn 11 = .ok (.iload_n 1, 1) := by decide +kernel
theorem dX5_tryOn_12 : decode cX5_tryOn 12 = .ok (.invokevirtual 104, 3) := by decide +kernel
theorem dX5_tryOn_15 : decode cX5_tryOn 15 = .ok (.return_, 1) := by decide +kernel
theorem dX5_tryOn_16 : decode cX5_tryOn 16 = .ok (.aload_n 0, 1) := by decide +kernel
theorem dX5_tryOn_17 : decode cX5_tryOn 17 = .ok (.getfield 13, 3) := by decide +kernel
theorem dX5_tryOn_20 : decode cX5_tryOn 20 = .ok (.iload_n 1, 1) := by decide +kernel
theorem dX5_tryOn_21 : decode cX5_tryOn 21 = .ok (.iaload, 1) := by decide +kernel
theorem dX5_tryOn_22 : decode cX5_tryOn 22 = .ok (.ifCond .ne 7, 3) := by decide +kernel
theorem dX5_tryOn_25 : decode cX5_tryOn 25 = .ok (.iconst 1, 1) := by decide +kernel
theorem dX5_tryOn_26 : decode cX5_tryOn 26 = .ok (.goto 4, 3) := by decide +kernel
theorem dX5_tryOn_29 : decode cX5_tryOn 29 = .ok (.iconst 0, 1) := by decide +kernel
theorem dX5_tryOn_30 : decode cX5_tryOn 30 = .ok (.istore_n 2, 1) := by decide +kernel
theorem dX5_tryOn_31 : decode cX5_tryOn 31 = .ok (.aload_n 0, 1) := by decide +kernel
theorem dX5_tryOn_32 : decode cX5_tryOn 32 = .ok (.iload_n 2, 1) := by decide +kernel
theorem dX5_tryOn_33 : decode cX5_tryOn 33 = .ok (.ifCond .eq 7, 3) := by decide +kernel
theorem dX5_tryOn_36 : decode cX5_tryOn 36 = .ok (.iconst 1, 1) := by decide +kernel
theorem dX5_tryOn_37 : decode cX5_tryOn 37 = .ok (.goto 4, 3) := by decide +kernel
theorem dX5_tryOn_40 : decode cX5_tryOn 40 = .ok (.iconst 2, 1) := by decide +kernel
theorem dX5_tryOn_41 : decode cX5_tryOn 41 = .ok (.iload_n 1, 1) := by decide +kernel
theorem dX5_tryOn_42 : decode cX5_tryOn 42 = .ok (.iload_n 2, 1) := by decide +kernel
theorem dX5_tryOn_43 : decode cX5_tryOn 43 = .ok (.ifCond .eq 7, 3) := by decide +kernel
theorem dX5_tryOn_46 : decode cX5_tryOn 46 = .ok (.iconst 0, 1) := by decide +kernel
theorem dX5_tryOn_47 : decode cX5_tryOn 47 = .ok (.goto 9, 3) := by decide +kernel
theorem dX5_tryOn_50 : decode cX5_tryOn 50 = .ok (.aload_n 0, 1) := by decide +kernel
theorem dX5_tryOn_51 : decode cX5_tryOn 51 = .ok (.getfield 17, 3) := by decide +kernel
theorem dX5_tryOn_54 : decode cX5_tryOn 54 = .ok (.iload_n 1, 1) := by decide +kernel
theorem dX5_tryOn_55 : decode cX5_tryOn 55 = .ok (.iaload, 1) := by decide +kernel
theorem dX5_tryOn_56 : decode cX5_tryOn 56 = .ok (.iconst 0, 1) := by decide +kernel
theorem dX5_tryOn_57 : decode cX5_tryOn 57 = .ok (.invokevirtual 63, 3) := by decide +kernel
theorem dX5_tryOn_60 : decode cX5_tryOn 60 = .ok (.aload_n 0, 1) := by decide +kernel
theorem dX5_tryOn_61 : decode cX5_tryOn 61 = .ok (.getfield 23, 3) := by decide +kernel
theorem dX5_tryOn_64 : decode cX5_tryOn 64 = .ok (.iload_n 1, 1) := by decide +kernel
theorem dX5_tryOn_65 : decode cX5_tryOn 65 = .ok (.dup2, 1) := by decide +kernel
theorem dX5_tryOn_66 : decode cX5_tryOn 66 = .ok (.iaload, 1) := by decide +kernel
theorem dX5_tryOn_67 : decode cX5_tryOn 67 = .ok (.iconst 1, 1) := by decide +kernel
theorem dX5_tryOn_68 : decode cX5_tryOn 68 = .ok (.iadd, 1) := by decide +kernel
theorem dX5_tryOn_69 : decode cX5_tryOn 69 = .ok (.iastore, 1) := by decide +kernel
theorem dX5_tryOn_70 : decode cX5_tryOn 70 = .ok (.aload_n 0, 1) := by decide +kernel
theorem dX5_tryOn_71 : decode cX5_tryOn 71 = .ok (.getfield 20, 3) := by decide +kernel
theorem dX5_tryOn_74 : decode cX5_tryOn 74 = .ok (.iload_n 1, 1) := by decide +kernel
theorem dX5_tryOn_75 : decode cX5_tryOn 75 = .ok (.aload_n 0, 1) := by decide +kernel
theorem dX5_tryOn_76 : decode cX5_tryOn 76 = .ok (.getfield 74, 3) := by decide +kernel
theorem dX5_tryOn_79 : decode cX5_tryOn 79 = .ok (.iload_n 2, 1) := by decide +kernel
theorem dX5_tryOn_80 : decode cX5_tryOn 80 = .ok (.ifCond .eq 8, 3) := by decide +kernel
theorem dX5_tryOn_83 : decode cX5_tryOn 83 = .ok (.bipush 6, 2) := by decide +kernel
theorem dX5_tryOn_85 : decode cX5_tryOn 85 = .ok (.goto 4, 3) := by decide +kernel
theorem dX5_tryOn_88 : decode cX5_tryOn 88 = .ok (.iconst 4, 1) := by decide +kernel
theorem dX5_tryOn_89 : decode cX5_tryOn 89 = .ok (.iadd, 1) := by decide +kernel
theorem dX5_tryOn_90 : decode cX5_tryOn 90 = .ok (.iastore, 1) := by decide +kernel
theorem dX5_tryOn_91 : decode cX5_tryOn 91 = .ok (.return_, 1) := by decide +kernel
set_option maxRecDepth 20000 in
theorem ggX5_passTrial_X5_goOut : GoodIn wsX5_passTrial wsX5_goOut := goodIn_r _ [9, 10, 11, 2, 12, 13, 14, 15, 16, 17, 18, 19, 20, 21, 22, 23, 24, 25, 26, 27, 28, 29, 30, 31, 32, 33, 34, 35, 36, 37, 38, 39, 40, 41] (by decide +kernel) (by decide +kernel)
set_option maxRecDepth 20000 in
theorem gX5_passTrial_X5_goOut : GoodIn wsX5_passTrial (wsV RX5 63 RX5 yX5_goOut wsX5_goOut) := goodIn_app (goodIn_of _ (by decide +kernel)) ggX5_passTrial_X5_goOut
theorem dX5_passTrial_0 : decode cX5_passTrial 0 = .ok (.aload_n 0, 1) := by decide +kernel
theorem dX5_passTrial_1 : decode cX5_passTrial 1 = .ok (.getfield 57, 3) := by decide +kernel
theorem dX5_passTrial_4 : decode cX5_passTrial 4 = .ok (.iconst (-1), 1) := by decide +kernel
theorem dX5_passTrial_5 : decode cX5_passTrial 5 = .ok (.if_icmp .eq 27, 3) := by decide +kernel
theorem dX5_passTrial_8 : decode cX5_passTrial 8 = .ok (.aload_n 0, 1) := by decide +kernel
theorem dX5_passTrial_9 : decode cX5_passTrial 9 = .ok (.getfield 74, 3) := by decide +kernel
theorem dX5_passTrial_12 : decode cX5_passTrial 12 = .ok (.aload_n 0, 1) := by decide +kernel
theorem dX5_passTrial_13 : decode cX5_passTrial 13 = .ok (.getfield 154, 3) := by decide +kernel
theorem dX5_passTrial_16 : decode cX5_passTrial 16 = .ok (.iconst 5, 1) := by decide +kernel
theorem dX5_passTrial_17 : decode cX5_passTrial 17 = .ok (.iadd, 1) := by decide +kernel
theorem dX5_passTrial_18 : decode cX5_passTrial 18 = .ok (.if_icmp .ne 14, 3) := by decide +kernel
theorem dX5_passTrial_21 : decode cX5_passTrial 21 = .ok (.aload_n 0, 1) := by decide +kernel
theorem dX5_passTrial_22 : decode cX5_passTrial 22 = .ok (.iconst 4, 1) := by decide +kernel
theorem dX5_passTrial_23 : decode cX5_passTrial 23 = .ok (.aload_n 0, 1) := by decide +kernel
theorem dX5_passTrial_24 : decode cX5_passTrial 24 = .ok (.getfield 57, 3) := by decide +kernel
theorem dX5_passTrial_27 : decode cX5_passTrial 27 = .ok (.iconst 0, 1) := by decide +kernel
theorem dX5_passTrial_28 : decode cX5_passTrial 28 = .ok (.iconst 0, 1) := by decide +kernel
theorem dX5_passTrial_29 : decode cX5_passTrial 29 = .ok (.invokevirtual 63, 3) := by decide +kernel
theorem dX5_passTrial_32 : decode cX5_passTrial 32 = .ok (.aload_n 0, 1) := by decide +kernel
theorem dX5_passTrial_33 : decode cX5_passTrial 33 = .ok (.getfield 57, 3) := by decide +kernel
theorem dX5_passTrial_36 : decode cX5_passTrial 36 = .ok (.iconst (-1), 1) := by decide +kernel
theorem dX5_passTrial_37 : decode cX5_passTrial 37 = .ok (.if_icmp .eq 30, 3) := by decide +kernel
theorem dX5_passTrial_40 : decode cX5_passTrial 40 = .ok (.aload_n 0, 1) := by decide +kernel
theorem dX5_passTrial_41 : decode cX5_passTrial 41 = .ok (.getfield 74, 3) := by decide +kernel
theorem dX5_passTrial_44 : decode cX5_passTrial 44 = .ok (.aload_n 0, 1) := by decide +kernel
theorem dX5_passTrial_45 : decode cX5_passTrial 45 = .ok (.getfield 154, 3) := by decide +kernel
theorem dX5_passTrial_48 : decode cX5_passTrial 48 = .ok (.bipush 10, 2) := by decide +kernel
theorem dX5_passTrial_50 : decode cX5_passTrial 50 = .ok (.iadd, 1) := by decide +kernel
theorem dX5_passTrial_51 : decode cX5_passTrial 51 = .ok (.if_icmp .ne 16, 3) := by decide +kernel
theorem dX5_passTrial_54 : decode cX5_passTrial 54 = .ok (.aload_n 0, 1) := by decide +kernel
theorem dX5_passTrial_55 : decode cX5_passTrial 55 = .ok (.aload_n 0, 1) := by decide +kernel
theorem dX5_passTrial_56 : decode cX5_passTrial 56 = .ok (.getfield 57, 3) := by decide +kernel
theorem dX5_passTrial_59 : decode cX5_passTrial 59 = .ok (.putfield 54, 3) := by decide +kernel
theorem dX5_passTrial_62 : decode cX5_passTrial 62 = .ok (.aload_n 0, 1) := by decide +kernel
theorem dX5_passTrial_63 : decode cX5_passTrial 63 = .ok (.iconst (-1), 1) := by decide +kernel
theorem dX5_passTrial_64 : decode cX5_passTrial 64 = .ok (.putfield 57, 3) := by decide +kernel
theorem dX5_passTrial_67 : decode cX5_passTrial 67 = .ok (.return_, 1) := by decide +kernel
set_option maxRecDepth 20000 in
theorem ggX5_tick_X5_passEntry : GoodIn wsX5_tick wsX5_passEntry := goodIn_r _ [11, 12, 13, 14, 15, 16, 10, 17, 3, 1, 18, 19, 20, 21, 22, 23, 24, 25, 26, 27, 28, 29, 30, 31, 32, 33, 34, 2, 35, 36, 37, 38, 39, 40, 41, 42, 43, 44, 52, 53, 54, 55, 56, 57, 58, 59, 60, 61, 62, 63, 64, 65, 66, 67, 68, 69, 70, 71, 72, 73, 74, 75, 76, 77, 78, 79] (by decide +kernel) (by decide +kernel)
set_option maxRecDepth 20000 in
theorem gX5_tick_X5_passEntry : GoodIn wsX5_tick (wsV RX5 157 RX5 yX5_passEntry wsX5_passEntry) := goodIn_app (goodIn_of _ (by decide +kernel)) ggX5_tick_X5_passEntry
set_option maxRecDepth 20000 in
theorem ggX5_tick_X5_passTrial : GoodIn wsX5_tick wsX5_passTrial := goodIn_r _ [48, 49, 1, 50, 51, 19, 20, 21, 10, 22, 23, 24, 25, 26, 52, 53, 54, 55, 56, 57, 58, 59, 60, 61, 62, 63, 64, 65, 66, 67, 68, 69, 70, 71, 72, 73, 74, 75, 76, 77, 78, 79] (by decide +kernel) (by decide +kernel)
set_option maxRecDepth 20000 in
theorem gX5_tick_X5_passTrial : GoodIn wsX5_tick (wsV RX5 160 RX5 yX5_passTrial wsX5_passTrial) := goodIn_app (goodIn_of _ (by decide +kernel)) ggX5_tick_X5_passTrial
set_option maxRecDepth 20000 in
theorem ggX5_tick_X5_goOut : GoodIn wsX5_tick wsX5_goOut := goodIn_r _ [22, 23, 24, 1, 25, 26, 52, 53, 54, 55, 56, 57, 58, 59, 60, 61, 62, 63, 64, 65, 66, 67, 68, 69, 70, 71, 72, 73, 74, 75, 76, 77, 78, 79] (by decide +kernel) (by decide +kernel)
set_option maxRecDepth 20000 in
theorem gX5_tick_X5_goOut : GoodIn wsX5_tick (wsV RX5 63 RX5 yX5_goOut wsX5_goOut) := goodIn_app (goodIn_of _ (by decide +kernel)) ggX5_tick_X5_goOut
theorem dX5_tick_0 : decode cX5_tick 0 = .ok (.aload_n 0, 1) := by decide +kernel
theorem dX5_tick_1 : decode cX5_tick 1 = .ok (.dup, 1) := by decide +kernel
theorem dX5_tick_2 : decode cX5_tick 2 = .ok (.getfield 74, 3) := by decide +kernel
theorem dX5_tick_5 : decode cX5_tick 5 = .ok (.iconst 1, 1) := by decide +kernel
theorem dX5_tick_6 : decode cX5_tick 6 = .ok (.iadd, 1) := by decide +kernel
theorem dX5_tick_7 : decode cX5_tick 7 = .ok (.putfield 74, 3) := by decide +kernel
theorem dX5_tick_10 : decode cX5_tick 10 = .ok (.iconst 0, 1) := by decide +kernel
theorem dX5_tick_11 : decode cX5_tick 11 = .ok (.istore_n 1, 1) := by decide +kernel
theorem dX5_tick_12 : decode cX5_tick 12 = .ok (.iload_n 1, 1) := by decide +kernel
theorem dX5_tick_13 : decode cX5_tick 13 = .ok (.bipush 16, 2) := by decide +kernel
theorem dX5_tick_15 : decode cX5_tick 15 = .ok (.if_icmp .ge 36, 3) := by decide +kernel
theorem dX5_tick_18 : decode cX5_tick 18 = .ok (.aload_n 0, 1) := by decide +kernel
theorem dX5_tick_19 : decode cX5_tick 19 = .ok (.getfield 7, 3) := by decide +kernel
theorem dX5_tick_22 : decode cX5_tick 22 = .ok (.iload_n 1, 1) := by decide +kernel
theorem dX5_tick_23 : decode cX5_tick 23 = .ok (.baload, 1) := by decide +kernel
theorem dX5_tick_24 : decode cX5_tick 24 = .ok (.ifCond .eq 21, 3) := by decide +kernel
theorem dX5_tick_27 : decode cX5_tick 27 = .ok (.aload_n 0, 1) := by decide +kernel
theorem dX5_tick_28 : decode cX5_tick 28 = .ok (.getfield 20, 3) := by decide +kernel
theorem dX5_tick_31 : decode cX5_tick 31 = .ok (.iload_n 1, 1) := by decide +kernel
theorem dX5_tick_32 : decode cX5_tick 32 = .ok (.iaload, 1) := by decide +kernel
theorem dX5_tick_33 : decode cX5_tick 33 = .ok (.aload_n 0, 1) := by decide +kernel
theorem dX5_tick_34 : decode cX5_tick 34 = .ok (.getfield 74, 3) := by decide +kernel
theorem dX5_tick_37 : decode cX5_tick 37 = .ok (.if_icmp .ne 8, 3) := by decide +kernel
theorem dX5_tick_40 : decode cX5_tick 40 = .ok (.aload_n 0, 1) := by decide +kernel
theorem dX5_tick_41 : decode cX5_tick 41 = .ok (.iload_n 1, 1) := by decide +kernel
theorem dX5_tick_42 : decode cX5_tick 42 = .ok (.invokevirtual 157, 3) := by decide +kernel
theorem dX5_tick_45 : decode cX5_tick 45 = .ok (.iinc 1 1, 3) := by decide +kernel
theorem dX5_tick_48 : decode cX5_tick 48 = .ok (.goto (-36), 3) := by decide +kernel
theorem dX5_tick_51 : decode cX5_tick 51 = .ok (.iconst 0, 1) := by decide +kernel
theorem dX5_tick_52 : decode cX5_tick 52 = .ok (.istore_n 1, 1) := by decide +kernel
theorem dX5_tick_53 : decode cX5_tick 53 = .ok (.iload_n 1, 1) := by decide +kernel
theorem dX5_tick_54 : decode cX5_tick 54 = .ok (.bipush 16, 2) := by decide +kernel
theorem dX5_tick_56 : decode cX5_tick 56 = .ok (.if_icmp .ge 42, 3) := by decide +kernel
theorem dX5_tick_59 : decode cX5_tick 59 = .ok (.aload_n 0, 1) := by decide +kernel
theorem dX5_tick_60 : decode cX5_tick 60 = .ok (.getfield 35, 3) := by decide +kernel
theorem dX5_tick_63 : decode cX5_tick 63 = .ok (.iload_n 1, 1) := by decide +kernel
theorem dX5_tick_64 : decode cX5_tick 64 = .ok (.aload_n 0, 1) := by decide +kernel
theorem dX5_tick_65 : decode cX5_tick 65 = .ok (.getfield 35, 3) := by decide +kernel
theorem dX5_tick_68 : decode cX5_tick 68 = .ok (.iload_n 1, 1) := by decide +kernel
theorem dX5_tick_69 : decode cX5_tick 69 = .ok (.baload, 1) := by decide +kernel
theorem dX5_tick_70 : decode cX5_tick 70 = .ok (.ifCond .eq 20, 3) := by decide +kernel
theorem dX5_tick_73 : decode cX5_tick 73 = .ok (.aload_n 0, 1) := by decide +kernel
theorem dX5_tick_74 : decode cX5_tick 74 = .ok (.getfield 41, 3) := by decide +kernel
theorem dX5_tick_77 : decode cX5_tick 77 = .ok (.iload_n 1, 1) := by decide +kernel
theorem dX5_tick_78 : decode cX5_tick 78 = .ok (.iaload, 1) := by decide +kernel
theorem dX5_tick_79 : decode cX5_tick 79 = .ok (.aload_n 0, 1) := by decide +kernel
theorem dX5_tick_80 : decode cX5_tick 80 = .ok (.getfield 74, 3) := by decide +kernel
theorem dX5_tick_83 : decode cX5_tick 83 = .ok (.if_icmp .eq 7, 3) := by decide +kernel
theorem dX5_tick_86 : decode cX5_tick 86 = .ok (.iconst 1, 1) := by decide +kernel
theorem dX5_tick_87 : decode cX5_tick 87 = .ok (.goto 4, 3) := by decide +kernel
theorem dX5_tick_90 : decode cX5_tick 90 = .ok (.iconst 0, 1) := by decide +kernel
theorem dX5_tick_91 : decode cX5_tick 91 = .ok (.bastore, 1) := by decide +kernel
theorem dX5_tick_92 : decode cX5_tick 92 = .ok (.iinc 1 1, 3) := by decide +kernel
theorem dX5_tick_95 : decode cX5_tick 95 = .ok (.goto (-42), 3) := by decide +kernel
theorem dX5_tick_98 : decode cX5_tick 98 = .ok (.aload_n 0, 1) := by decide +kernel
theorem dX5_tick_99 : decode cX5_tick 99 = .ok (.invokevirtual 160, 3) := by decide +kernel
theorem dX5_tick_102 : decode cX5_tick 102 = .ok (.aload_n 0, 1) := by decide +kernel
theorem dX5_tick_103 : decode cX5_tick 103 = .ok (.getfield 74, 3) := by decide +kernel
