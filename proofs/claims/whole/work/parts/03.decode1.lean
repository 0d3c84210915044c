theorem dX0_init_0 : decode cX0_init 0 = .ok (.aload_n 0, 1) := by decide +kernel
theorem dX0_init_1 : decode cX0_init 1 = .ok (.invokespecial 3, 3) := by decide +kernel
theorem dX0_init_4 : decode cX0_init 4 = .ok (.aload_n 0, 1) := by decide +kernel
theorem dX0_init_5 : decode cX0_init 5 = .ok (.bipush 16, 2) := by decide +kernel
theorem dX0_init_7 : decode cX0_init 7 = .ok (.newarray .int, 2) := by decide +kernel
theorem dX0_init_9 : decode cX0_init 9 = .ok (.putfield 9, 3) := by decide +kernel
theorem dX0_init_12 : decode cX0_init 12 = .ok (.aload_n 0, 1) := by decide +kernel
theorem dX0_init_13 : decode cX0_init 13 = .ok (.bipush 16, 2) := by decide +kernel
theorem dX0_init_15 : decode cX0_init 15 = .ok (.newarray .int, 2) := by decide +kernel
theorem dX0_init_17 : decode cX0_init 17 = .ok (.putfield 15, 3) := by decide +kernel
theorem dX0_init_20 : decode cX0_init 20 = .ok (.aload_n 0, 1) := by decide +kernel
theorem dX0_init_21 : decode cX0_init 21 = .ok (.bipush 16, 2) := by decide +kernel
theorem dX0_init_23 : decode cX0_init 23 = .ok (.newarray .int, 2) := by decide +kernel
theorem dX0_init_25 : decode cX0_init 25 = .ok (.putfield 18, 3) := by decide +kernel
theorem dX0_init_28 : decode cX0_init 28 = .ok (.aload_n 0, 1) := by decide +kernel
theorem dX0_init_29 : decode cX0_init 29 = .ok (.bipush 16, 2) := by decide +kernel
theorem dX0_init_31 : decode cX0_init 31 = .ok (.newarray .int, 2) := by decide +kernel
theorem dX0_init_33 : decode cX0_init 33 = .ok (.putfield 21, 3) := by decide +kernel
theorem dX0_init_36 : decode cX0_init 36 = .ok (.aload_n 0, 1) := by decide +kernel
theorem dX0_init_37 : decode cX0_init 37 = .ok (.bipush 16, 2) := by decide +kernel
theorem dX0_init_39 : decode cX0_init 39 = .ok (.newarray .int, 2) := by decide +kernel
theorem dX0_init_41 : decode cX0_init 41 = .ok (.putfield 24, 3) := by decide +kernel
theorem dX0_init_44 : decode cX0_init 44 = .ok (.aload_n 0, 1) := by decide +kernel
theorem dX0_init_45 : decode cX0_init 45 = .ok (.bipush 16, 2) := by decide +kernel
theorem dX0_init_47 : decode cX0_init 47 = .ok (.newarray .int, 2) := by decide +kernel
theorem dX0_init_49 : decode cX0_init 49 = .ok (.putfield 27, 3) := by decide +kernel
theorem dX0_init_52 : decode cX0_init 52 = .ok (.aload_n 0, 1) := by decide +kernel
theorem dX0_init_53 : decode cX0_init 53 = .ok (.bipush 48, 2) := by decide +kernel
theorem dX0_init_55 : decode cX0_init 55 = .ok (.newarray .int, 2) := by decide +kernel
theorem dX0_init_57 : decode cX0_init 57 = .ok (.putfield 30, 3) := by decide +kernel
theorem dX0_init_60 : decode cX0_init 60 = .ok (.aload_n 0, 1) := by decide +kernel
theorem dX0_init_61 : decode cX0_init 61 = .ok (.aload_n 1, 1) := by decide +kernel
theorem dX0_init_62 : decode cX0_init 62 = .ok (.putfield 33, 3) := by decide +kernel
theorem dX0_init_65 : decode cX0_init 65 = .ok (.aload_n 0, 1) := by decide +kernel
theorem dX0_init_66 : decode cX0_init 66 = .ok (.aload_n 2, 1) := by decide +kernel
theorem dX0_init_67 : decode cX0_init 67 = .ok (.putfield 37, 3) := by decide +kernel
theorem dX0_init_70 : decode cX0_init 70 = .ok (.aload_n 0, 1) := by decide +kernel
theorem dX0_init_71 : decode cX0_init 71 = .ok (.iconst 0, 1) := by decide +kernel
theorem dX0_init_72 : decode cX0_init 72 = .ok (.putfield 41, 3) := by decide +kernel
theorem dX0_init_75 : decode cX0_init 75 = .ok (.aload_n 0, 1) := by decide +kernel
theorem dX0_init_76 : decode cX0_init 76 = .ok (.iconst 0, 1) := by decide +kernel
theorem dX0_init_77 : decode cX0_init 77 = .ok (.putfield 45, 3) := by decide +kernel
theorem dX0_init_80 : decode cX0_init 80 = .ok (.aload_n 0, 1) := by decide +kernel
theorem dX0_init_81 : decode cX0_init 81 = .ok (.iconst 0, 1) := by decide +kernel
theorem dX0_init_82 : decode cX0_init 82 = .ok (.putfield 48, 3) := by decide +kernel
theorem dX0_init_85 : decode cX0_init 85 = .ok (.iconst 0, 1) := by decide +kernel
theorem dX0_init_86 : decode cX0_init 86 = .ok (.istore_n 3, 1) := by decide +kernel
theorem dX0_init_87 : decode cX0_init 87 = .ok (.iload_n 3, 1) := by decide +kernel
theorem dX0_init_88 : decode cX0_init 88 = .ok (.bipush 16, 2) := by decide +kernel
theorem dX0_init_90 : decode cX0_init 90 = .ok (.if_icmp .ge 16, 3) := by decide +kernel
theorem dX0_init_93 : decode cX0_init 93 = .ok (.aload_n 0, 1) := by decide +kernel
theorem dX0_init_94 : decode cX0_init 94 = .ok (.getfield 9, 3) := by decide +kernel
theorem dX0_init_97 : decode cX0_init 97 = .ok (.iload_n 3, 1) := by decide +kernel
theorem dX0_init_98 : decode cX0_init 98 = .ok (.iconst (-1), 1) := by decide +kernel
theorem dX0_init_99 : decode cX0_init 99 = .ok (.iastore, 1) := by decide +kernel
theorem dX0_init_100 : decode cX0_init 100 = .ok (.iinc 3 1, 3) := by decide +kernel
theorem dX0_init_103 : decode cX0_init 103 = .ok (.goto (-16), 3) := by decide +kernel
theorem dX0_init_106 : decode cX0_init 106 = .ok (.return_, 1) := by decide +kernel
theorem dX0_has_0 : decode cX0_has 0 = .ok (.iload_n 1, 1) := by decide +kernel
theorem dX0_has_1 : decode cX0_has 1 = .ok (.ifCond .lt 23, 3) := by decide +kernel
theorem dX0_has_4 : decode cX0_has 4 = .ok (.iload_n 1, 1) := by decide +kernel
theorem dX0_has_5 : decode cX0_has 5 = .ok (.bipush 16, 2) := by decide +kernel
theorem dX0_has_7 : decode cX0_has 7 = .ok (.if_icmp .ge 17, 3) := by decide +kernel
theorem dX0_has_10 : decode cX0_has 10 = .ok (.aload_n 0, 1) := by decide +kernel
theorem dX0_has_11 : decode cX0_has 11 = .ok (.getfield 9, 3) := by decide +kernel
theorem dX0_has_14 : decode cX0_has 14 = .ok (.iload_n 1, 1) := by decide +kernel
theorem dX0_has_15 : decode cX0_has 15 = .ok (.iaload, 1) := by decide +kernel
theorem dX0_has_16 : decode cX0_has 16 = .ok (.iconst (-1), 1) := by decide +kernel
theorem dX0_has_17 : decode cX0_has 17 = .ok (.if_icmp .eq 7, 3) := by decide +kernel
theorem dX0_has_20 : decode cX0_has 20 = .ok (.iconst 1, 1) := by decide +kernel
theorem dX0_has_21 : decode cX0_has 21 = .ok (.goto 4, 3) := by decide +kernel
theorem dX0_has_24 : decode cX0_has 24 = .ok (.iconst 0, 1) := by decide +kernel
theorem dX0_has_25 : decode cX0_has 25 = .ok (.ireturn, 1) := by decide +kernel
theorem dX0_hasMark_0 : decode cX0_hasMark 0 = .ok (.iload_n 1, 1) := by decide +kernel
theorem dX0_hasMark_1 : decode cX0_hasMark 1 = .ok (.ifCond .lt 32, 3) := by decide +kernel
theorem dX0_hasMark_4 : decode cX0_hasMark 4 = .ok (.iload_n 1, 1) := by decide +kernel
theorem dX0_hasMark_5 : decode cX0_hasMark 5 = .ok (.bipush 16, 2) := by decide +kernel
theorem dX0_hasMark_7 : decode cX0_hasMark 7 = .ok (.if_icmp .ge 26, 3) := by decide +kernel
theorem dX0_hasMark_10 : decode cX0_hasMark 10 = .ok (.aload_n 0, 1) := by decide +kernel
theorem dX0_hasMark_11 : decode cX0_hasMark 11 = .ok (.getfield 9, 3) := by decide +kernel
theorem dX0_hasMark_14 : decode cX0_hasMark 14 = .ok (.iload_n 1, 1) := by decide +kernel
theorem dX0_hasMark_15 : decode cX0_hasMark 15 = .ok (.iaload, 1) := by decide +kernel
theorem dX0_hasMark_16 : decode cX0_hasMark 16 = .ok (.iconst (-1), 1) := by decide +kernel
theorem dX0_hasMark_17 : decode cX0_hasMark 17 = .ok (.if_icmp .eq 16, 3) := by decide +kernel
theorem dX0_hasMark_20 : decode cX0_hasMark 20 = .ok (.aload_n 0, 1) := by decide +kernel
theorem dX0_hasMark_21 : decode cX0_hasMark 21 = .ok (.getfield 9, 3) := by decide +kernel
theorem dX0_hasMark_24 : decode cX0_hasMark 24 = .ok (.iload_n 1, 1) := by decide +kernel
theorem dX0_hasMark_25 : decode cX0_hasMark 25 = .ok (.iaload, 1) := by decide +kernel
theorem dX0_hasMark_26 : decode cX0_hasMark 26 = .ok (.ifCond .eq 7, 3) := by decide +kernel
theorem dX0_hasMark_29 : decode cX0_hasMark 29 = .ok (.iconst 1, 1) := by decide +kernel
theorem dX0_hasMark_30 : decode cX0_hasMark 30 = .ok (.goto 4, 3) := by decide +kernel
theorem dX0_hasMark_33 : decode cX0_hasMark 33 = .ok (.iconst 0, 1) := by decide +kernel
theorem dX0_hasMark_34 : decode cX0_hasMark 34 = .ok (.ireturn, 1) := by decide +kernel
set_option maxRecDepth 20000 in
theorem ggX0_stateOf_X0_has : GoodIn wsX0_stateOf wsX0_has := goodIn_r _ [6, 1, 7, 8, 9, 10, 11, 12, 13, 14, 15, 16, 17, 18] (by decide +kernel) (by decide +kernel)
set_option maxRecDepth 20000 in
theorem gX0_stateOf_X0_has : GoodIn wsX0_stateOf (wsV RX0 51 RX0 yX0_has wsX0_has) := goodIn_app (goodIn_of _ (by decide +kernel)) ggX0_stateOf_X0_has
theorem dX0_stateOf_0 : decode cX0_stateOf 0 = .ok (.aload_n 0, 1) := by decide +kernel
theorem dX0_stateOf_1 : decode cX0_stateOf 1 = .ok (.iload_n 1, 1) := by decide +kernel
theorem dX0_stateOf_2 : decode cX0_stateOf 2 = .ok (.invokevirtual 51, 3) := by decide +kernel
theorem dX0_stateOf_5 : decode cX0_stateOf 5 = .ok (.ifCond .eq 12, 3) := by decide +kernel
theorem dX0_stateOf_8 : decode cX0_stateOf 8 = .ok (.aload_n 0, 1) := by decide +kernel
theorem dX0_stateOf_9 : decode cX0_stateOf 9 = .ok (.getfield 9, 3) := by decide +kernel
theorem dX0_stateOf_12 : decode cX0_stateOf 12 = .ok (.iload_n 1, 1) := by decide +kernel
theorem dX0_stateOf_13 : decode cX0_stateOf 13 = .ok (.iaload, 1) := by decide +kernel
theorem dX0_stateOf_14 : decode cX0_stateOf 14 = .ok (.goto 4, 3) := by decide +kernel
theorem dX0_stateOf_17 : decode cX0_stateOf 17 = .ok (.iconst (-1), 1) := by decide +kernel
theorem dX0_stateOf_18 : decode cX0_stateOf 18 = .ok (.ireturn, 1) := by decide +kernel
set_option maxRecDepth 20000 in
theorem ggX0_waitingAt_X0_has : GoodIn wsX0_waitingAt wsX0_has := goodIn_r _ [6, 7, 8, 9, 10, 11, 12, 13, 14, 15, 16, 17, 18, 19] (by decide +kernel) (by decide +kernel)
set_option maxRecDepth 20000 in
theorem gX0_waitingAt_X0_has : GoodIn wsX0_waitingAt (wsV RX0 51 RX0 yX0_has wsX0_has) := goodIn_app (goodIn_of _ (by decide +kernel)) ggX0_waitingAt_X0_has
theorem dX0_waitingAt_0 : decode cX0_waitingAt 0 = .ok (.aload_n 0, 1) := by decide +kernel
theorem dX0_waitingAt_1 : decode cX0_waitingAt 1 = .ok (.iload_n 1, 1) := by decide +kernel
theorem dX0_waitingAt_2 : decode cX0_waitingAt 2 = .ok (.invokevirtual 51, 3) := by decide +kernel
theorem dX0_waitingAt_5 : decode cX0_waitingAt 5 = .ok (.ifCond .eq 12, 3) := by decide +kernel
theorem dX0_waitingAt_8 : decode cX0_waitingAt 8 = .ok (.aload_n 0, 1) := by decide +kernel
theorem dX0_waitingAt_9 : decode cX0_waitingAt 9 = .ok (.getfield 27, 3) := by decide +kernel
theorem dX0_waitingAt_12 : decode cX0_waitingAt 12 = .ok (.iload_n 1, 1) := by decide +kernel
theorem dX0_waitingAt_13 : decode cX0_waitingAt 13 = .ok (.iaload, 1) := by decide +kernel
theorem dX0_waitingAt_14 : decode cX0_waitingAt 14 = .ok (.goto 4, 3) := by decide +kernel
theorem dX0_waitingAt_17 : decode cX0_waitingAt 17 = .ok (.iconst 0, 1) := by decide +kernel
theorem dX0_waitingAt_18 : decode cX0_waitingAt 18 = .ok (.ireturn, 1) := by decide +kernel
theorem dX0_howMany_0 : decode cX0_howMany 0 = .ok (.aload_n 0, 1) := by decide +kernel
theorem dX0_howMany_1 : decode cX0_howMany 1 = .ok (.getfield 41, 3) := by decide +kernel
theorem dX0_howMany_4 : decode cX0_howMany 4 = .ok (.ireturn, 1) := by decide +kernel
theorem dX0_lostEver_0 : decode cX0_lostEver 0 = .ok (.aload_n 0, 1) := by decide +kernel
theorem dX0_lostEver_1 : decode cX0_lostEver 1 = .ok (.getfield 45, 3) := by decide +kernel
theorem dX0_lostEver_4 : decode cX0_lostEver 4 = .ok (.ireturn, 1) := by decide +kernel
theorem dX0_goneEver_0 : decode cX0_goneEver 0 = .ok (.aload_n 0, 1) := by decide +kernel
theorem dX0_goneEver_1 : decode cX0_goneEver 1 = .ok (.getfield 48, 3) := by decide +kernel
theorem dX0_goneEver_4 : decode cX0_goneEver 4 = .ok (.ireturn, 1) := by decide +kernel
set_option maxRecDepth 20000 in
theorem ggX0_allWaiting_X0_waitingAt : GoodIn wsX0_allWaiting wsX0_waitingAt := goodIn_r _ [5, 6, 7, 8, 9, 4, 10, 11, 12, 13, 14, 15, 16, 17, 18, 19, 20, 21, 22, 23] (by decide +kernel) (by decide +kernel)
set_option maxRecDepth 20000 in
theorem gX0_allWaiting_X0_waitingAt : GoodIn wsX0_allWaiting (wsV RX0 55 RX0 yX0_waitingAt wsX0_waitingAt) := goodIn_app (goodIn_of _ (by decide +kernel)) ggX0_allWaiting_X0_waitingAt
theorem dX0_allWaiting_0 : decode cX0_allWaiting 0 = .ok (.iconst 0, 1) := by decide +kernel
theorem dX0_allWaiting_1 : decode cX0_allWaiting 1 = .ok (.istore_n 1, 1) := by decide +kernel
theorem dX0_allWaiting_2 : decode cX0_allWaiting 2 = .ok (.iconst 0, 1) := by decide +kernel
theorem dX0_allWaiting_3 : decode cX0_allWaiting 3 = .ok (.istore_n 2, 1) := by decide +kernel
theorem dX0_allWaiting_4 : decode cX0_allWaiting 4 = .ok (.iload_n 2, 1) := by decide +kernel
theorem dX0_allWaiting_5 : decode cX0_allWaiting 5 = .ok (.bipush 16, 2) := by decide +kernel
theorem dX0_allWaiting_7 : decode cX0_allWaiting 7 = .ok (.if_icmp .ge 17, 3) := by decide +kernel
theorem dX0_allWaiting_10 : decode cX0_allWaiting 10 = .ok (.iload_n 1, 1) := by decide +kernel
theorem dX0_allWaiting_11 : decode cX0_allWaiting 11 = .ok (.aload_n 0, 1) := by decide +kernel
theorem dX0_allWaiting_12 : decode cX0_allWaiting 12 = .ok (.iload_n 2, 1) := by decide +kernel
theorem dX0_allWaiting_13 : decode cX0_allWaiting 13 = .ok (.invokevirtual 55, 3) := by decide +kernel
theorem dX0_allWaiting_16 : decode cX0_allWaiting 16 = .ok (.iadd, 1) := by decide +kernel
theorem dX0_allWaiting_17 : decode cX0_allWaiting 17 = .ok (.istore_n 1, 1) := by decide +kernel
theorem dX0_allWaiting_18 : decode cX0_allWaiting 18 = .ok (.iinc 2 1, 3) := by decide +kernel
theorem dX0_allWaiting_21 : decode cX0_allWaiting 21 = .ok (.goto (-17), 3) := by decide +kernel
theorem dX0_allWaiting_24 : decode cX0_allWaiting 24 = .ok (.iload_n 1, 1) := by decide +kernel
theorem dX0_allWaiting_25 : decode cX0_allWaiting 25 = .ok (.ireturn, 1) := by decide +kernel
theorem dX0_allFresh_0 : decode cX0_allFresh 0 = .ok (.iconst 0, 1) := by decide +kernel
theorem dX0_allFresh_1 : decode cX0_allFresh 1 = .ok (.istore_n 1, 1) := by decide +kernel
theorem dX0_allFresh_2 : decode cX0_allFresh 2 = .ok (.iconst 0, 1) := by decide +kernel
theorem dX0_allFresh_3 : decode cX0_allFresh 3 = .ok (.istore_n 2, 1) := by decide +kernel
theorem dX0_allFresh_4 : decode cX0_allFresh 4 = .ok (.iload_n 2, 1) := by decide +kernel
theorem dX0_allFresh_5 : decode cX0_allFresh 5 = .ok (.bipush 16, 2) := by decide +kernel
theorem dX0_allFresh_7 : decode cX0_allFresh 7 = .ok (.if_icmp .ge 22, 3) := by decide +kernel
theorem dX0_allFresh_10 : decode cX0_allFresh 10 = .ok (.aload_n 0, 1) := by decide +kernel
theorem dX0_allFresh_11 : decode cX0_allFresh 11 = .ok (.getfield 9, 3) := by decide +kernel
theorem dX0_allFresh_14 : decode cX0_allFresh 14 = .ok (.iload_n 2, 1) := by decide +kernel
theorem dX0_allFresh_15 : decode cX0_allFresh 15 = .ok (.iaload, 1) := by decide +kernel
theorem dX0_allFresh_16 : decode cX0_allFresh 16 = .ok (.iconst 1, 1) := by decide +kernel
theorem dX0_allFresh_17 : decode cX0_allFresh 17 = .ok (.if_icmp .ne 6, 3) := by decide +kernel
theorem dX0_allFresh_20 : decode cX0_allFresh 20 = .ok (.iinc 1 1, 3) := by decide +kernel
theorem dX0_allFresh_23 : decode cX0_allFresh 23 = .ok (.iinc 2 1, 3) := by decide +kernel
theorem dX0_allFresh_26 : decode cX0_allFresh 26 = .ok (.goto (-22), 3) := by decide +kernel
theorem dX0_allFresh_29 : decode cX0_allFresh 29 = .ok (.iload_n 1, 1) := by decide +kernel
theorem dX0_allFresh_30 : decode cX0_allFresh 30 = .ok (.ireturn, 1) := by decide +kernel
set_option maxRecDepth 20000 in
theorem ggX0_hasRoom_X0_longestUnused : GoodIn wsX0_hasRoom wsX0_longestUnused := goodIn_r _ [6, 7, 8, 9, 10, 11, 12, 13, 14, 15, 16, 17, 18, 19, 20] (by decide +kernel) (by decide +kernel)
set_option maxRecDepth 20000 in
theorem gX0_hasRoom_X0_longestUnused : GoodIn wsX0_hasRoom (wsV RX0 59 RX0 yX0_longestUnused wsX0_longestUnused) := goodIn_app (goodIn_of _ (by decide +kernel)) ggX0_hasRoom_X0_longestUnused
theorem dX0_hasRoom_0 : decode cX0_hasRoom 0 = .ok (.aload_n 0, 1) := by decide +kernel
theorem dX0_hasRoom_1 : decode cX0_hasRoom 1 = .ok (.getfield 41, 3) := by decide +kernel
theorem dX0_hasRoom_4 : decode cX0_hasRoom 4 = .ok (.iconst 5, 1) := by decide +kernel
theorem dX0_hasRoom_5 : decode cX0_hasRoom 5 = .ok (.if_icmp .lt 11, 3) := by decide +kernel
theorem dX0_hasRoom_8 : decode cX0_hasRoom 8 = .ok (.aload_n 0, 1) := by decide +kernel
theorem dX0_hasRoom_9 : decode cX0_hasRoom 9 = .ok (.invokevirtual 59, 3) := by decide +kernel
theorem dX0_hasRoom_12 : decode cX0_hasRoom 12 = .ok (.iconst (-1), 1) := by decide +kernel
theorem dX0_hasRoom_13 : decode cX0_hasRoom 13 = .ok (.if_icmp .eq 7, 3) := by decide +kernel
theorem dX0_hasRoom_16 : decode cX0_hasRoom 16 = .ok (.iconst 1, 1) := by decide +kernel
theorem dX0_hasRoom_17 : decode cX0_hasRoom 17 = .ok (.goto 4, 3) := by decide +kernel
theorem dX0_hasRoom_20 : decode cX0_hasRoom 20 = .ok (.iconst 0, 1) := by decide +kernel
theorem dX0_hasRoom_21 : decode cX0_hasRoom 21 = .ok (.ireturn, 1) := by decide +kernel
theorem dX0_longestUnused_0 : decode cX0_longestUnused 0 = .ok (.iconst (-1), 1) := by decide +kernel
theorem dX0_longestUnused_1 : decode cX0_longestUnused 1 = .ok (.istore_n 1, 1) := by decide +kernel
theorem dX0_longestUnused_2 : decode cX0_longestUnused 2 = .ok (.iconst 0, 1) := by decide +kernel
theorem dX0_longestUnused_3 : decode cX0_longestUnused 3 = .ok (.istore_n 2, 1) := by decide +kernel
theorem dX0_longestUnused_4 : decode cX0_longestUnused 4 = .ok (.iload_n 2, 1) := by decide +kernel
theorem dX0_longestUnused_5 : decode cX0_longestUnused 5 = .ok (.bipush 16, 2) := by decide +kernel
theorem dX0_longestUnused_7 : decode cX0_longestUnused 7 = .ok (.if_icmp .ge 41, 3) := by decide +kernel
theorem dX0_longestUnused_10 : decode cX0_longestUnused 10 = .ok (.aload_n 0, 1) := by decide +kernel
theorem dX0_longestUnused_11 : decode cX0_longestUnused 11 = .ok (.getfield 9, 3) := by decide +kernel
theorem dX0_longestUnused_14 : decode cX0_longestUnused 14 = .ok (.iload_n 2, 1) := by decide +kernel
theorem dX0_longestUnused_15 : decode cX0_longestUnused 15 = .ok (.iaload, 1) := by decide +kernel
theorem dX0_longestUnused_16 : decode cX0_longestUnused 16 = .ok (.iconst 2, 1) := by decide +kernel
theorem dX0_longestUnused_17 : decode cX0_longestUnused 17 = .ok (.if_icmp .ne 25, 3) := by decide +kernel
theorem dX0_longestUnused_20 : decode cX0_longestUnused 20 = .ok (.iload_n 1, 1) := by decide +kernel
theorem dX0_longestUnused_21 : decode cX0_longestUnused 21 = .ok (.iconst (-1), 1) := by decide +kernel
theorem dX0_longestUnused_22 : decode cX0_longestUnused 22 = .ok (.if_icmp .eq 18, 3) := by decide +kernel
theorem dX0_longestUnused_25 : decode cX0_longestUnused 25 = .ok (.aload_n 0, 1) := by decide +kernel
theorem dX0_longestUnused_26 : decode cX0_longestUnused 26 = .ok (.getfield 24, 3) := by decide +kernel
theorem dX0_longestUnused_29 : decode cX0_longestUnused 29 = .ok (.iload_n 2, 1) := by decide +kernel
theorem dX0_longestUnused_30 : decode cX0_longestUnused 30 = .ok (.iaload, 1) := by decide +kernel
theorem dX0_longestUnused_31 : decode cX0_longestUnused 31 = .ok (.aload_n 0, 1) := by decide +kernel
theorem dX0_longestUnused_32 : decode cX0_longestUnused 32 = .ok (.getfield 24, 3) := by decide +kernel
theorem dX0_longestUnused_35 : decode cX0_longestUnused 35 = .ok (.iload_n 1, 1) := by decide +kernel
theorem dX0_longestUnused_36 : decode cX0_longestUnused 36 = .ok (.iaload, 1) := by decide +kernel
theorem dX0_longestUnused_37 : decode cX0_longestUnused 37 = .ok (.if_icmp .ge 5, 3) := by decide +kernel
theorem dX0_longestUnused_40 : decode cX0_longestUnused 40 = .ok (.iload_n 2, 1) := by decide +kernel
theorem dX0_longestUnused_41 : decode cX0_longestUnused 41 = .ok (.istore_n 1, 1) := by decide +kernel
theorem dX0_longestUnused_42 : decode cX0_longestUnused 42 = .ok (.iinc 2 1, 3) := by decide +kernel
theorem dX0_longestUnused_45 : decode cX0_longestUnused 45 = .ok (.goto (-41), 3) := by decide +kernel
theorem dX0_longestUnused_48 : decode cX0_longestUnused 48 = .ok (.iload_n 1, 1) := by decide +kernel
theorem dX0_longestUnused_49 : decode cX0_longestUnused 49 = .ok (.ireturn, 1) := by decide +kernel
set_option maxRecDepth 20000 in
theorem ggX0_come_X0_longestUnused : GoodIn wsX0_come wsX0_longestUnused := goodIn_r _ [8, 9, 3, 39, 40, 41, 42, 43, 44, 45, 46, 47, 48, 49, 50] (by decide +kernel) (by decide +kernel)
set_option maxRecDepth 20000 in
theorem gX0_come_X0_longestUnused : GoodIn wsX0_come (wsV RX0 59 RX0 yX0_longestUnused wsX0_longestUnused) := goodIn_app (goodIn_of _ (by decide +kernel)) ggX0_come_X0_longestUnused
set_option maxRecDepth 20000 in
theorem ggX0_come_X0_remove : GoodIn wsX0_come wsX0_remove := goodIn_r _ [13, 14, 15, 9, 1, 16, 17, 18, 19, 20, 7, 21, 22, 23, 24, 25, 26, 27, 28, 29, 30, 31, 32, 39, 40, 41, 42, 43, 44, 45, 46, 47, 48, 49, 50, 51, 52, 53] (by decide +kernel) (by decide +kernel)
set_option maxRecDepth 20000 in
theorem gX0_come_X0_remove : GoodIn wsX0_come (wsV RX0 63 RX0 yX0_remove wsX0_remove) := goodIn_app (goodIn_of _ (by decide +kernel)) ggX0_come_X0_remove
set_option maxRecDepth 20000 in
theorem ggX0_come_X0_become : GoodIn wsX0_come wsX0_become := goodIn_r _ [36, 9, 37, 38, 39, 40, 41, 42, 43, 44, 45, 46, 47, 48, 49, 50] (by decide +kernel) (by decide +kernel)
set_option maxRecDepth 20000 in
theorem gX0_come_X0_become : GoodIn wsX0_come (wsV RX0 67 RX0 yX0_become wsX0_become) := goodIn_app (goodIn_of _ (by decide +kernel)) ggX0_come_X0_become
theorem dX0_come_0 : decode cX0_come 0 = .ok (.aload_n 0, 1) := by decide +kernel
theorem dX0_come_1 : decode cX0_come 1 = .ok (.getfield 41, 3) := by decide +kernel
theorem dX0_come_4 : decode cX0_come 4 = .ok (.iconst 5, 1) := by decide +kernel
theorem dX0_come_5 : decode cX0_come 5 = .ok (.if_icmp .lt 11, 3) := by decide +kernel
theorem dX0_come_8 : decode cX0_come 8 = .ok (.aload_n 0, 1) := by decide +kernel
theorem dX0_come_9 : decode cX0_come 9 = .ok (.aload_n 0, 1) := by decide +kernel
theorem dX0_come_10 : decode cX0_come 10 = .ok (.invokevirtual 59, 3) := by decide +kernel
theorem dX0_come_13 : decode cX0_come 13 = .ok (.invokevirtual 63, 3) := by decide +kernel
theorem dX0_come_16 : decode cX0_come 16 = .ok (.aload_n 0, 1) := by decide +kernel
theorem dX0_come_17 : decode cX0_come 17 = .ok (.dup, 1) := by decide +kernel
theorem dX0_come_18 : decode cX0_come 18 = .ok (.getfield 41, 3) := by decide +kernel
theorem dX0_come_21 : decode cX0_come 21 = .ok (.iconst 1, 1) := by decide +kernel
theorem dX0_come_22 : decode cX0_come 22 = .ok (.iadd, 1) := by decide +kernel
theorem dX0_come_23 : decode cX0_come 23 = .ok (.putfield 41, 3) := by decide +kernel
theorem dX0_come_26 : decode cX0_come 26 = .ok (.aload_n 0, 1) := by decide +kernel
theorem dX0_come_27 : decode cX0_come 27 = .ok (.getfield 15, 3) := by decide +kernel
theorem dX0_come_30 : decode cX0_come 30 = .ok (.iload_n 1, 1) := by decide +kernel
theorem dX0_come_31 : decode cX0_come 31 = .ok (.iload_n 3, 1) := by decide +kernel
theorem dX0_come_32 : decode cX0_come 32 = .ok (.iastore, 1) := by decide +kernel
theorem dX0_come_33 : decode cX0_come 33 = .ok (.aload_n 0, 1) := by decide +kernel
theorem dX0_come_34 : decode cX0_come 34 = .ok (.getfield 24, 3) := by decide +kernel
theorem dX0_come_37 : decode cX0_come 37 = .ok (.iload_n 1, 1) := by decide +kernel
theorem dX0_come_38 : decode cX0_come 38 = .ok (.iload 4, 2) := by decide +kernel
theorem dX0_come_40 : decode cX0_come 40 = .ok (.iastore, 1) := by decide +kernel
theorem dX0_come_41 : decode cX0_come 41 = .ok (.aload_n 0, 1) := by decide +kernel
theorem dX0_come_42 : decode cX0_come 42 = .ok (.iload_n 1, 1) := by decide +kernel
theorem dX0_come_43 : decode cX0_come 43 = .ok (.iload_n 2, 1) := by decide +kernel
theorem dX0_come_44 : decode cX0_come 44 = .ok (.iconst (-1), 1) := by decide +kernel
theorem dX0_come_45 : decode cX0_come 45 = .ok (.invokevirtual 67, 3) := by decide +kernel
theorem dX0_come_48 : decode cX0_come 48 = .ok (.return_, 1) := by decide +kernel
set_option maxRecDepth 20000 in
theorem ggX0_remove_X0_has : GoodIn wsX0_remove wsX0_has := goodIn_r _ [11, 3, 23, 24, 25, 26, 27, 28, 29, 30, 31, 32, 33, 34] (by decide +kernel) (by decide +kernel)
set_option maxRecDepth 20000 in
theorem gX0_remove_X0_has : GoodIn wsX0_remove (wsV RX0 51 RX0 yX0_has wsX0_has) := goodIn_app (goodIn_of _ (by decide +kernel)) ggX0_remove_X0_has
set_option maxRecDepth 20000 in
theorem ggX0_remove_X1_forget : GoodIn wsX0_remove wsX1_forget := goodIn_r _ [15, 16, 17, 18, 19, 20, 13, 21, 22, 35, 36, 37] (by decide +kernel) (by decide +kernel)
set_option maxRecDepth 20000 in
theorem gX0_remove_X1_forget_n71 : GoodIn wsX0_remove (wsX1_forget) := ggX0_remove_X1_forget
theorem dX0_remove_0 : decode cX0_remove 0 = .ok (.aload_n 0, 1) := by decide +kernel
theorem dX0_remove_1 : decode cX0_remove 1 = .ok (.iload_n 1, 1) := by decide +kernel
theorem dX0_remove_2 : decode cX0_remove 2 = .ok (.invokevirtual 51, 3) := by decide +kernel
theorem dX0_remove_5 : decode cX0_remove 5 = .ok (.ifCond .ne 4, 3) := by decide +kernel
theorem dX0_remove_8 : decode cX0_remove 8 = .ok (.return_, 1) := by decide +kernel
theorem dX0_remove_9 : decode cX0_remove 9 = .ok (.aload_n 0, 1) := by decide +kernel
theorem dX0_remove_10 : decode cX0_remove 10 = .ok (.dup, 1) := by decide +kernel
theorem dX0_remove_11 : decode cX0_remove 11 = .ok (.getfield 45, 3) := by decide +kernel
theorem dX0_remove_14 : decode cX0_remove 14 = .ok (.aload_n 0, 1) := by decide +kernel
theorem dX0_remove_15 : decode cX0_remove 15 = .ok (.getfield 27, 3) := by decide +kernel
theorem dX0_remove_18 : decode cX0_remove 18 = .ok (.iload_n 1, 1) := by decide +kernel
theorem dX0_remove_19 : decode cX0_remove 19 = .ok (.iaload, 1) := by decide +kernel
theorem dX0_remove_20 : decode cX0_remove 20 = .ok (.iadd, 1) := by decide +kernel
theorem dX0_remove_21 : decode cX0_remove 21 = .ok (.putfield 45, 3) := by decide +kernel
theorem dX0_remove_24 : decode cX0_remove 24 = .ok (.aload_n 0, 1) := by decide +kernel
theorem dX0_remove_25 : decode cX0_remove 25 = .ok (.getfield 27, 3) := by decide +kernel
theorem dX0_remove_28 : decode cX0_remove 28 = .ok (.iload_n 1, 1) := by decide +kernel
theorem dX0_remove_29 : decode cX0_remove 29 = .ok (.iconst 0, 1) := by decide +kernel
theorem dX0_remove_30 : decode cX0_remove 30 = .ok (.iastore, 1) := by decide +kernel
theorem dX0_remove_31 : decode cX0_remove 31 = .ok (.aload_n 0, 1) := by decide +kernel
theorem dX0_remove_32 : decode cX0_remove 32 = .ok (.getfield 9, 3) := by decide +kernel
theorem dX0_remove_35 : decode cX0_remove 35 = .ok (.iload_n 1, 1) := by decide +kernel
theorem dX0_remove_36 : decode cX0_remove 36 = .ok (.iconst (-1), 1) := by decide +kernel
theorem dX0_remove_37 : decode cX0_remove 37 = .ok (.iastore, 1) := by decide +kernel
theorem dX0_remove_38 : decode cX0_remove 38 = .ok (.aload_n 0, 1) := by decide +kernel
theorem dX0_remove_39 : decode cX0_remove 39 = .ok (.dup, 1) := by decide +kernel
theorem dX0_remove_40 : decode cX0_remove 40 = .ok (.getfield 41, 3) := by decide +kernel
theorem dX0_remove_43 : decode cX0_remove 43 = .ok (.iconst 1, 1) := by decide +kernel
theorem dX0_remove_44 : decode cX0_remove 44 = .ok (.isub, 1) := by decide +kernel
theorem dX0_remove_45 : decode cX0_remove 45 = .ok (.putfield 41, 3) := by decide +kernel
theorem dX0_remove_48 : decode cX0_remove 48 = .ok (.aload_n 0, 1) := by decide +kernel
theorem dX0_remove_49 : decode cX0_remove 49 = .ok (.dup, 1) := by decide +kernel
theorem dX0_remove_50 : decode cX0_remove 50 = .ok (.getfield 48, 3) := by decide +kernel
theorem dX0_remove_53 : decode cX0_remove 53 = .ok (.iconst 1, 1) := by decide +kernel
theorem dX0_remove_54 : decode cX0_remove 54 = .ok (.iadd, 1) := by decide +kernel
theorem dX0_remove_55 : decode cX0_remove 55 = .ok (.putfield 48, 3) := by decide +kernel
theorem dX0_remove_58 : decode cX0_remove 58 = .ok (.aload_n 0, 1) := by decide +kernel
theorem dX0_remove_59 : decode cX0_remove 59 = .ok (.getfield 37, 3) := by decide +kernel
theorem dX0_remove_62 : decode cX0_remove 62 = .ok (.iload_n 1, 1) := by decide +kernel
theorem dX0_remove_63 : decode cX0_remove 63 = .ok (.invokevirtual 71, 3) := by decide +kernel
theorem dX0_remove_66 : decode cX0_remove 66 = .ok (.return_, 1) := by decide +kernel
theorem dX0_become_0 : decode cX0_become 0 = .ok (.aload_n 0, 1) := by decide +kernel
theorem dX0_become_1 : decode cX0_become 1 = .ok (.getfield 9, 3) := by decide +kernel
theorem dX0_become_4 : decode cX0_become 4 = .ok (.iload_n 1, 1) := by decide +kernel
theorem dX0_become_5 : decode cX0_become 5 = .ok (.iload_n 2, 1) := by decide +kernel
theorem dX0_become_6 : decode cX0_become 6 = .ok (.iastore, 1) := by decide +kernel
theorem dX0_become_7 : decode cX0_become 7 = .ok (.aload_n 0, 1) := by decide +kernel
theorem dX0_become_8 : decode cX0_become 8 = .ok (.getfield 18, 3) := by decide +kernel
theorem dX0_become_11 : decode cX0_become 11 = .ok (.iload_n 1, 1) := by decide +kernel
theorem dX0_become_12 : decode cX0_become 12 = .ok (.iload_n 3, 1) := by decide +kernel
theorem dX0_become_13 : decode cX0_become 13 = .ok (.iastore, 1) := by decide +kernel
theorem dX0_become_14 : decode cX0_become 14 = .ok (.aload_n 0, 1) := by decide +kernel
theorem dX0_become_15 : decode cX0_become 15 = .ok (.getfield 21, 3) := by decide +kernel
theorem dX0_become_18 : decode cX0_become 18 = .ok (.iload_n 1, 1) := by decide +kernel
theorem dX0_become_19 : decode cX0_become 19 = .ok (.iconst 0, 1) := by decide +kernel
theorem dX0_become_20 : decode cX0_become 20 = .ok (.iastore, 1) := by decide +kernel
theorem dX0_become_21 : decode cX0_become 21 = .ok (.return_, 1) := by decide +kernel
set_option maxRecDepth 20000 in
theorem ggX0_becomeFresh_X0_become : GoodIn wsX0_becomeFresh wsX0_become := goodIn_r _ [5, 6, 7, 8, 9, 10, 11, 12, 13, 14, 15, 16, 17, 18, 19, 20] (by decide +kernel) (by decide +kernel)
set_option maxRecDepth 20000 in
theorem gX0_becomeFresh_X0_become : GoodIn wsX0_becomeFresh (wsV RX0 67 RX0 yX0_become wsX0_become) := goodIn_app (goodIn_of _ (by decide +kernel)) ggX0_becomeFresh_X0_become
theorem dX0_becomeFresh_0 : decode cX0_becomeFresh 0 = .ok (.aload_n 0, 1) := by decide +kernel
theorem dX0_becomeFresh_1 : decode cX0_becomeFresh 1 = .ok (.iload_n 1, 1) := by decide +kernel
theorem dX0_becomeFresh_2 : decode cX0_becomeFresh 2 = .ok (.iconst 1, 1) := by decide +kernel
theorem dX0_becomeFresh_3 : decode cX0_becomeFresh 3 = .ok (.iload_n 2, 1) := by decide +kernel
theorem dX0_becomeFresh_4 : decode cX0_becomeFresh 4 = .ok (.bipush 30, 2) := by decide +kernel
theorem dX0_becomeFresh_6 : decode cX0_becomeFresh 6 = .ok (.iadd, 1) := by decide +kernel
theorem dX0_becomeFresh_7 : decode cX0_becomeFresh 7 = .ok (.invokevirtual 67, 3) := by decide +kernel
theorem dX0_becomeFresh_10 : decode cX0_becomeFresh 10 = .ok (.return_, 1) := by decide +kernel
set_option maxRecDepth 20000 in
theorem ggX0_becomeStale_X0_become : GoodIn wsX0_becomeStale wsX0_become := goodIn_r _ [5, 6, 7, 8, 9, 10, 11, 12, 13, 14, 15, 16, 17, 18, 19, 20] (by decide +kernel) (by decide +kernel)
set_option maxRecDepth 20000 in
theorem gX0_becomeStale_X0_become : GoodIn wsX0_becomeStale (wsV RX0 67 RX0 yX0_become wsX0_become) := goodIn_app (goodIn_of _ (by decide +kernel)) ggX0_becomeStale_X0_become
theorem dX0_becomeStale_0 : decode cX0_becomeStale 0 = .ok (.aload_n 0, 1) := by decide +kernel
theorem dX0_becomeStale_1 : decode cX0_becomeStale 1 = .ok (.iload_n 1, 1) := by decide +kernel
theorem dX0_becomeStale_2 : decode cX0_becomeStale 2 = .ok (.iconst 2, 1) := by decide +kernel
theorem dX0_becomeStale_3 : decode cX0_becomeStale 3 = .ok (.iconst (-1), 1) := by decide +kernel
theorem dX0_becomeStale_4 : decode cX0_becomeStale 4 = .ok (.invokevirtual 67, 3) := by decide +kernel
theorem dX0_becomeStale_7 : decode cX0_becomeStale 7 = .ok (.return_, 1) := by decide +kernel
set_option maxRecDepth 20000 in
theorem ggX0_takeLetter_X0_has : GoodIn wsX0_takeLetter wsX0_has := goodIn_r _ [7, 2, 70, 71, 72, 73, 74, 75, 76, 77, 78, 79, 80, 81] (by decide +kernel) (by decide +kernel)
set_option maxRecDepth 20000 in
theorem gX0_takeLetter_X0_has : GoodIn wsX0_takeLetter (wsV RX0 51 RX0 yX0_has wsX0_has) := goodIn_app (goodIn_of _ (by decide +kernel)) ggX0_takeLetter_X0_has
set_option maxRecDepth 20000 in
theorem ggX0_takeLetter_X0_hasRoom : GoodIn wsX0_takeLetter wsX0_hasRoom := goodIn_r _ [11, 12, 13, 14, 15, 6, 16, 2, 1, 70, 71, 72, 73, 74, 75, 76, 77, 78, 79, 80, 81] (by decide +kernel) (by decide +kernel)
set_option maxRecDepth 20000 in
theorem gX0_takeLetter_X0_hasRoom : GoodIn wsX0_takeLetter (wsV RX0 76 RX0 yX0_hasRoom wsX0_hasRoom) := goodIn_app (goodIn_of _ (by decide +kernel)) ggX0_takeLetter_X0_hasRoom
set_option maxRecDepth 20000 in
theorem ggX0_takeLetter_X0_come : GoodIn wsX0_takeLetter wsX0_come := goodIn_r _ [20, 12, 21, 1, 13, 14, 15, 6, 16, 2, 22, 23, 24, 25, 26, 27, 28, 29, 3, 4, 5, 7, 30, 31, 32, 33, 34, 35, 36, 37, 38, 39, 40, 41, 42, 43, 44, 45, 46, 70, 71, 72, 73, 74, 75, 76, 77, 78, 79, 80, 81, 82, 83, 84] (by decide +kernel) (by decide +kernel)
set_option maxRecDepth 20000 in
theorem gX0_takeLetter_X0_come : GoodIn wsX0_takeLetter (wsV RX0 80 RX0 yX0_come wsX0_come) := goodIn_app (goodIn_of _ (by decide +kernel)) ggX0_takeLetter_X0_come
set_option maxRecDepth 20000 in
theorem ggX0_takeLetter_X0_ask : GoodIn wsX0_takeLetter wsX0_ask := goodIn_r _ [50, 51, 46, 45, 52, 53, 54, 55, 56, 57, 58, 59, 60, 70, 71, 72, 73, 74, 75, 76, 77, 78, 79, 80, 81, 85, 86, 87, 88, 89] (by decide +kernel) (by decide +kernel)
set_option maxRecDepth 20000 in
theorem gX0_takeLetter_X0_ask : GoodIn wsX0_takeLetter (wsV RX0 84 RX0 yX0_ask wsX0_ask) := goodIn_app (goodIn_of _ (by decide +kernel)) ggX0_takeLetter_X0_ask
set_option maxRecDepth 20000 in
theorem ggX0_takeLetter_X0_hold : GoodIn wsX0_takeLetter wsX0_hold := goodIn_r _ [64, 27, 65, 26, 70, 71, 72, 73, 74, 75, 76, 77, 78, 79, 80, 81] (by decide +kernel) (by decide +kernel)
set_option maxRecDepth 20000 in
theorem gX0_takeLetter_X0_hold : GoodIn wsX0_takeLetter (wsV RX0 88 RX0 yX0_hold wsX0_hold) := goodIn_app (goodIn_of _ (by decide +kernel)) ggX0_takeLetter_X0_hold
set_option maxRecDepth 20000 in
theorem ggX0_takeLetter_X0_letterGoesOut : GoodIn wsX0_takeLetter wsX0_letterGoesOut := goodIn_r _ [69, 51, 21, 52, 53, 54, 55, 56, 57, 58, 59, 60, 70, 71, 72, 73, 74, 75, 76, 77, 78, 79, 80, 81, 85, 86, 87, 88, 89] (by decide +kernel) (by decide +kernel)
set_option maxRecDepth 20000 in
theorem gX0_takeLetter_X0_letterGoesOut : GoodIn wsX0_takeLetter (wsV RX0 92 RX0 yX0_letterGoesOut wsX0_letterGoesOut) := goodIn_app (goodIn_of _ (by decide +kernel)) ggX0_takeLetter_X0_letterGoesOut
set_option maxRecDepth 20000 in
theorem ggX0_takeLetter_X0_become : GoodIn wsX0_takeLetter wsX0_become := goodIn_r _ [44, 2, 45, 46, 70, 71, 72, 73, 74, 75, 76, 77, 78, 79, 80, 81] (by decide +kernel) (by decide +kernel)
set_option maxRecDepth 20000 in
theorem gX0_takeLetter_X0_become : GoodIn wsX0_takeLetter (wsV RX0 67 RX0 yX0_become wsX0_become) := goodIn_app (goodIn_of _ (by decide +kernel)) ggX0_takeLetter_X0_become
theorem dX0_takeLetter_0 : decode cX0_takeLetter 0 = .ok (.aload_n 0, 1) := by decide +kernel
theorem dX0_takeLetter_1 : decode cX0_takeLetter 1 = .ok (.iload_n 1, 1) := by decide +kernel
theorem dX0_takeLetter_2 : decode cX0_takeLetter 2 = .ok (.invokevirtual 51, 3) := by decide +kernel
theorem dX0_takeLetter_5 : decode cX0_takeLetter 5 = .ok (.ifCond .ne 27, 3) := by decide +kernel
theorem dX0_takeLetter_8 : decode cX0_takeLetter 8 = .ok (.aload_n 0, 1) := by decide +kernel
theorem dX0_takeLetter_9 : decode cX0_takeLetter 9 = .ok (.invokevirtual 76, 3) := by decide +kernel
theorem dX0_takeLetter_12 : decode cX0_takeLetter 12 = .ok (.ifCond .ne 6, 3) := by decide +kernel
theorem dX0_takeLetter_15 : decode cX0_takeLetter 15 = .ok (.bipush (-104), 2) := by decide +kernel
theorem dX0_takeLetter_17 : decode cX0_takeLetter 17 = .ok (.ireturn, 1) := by decide +kernel
theorem dX0_takeLetter_18 : decode cX0_takeLetter 18 = .ok (.aload_n 0, 1) := by decide +kernel
theorem dX0_takeLetter_19 : decode cX0_takeLetter 19 = .ok (.iload_n 1, 1) := by decide +kernel
theorem dX0_takeLetter_20 : decode cX0_takeLetter 20 = .ok (.iconst 0, 1) := by decide +kernel
theorem dX0_takeLetter_21 : decode cX0_takeLetter 21 = .ok (.iconst 0, 1) := by decide +kernel
theorem dX0_takeLetter_22 : decode cX0_takeLetter 22 = .ok (.iload_n 3, 1) := by decide +kernel
theorem dX0_takeLetter_23 : decode cX0_takeLetter 23 = .ok (.invokevirtual 80, 3) := by decide +kernel
theorem dX0_takeLetter_26 : decode cX0_takeLetter 26 = .ok (.aload_n 0, 1) := by decide +kernel
theorem dX0_takeLetter_27 : decode cX0_takeLetter 27 = .ok (.iload_n 1, 1) := by decide +kernel
theorem dX0_takeLetter_28 : decode cX0_takeLetter 28 = .ok (.iload_n 3, 1) := by decide +kernel
theorem dX0_takeLetter_29 : decode cX0_takeLetter 29 = .ok (.invokevirtual 84, 3) := by decide +kernel
theorem dX0_takeLetter_32 : decode cX0_takeLetter 32 = .ok (.aload_n 0, 1) := by decide +kernel
theorem dX0_takeLetter_33 : decode cX0_takeLetter 33 = .ok (.getfield 24, 3) := by decide +kernel
theorem dX0_takeLetter_36 : decode cX0_takeLetter 36 = .ok (.iload_n 1, 1) := by decide +kernel
theorem dX0_takeLetter_37 : decode cX0_takeLetter 37 = .ok (.iload_n 3, 1) := by decide +kernel
theorem dX0_takeLetter_38 : decode cX0_takeLetter 38 = .ok (.iastore, 1) := by decide +kernel
theorem dX0_takeLetter_39 : decode cX0_takeLetter 39 = .ok (.aload_n 0, 1) := by decide +kernel
theorem dX0_takeLetter_40 : decode cX0_takeLetter 40 = .ok (.getfield 9, 3) := by decide +kernel
theorem dX0_takeLetter_43 : decode cX0_takeLetter 43 = .ok (.iload_n 1, 1) := by decide +kernel
theorem dX0_takeLetter_44 : decode cX0_takeLetter 44 = .ok (.iaload, 1) := by decide +kernel
theorem dX0_takeLetter_45 : decode cX0_takeLetter 45 = .ok (.ifCond .ne 10, 3) := by decide +kernel
theorem dX0_takeLetter_48 : decode cX0_takeLetter 48 = .ok (.aload_n 0, 1) := by decide +kernel
theorem dX0_takeLetter_49 : decode cX0_takeLetter 49 = .ok (.iload_n 1, 1) := by decide +kernel
theorem dX0_takeLetter_50 : decode cX0_takeLetter 50 = .ok (.iload_n 2, 1) := by decide +kernel
theorem dX0_takeLetter_51 : decode cX0_takeLetter 51 = .ok (.invokevirtual 88, 3) := by decide +kernel
theorem dX0_takeLetter_54 : decode cX0_takeLetter 54 = .ok (.ireturn, 1) := by decide +kernel
theorem dX0_takeLetter_55 : decode cX0_takeLetter 55 = .ok (.aload_n 0, 1) := by decide +kernel
theorem dX0_takeLetter_56 : decode cX0_takeLetter 56 = .ok (.iload_n 1, 1) := by decide +kernel
theorem dX0_takeLetter_57 : decode cX0_takeLetter 57 = .ok (.iload_n 2, 1) := by decide +kernel
theorem dX0_takeLetter_58 : decode cX0_takeLetter 58 = .ok (.iload_n 3, 1) := by decide +kernel
theorem dX0_takeLetter_59 : decode cX0_takeLetter 59 = .ok (.invokevirtual 92, 3) := by decide +kernel
theorem dX0_takeLetter_62 : decode cX0_takeLetter 62 = .ok (.aload_n 0, 1) := by decide +kernel
theorem dX0_takeLetter_63 : decode cX0_takeLetter 63 = .ok (.getfield 9, 3) := by decide +kernel
theorem dX0_takeLetter_66 : decode cX0_takeLetter 66 = .ok (.iload_n 1, 1) := by decide +kernel
theorem dX0_takeLetter_67 : decode cX0_takeLetter 67 = .ok (.iaload, 1) := by decide +kernel
theorem dX0_takeLetter_68 : decode cX0_takeLetter 68 = .ok (.iconst 2, 1) := by decide +kernel
theorem dX0_takeLetter_69 : decode cX0_takeLetter 69 = .ok (.if_icmp .ne 12, 3) := by decide +kernel
theorem dX0_takeLetter_72 : decode cX0_takeLetter 72 = .ok (.aload_n 0, 1) := by decide +kernel
theorem dX0_takeLetter_73 : decode cX0_takeLetter 73 = .ok (.iload_n 1, 1) := by decide +kernel
theorem dX0_takeLetter_74 : decode cX0_takeLetter 74 = .ok (.iconst 3, 1) := by decide +kernel
theorem dX0_takeLetter_75 : decode cX0_takeLetter 75 = .ok (.iload_n 3, 1) := by decide +kernel
theorem dX0_takeLetter_76 : decode cX0_takeLetter 76 = .ok (.iconst 5, 1) := by decide +kernel
theorem dX0_takeLetter_77 : decode cX0_takeLetter 77 = .ok (.iadd, 1) := by decide +kernel
theorem dX0_takeLetter_78 : decode cX0_takeLetter 78 = .ok (.invokevirtual 67, 3) := by decide +kernel
theorem dX0_takeLetter_81 : decode cX0_takeLetter 81 = .ok (.iconst 0, 1) := by decide +kernel
theorem dX0_takeLetter_82 : decode cX0_takeLetter 82 = .ok (.ireturn, 1) := by decide +kernel
theorem dX0_hold_0 : decode cX0_hold 0 = .ok (.iload_n 1, 1) := by decide +kernel
theorem dX0_hold_1 : decode cX0_hold 1 = .ok (.iconst 3, 1) := by decide +kernel
theorem dX0_hold_2 : decode cX0_hold 2 = .ok (.imul, 1) := by decide +kernel
theorem dX0_hold_3 : decode cX0_hold 3 = .ok (.istore_n 3, 1) := by decide +kernel
theorem dX0_hold_4 : decode cX0_hold 4 = .ok (.aload_n 0, 1) := by decide +kernel
theorem dX0_hold_5 : decode cX0_hold 5 = .ok (.getfield 27, 3) := by decide +kernel
theorem dX0_hold_8 : decode cX0_hold 8 = .ok (.iload_n 1, 1) := by decide +kernel
theorem dX0_hold_9 : decode cX0_hold 9 = .ok (.iaload, 1) := by decide +kernel
theorem dX0_hold_10 : decode cX0_hold 10 = .ok (.iconst 3, 1) := by decide +kernel
theorem dX0_hold_11 : decode cX0_hold 11 = .ok (.if_icmp .ge 29, 3) := by decide +kernel
theorem dX0_hold_14 : decode cX0_hold 14 = .ok (.aload_n 0, 1) := by decide +kernel
theorem dX0_hold_15 : decode cX0_hold 15 = .ok (.getfield 30, 3) := by decide +kernel
theorem dX0_hold_18 : decode cX0_hold 18 = .ok (.iload_n 3, 1) := by decide +kernel
theorem dX0_hold_19 : decode cX0_hold 19 = .ok (.aload_n 0, 1) := by decide +kernel
theorem dX0_hold_20 : decode cX0_hold 20 = .ok (.getfield 27, 3) := by decide +kernel
theorem dX0_hold_23 : decode cX0_hold 23 = .ok (.iload_n 1, 1) := by decide +kernel
theorem dX0_hold_24 : decode cX0_hold 24 = .ok (.iaload, 1) := by decide +kernel
theorem dX0_hold_25 : decode cX0_hold 25 = .ok (.iadd, 1) := by decide +kernel
theorem dX0_hold_26 : decode cX0_hold 26 = .ok (.iload_n 2, 1) := by decide +kernel
theorem dX0_hold_27 : decode cX0_hold 27 = .ok (.iastore, 1) := by decide +kernel
theorem dX0_hold_28 : decode cX0_hold 28 = .ok (.aload_n 0, 1) := by decide +kernel
theorem dX0_hold_29 : decode cX0_hold 29 = .ok (.getfield 27, 3) := by decide +kernel
theorem dX0_hold_32 : decode cX0_hold 32 = .ok (.iload_n 1, 1) := by decide +kernel
theorem dX0_hold_33 : decode cX0_hold 33 = .ok (.dup2, 1) := by decide +kernel
theorem dX0_hold_34 : decode cX0_hold 34 = .ok (.iaload, 1) := by decide +kernel
theorem dX0_hold_35 : decode cX0_hold 35 = .ok (.iconst 1, 1) := by decide +kernel
theorem dX0_hold_36 : decode cX0_hold 36 = .ok (.iadd, 1) := by decide +kernel
theorem dX0_hold_37 : decode cX0_hold 37 = .ok (.iastore, 1) := by decide +kernel
theorem dX0_hold_38 : decode cX0_hold 38 = .ok (.iconst 1, 1) := by decide +kernel
theorem dX0_hold_39 : decode cX0_hold 39 = .ok (.ireturn, 1) := by decide +kernel
theorem dX0_hold_40 : decode cX0_hold 40 = .ok (.iload_n 3, 1) := by decide +kernel
theorem dX0_hold_41 : decode cX0_hold 41 = .ok (.istore 4, 2) := by decide +kernel
theorem dX0_hold_43 : decode cX0_hold 43 = .ok (.iload 4, 2) := by decide +kernel
theorem dX0_hold_45 : decode cX0_hold 45 = .ok (.iload_n 3, 1) := by decide +kernel
theorem dX0_hold_46 : decode cX0_hold 46 = .ok (.iconst 3, 1) := by decide +kernel
theorem dX0_hold_47 : decode cX0_hold 47 = .ok (.iadd, 1) := by decide +kernel
theorem dX0_hold_48 : decode cX0_hold 48 = .ok (.iconst 1, 1) := by decide +kernel
theorem dX0_hold_49 : decode cX0_hold 49 = .ok (.isub, 1) := by decide +kernel
theorem dX0_hold_50 : decode cX0_hold 50 = .ok (.if_icmp .ge 25, 3) := by decide +kernel
theorem dX0_hold_53 : decode cX0_hold 53 = .ok (.aload_n 0, 1) := by decide +kernel
theorem dX0_hold_54 : decode cX0_hold 54 = .ok (.getfield 30, 3) := by decide +kernel
theorem dX0_hold_57 : decode cX0_hold 57 = .ok (.iload 4, 2) := by decide +kernel
theorem dX0_hold_59 : decode cX0_hold 59 = .ok (.aload_n 0, 1) := by decide +kernel
theorem dX0_hold_60 : decode cX0_hold 60 = .ok (.getfield 30, 3) := by decide +kernel
theorem dX0_hold_63 : decode cX0_hold 63 = .ok (.iload 4, 2) := by decide +kernel
theorem dX0_hold_65 : decode cX0_hold 65 = .ok (.iconst 1, 1) := by decide +kernel
theorem dX0_hold_66 : decode cX0_hold 66 = .ok (.iadd, 1) := by decide +kernel
theorem dX0_hold_67 : decode cX0_hold 67 = .ok (.iaload, 1) := by decide +kernel
theorem dX0_hold_68 : decode cX0_hold 68 = .ok (.iastore, 1) := by decide +kernel
theorem dX0_hold_69 : decode cX0_hold 69 = .ok (.iinc 4 1, 3) := by decide +kernel
theorem dX0_hold_72 : decode cX0_hold 72 = .ok (.goto (-29), 3) := by decide +kernel
theorem dX0_hold_75 : decode cX0_hold 75 = .ok (.aload_n 0, 1) := by decide +kernel
theorem dX0_hold_76 : decode cX0_hold 76 = .ok (.getfield 30, 3) := by decide +kernel
theorem dX0_hold_79 : decode cX0_hold 79 = .ok (.iload_n 3, 1) := by decide +kernel
theorem dX0_hold_80 : decode cX0_hold 80 = .ok (.iconst 3, 1) := by decide +kernel
theorem dX0_hold_81 : decode cX0_hold 81 = .ok (.iadd, 1) := by decide +kernel
theorem dX0_hold_82 : decode cX0_hold 82 = .ok (.iconst 1, 1) := by decide +kernel
theorem dX0_hold_83 : decode cX0_hold 83 = .ok (.isub, 1) := by decide +kernel
theorem dX0_hold_84 : decode cX0_hold 84 = .ok (.iload_n 2, 1) := by decide +kernel
theorem dX0_hold_85 : decode cX0_hold 85 = .ok (.iastore, 1) := by decide +kernel
theorem dX0_hold_86 : decode cX0_hold 86 = .ok (.aload_n 0, 1) := by decide +kernel
theorem dX0_hold_87 : decode cX0_hold 87 = .ok (.dup, 1) := by decide +kernel
theorem dX0_hold_88 : decode cX0_hold 88 = .ok (.getfield 45, 3) := by decide +kernel
theorem dX0_hold_91 : decode cX0_hold 91 = .ok (.iconst 1, 1) := by decide +kernel
theorem dX0_hold_92 : decode cX0_hold 92 = .ok (.iadd, 1) := by decide +kernel
theorem dX0_hold_93 : decode cX0_hold 93 = .ok (.putfield 45, 3) := by decide +kernel
theorem dX0_hold_96 : decode cX0_hold 96 = .ok (.iconst 2, 1) := by decide +kernel
theorem dX0_hold_97 : decode cX0_hold 97 = .ok (.ireturn, 1) := by decide +kernel
set_option maxRecDepth 20000 in
theorem ggX0_letterGoesOut_X2_add : GoodIn wsX0_letterGoesOut wsX2_add := goodIn_r _ [6, 7, 8, 9, 10, 11, 24, 25, 26, 27, 28] (by decide +kernel) (by decide +kernel)
set_option maxRecDepth 20000 in
theorem gX0_letterGoesOut_X2_add_n95 : GoodIn wsX0_letterGoesOut (wsX2_add) := ggX0_letterGoesOut_X2_add
theorem dX0_letterGoesOut_0 : decode cX0_letterGoesOut 0 = .ok (.aload_n 0, 1) := by decide +kernel
theorem dX0_letterGoesOut_1 : decode cX0_letterGoesOut 1 = .ok (.getfield 33, 3) := by decide +kernel
theorem dX0_letterGoesOut_4 : decode cX0_letterGoesOut 4 = .ok (.iconst 0, 1) := by decide +kernel
theorem dX0_letterGoesOut_5 : decode cX0_letterGoesOut 5 = .ok (.iload_n 1, 1) := by decide +kernel
theorem dX0_letterGoesOut_6 : decode cX0_letterGoesOut 6 = .ok (.aload_n 0, 1) := by decide +kernel
theorem dX0_letterGoesOut_7 : decode cX0_letterGoesOut 7 = .ok (.getfield 15, 3) := by decide +kernel
theorem dX0_letterGoesOut_10 : decode cX0_letterGoesOut 10 = .ok (.iload_n 1, 1) := by decide +kernel
theorem dX0_letterGoesOut_11 : decode cX0_letterGoesOut 11 = .ok (.iaload, 1) := by decide +kernel
theorem dX0_letterGoesOut_12 : decode cX0_letterGoesOut 12 = .ok (.iload_n 2, 1) := by decide +kernel
theorem dX0_letterGoesOut_13 : decode cX0_letterGoesOut 13 = .ok (.iload_n 3, 1) := by decide +kernel
theorem dX0_letterGoesOut_14 : decode cX0_letterGoesOut 14 = .ok (.invokevirtual 95, 3) := by decide +kernel
theorem dX0_letterGoesOut_17 : decode cX0_letterGoesOut 17 = .ok (.return_, 1) := by decide +kernel
set_option maxRecDepth 20000 in
theorem ggX0_heldGoOut_X0_letterGoesOut : GoodIn wsX0_heldGoOut wsX0_letterGoesOut := goodIn_r _ [7, 8, 9, 10, 11, 12, 13, 14, 15, 16, 17, 18, 19, 20, 21, 22, 23, 24, 25, 26, 27, 28, 29, 30, 31, 32, 33, 34, 35] (by decide +kernel) (by decide +kernel)
set_option maxRecDepth 20000 in
theorem gX0_heldGoOut_X0_letterGoesOut : GoodIn wsX0_heldGoOut (wsV RX0 92 RX0 yX0_letterGoesOut wsX0_letterGoesOut) := goodIn_app (goodIn_of _ (by decide +kernel)) ggX0_heldGoOut_X0_letterGoesOut
theorem dX0_heldGoOut_0 : decode cX0_heldGoOut 0 = .ok (.iload_n 1, 1) := by decide +kernel
theorem dX0_heldGoOut_1 : decode cX0_heldGoOut 1 = .ok (.iconst 3, 1) := by decide +kernel
theorem dX0_heldGoOut_2 : decode cX0_heldGoOut 2 = .ok (.imul, 1) := by decide +kernel
theorem dX0_heldGoOut_3 : decode cX0_heldGoOut 3 = .ok (.istore_n 3, 1) := by decide +kernel
theorem dX0_heldGoOut_4 : decode cX0_heldGoOut 4 = .ok (.iconst 0, 1) := by decide +kernel
theorem dX0_heldGoOut_5 : decode cX0_heldGoOut 5 = .ok (.istore 4, 2) := by decide +kernel
theorem dX0_heldGoOut_7 : decode cX0_heldGoOut 7 = .ok (.iload 4, 2) := by decide +kernel
theorem dX0_heldGoOut_9 : decode cX0_heldGoOut 9 = .ok (.aload_n 0, 1) := by decide +kernel
theorem dX0_heldGoOut_10 : decode cX0_heldGoOut 10 = .ok (.getfield 27, 3) := by decide +kernel
theorem dX0_heldGoOut_13 : decode cX0_heldGoOut 13 = .ok (.iload_n 1, 1) := by decide +kernel
theorem dX0_heldGoOut_14 : decode cX0_heldGoOut 14 = .ok (.iaload, 1) := by decide +kernel
theorem dX0_heldGoOut_15 : decode cX0_heldGoOut 15 = .ok (.if_icmp .ge 24, 3) := by decide +kernel
theorem dX0_heldGoOut_18 : decode cX0_heldGoOut 18 = .ok (.aload_n 0, 1) := by decide +kernel
theorem dX0_heldGoOut_19 : decode cX0_heldGoOut 19 = .ok (.iload_n 1, 1) := by decide +kernel
theorem dX0_heldGoOut_20 : decode cX0_heldGoOut 20 = .ok (.aload_n 0, 1) := by decide +kernel
theorem dX0_heldGoOut_21 : decode cX0_heldGoOut 21 = .ok (.getfield 30, 3) := by decide +kernel
theorem dX0_heldGoOut_24 : decode cX0_heldGoOut 24 = .ok (.iload_n 3, 1) := by decide +kernel
theorem dX0_heldGoOut_25 : decode cX0_heldGoOut 25 = .ok (.iload 4, 2) := by decide +kernel
theorem dX0_heldGoOut_27 : decode cX0_heldGoOut 27 = .ok (.iadd, 1) := by decide +kernel
theorem dX0_heldGoOut_28 : decode cX0_heldGoOut 28 = .ok (.iaload, 1) := by decide +kernel
theorem dX0_heldGoOut_29 : decode cX0_heldGoOut 29 = .ok (.iload_n 2, 1) := by decide +kernel
theorem dX0_heldGoOut_30 : decode cX0_heldGoOut 30 = .ok (.invokevirtual 92, 3) := by decide +kernel
theorem dX0_heldGoOut_33 : decode cX0_heldGoOut 33 = .ok (.iinc 4 1, 3) := by decide +kernel
theorem dX0_heldGoOut_36 : decode cX0_heldGoOut 36 = .ok (.goto (-29), 3) := by decide +kernel
theorem dX0_heldGoOut_39 : decode cX0_heldGoOut 39 = .ok (.aload_n 0, 1) := by decide +kernel
theorem dX0_heldGoOut_40 : decode cX0_heldGoOut 40 = .ok (.getfield 27, 3) := by decide +kernel
theorem dX0_heldGoOut_43 : decode cX0_heldGoOut 43 = .ok (.iload_n 1, 1) := by decide +kernel
theorem dX0_heldGoOut_44 : decode cX0_heldGoOut 44 = .ok (.iconst 0, 1) := by decide +kernel
theorem dX0_heldGoOut_45 : decode cX0_heldGoOut 45 = .ok (.iastore, 1) := by decide +kernel
theorem dX0_heldGoOut_46 : decode cX0_heldGoOut 46 = .ok (.return_, 1) := by decide +kernel
set_option maxRecDepth 20000 in
theorem ggX0_confirm_X0_hasMark : GoodIn wsX0_confirm wsX0_hasMark := goodIn_r _ [5, 6, 25, 26, 27, 28, 29, 30, 31, 32, 33, 34, 35, 36] (by decide +kernel) (by decide +kernel)
set_option maxRecDepth 20000 in
theorem gX0_confirm_X0_hasMark : GoodIn wsX0_confirm (wsV RX0 101 RX0 yX0_hasMark wsX0_hasMark) := goodIn_app (goodIn_of _ (by decide +kernel)) ggX0_confirm_X0_hasMark
set_option maxRecDepth 20000 in
theorem ggX0_confirm_X0_becomeFresh : GoodIn wsX0_confirm wsX0_becomeFresh := goodIn_r _ [10, 11, 12, 13, 4, 14, 6, 15, 16, 25, 26, 27, 28, 29, 30, 31, 32, 33, 34, 35, 36] (by decide +kernel) (by decide +kernel)
set_option maxRecDepth 20000 in
theorem gX0_confirm_X0_becomeFresh : GoodIn wsX0_confirm (wsV RX0 104 RX0 yX0_becomeFresh wsX0_becomeFresh) := goodIn_app (goodIn_of _ (by decide +kernel)) ggX0_confirm_X0_becomeFresh
set_option maxRecDepth 20000 in
theorem ggX0_confirm_X0_stateOf : GoodIn wsX0_confirm wsX0_stateOf := goodIn_r _ [20, 6, 21, 22, 23, 4, 24, 25, 26, 27, 28, 29, 30, 31, 32, 33, 34, 35, 36] (by decide +kernel) (by decide +kernel)
set_option maxRecDepth 20000 in
theorem gX0_confirm_X0_stateOf : GoodIn wsX0_confirm (wsV RX0 107 RX0 yX0_stateOf wsX0_stateOf) := goodIn_app (goodIn_of _ (by decide +kernel)) ggX0_confirm_X0_stateOf
theorem dX0_confirm_0 : decode cX0_confirm 0 = .ok (.aload_n 0, 1) := by decide +kernel
theorem dX0_confirm_1 : decode cX0_confirm 1 = .ok (.iload_n 1, 1) := by decide +kernel
theorem dX0_confirm_2 : decode cX0_confirm 2 = .ok (.invokevirtual 101, 3) := by decide +kernel
theorem dX0_confirm_5 : decode cX0_confirm 5 = .ok (.ifCond .eq 9, 3) := by decide +kernel
theorem dX0_confirm_8 : decode cX0_confirm 8 = .ok (.aload_n 0, 1) := by decide +kernel
theorem dX0_confirm_9 : decode cX0_confirm 9 = .ok (.iload_n 1, 1) := by decide +kernel
theorem dX0_confirm_10 : decode cX0_confirm 10 = .ok (.iload_n 2, 1) := by decide +kernel
theorem dX0_confirm_11 : decode cX0_confirm 11 = .ok (.invokevirtual 104, 3) := by decide +kernel
theorem dX0_confirm_14 : decode cX0_confirm 14 = .ok (.aload_n 0, 1) := by decide +kernel
theorem dX0_confirm_15 : decode cX0_confirm 15 = .ok (.iload_n 1, 1) := by decide +kernel
theorem dX0_confirm_16 : decode cX0_confirm 16 = .ok (.invokevirtual 107, 3) := by decide +kernel
theorem dX0_confirm_19 : decode cX0_confirm 19 = .ok (.ireturn, 1) := by decide +kernel
set_option maxRecDepth 20000 in
theorem ggX0_hear_X0_has : GoodIn wsX0_hear wsX0_has := goodIn_r _ [7, 1, 82, 83, 84, 85, 86, 87, 88, 89, 90, 91, 92, 93] (by decide +kernel) (by decide +kernel)
set_option maxRecDepth 20000 in
theorem gX0_hear_X0_has : GoodIn wsX0_hear (wsV RX0 51 RX0 yX0_has wsX0_has) := goodIn_app (goodIn_of _ (by decide +kernel)) ggX0_hear_X0_has
set_option maxRecDepth 20000 in
theorem ggX0_hear_X0_hasRoom : GoodIn wsX0_hear wsX0_hasRoom := goodIn_r _ [11, 12, 13, 14, 15, 6, 16, 1, 17, 82, 83, 84, 85, 86, 87, 88, 89, 90, 91, 92, 93] (by decide +kernel) (by decide +kernel)
set_option maxRecDepth 20000 in
theorem gX0_hear_X0_hasRoom : GoodIn wsX0_hear (wsV RX0 76 RX0 yX0_hasRoom wsX0_hasRoom) := goodIn_app (goodIn_of _ (by decide +kernel)) ggX0_hear_X0_hasRoom
set_option maxRecDepth 20000 in
theorem ggX0_hear_X0_come : GoodIn wsX0_hear wsX0_come := goodIn_r _ [21, 12, 2, 17, 13, 14, 15, 6, 16, 1, 22, 23, 24, 25, 26, 27, 28, 29, 3, 4, 5, 7, 30, 31, 32, 33, 34, 35, 36, 37, 38, 39, 40, 41, 42, 43, 44, 45, 46, 82, 83, 84, 85, 86, 87, 88, 89, 90, 91, 92, 93, 94, 95, 96] (by decide +kernel) (by decide +kernel)
set_option maxRecDepth 20000 in
theorem gX0_hear_X0_come : GoodIn wsX0_hear (wsV RX0 80 RX0 yX0_come wsX0_come) := goodIn_app (goodIn_of _ (by decide +kernel)) ggX0_hear_X0_come
set_option maxRecDepth 20000 in
theorem ggX0_hear_X0_endAsking : GoodIn wsX0_hear wsX0_endAsking := goodIn_r _ [50, 2, 51, 52, 53, 6, 54, 41, 42, 43, 44, 1, 45, 46, 55, 56, 57, 58, 59, 60, 61, 62, 27, 63, 64, 65, 66, 67, 68, 69, 70, 71, 72, 73, 74, 75, 76, 77, 82, 83, 84, 85, 86, 87, 88, 89, 90, 91, 92, 93, 97, 98, 99, 100, 101] (by decide +kernel) (by decide +kernel)
set_option maxRecDepth 20000 in
theorem gX0_hear_X0_endAsking : GoodIn wsX0_hear (wsV RX0 110 RX0 yX0_endAsking wsX0_endAsking) := goodIn_app (goodIn_of _ (by decide +kernel)) ggX0_hear_X0_endAsking
set_option maxRecDepth 20000 in
theorem ggX0_hear_X0_correctMark : GoodIn wsX0_hear wsX0_correctMark := goodIn_r _ [81, 2, 55, 56, 57, 6, 58, 41, 42, 43, 44, 1, 45, 46, 82, 83, 84, 85, 86, 87, 88, 89, 90, 91, 92, 93] (by decide +kernel) (by decide +kernel)
set_option maxRecDepth 20000 in
theorem gX0_hear_X0_correctMark : GoodIn wsX0_hear (wsV RX0 114 RX0 yX0_correctMark wsX0_correctMark) := goodIn_app (goodIn_of _ (by decide +kernel)) ggX0_hear_X0_correctMark
theorem dX0_hear_0 : decode cX0_hear 0 = .ok (.aload_n 0, 1) := by decide +kernel
theorem dX0_hear_1 : decode cX0_hear 1 = .ok (.iload_n 1, 1) := by decide +kernel
theorem dX0_hear_2 : decode cX0_hear 2 = .ok (.invokevirtual 51, 3) := by decide +kernel
theorem dX0_hear_5 : decode cX0_hear 5 = .ok (.ifCond .ne 21, 3) := by decide +kernel
theorem dX0_hear_8 : decode cX0_hear 8 = .ok (.aload_n 0, 1) := by decide +kernel
theorem dX0_hear_9 : decode cX0_hear 9 = .ok (.invokevirtual 76, 3) := by decide +kernel
theorem dX0_hear_12 : decode cX0_hear 12 = .ok (.ifCond .eq 50, 3) := by decide +kernel
theorem dX0_hear_15 : decode cX0_hear 15 = .ok (.aload_n 0, 1) := by decide +kernel
theorem dX0_hear_16 : decode cX0_hear 16 = .ok (.iload_n 1, 1) := by decide +kernel
theorem dX0_hear_17 : decode cX0_hear 17 = .ok (.iconst 2, 1) := by decide +kernel
theorem dX0_hear_18 : decode cX0_hear 18 = .ok (.iload_n 2, 1) := by decide +kernel
theorem dX0_hear_19 : decode cX0_hear 19 = .ok (.iload_n 3, 1) := by decide +kernel
theorem dX0_hear_20 : decode cX0_hear 20 = .ok (.invokevirtual 80, 3) := by decide +kernel
theorem dX0_hear_23 : decode cX0_hear 23 = .ok (.goto 39, 3) := by decide +kernel
theorem dX0_hear_26 : decode cX0_hear 26 = .ok (.aload_n 0, 1) := by decide +kernel
theorem dX0_hear_27 : decode cX0_hear 27 = .ok (.getfield 9, 3) := by decide +kernel
theorem dX0_hear_30 : decode cX0_hear 30 = .ok (.iload_n 1, 1) := by decide +kernel
theorem dX0_hear_31 : decode cX0_hear 31 = .ok (.iaload, 1) := by decide +kernel
theorem dX0_hear_32 : decode cX0_hear 32 = .ok (.ifCond .ne 14, 3) := by decide +kernel
theorem dX0_hear_35 : decode cX0_hear 35 = .ok (.aload_n 0, 1) := by decide +kernel
theorem dX0_hear_36 : decode cX0_hear 36 = .ok (.iload_n 1, 1) := by decide +kernel
theorem dX0_hear_37 : decode cX0_hear 37 = .ok (.iload_n 2, 1) := by decide +kernel
theorem dX0_hear_38 : decode cX0_hear 38 = .ok (.iconst 0, 1) := by decide +kernel
theorem dX0_hear_39 : decode cX0_hear 39 = .ok (.iload_n 3, 1) := by decide +kernel
theorem dX0_hear_40 : decode cX0_hear 40 = .ok (.invokevirtual 110, 3) := by decide +kernel
theorem dX0_hear_43 : decode cX0_hear 43 = .ok (.goto 19, 3) := by decide +kernel
theorem dX0_hear_46 : decode cX0_hear 46 = .ok (.aload_n 0, 1) := by decide +kernel
theorem dX0_hear_47 : decode cX0_hear 47 = .ok (.getfield 15, 3) := by decide +kernel
theorem dX0_hear_50 : decode cX0_hear 50 = .ok (.iload_n 1, 1) := by decide +kernel
theorem dX0_hear_51 : decode cX0_hear 51 = .ok (.iaload, 1) := by decide +kernel
theorem dX0_hear_52 : decode cX0_hear 52 = .ok (.iload_n 2, 1) := by decide +kernel
theorem dX0_hear_53 : decode cX0_hear 53 = .ok (.if_icmp .eq 9, 3) := by decide +kernel
theorem dX0_hear_56 : decode cX0_hear 56 = .ok (.aload_n 0, 1) := by decide +kernel
theorem dX0_hear_57 : decode cX0_hear 57 = .ok (.iload_n 1, 1) := by decide +kernel
theorem dX0_hear_58 : decode cX0_hear 58 = .ok (.iload_n 2, 1) := by decide +kernel
theorem dX0_hear_59 : decode cX0_hear 59 = .ok (.invokevirtual 114, 3) := by decide +kernel
theorem dX0_hear_62 : decode cX0_hear 62 = .ok (.return_, 1) := by decide +kernel
set_option maxRecDepth 20000 in
theorem ggX0_takeAnswer_X0_endAsking : GoodIn wsX0_takeAnswer wsX0_endAsking := goodIn_r _ [7, 1, 8, 9, 10, 6, 11, 12, 13, 14, 15, 2, 16, 17, 18, 19, 20, 21, 22, 23, 24, 25, 26, 27, 28, 29, 30, 31, 32, 33, 34, 35, 36, 37, 38, 39, 40, 41, 50, 51, 52, 53, 54, 55, 56, 57, 58, 59, 60, 61, 62, 63, 64, 65, 66] (by decide +kernel) (by decide +kernel)
set_option maxRecDepth 20000 in
theorem gX0_takeAnswer_X0_endAsking : GoodIn wsX0_takeAnswer (wsV RX0 110 RX0 yX0_endAsking wsX0_endAsking) := goodIn_app (goodIn_of _ (by decide +kernel)) ggX0_takeAnswer_X0_endAsking
set_option maxRecDepth 20000 in
theorem ggX0_takeAnswer_X0_doubt : GoodIn wsX0_takeAnswer wsX0_doubt := goodIn_r _ [45, 2, 18, 19, 20, 6, 21, 12, 13, 14, 15, 16, 17, 50, 51, 52, 53, 54, 55, 56, 57, 58, 59, 60, 61] (by decide +kernel) (by decide +kernel)
set_option maxRecDepth 20000 in
theorem gX0_takeAnswer_X0_doubt : GoodIn wsX0_takeAnswer (wsV RX0 117 RX0 yX0_doubt wsX0_doubt) := goodIn_app (goodIn_of _ (by decide +kernel)) ggX0_takeAnswer_X0_doubt
set_option maxRecDepth 20000 in
theorem ggX0_takeAnswer_X0_becomeFresh : GoodIn wsX0_takeAnswer wsX0_becomeFresh := goodIn_r _ [11, 12, 13, 14, 6, 15, 2, 16, 17, 50, 51, 52, 53, 54, 55, 56, 57, 58, 59, 60, 61] (by decide +kernel) (by decide +kernel)
set_option maxRecDepth 20000 in
theorem gX0_takeAnswer_X0_becomeFresh : GoodIn wsX0_takeAnswer (wsV RX0 104 RX0 yX0_becomeFresh wsX0_becomeFresh) := goodIn_app (goodIn_of _ (by decide +kernel)) ggX0_takeAnswer_X0_becomeFresh
set_option maxRecDepth 20000 in
theorem ggX0_takeAnswer_X0_correctMark : GoodIn wsX0_takeAnswer wsX0_correctMark := goodIn_r _ [49, 1, 18, 19, 20, 6, 21, 12, 13, 14, 15, 2, 16, 17, 50, 51, 52, 53, 54, 55, 56, 57, 58, 59, 60, 61] (by decide +kernel) (by decide +kernel)
set_option maxRecDepth 20000 in
theorem gX0_takeAnswer_X0_correctMark : GoodIn wsX0_takeAnswer (wsV RX0 114 RX0 yX0_correctMark wsX0_correctMark) := goodIn_app (goodIn_of _ (by decide +kernel)) ggX0_takeAnswer_X0_correctMark
theorem dX0_takeAnswer_0 : decode cX0_takeAnswer 0 = .ok (.aload_n 0, 1) := by decide +kernel
theorem dX0_takeAnswer_1 : decode cX0_takeAnswer 1 = .ok (.getfield 15, 3) := by decide +kernel
theorem dX0_takeAnswer_4 : decode cX0_takeAnswer 4 = .ok (.iload_n 1, 1) := by decide +kernel
theorem dX0_takeAnswer_5 : decode cX0_takeAnswer 5 = .ok (.iaload, 1) := by decide +kernel
theorem dX0_takeAnswer_6 : decode cX0_takeAnswer 6 = .ok (.iload_n 2, 1) := by decide +kernel
theorem dX0_takeAnswer_7 : decode cX0_takeAnswer 7 = .ok (.if_icmp .eq 7, 3) := by decide +kernel
theorem dX0_takeAnswer_10 : decode cX0_takeAnswer 10 = .ok (.iconst 1, 1) := by decide +kernel
theorem dX0_takeAnswer_11 : decode cX0_takeAnswer 11 = .ok (.goto 4, 3) := by decide +kernel
theorem dX0_takeAnswer_14 : decode cX0_takeAnswer 14 = .ok (.iconst 0, 1) := by decide +kernel
theorem dX0_takeAnswer_15 : decode cX0_takeAnswer 15 = .ok (.istore 6, 2) := by decide +kernel
theorem dX0_takeAnswer_17 : decode cX0_takeAnswer 17 = .ok (.aload_n 0, 1) := by decide +kernel
theorem dX0_takeAnswer_18 : decode cX0_takeAnswer 18 = .ok (.getfield 9, 3) := by decide +kernel
theorem dX0_takeAnswer_21 : decode cX0_takeAnswer 21 = .ok (.iload_n 1, 1) := by decide +kernel
theorem dX0_takeAnswer_22 : decode cX0_takeAnswer 22 = .ok (.iaload, 1) := by decide +kernel
theorem dX0_takeAnswer_23 : decode cX0_takeAnswer 23 = .ok (.ifCond .ne 15, 3) := by decide +kernel
theorem dX0_takeAnswer_26 : decode cX0_takeAnswer 26 = .ok (.aload_n 0, 1) := by decide +kernel
theorem dX0_takeAnswer_27 : decode cX0_takeAnswer 27 = .ok (.iload_n 1, 1) := by decide +kernel
theorem dX0_takeAnswer_28 : decode cX0_takeAnswer 28 = .ok (.iload_n 2, 1) := by decide +kernel
theorem dX0_takeAnswer_29 : decode cX0_takeAnswer 29 = .ok (.iload_n 3, 1) := by decide +kernel
theorem dX0_takeAnswer_30 : decode cX0_takeAnswer 30 = .ok (.iload 5, 2) := by decide +kernel
theorem dX0_takeAnswer_32 : decode cX0_takeAnswer 32 = .ok (.invokevirtual 110, 3) := by decide +kernel
theorem dX0_takeAnswer_35 : decode cX0_takeAnswer 35 = .ok (.goto 53, 3) := by decide +kernel
theorem dX0_takeAnswer_38 : decode cX0_takeAnswer 38 = .ok (.iload 6, 2) := by decide +kernel
theorem dX0_takeAnswer_40 : decode cX0_takeAnswer 40 = .ok (.ifCond .eq 16, 3) := by decide +kernel
theorem dX0_takeAnswer_43 : decode cX0_takeAnswer 43 = .ok (.iload 4, 2) := by decide +kernel
theorem dX0_takeAnswer_45 : decode cX0_takeAnswer 45 = .ok (.ifCond .ne 11, 3) := by decide +kernel
theorem dX0_takeAnswer_48 : decode cX0_takeAnswer 48 = .ok (.aload_n 0, 1) := by decide +kernel
theorem dX0_takeAnswer_49 : decode cX0_takeAnswer 49 = .ok (.iload_n 1, 1) := by decide +kernel
theorem dX0_takeAnswer_50 : decode cX0_takeAnswer 50 = .ok (.invokevirtual 117, 3) := by decide +kernel
theorem dX0_takeAnswer_53 : decode cX0_takeAnswer 53 = .ok (.goto 35, 3) := by decide +kernel
theorem dX0_takeAnswer_56 : decode cX0_takeAnswer 56 = .ok (.iload_n 3, 1) := by decide +kernel
theorem dX0_takeAnswer_57 : decode cX0_takeAnswer 57 = .ok (.ifCond .eq 20, 3) := by decide +kernel
theorem dX0_takeAnswer_60 : decode cX0_takeAnswer 60 = .ok (.aload_n 0, 1) := by decide +kernel
theorem dX0_takeAnswer_61 : decode cX0_takeAnswer 61 = .ok (.getfield 15, 3) := by decide +kernel
theorem dX0_takeAnswer_64 : decode cX0_takeAnswer 64 = .ok (.iload_n 1, 1) := by decide +kernel
theorem dX0_takeAnswer_65 : decode cX0_takeAnswer 65 = .ok (.iload_n 2, 1) := by decide +kernel
theorem dX0_takeAnswer_66 : decode cX0_takeAnswer 66 = .ok (.iastore, 1) := by decide +kernel
theorem dX0_takeAnswer_67 : decode cX0_takeAnswer 67 = .ok (.aload_n 0, 1) := by decide +kernel
theorem dX0_takeAnswer_68 : decode cX0_takeAnswer 68 = .ok (.iload_n 1, 1) := by decide +kernel
theorem dX0_takeAnswer_69 : decode cX0_takeAnswer 69 = .ok (.iload 5, 2) := by decide +kernel
theorem dX0_takeAnswer_71 : decode cX0_takeAnswer 71 = .ok (.invokevirtual 104, 3) := by decide +kernel
theorem dX0_takeAnswer_74 : decode cX0_takeAnswer 74 = .ok (.goto 14, 3) := by decide +kernel
theorem dX0_takeAnswer_77 : decode cX0_takeAnswer 77 = .ok (.iload 6, 2) := by decide +kernel
theorem dX0_takeAnswer_79 : decode cX0_takeAnswer 79 = .ok (.ifCond .eq 9, 3) := by decide +kernel
theorem dX0_takeAnswer_82 : decode cX0_takeAnswer 82 = .ok (.aload_n 0, 1) := by decide +kernel
theorem dX0_takeAnswer_83 : decode cX0_takeAnswer 83 = .ok (.iload_n 1, 1) := by decide +kernel
theorem dX0_takeAnswer_84 : decode cX0_takeAnswer 84 = .ok (.iload_n 2, 1) := by decide +kernel
theorem dX0_takeAnswer_85 : decode cX0_takeAnswer 85 = .ok (.invokevirtual 114, 3) := by decide +kernel
theorem dX0_takeAnswer_88 : decode cX0_takeAnswer 88 = .ok (.return_, 1) := by decide +kernel
set_option maxRecDepth 20000 in
theorem ggX0_endAsking_X0_becomeFresh : GoodIn wsX0_endAsking wsX0_becomeFresh := goodIn_r _ [6, 7, 8, 9, 5, 10, 11, 12, 13, 38, 39, 40, 41, 42, 43, 44, 45, 46, 47, 48, 49] (by decide +kernel) (by decide +kernel)
set_option maxRecDepth 20000 in
theorem gX0_endAsking_X0_becomeFresh : GoodIn wsX0_endAsking (wsV RX0 104 RX0 yX0_becomeFresh wsX0_becomeFresh) := goodIn_app (goodIn_of _ (by decide +kernel)) ggX0_endAsking_X0_becomeFresh
set_option maxRecDepth 20000 in
theorem ggX0_endAsking_X0_becomeStale : GoodIn wsX0_endAsking wsX0_becomeStale := goodIn_r _ [17, 7, 8, 9, 5, 10, 11, 12, 13, 38, 39, 40, 41, 42, 43, 44, 45, 46, 47, 48, 49] (by decide +kernel) (by decide +kernel)
set_option maxRecDepth 20000 in
theorem gX0_endAsking_X0_becomeStale : GoodIn wsX0_endAsking (wsV RX0 120 RX0 yX0_becomeStale wsX0_becomeStale) := goodIn_app (goodIn_of _ (by decide +kernel)) ggX0_endAsking_X0_becomeStale
set_option maxRecDepth 20000 in
theorem ggX0_endAsking_X0_heldGoOut : GoodIn wsX0_endAsking wsX0_heldGoOut := goodIn_r _ [21, 22, 23, 24, 25, 26, 5, 27, 28, 1, 29, 30, 31, 32, 33, 34, 35, 36, 37, 38, 39, 40, 41, 42, 43, 44, 45, 46, 47, 48, 49, 50, 51, 52, 53, 54] (by decide +kernel) (by decide +kernel)
set_option maxRecDepth 20000 in
theorem gX0_endAsking_X0_heldGoOut : GoodIn wsX0_endAsking (wsV RX0 123 RX0 yX0_heldGoOut wsX0_heldGoOut) := goodIn_app (goodIn_of _ (by decide +kernel)) ggX0_endAsking_X0_heldGoOut
theorem dX0_endAsking_0 : decode cX0_endAsking 0 = .ok (.aload_n 0, 1) := by decide +kernel
theorem dX0_endAsking_1 : decode cX0_endAsking 1 = .ok (.getfield 15, 3) := by decide +kernel
theorem dX0_endAsking_4 : decode cX0_endAsking 4 = .ok (.iload_n 1, 1) := by decide +kernel
theorem dX0_endAsking_5 : decode cX0_endAsking 5 = .ok (.iload_n 2, 1) := by decide +kernel
theorem dX0_endAsking_6 : decode cX0_endAsking 6 = .ok (.iastore, 1) := by decide +kernel
theorem dX0_endAsking_7 : decode cX0_endAsking 7 = .ok (.iload_n 3, 1) := by decide +kernel
theorem dX0_endAsking_8 : decode cX0_endAsking 8 = .ok (.ifCond .eq 13, 3) := by decide +kernel
theorem dX0_endAsking_11 : decode cX0_endAsking 11 = .ok (.aload_n 0, 1) := by decide +kernel
theorem dX0_endAsking_12 : decode cX0_endAsking 12 = .ok (.iload_n 1, 1) := by decide +kernel
theorem dX0_endAsking_13 : decode cX0_endAsking 13 = .ok (.iload 4, 2) := by decide +kernel
theorem dX0_endAsking_15 : decode cX0_endAsking 15 = .ok (.invokevirtual 104, 3) := by decide +kernel
theorem dX0_endAsking_18 : decode cX0_endAsking 18 = .ok (.goto 8, 3) := by decide +kernel
theorem dX0_endAsking_21 : decode cX0_endAsking 21 = .ok (.aload_n 0, 1) := by decide +kernel
theorem dX0_endAsking_22 : decode cX0_endAsking 22 = .ok (.iload_n 1, 1) := by decide +kernel
theorem dX0_endAsking_23 : decode cX0_endAsking 23 = .ok (.invokevirtual 120, 3) := by decide +kernel
theorem dX0_endAsking_26 : decode cX0_endAsking 26 = .ok (.aload_n 0, 1) := by decide +kernel
theorem dX0_endAsking_27 : decode cX0_endAsking 27 = .ok (.iload_n 1, 1) := by decide +kernel
theorem dX0_endAsking_28 : decode cX0_endAsking 28 = .ok (.iload 4, 2) := by decide +kernel
theorem dX0_endAsking_30 : decode cX0_endAsking 30 = .ok (.invokevirtual 123, 3) := by decide +kernel
theorem dX0_endAsking_33 : decode cX0_endAsking 33 = .ok (.return_, 1) := by decide +kernel
set_option maxRecDepth 20000 in
theorem ggX0_correctMark_X0_becomeStale : GoodIn wsX0_correctMark wsX0_becomeStale := goodIn_r _ [6, 7, 8, 9, 5, 10, 11, 12, 13, 14, 15, 16, 17, 18, 19, 20, 21, 22, 23, 24, 25] (by decide +kernel) (by decide +kernel)
set_option maxRecDepth 20000 in
theorem gX0_correctMark_X0_becomeStale : GoodIn wsX0_correctMark (wsV RX0 120 RX0 yX0_becomeStale wsX0_becomeStale) := goodIn_app (goodIn_of _ (by decide +kernel)) ggX0_correctMark_X0_becomeStale
theorem dX0_correctMark_0 : decode cX0_correctMark 0 = .ok (.aload_n 0, 1) := by decide +kernel
theorem dX0_correctMark_1 : decode cX0_correctMark 1 = .ok (.getfield 15, 3) := by decide +kernel
theorem dX0_correctMark_4 : decode cX0_correctMark 4 = .ok (.iload_n 1, 1) := by decide +kernel
theorem dX0_correctMark_5 : decode cX0_correctMark 5 = .ok (.iload_n 2, 1) := by decide +kernel
theorem dX0_correctMark_6 : decode cX0_correctMark 6 = .ok (.iastore, 1) := by decide +kernel
theorem dX0_correctMark_7 : decode cX0_correctMark 7 = .ok (.aload_n 0, 1) := by decide +kernel
theorem dX0_correctMark_8 : decode cX0_correctMark 8 = .ok (.iload_n 1, 1) := by decide +kernel
theorem dX0_correctMark_9 : decode cX0_correctMark 9 = .ok (.invokevirtual 120, 3) := by decide +kernel
theorem dX0_correctMark_12 : decode cX0_correctMark 12 = .ok (.return_, 1) := by decide +kernel
set_option maxRecDepth 20000 in
theorem ggX0_doubt_X0_becomeStale : GoodIn wsX0_doubt wsX0_becomeStale := goodIn_r _ [6, 7, 8, 9, 5, 10, 1, 11, 12, 13, 14, 15, 16, 17, 18, 19, 20, 21, 22, 23, 24] (by decide +kernel) (by decide +kernel)
set_option maxRecDepth 20000 in
theorem gX0_doubt_X0_becomeStale : GoodIn wsX0_doubt (wsV RX0 120 RX0 yX0_becomeStale wsX0_becomeStale) := goodIn_app (goodIn_of _ (by decide +kernel)) ggX0_doubt_X0_becomeStale
theorem dX0_doubt_0 : decode cX0_doubt 0 = .ok (.aload_n 0, 1) := by decide +kernel
theorem dX0_doubt_1 : decode cX0_doubt 1 = .ok (.getfield 9, 3) := by decide +kernel
theorem dX0_doubt_4 : decode cX0_doubt 4 = .ok (.iload_n 1, 1) := by decide +kernel
theorem dX0_doubt_5 : decode cX0_doubt 5 = .ok (.iaload, 1) := by decide +kernel
theorem dX0_doubt_6 : decode cX0_doubt 6 = .ok (.iconst 1, 1) := by decide +kernel
theorem dX0_doubt_7 : decode cX0_doubt 7 = .ok (.if_icmp .ne 8, 3) := by decide +kernel
theorem dX0_doubt_10 : decode cX0_doubt 10 = .ok (.aload_n 0, 1) := by decide +kernel
theorem dX0_doubt_11 : decode cX0_doubt 11 = .ok (.iload_n 1, 1) := by decide +kernel
theorem dX0_doubt_12 : decode cX0_doubt 12 = .ok (.invokevirtual 120, 3) := by decide +kernel
theorem dX0_doubt_15 : decode cX0_doubt 15 = .ok (.return_, 1) := by decide +kernel
set_option maxRecDepth 20000 in
theorem ggX0_endThoseOf_X0_has : GoodIn wsX0_endThoseOf wsX0_has := goodIn_r _ [7, 1, 60, 61, 62, 63, 64, 65, 66, 67, 68, 69, 70, 71] (by decide +kernel) (by decide +kernel)
set_option maxRecDepth 20000 in
theorem gX0_endThoseOf_X0_has : GoodIn wsX0_endThoseOf (wsV RX0 51 RX0 yX0_has wsX0_has) := goodIn_app (goodIn_of _ (by decide +kernel)) ggX0_endThoseOf_X0_has
set_option maxRecDepth 20000 in
theorem ggX0_endThoseOf_X0_endState : GoodIn wsX0_endThoseOf wsX0_endState := goodIn_r _ [11, 1, 12, 13, 14, 15, 6, 16, 17, 18, 19, 20, 2, 21, 22, 23, 24, 25, 26, 27, 28, 29, 30, 31, 32, 33, 34, 35, 36, 37, 38, 39, 40, 41, 42, 43, 44, 3, 4, 5, 7, 45, 46, 47, 48, 49, 50, 51, 52, 53, 54, 55, 56, 57, 58, 59, 60, 61, 62, 63, 64, 65, 66, 67, 68, 69, 70, 71, 72, 73, 74, 75, 76, 77, 78, 79] (by decide +kernel) (by decide +kernel)
set_option maxRecDepth 20000 in
theorem gX0_endThoseOf_X0_endState : GoodIn wsX0_endThoseOf (wsV RX0 126 RX0 yX0_endState wsX0_endState) := goodIn_app (goodIn_of _ (by decide +kernel)) ggX0_endThoseOf_X0_endState
theorem dX0_endThoseOf_0 : decode cX0_endThoseOf 0 = .ok (.iconst 0, 1) := by decide +kernel
theorem dX0_endThoseOf_1 : decode cX0_endThoseOf 1 = .ok (.istore_n 2, 1) := by decide +kernel
theorem dX0_endThoseOf_2 : decode cX0_endThoseOf 2 = .ok (.iload_n 2, 1) := by decide +kernel
theorem dX0_endThoseOf_3 : decode cX0_endThoseOf 3 = .ok (.bipush 16, 2) := by decide +kernel
theorem dX0_endThoseOf_5 : decode cX0_endThoseOf 5 = .ok (.if_icmp .ge 43, 3) := by decide +kernel
theorem dX0_endThoseOf_8 : decode cX0_endThoseOf 8 = .ok (.aload_n 0, 1) := by decide +kernel
theorem dX0_endThoseOf_9 : decode cX0_endThoseOf 9 = .ok (.iload_n 2, 1) := by decide +kernel
theorem dX0_endThoseOf_10 : decode cX0_endThoseOf 10 = .ok (.invokevirtual 51, 3) := by decide +kernel
theorem dX0_endThoseOf_13 : decode cX0_endThoseOf 13 = .ok (.ifCond .eq 29, 3) := by decide +kernel
theorem dX0_endThoseOf_16 : decode cX0_endThoseOf 16 = .ok (.aload_n 0, 1) := by decide +kernel
theorem dX0_endThoseOf_17 : decode cX0_endThoseOf 17 = .ok (.getfield 9, 3) := by decide +kernel
theorem dX0_endThoseOf_20 : decode cX0_endThoseOf 20 = .ok (.iload_n 2, 1) := by decide +kernel
theorem dX0_endThoseOf_21 : decode cX0_endThoseOf 21 = .ok (.iaload, 1) := by decide +kernel
theorem dX0_endThoseOf_22 : decode cX0_endThoseOf 22 = .ok (.iconst 2, 1) := by decide +kernel
theorem dX0_endThoseOf_23 : decode cX0_endThoseOf 23 = .ok (.if_icmp .eq 19, 3) := by decide +kernel
theorem dX0_endThoseOf_26 : decode cX0_endThoseOf 26 = .ok (.aload_n 0, 1) := by decide +kernel
theorem dX0_endThoseOf_27 : decode cX0_endThoseOf 27 = .ok (.getfield 18, 3) := by decide +kernel
theorem dX0_endThoseOf_30 : decode cX0_endThoseOf 30 = .ok (.iload_n 2, 1) := by decide +kernel
theorem dX0_endThoseOf_31 : decode cX0_endThoseOf 31 = .ok (.iaload, 1) := by decide +kernel
theorem dX0_endThoseOf_32 : decode cX0_endThoseOf 32 = .ok (.iload_n 1, 1) := by decide +kernel
theorem dX0_endThoseOf_33 : decode cX0_endThoseOf 33 = .ok (.if_icmp .ne 9, 3) := by decide +kernel
theorem dX0_endThoseOf_36 : decode cX0_endThoseOf 36 = .ok (.aload_n 0, 1) := by decide +kernel
theorem dX0_endThoseOf_37 : decode cX0_endThoseOf 37 = .ok (.iload_n 2, 1) := by decide +kernel
theorem dX0_endThoseOf_38 : decode cX0_endThoseOf 38 = .ok (.iload_n 1, 1) := by decide +kernel
theorem dX0_endThoseOf_39 : decode cX0_endThoseOf 39 = .ok (.invokevirtual 126, 3) := by decide +kernel
theorem dX0_endThoseOf_42 : decode cX0_endThoseOf 42 = .ok (.iinc 2 1, 3) := by decide +kernel
theorem dX0_endThoseOf_45 : decode cX0_endThoseOf 45 = .ok (.goto (-43), 3) := by decide +kernel
theorem dX0_endThoseOf_48 : decode cX0_endThoseOf 48 = .ok (.return_, 1) := by decide +kernel
set_option maxRecDepth 20000 in
theorem ggX0_endState_X0_becomeStale : GoodIn wsX0_endState wsX0_becomeStale := goodIn_r _ [7, 8, 9, 10, 6, 11, 1, 12, 2, 56, 57, 58, 59, 60, 61, 62, 63, 64, 65, 66, 67] (by decide +kernel) (by decide +kernel)
set_option maxRecDepth 20000 in
theorem gX0_endState_X0_becomeStale : GoodIn wsX0_endState (wsV RX0 120 RX0 yX0_becomeStale wsX0_becomeStale) := goodIn_app (goodIn_of _ (by decide +kernel)) ggX0_endState_X0_becomeStale
set_option maxRecDepth 20000 in
theorem ggX0_endState_X0_become : GoodIn wsX0_endState wsX0_become := goodIn_r _ [11, 1, 12, 2, 56, 57, 58, 59, 60, 61, 62, 63, 64, 65, 66, 67] (by decide +kernel) (by decide +kernel)
set_option maxRecDepth 20000 in
theorem gX0_endState_X0_become : GoodIn wsX0_endState (wsV RX0 67 RX0 yX0_become wsX0_become) := goodIn_app (goodIn_of _ (by decide +kernel)) ggX0_endState_X0_become
set_option maxRecDepth 20000 in
theorem ggX0_endState_X0_probe : GoodIn wsX0_endState wsX0_probe := goodIn_r _ [16, 17, 18, 2, 12, 19, 20, 21, 22, 23, 24, 25, 26, 27, 56, 57, 58, 59, 60, 61, 62, 63, 64, 65, 66, 67, 68, 69, 70, 71, 72] (by decide +kernel) (by decide +kernel)
set_option maxRecDepth 20000 in
theorem gX0_endState_X0_probe : GoodIn wsX0_endState (wsV RX0 129 RX0 yX0_probe wsX0_probe) := goodIn_app (goodIn_of _ (by decide +kernel)) ggX0_endState_X0_probe
set_option maxRecDepth 20000 in
theorem ggX0_endState_X0_remove : GoodIn wsX0_endState wsX0_remove := goodIn_r _ [31, 32, 33, 1, 34, 35, 36, 37, 38, 39, 6, 40, 41, 42, 43, 44, 45, 46, 47, 48, 49, 50, 51, 56, 57, 58, 59, 60, 61, 62, 63, 64, 65, 66, 67, 73, 74, 75] (by decide +kernel) (by decide +kernel)
set_option maxRecDepth 20000 in
theorem gX0_endState_X0_remove : GoodIn wsX0_endState (wsV RX0 63 RX0 yX0_remove wsX0_remove) := goodIn_app (goodIn_of _ (by decide +kernel)) ggX0_endState_X0_remove
set_option maxRecDepth 20000 in
theorem ggX0_endState_X0_ask : GoodIn wsX0_endState wsX0_ask := goodIn_r _ [55, 17, 2, 12, 19, 20, 21, 22, 23, 24, 25, 26, 27, 56, 57, 58, 59, 60, 61, 62, 63, 64, 65, 66, 67, 68, 69, 70, 71, 72] (by decide +kernel) (by decide +kernel)
set_option maxRecDepth 20000 in
theorem gX0_endState_X0_ask : GoodIn wsX0_endState (wsV RX0 84 RX0 yX0_ask wsX0_ask) := goodIn_app (goodIn_of _ (by decide +kernel)) ggX0_endState_X0_ask
theorem dX0_endState_0 : decode cX0_endState 0 = .ok (.aload_n 0, 1) := by decide +kernel
theorem dX0_endState_1 : decode cX0_endState 1 = .ok (.getfield 9, 3) := by decide +kernel
theorem dX0_endState_4 : decode cX0_endState 4 = .ok (.iload_n 1, 1) := by decide +kernel
theorem dX0_endState_5 : decode cX0_endState 5 = .ok (.iaload, 1) := by decide +kernel
theorem dX0_endState_6 : decode cX0_endState 6 = .ok (.iconst 1, 1) := by decide +kernel
theorem dX0_endState_7 : decode cX0_endState 7 = .ok (.if_icmp .ne 11, 3) := by decide +kernel
theorem dX0_endState_10 : decode cX0_endState 10 = .ok (.aload_n 0, 1) := by decide +kernel
theorem dX0_endState_11 : decode cX0_endState 11 = .ok (.iload_n 1, 1) := by decide +kernel
theorem dX0_endState_12 : decode cX0_endState 12 = .ok (.invokevirtual 120, 3) := by decide +kernel
theorem dX0_endState_15 : decode cX0_endState 15 = .ok (.goto 72, 3) := by decide +kernel
theorem dX0_endState_18 : decode cX0_endState 18 = .ok (.aload_n 0, 1) := by decide +kernel
theorem dX0_endState_19 : decode cX0_endState 19 = .ok (.getfield 9, 3) := by decide +kernel
theorem dX0_endState_22 : decode cX0_endState 22 = .ok (.iload_n 1, 1) := by decide +kernel
theorem dX0_endState_23 : decode cX0_endState 23 = .ok (.iaload, 1) := by decide +kernel
theorem dX0_endState_24 : decode cX0_endState 24 = .ok (.iconst 3, 1) := by decide +kernel
theorem dX0_endState_25 : decode cX0_endState 25 = .ok (.if_icmp .ne 19, 3) := by decide +kernel
theorem dX0_endState_28 : decode cX0_endState 28 = .ok (.aload_n 0, 1) := by decide +kernel
theorem dX0_endState_29 : decode cX0_endState 29 = .ok (.iload_n 1, 1) := by decide +kernel
theorem dX0_endState_30 : decode cX0_endState 30 = .ok (.iconst 4, 1) := by decide +kernel
theorem dX0_endState_31 : decode cX0_endState 31 = .ok (.iconst (-1), 1) := by decide +kernel
theorem dX0_endState_32 : decode cX0_endState 32 = .ok (.invokevirtual 67, 3) := by decide +kernel
theorem dX0_endState_35 : decode cX0_endState 35 = .ok (.aload_n 0, 1) := by decide +kernel
theorem dX0_endState_36 : decode cX0_endState 36 = .ok (.iload_n 1, 1) := by decide +kernel
theorem dX0_endState_37 : decode cX0_endState 37 = .ok (.iload_n 2, 1) := by decide +kernel
theorem dX0_endState_38 : decode cX0_endState 38 = .ok (.invokevirtual 129, 3) := by decide +kernel
theorem dX0_endState_41 : decode cX0_endState 41 = .ok (.goto 46, 3) := by decide +kernel
theorem dX0_endState_44 : decode cX0_endState 44 = .ok (.aload_n 0, 1) := by decide +kernel
theorem dX0_endState_45 : decode cX0_endState 45 = .ok (.getfield 21, 3) := by decide +kernel
theorem dX0_endState_48 : decode cX0_endState 48 = .ok (.iload_n 1, 1) := by decide +kernel
theorem dX0_endState_49 : decode cX0_endState 49 = .ok (.iaload, 1) := by decide +kernel
theorem dX0_endState_50 : decode cX0_endState 50 = .ok (.iconst 3, 1) := by decide +kernel
theorem dX0_endState_51 : decode cX0_endState 51 = .ok (.if_icmp .lt 11, 3) := by decide +kernel
theorem dX0_endState_54 : decode cX0_endState 54 = .ok (.aload_n 0, 1) := by decide +kernel
theorem dX0_endState_55 : decode cX0_endState 55 = .ok (.iload_n 1, 1) := by decide +kernel
theorem dX0_endState_56 : decode cX0_endState 56 = .ok (.invokevirtual 63, 3) := by decide +kernel
theorem dX0_endState_59 : decode cX0_endState 59 = .ok (.goto 28, 3) := by decide +kernel
theorem dX0_endState_62 : decode cX0_endState 62 = .ok (.aload_n 0, 1) := by decide +kernel
theorem dX0_endState_63 : decode cX0_endState 63 = .ok (.getfield 9, 3) := by decide +kernel
theorem dX0_endState_66 : decode cX0_endState 66 = .ok (.iload_n 1, 1) := by decide +kernel
theorem dX0_endState_67 : decode cX0_endState 67 = .ok (.iaload, 1) := by decide +kernel
theorem dX0_endState_68 : decode cX0_endState 68 = .ok (.iconst 4, 1) := by decide +kernel
theorem dX0_endState_69 : decode cX0_endState 69 = .ok (.if_icmp .ne 12, 3) := by decide +kernel
theorem dX0_endState_72 : decode cX0_endState 72 = .ok (.aload_n 0, 1) := by decide +kernel
theorem dX0_endState_73 : decode cX0_endState 73 = .ok (.iload_n 1, 1) := by decide +kernel
theorem dX0_endState_74 : decode cX0_endState 74 = .ok (.iload_n 2, 1) := by decide +kernel
theorem dX0_endState_75 : decode cX0_endState 75 = .ok (.invokevirtual 129, 3) := by decide +kernel
theorem dX0_endState_78 : decode cX0_endState 78 = .ok (.goto 9, 3) := by decide +kernel
theorem dX0_endState_81 : decode cX0_endState 81 = .ok (.aload_n 0, 1) := by decide +kernel
theorem dX0_endState_82 : decode cX0_endState 82 = .ok (.iload_n 1, 1) := by decide +kernel
theorem dX0_endState_83 : decode cX0_endState 83 = .ok (.iload_n 2, 1) := by decide +kernel
theorem dX0_endState_84 : decode cX0_endState 84 = .ok (.invokevirtual 84, 3) := by decide +kernel
theorem dX0_endState_87 : decode cX0_endState 87 = .ok (.return_, 1) := by decide +kernel
set_option maxRecDepth 20000 in
theorem ggX0_ask_X2_add : GoodIn wsX0_ask wsX2_add := goodIn_r _ [7, 8, 9, 10, 11, 12, 25, 26, 27, 28, 29] (by decide +kernel) (by decide +kernel)
set_option maxRecDepth 20000 in
theorem gX0_ask_X2_add_n95 : GoodIn wsX0_ask (wsX2_add) := ggX0_ask_X2_add
theorem dX0_ask_0 : decode cX0_ask 0 = .ok (.aload_n 0, 1) := by decide +kernel
theorem dX0_ask_1 : decode cX0_ask 1 = .ok (.getfield 33, 3) := by decide +kernel
theorem dX0_ask_4 : decode cX0_ask 4 = .ok (.iconst 1, 1) := by decide +kernel
theorem dX0_ask_5 : decode cX0_ask 5 = .ok (.iload_n 1, 1) := by decide +kernel
theorem dX0_ask_6 : decode cX0_ask 6 = .ok (.iconst 0, 1) := by decide +kernel
theorem dX0_ask_7 : decode cX0_ask 7 = .ok (.iconst 0, 1) := by decide +kernel
theorem dX0_ask_8 : decode cX0_ask 8 = .ok (.iload_n 2, 1) := by decide +kernel
theorem dX0_ask_9 : decode cX0_ask 9 = .ok (.invokevirtual 95, 3) := by decide +kernel
theorem dX0_ask_12 : decode cX0_ask 12 = .ok (.aload_n 0, 1) := by decide +kernel
theorem dX0_ask_13 : decode cX0_ask 13 = .ok (.getfield 21, 3) := by decide +kernel
theorem dX0_ask_16 : decode cX0_ask 16 = .ok (.iload_n 1, 1) := by decide +kernel
theorem dX0_ask_17 : decode cX0_ask 17 = .ok (.dup2, 1) := by decide +kernel
theorem dX0_ask_18 : decode cX0_ask 18 = .ok (.iaload, 1) := by decide +kernel
theorem dX0_ask_19 : decode cX0_ask 19 = .ok (.iconst 1, 1) := by decide +kernel
theorem dX0_ask_20 : decode cX0_ask 20 = .ok (.iadd, 1) := by decide +kernel
theorem dX0_ask_21 : decode cX0_ask 21 = .ok (.iastore, 1) := by decide +kernel
theorem dX0_ask_22 : decode cX0_ask 22 = .ok (.aload_n 0, 1) := by decide +kernel
theorem dX0_ask_23 : decode cX0_ask 23 = .ok (.getfield 18, 3) := by decide +kernel
theorem dX0_ask_26 : decode cX0_ask 26 = .ok (.iload_n 1, 1) := by decide +kernel
theorem dX0_ask_27 : decode cX0_ask 27 = .ok (.iload_n 2, 1) := by decide +kernel
theorem dX0_ask_28 : decode cX0_ask 28 = .ok (.bipush 6, 2) := by decide +kernel
theorem dX0_ask_30 : decode cX0_ask 30 = .ok (.iadd, 1) := by decide +kernel
theorem dX0_ask_31 : decode cX0_ask 31 = .ok (.iastore, 1) := by decide +kernel
theorem dX0_ask_32 : decode cX0_ask 32 = .ok (.return_, 1) := by decide +kernel
set_option maxRecDepth 20000 in
theorem ggX0_probe_X2_add : GoodIn wsX0_probe wsX2_add := goodIn_r _ [8, 9, 10, 11, 12, 13, 26, 27, 28, 29, 30] (by decide +kernel) (by decide +kernel)
set_option maxRecDepth 20000 in
theorem gX0_probe_X2_add_n95 : GoodIn wsX0_probe (wsX2_add) := ggX0_probe_X2_add
theorem dX0_probe_0 : decode cX0_probe 0 = .ok (.aload_n 0, 1) := by decide +kernel
theorem dX0_probe_1 : decode cX0_probe 1 = .ok (.getfield 33, 3) := by decide +kernel
theorem dX0_probe_4 : decode cX0_probe 4 = .ok (.iconst 2, 1) := by decide +kernel
theorem dX0_probe_5 : decode cX0_probe 5 = .ok (.iload_n 1, 1) := by decide +kernel
theorem dX0_probe_6 : decode cX0_probe 6 = .ok (.aload_n 0, 1) := by decide +kernel
theorem dX0_probe_7 : decode cX0_probe 7 = .ok (.getfield 15, 3) := by decide +kernel
theorem dX0_probe_10 : decode cX0_probe 10 = .ok (.iload_n 1, 1) := by decide +kernel
theorem dX0_probe_11 : decode cX0_probe 11 = .ok (.iaload, 1) := by decide +kernel
theorem dX0_probe_12 : decode cX0_probe 12 = .ok (.iconst 0, 1) := by decide +kernel
theorem dX0_probe_13 : decode cX0_probe 13 = .ok (.iload_n 2, 1) := by decide +kernel
theorem dX0_probe_14 : decode cX0_probe 14 = .ok (.invokevirtual 95, 3) := by decide +kernel
theorem dX0_probe_17 : decode cX0_probe 17 = .ok (.aload_n 0, 1) := by decide +kernel
theorem dX0_probe_18 : decode cX0_probe 18 = .ok (.getfield 21, 3) := by decide +kernel
theorem dX0_probe_21 : decode cX0_probe 21 = .ok (.iload_n 1, 1) := by decide +kernel
theorem dX0_probe_22 : decode cX0_probe 22 = .ok (.dup2, 1) := by decide +kernel
theorem dX0_probe_23 : decode cX0_probe 23 = .ok (.iaload, 1) := by decide +kernel
theorem dX0_probe_24 : decode cX0_probe 24 = .ok (.iconst 1, 1) := by decide +kernel
theorem dX0_probe_25 : decode cX0_probe 25 = .ok (.iadd, 1) := by decide +kernel
theorem dX0_probe_26 : decode cX0_probe 26 = .ok (.iastore, 1) := by decide +kernel
theorem dX0_probe_27 : decode cX0_probe 27 = .ok (.aload_n 0, 1) := by decide +kernel
theorem dX0_probe_28 : decode cX0_probe 28 = .ok (.getfield 18, 3) := by decide +kernel
theorem dX0_probe_31 : decode cX0_probe 31 = .ok (.iload_n 1, 1) := by decide +kernel
theorem dX0_probe_32 : decode cX0_probe 32 = .ok (.iload_n 2, 1) := by decide +kernel
theorem dX0_probe_33 : decode cX0_probe 33 = .ok (.iconst 4, 1) := by decide +kernel
theorem dX0_probe_34 : decode cX0_probe 34 = .ok (.iadd, 1) := by decide +kernel
theorem dX0_probe_35 : decode cX0_probe 35 = .ok (.iastore, 1) := by decide +kernel
theorem dX0_probe_36 : decode cX0_probe 36 = .ok (.return_, 1) := by decide +kernel
set_option maxRecDepth 20000 in
theorem ggX0_tell_X0_goneAt : GoodIn wsX0_tell wsX0_goneAt := goodIn_r _ [11, 4, 1, 3, 12, 13, 14, 15, 16, 17, 18, 19, 20, 21, 22, 23] (by decide +kernel) (by decide +kernel)
set_option maxRecDepth 20000 in
theorem gX0_tell_X0_goneAt : GoodIn wsX0_tell (wsV RX0 132 RX0 yX0_goneAt wsX0_goneAt) := goodIn_app (goodIn_of _ (by decide +kernel)) ggX0_tell_X0_goneAt
theorem dX0_tell_0 : decode cX0_tell 0 = .ok (.iload_n 2, 1) := by decide +kernel
theorem dX0_tell_1 : decode cX0_tell 1 = .ok (.tableswitch 95 0 7 #[47, 54, 61, 68, 75, 95, 82, 89], 47) := by decide +kernel
theorem dX0_tell_48 : decode cX0_tell 48 = .ok (.aload_n 0, 1) := by decide +kernel
theorem dX0_tell_49 : decode cX0_tell 49 = .ok (.getfield 9, 3) := by decide +kernel
theorem dX0_tell_52 : decode cX0_tell 52 = .ok (.iload_n 1, 1) := by decide +kernel
theorem dX0_tell_53 : decode cX0_tell 53 = .ok (.iaload, 1) := by decide +kernel
theorem dX0_tell_54 : decode cX0_tell 54 = .ok (.ireturn, 1) := by decide +kernel
theorem dX0_tell_55 : decode cX0_tell 55 = .ok (.aload_n 0, 1) := by decide +kernel
theorem dX0_tell_56 : decode cX0_tell 56 = .ok (.getfield 15, 3) := by decide +kernel
theorem dX0_tell_59 : decode cX0_tell 59 = .ok (.iload_n 1, 1) := by decide +kernel
theorem dX0_tell_60 : decode cX0_tell 60 = .ok (.iaload, 1) := by decide +kernel
theorem dX0_tell_61 : decode cX0_tell 61 = .ok (.ireturn, 1) := by decide +kernel
theorem dX0_tell_62 : decode cX0_tell 62 = .ok (.aload_n 0, 1) := by decide +kernel
theorem dX0_tell_63 : decode cX0_tell 63 = .ok (.getfield 18, 3) := by decide +kernel
theorem dX0_tell_66 : decode cX0_tell 66 = .ok (.iload_n 1, 1) := by decide +kernel
theorem dX0_tell_67 : decode cX0_tell 67 = .ok (.iaload, 1) := by decide +kernel
theorem dX0_tell_68 : decode cX0_tell 68 = .ok (.ireturn, 1) := by decide +kernel
theorem dX0_tell_69 : decode cX0_tell 69 = .ok (.aload_n 0, 1) := by decide +kernel
theorem dX0_tell_70 : decode cX0_tell 70 = .ok (.getfield 21, 3) := by decide +kernel
theorem dX0_tell_73 : decode cX0_tell 73 = .ok (.iload_n 1, 1) := by decide +kernel
theorem dX0_tell_74 : decode cX0_tell 74 = .ok (.iaload, 1) := by decide +kernel
theorem dX0_tell_75 : decode cX0_tell 75 = .ok (.ireturn, 1) := by decide +kernel
theorem dX0_tell_76 : decode cX0_tell 76 = .ok (.aload_n 0, 1) := by decide +kernel
theorem dX0_tell_77 : decode cX0_tell 77 = .ok (.getfield 27, 3) := by decide +kernel
theorem dX0_tell_80 : decode cX0_tell 80 = .ok (.iload_n 1, 1) := by decide +kernel
theorem dX0_tell_81 : decode cX0_tell 81 = .ok (.iaload, 1) := by decide +kernel
theorem dX0_tell_82 : decode cX0_tell 82 = .ok (.ireturn, 1) := by decide +kernel
theorem dX0_tell_83 : decode cX0_tell 83 = .ok (.aload_n 0, 1) := by decide +kernel
theorem dX0_tell_84 : decode cX0_tell 84 = .ok (.getfield 24, 3) := by decide +kernel
theorem dX0_tell_87 : decode cX0_tell 87 = .ok (.iload_n 1, 1) := by decide +kernel
theorem dX0_tell_88 : decode cX0_tell 88 = .ok (.iaload, 1) := by decide +kernel
theorem dX0_tell_89 : decode cX0_tell 89 = .ok (.ireturn, 1) := by decide +kernel
theorem dX0_tell_90 : decode cX0_tell 90 = .ok (.aload_n 0, 1) := by decide +kernel
theorem dX0_tell_91 : decode cX0_tell 91 = .ok (.iload_n 1, 1) := by decide +kernel
theorem dX0_tell_92 : decode cX0_tell 92 = .ok (.invokevirtual 132, 3) := by decide +kernel
theorem dX0_tell_95 : decode cX0_tell 95 = .ok (.ireturn, 1) := by decide +kernel
theorem dX0_tell_96 : decode cX0_tell 96 = .ok (.bipush (-102), 2) := by decide +kernel
theorem dX0_tell_98 : decode cX0_tell 98 = .ok (.ireturn, 1) := by decide +kernel
theorem dX0_goneAt_0 : decode cX0_goneAt 0 = .ok (.iconst 3, 1) := by decide +kernel
theorem dX0_goneAt_1 : decode cX0_goneAt 1 = .ok (.aload_n 0, 1) := by decide +kernel
theorem dX0_goneAt_2 : decode cX0_goneAt 2 = .ok (.getfield 21, 3) := by decide +kernel
theorem dX0_goneAt_5 : decode cX0_goneAt 5 = .ok (.iload_n 1, 1) := by decide +kernel
theorem dX0_goneAt_6 : decode cX0_goneAt 6 = .ok (.iaload, 1) := by decide +kernel
theorem dX0_goneAt_7 : decode cX0_goneAt 7 = .ok (.isub, 1) := by decide +kernel
theorem dX0_goneAt_8 : decode cX0_goneAt 8 = .ok (.istore_n 2, 1) := by decide +kernel
theorem dX0_goneAt_9 : decode cX0_goneAt 9 = .ok (.aload_n 0, 1) := by decide +kernel
theorem dX0_goneAt_10 : decode cX0_goneAt 10 = .ok (.getfield 9, 3) := by decide +kernel
theorem dX0_goneAt_13 : decode cX0_goneAt 13 = .ok (.iload_n 1, 1) := by decide +kernel
theorem dX0_goneAt_14 : decode cX0_goneAt 14 = .ok (.iaload, 1) := by decide +kernel
theorem dX0_goneAt_15 : decode cX0_goneAt 15 = .ok (.tableswitch 56 0 4 #[33, 56, 56, 45, 45], 33) := by decide +kernel
theorem dX0_goneAt_48 : decode cX0_goneAt 48 = .ok (.aload_n 0, 1) := by decide +kernel
theorem dX0_goneAt_49 : decode cX0_goneAt 49 = .ok (.getfield 18, 3) := by decide +kernel
theorem dX0_goneAt_52 : decode cX0_goneAt 52 = .ok (.iload_n 1, 1) := by decide +kernel
theorem dX0_goneAt_53 : decode cX0_goneAt 53 = .ok (.iaload, 1) := by decide +kernel
theorem dX0_goneAt_54 : decode cX0_goneAt 54 = .ok (.iload_n 2, 1) := by decide +kernel
theorem dX0_goneAt_55 : decode cX0_goneAt 55 = .ok (.bipush 6, 2) := by decide +kernel
theorem dX0_goneAt_57 : decode cX0_goneAt 57 = .ok (.imul, 1) := by decide +kernel
theorem dX0_goneAt_58 : decode cX0_goneAt 58 = .ok (.iadd, 1) := by decide +kernel
theorem dX0_goneAt_59 : decode cX0_goneAt 59 = .ok (.ireturn, 1) := by decide +kernel
theorem dX0_goneAt_60 : decode cX0_goneAt 60 = .ok (.aload_n 0, 1) := by decide +kernel
theorem dX0_goneAt_61 : decode cX0_goneAt 61 = .ok (.getfield 18, 3) := by decide +kernel
theorem dX0_goneAt_64 : decode cX0_goneAt 64 = .ok (.iload_n 1, 1) := by decide +kernel
theorem dX0_goneAt_65 : decode cX0_goneAt 65 = .ok (.iaload, 1) := by decide +kernel
theorem dX0_goneAt_66 : decode cX0_goneAt 66 = .ok (.iload_n 2, 1) := by decide +kernel
theorem dX0_goneAt_67 : decode cX0_goneAt 67 = .ok (.iconst 4, 1) := by decide +kernel
theorem dX0_goneAt_68 : decode cX0_goneAt 68 = .ok (.imul, 1) := by decide +kernel
theorem dX0_goneAt_69 : decode cX0_goneAt 69 = .ok (.iadd, 1) := by decide +kernel
theorem dX0_goneAt_70 : decode cX0_goneAt 70 = .ok (.ireturn, 1) := by decide +kernel
theorem dX0_goneAt_71 : decode cX0_goneAt 71 = .ok (.iconst (-1), 1) := by decide +kernel
theorem dX0_goneAt_72 : decode cX0_goneAt 72 = .ok (.ireturn, 1) := by decide +kernel
set_option maxRecDepth 20000 in
theorem ggX0_letterAt_X0_waitingAt : GoodIn wsX0_letterAt wsX0_waitingAt := goodIn_r _ [6, 7, 8, 9, 10, 5, 11, 12, 13, 14, 15, 16, 17, 18, 19, 20, 21, 22, 23, 24] (by decide +kernel) (by decide +kernel)
set_option maxRecDepth 20000 in
theorem gX0_letterAt_X0_waitingAt : GoodIn wsX0_letterAt (wsV RX0 55 RX0 yX0_waitingAt wsX0_waitingAt) := goodIn_app (goodIn_of _ (by decide +kernel)) ggX0_letterAt_X0_waitingAt
theorem dX0_letterAt_0 : decode cX0_letterAt 0 = .ok (.iload_n 2, 1) := by decide +kernel
theorem dX0_letterAt_1 : decode cX0_letterAt 1 = .ok (.ifCond .lt 12, 3) := by decide +kernel
theorem dX0_letterAt_4 : decode cX0_letterAt 4 = .ok (.iload_n 2, 1) := by decide +kernel
theorem dX0_letterAt_5 : decode cX0_letterAt 5 = .ok (.aload_n 0, 1) := by decide +kernel
theorem dX0_letterAt_6 : decode cX0_letterAt 6 = .ok (.iload_n 1, 1) := by decide +kernel
theorem dX0_letterAt_7 : decode cX0_letterAt 7 = .ok (.invokevirtual 55, 3) := by decide +kernel
theorem dX0_letterAt_10 : decode cX0_letterAt 10 = .ok (.if_icmp .lt 6, 3) := by decide +kernel
theorem dX0_letterAt_13 : decode cX0_letterAt 13 = .ok (.bipush (-101), 2) := by decide +kernel
theorem dX0_letterAt_15 : decode cX0_letterAt 15 = .ok (.ireturn, 1) := by decide +kernel
theorem dX0_letterAt_16 : decode cX0_letterAt 16 = .ok (.aload_n 0, 1) := by decide +kernel
theorem dX0_letterAt_17 : decode cX0_letterAt 17 = .ok (.getfield 30, 3) := by decide +kernel
theorem dX0_letterAt_20 : decode cX0_letterAt 20 = .ok (.iload_n 1, 1) := by decide +kernel
theorem dX0_letterAt_21 : decode cX0_letterAt 21 = .ok (.iconst 3, 1) := by decide +kernel
theorem dX0_letterAt_22 : decode cX0_letterAt 22 = .ok (.imul, 1) := by decide +kernel
theorem dX0_letterAt_23 : decode cX0_letterAt 23 = .ok (.iload_n 2, 1) := by decide +kernel
theorem dX0_letterAt_24 : decode cX0_letterAt 24 = .ok (.iadd, 1) := by decide +kernel
theorem dX0_letterAt_25 : decode cX0_letterAt 25 = .ok (.iaload, 1) := by decide +kernel
theorem dX0_letterAt_26 : decode cX0_letterAt 26 = .ok (.ireturn, 1) := by decide +kernel
theorem dX1_init_0 : decode cX1_init 0 = .ok (.aload_n 0, 1) := by decide +kernel
theorem dX1_init_1 : decode cX1_init 1 = .ok (.invokespecial 3, 3) := by decide +kernel
theorem dX1_init_4 : decode cX1_init 4 = .ok (.aload_n 0, 1) := by decide +kernel
theorem dX1_init_5 : decode cX1_init 5 = .ok (.iconst 4, 1) := by decide +kernel
theorem dX1_init_6 : decode cX1_init 6 = .ok (.newarray .int, 2) := by decide +kernel
theorem dX1_init_8 : decode cX1_init 8 = .ok (.putfield 11, 3) := by decide +kernel
theorem dX1_init_11 : decode cX1_init 11 = .ok (.aload_n 0, 1) := by decide +kernel
theorem dX1_init_12 : decode cX1_init 12 = .ok (.iconst 4, 1) := by decide +kernel
theorem dX1_init_13 : decode cX1_init 13 = .ok (.newarray .int, 2) := by decide +kernel
theorem dX1_init_15 : decode cX1_init 15 = .ok (.putfield 15, 3) := by decide +kernel
theorem dX1_init_18 : decode cX1_init 18 = .ok (.aload_n 0, 1) := by decide +kernel
theorem dX1_init_19 : decode cX1_init 19 = .ok (.iconst 0, 1) := by decide +kernel
theorem dX1_init_20 : decode cX1_init 20 = .ok (.putfield 18, 3) := by decide +kernel
theorem dX1_init_23 : decode cX1_init 23 = .ok (.return_, 1) := by decide +kernel
theorem dX1_howMany_0 : decode cX1_howMany 0 = .ok (.aload_n 0, 1) := by decide +kernel
theorem dX1_howMany_1 : decode cX1_howMany 1 = .ok (.getfield 18, 3) := by decide +kernel
theorem dX1_howMany_4 : decode cX1_howMany 4 = .ok (.ireturn, 1) := by decide +kernel
theorem dX1_slotOf_0 : decode cX1_slotOf 0 = .ok (.iconst 0, 1) := by decide +kernel
theorem dX1_slotOf_1 : decode cX1_slotOf 1 = .ok (.istore_n 2, 1) := by decide +kernel
theorem dX1_slotOf_2 : decode cX1_slotOf 2 = .ok (.iload_n 2, 1) := by decide +kernel
theorem dX1_slotOf_3 : decode cX1_slotOf 3 = .ok (.aload_n 0, 1) := by decide +kernel
theorem dX1_slotOf_4 : decode cX1_slotOf 4 = .ok (.getfield 18, 3) := by decide +kernel
theorem dX1_slotOf_7 : decode cX1_slotOf 7 = .ok (.if_icmp .ge 21, 3) := by decide +kernel
theorem dX1_slotOf_10 : decode cX1_slotOf 10 = .ok (.aload_n 0, 1) := by decide +kernel
theorem dX1_slotOf_11 : decode cX1_slotOf 11 = .ok (.getfield 11, 3) := by decide +kernel
theorem dX1_slotOf_14 : decode cX1_slotOf 14 = .ok (.iload_n 2, 1) := by decide +kernel
theorem dX1_slotOf_15 : decode cX1_slotOf 15 = .ok (.iaload, 1) := by decide +kernel
theorem dX1_slotOf_16 : decode cX1_slotOf 16 = .ok (.iload_n 1, 1) := by decide +kernel
theorem dX1_slotOf_17 : decode cX1_slotOf 17 = .ok (.if_icmp .ne 5, 3) := by decide +kernel
theorem dX1_slotOf_20 : decode cX1_slotOf 20 = .ok (.iload_n 2, 1) := by decide +kernel
theorem dX1_slotOf_21 : decode cX1_slotOf 21 = .ok (.ireturn, 1) := by decide +kernel
theorem dX1_slotOf_22 : decode cX1_slotOf 22 = .ok (.iinc 2 1, 3) := by decide +kernel
theorem dX1_slotOf_25 : decode cX1_slotOf 25 = .ok (.goto (-23), 3) := by decide +kernel
theorem dX1_slotOf_28 : decode cX1_slotOf 28 = .ok (.iconst (-1), 1) := by decide +kernel
theorem dX1_slotOf_29 : decode cX1_slotOf 29 = .ok (.ireturn, 1) := by decide +kernel
set_option maxRecDepth 20000 in
theorem ggX1_hopOf_X1_slotOf : GoodIn wsX1_hopOf wsX1_slotOf := goodIn_r _ [6, 7, 8, 9, 10, 11] (by decide +kernel) (by decide +kernel)
set_option maxRecDepth 20000 in
theorem gX1_hopOf_X1_slotOf : GoodIn wsX1_hopOf (wsV RX1 22 RX1 yX1_slotOf wsX1_slotOf) := goodIn_app (goodIn_of _ (by decide +kernel)) ggX1_hopOf_X1_slotOf
theorem dX1_hopOf_0 : decode cX1_hopOf 0 = .ok (.aload_n 0, 1) := by decide +kernel
theorem dX1_hopOf_1 : decode cX1_hopOf 1 = .ok (.iload_n 1, 1) := by decide +kernel
theorem dX1_hopOf_2 : decode cX1_hopOf 2 = .ok (.invokevirtual 22, 3) := by decide +kernel
theorem dX1_hopOf_5 : decode cX1_hopOf 5 = .ok (.istore_n 2, 1) := by decide +kernel
theorem dX1_hopOf_6 : decode cX1_hopOf 6 = .ok (.iload_n 2, 1) := by decide +kernel
theorem dX1_hopOf_7 : decode cX1_hopOf 7 = .ok (.iconst (-1), 1) := by decide +kernel
theorem dX1_hopOf_8 : decode cX1_hopOf 8 = .ok (.if_icmp .ne 7, 3) := by decide +kernel
theorem dX1_hopOf_11 : decode cX1_hopOf 11 = .ok (.iconst (-1), 1) := by decide +kernel
theorem dX1_hopOf_12 : decode cX1_hopOf 12 = .ok (.goto 9, 3) := by decide +kernel
theorem dX1_hopOf_15 : decode cX1_hopOf 15 = .ok (.aload_n 0, 1) := by decide +kernel
theorem dX1_hopOf_16 : decode cX1_hopOf 16 = .ok (.getfield 15, 3) := by decide +kernel
theorem dX1_hopOf_19 : decode cX1_hopOf 19 = .ok (.iload_n 2, 1) := by decide +kernel
theorem dX1_hopOf_20 : decode cX1_hopOf 20 = .ok (.iaload, 1) := by decide +kernel
theorem dX1_hopOf_21 : decode cX1_hopOf 21 = .ok (.ireturn, 1) := by decide +kernel
theorem dX1_leadTo_0 : decode cX1_leadTo 0 = .ok (.iconst 0, 1) := by decide +kernel
theorem dX1_leadTo_1 : decode cX1_leadTo 1 = .ok (.istore_n 2, 1) := by decide +kernel
theorem dX1_leadTo_2 : decode cX1_leadTo 2 = .ok (.iload_n 2, 1) := by decide +kernel
theorem dX1_leadTo_3 : decode cX1_leadTo 3 = .ok (.aload_n 0, 1) := by decide +kernel
theorem dX1_leadTo_4 : decode cX1_leadTo 4 = .ok (.getfield 18, 3) := by decide +kernel
theorem dX1_leadTo_7 : decode cX1_leadTo 7 = .ok (.if_icmp .ge 21, 3) := by decide +kernel
theorem dX1_leadTo_10 : decode cX1_leadTo 10 = .ok (.aload_n 0, 1) := by decide +kernel
theorem dX1_leadTo_11 : decode cX1_leadTo 11 = .ok (.getfield 15, 3) := by decide +kernel
theorem dX1_leadTo_14 : decode cX1_leadTo 14 = .ok (.iload_n 2, 1) := by decide +kernel
theorem dX1_leadTo_15 : decode cX1_leadTo 15 = .ok (.iaload, 1) := by decide +kernel
theorem dX1_leadTo_16 : decode cX1_leadTo 16 = .ok (.iload_n 1, 1) := by decide +kernel
theorem dX1_leadTo_17 : decode cX1_leadTo 17 = .ok (.if_icmp .ne 5, 3) := by decide +kernel
theorem dX1_leadTo_20 : decode cX1_leadTo 20 = .ok (.iconst 1, 1) := by decide +kernel
theorem dX1_leadTo_21 : decode cX1_leadTo 21 = .ok (.ireturn, 1) := by decide +kernel
theorem dX1_leadTo_22 : decode cX1_leadTo 22 = .ok (.iinc 2 1, 3) := by decide +kernel
theorem dX1_leadTo_25 : decode cX1_leadTo 25 = .ok (.goto (-23), 3) := by decide +kernel
theorem dX1_leadTo_28 : decode cX1_leadTo 28 = .ok (.iconst 0, 1) := by decide +kernel
theorem dX1_leadTo_29 : decode cX1_leadTo 29 = .ok (.ireturn, 1) := by decide +kernel
set_option maxRecDepth 20000 in
theorem ggX1_keep_X1_slotOf : GoodIn wsX1_keep wsX1_slotOf := goodIn_r _ [8, 2, 3, 13, 14, 15] (by decide +kernel) (by decide +kernel)
set_option maxRecDepth 20000 in
theorem gX1_keep_X1_slotOf : GoodIn wsX1_keep (wsV RX1 22 RX1 yX1_slotOf wsX1_slotOf) := goodIn_app (goodIn_of _ (by decide +kernel)) ggX1_keep_X1_slotOf
set_option maxRecDepth 20000 in
theorem ggX1_keep_X1_removeSlot : GoodIn wsX1_keep wsX1_removeSlot := goodIn_r _ [12, 2, 3, 1, 13, 14, 15] (by decide +kernel) (by decide +kernel)
set_option maxRecDepth 20000 in
theorem gX1_keep_X1_removeSlot : GoodIn wsX1_keep (wsV RX1 26 RX1 yX1_removeSlot wsX1_removeSlot) := goodIn_app (goodIn_of _ (by decide +kernel)) ggX1_keep_X1_removeSlot
theorem dX1_keep_0 : decode cX1_keep 0 = .ok (.aload_n 0, 1) := by decide +kernel
theorem dX1_keep_1 : decode cX1_keep 1 = .ok (.iload_n 1, 1) := by decide +kernel
theorem dX1_keep_2 : decode cX1_keep 2 = .ok (.invokevirtual 22, 3) := by decide +kernel
theorem dX1_keep_5 : decode cX1_keep 5 = .ok (.istore_n 3, 1) := by decide +kernel
theorem dX1_keep_6 : decode cX1_keep 6 = .ok (.iload_n 3, 1) := by decide +kernel
theorem dX1_keep_7 : decode cX1_keep 7 = .ok (.iconst (-1), 1) := by decide +kernel
theorem dX1_keep_8 : decode cX1_keep 8 = .ok (.if_icmp .eq 11, 3) := by decide +kernel
theorem dX1_keep_11 : decode cX1_keep 11 = .ok (.aload_n 0, 1) := by decide +kernel
theorem dX1_keep_12 : decode cX1_keep 12 = .ok (.getfield 15, 3) := by decide +kernel
theorem dX1_keep_15 : decode cX1_keep 15 = .ok (.iload_n 3, 1) := by decide +kernel
theorem dX1_keep_16 : decode cX1_keep 16 = .ok (.iload_n 2, 1) := by decide +kernel
theorem dX1_keep_17 : decode cX1_keep 17 = .ok (.iastore, 1) := by decide +kernel
theorem dX1_keep_18 : decode cX1_keep 18 = .ok (.return_, 1) := by decide +kernel
theorem dX1_keep_19 : decode cX1_keep 19 = .ok (.aload_n 0, 1) := by decide +kernel
theorem dX1_keep_20 : decode cX1_keep 20 = .ok (.getfield 18, 3) := by decide +kernel
theorem dX1_keep_23 : decode cX1_keep 23 = .ok (.iconst 4, 1) := by decide +kernel
theorem dX1_keep_24 : decode cX1_keep 24 = .ok (.if_icmp .lt 8, 3) := by decide +kernel
theorem dX1_keep_27 : decode cX1_keep 27 = .ok (.aload_n 0, 1) := by decide +kernel
theorem dX1_keep_28 : decode cX1_keep 28 = .ok (.iconst 0, 1) := by decide +kernel
theorem dX1_keep_29 : decode cX1_keep 29 = .ok (.invokevirtual 26, 3) := by decide +kernel
theorem dX1_keep_32 : decode cX1_keep 32 = .ok (.aload_n 0, 1) := by decide +kernel
theorem dX1_keep_33 : decode cX1_keep 33 = .ok (.getfield 11, 3) := by decide +kernel
theorem dX1_keep_36 : decode cX1_keep 36 = .ok (.aload_n 0, 1) := by decide +kernel
theorem dX1_keep_37 : decode cX1_keep 37 = .ok (.getfield 18, 3) := by decide +kernel
theorem dX1_keep_40 : decode cX1_keep 40 = .ok (.iload_n 1, 1) := by decide +kernel
theorem dX1_keep_41 : decode cX1_keep 41 = .ok (.iastore, 1) := by decide +kernel
theorem dX1_keep_42 : decode cX1_keep 42 = .ok (.aload_n 0, 1) := by decide +kernel
theorem dX1_keep_43 : decode cX1_keep 43 = .ok (.getfield 15, 3) := by decide +kernel
theorem dX1_keep_46 : decode cX1_keep 46 = .ok (.aload_n 0, 1) := by decide +kernel
theorem dX1_keep_47 : decode cX1_keep 47 = .ok (.getfield 18, 3) := by decide +kernel
theorem dX1_keep_50 : decode cX1_keep 50 = .ok (.iload_n 2, 1) := by decide +kernel
theorem dX1_keep_51 : decode cX1_keep 51 = .ok (.iastore, 1) := by decide +kernel
theorem dX1_keep_52 : decode cX1_keep 52 = .ok (.aload_n 0, 1) := by decide +kernel
theorem dX1_keep_53 : decode cX1_keep 53 = .ok (.dup, 1) := by decide +kernel
theorem dX1_keep_54 : decode cX1_keep 54 = .ok (.getfield 18, 3) := by decide +kernel
theorem dX1_keep_57 : decode cX1_keep 57 = .ok (.iconst 1, 1) := by decide +kernel
theorem dX1_keep_58 : decode cX1_keep 58 = .ok (.iadd, 1) := by decide +kernel
theorem dX1_keep_59 : decode cX1_keep 59 = .ok (.putfield 18, 3) := by decide +kernel
theorem dX1_keep_62 : decode cX1_keep 62 = .ok (.return_, 1) := by decide +kernel
set_option maxRecDepth 20000 in
theorem ggX1_forget_X1_removeSlot : GoodIn wsX1_forget wsX1_removeSlot := goodIn_r _ [7, 1, 8, 2, 9, 10, 11] (by decide +kernel) (by decide +kernel)
set_option maxRecDepth 20000 in
theorem gX1_forget_X1_removeSlot : GoodIn wsX1_forget (wsV RX1 26 RX1 yX1_removeSlot wsX1_removeSlot) := goodIn_app (goodIn_of _ (by decide +kernel)) ggX1_forget_X1_removeSlot
theorem dX1_forget_0 : decode cX1_forget 0 = .ok (.aload_n 0, 1) := by decide +kernel
theorem dX1_forget_1 : decode cX1_forget 1 = .ok (.getfield 18, 3) := by decide +kernel
theorem dX1_forget_4 : decode cX1_forget 4 = .ok (.iconst 1, 1) := by decide +kernel
theorem dX1_forget_5 : decode cX1_forget 5 = .ok (.isub, 1) := by decide +kernel
theorem dX1_forget_6 : decode cX1_forget 6 = .ok (.istore_n 2, 1) := by decide +kernel
theorem dX1_forget_7 : decode cX1_forget 7 = .ok (.iload_n 2, 1) := by decide +kernel
theorem dX1_forget_8 : decode cX1_forget 8 = .ok (.ifCond .lt 24, 3) := by decide +kernel
theorem dX1_forget_11 : decode cX1_forget 11 = .ok (.aload_n 0, 1) := by decide +kernel
theorem dX1_forget_12 : decode cX1_forget 12 = .ok (.getfield 15, 3) := by decide +kernel
theorem dX1_forget_15 : decode cX1_forget 15 = .ok (.iload_n 2, 1) := by decide +kernel
theorem dX1_forget_16 : decode cX1_forget 16 = .ok (.iaload, 1) := by decide +kernel
theorem dX1_forget_17 : decode cX1_forget 17 = .ok (.iload_n 1, 1) := by decide +kernel
theorem dX1_forget_18 : decode cX1_forget 18 = .ok (.if_icmp .ne 8, 3) := by decide +kernel
theorem dX1_forget_21 : decode cX1_forget 21 = .ok (.aload_n 0, 1) := by decide +kernel
theorem dX1_forget_22 : decode cX1_forget 22 = .ok (.iload_n 2, 1) := by decide +kernel
theorem dX1_forget_23 : decode cX1_forget 23 = .ok (.invokevirtual 26, 3) := by decide +kernel
theorem dX1_forget_26 : decode cX1_forget 26 = .ok (.iinc 2 (-1), 3) := by decide +kernel
theorem dX1_forget_29 : decode cX1_forget 29 = .ok (.goto (-22), 3) := by decide +kernel
theorem dX1_forget_32 : decode cX1_forget 32 = .ok (.return_, 1) := by decide +kernel
theorem dX1_removeSlot_0 : decode cX1_removeSlot 0 = .ok (.iload_n 1, 1) := by decide +kernel
theorem dX1_removeSlot_1 : decode cX1_removeSlot 1 = .ok (.istore_n 2, 1) := by decide +kernel
theorem dX1_removeSlot_2 : decode cX1_removeSlot 2 = .ok (.iload_n 2, 1) := by decide +kernel
theorem dX1_removeSlot_3 : decode cX1_removeSlot 3 = .ok (.aload_n 0, 1) := by decide +kernel
theorem dX1_removeSlot_4 : decode cX1_removeSlot 4 = .ok (.getfield 18, 3) := by decide +kernel
theorem dX1_removeSlot_7 : decode cX1_removeSlot 7 = .ok (.iconst 1, 1) := by decide +kernel
theorem dX1_removeSlot_8 : decode cX1_removeSlot 8 = .ok (.isub, 1) := by decide +kernel
theorem dX1_removeSlot_9 : decode cX1_removeSlot 9 = .ok (.if_icmp .ge 37, 3) := by decide +kernel
theorem dX1_removeSlot_12 : decode cX1_removeSlot 12 = .ok (.aload_n 0, 1) := by decide +kernel
theorem dX1_removeSlot_13 : decode cX1_removeSlot 13 = .ok (.getfield 11, 3) := by decide +kernel
theorem dX1_removeSlot_16 : decode cX1_removeSlot 16 = .ok (.iload_n 2, 1) := by decide +kernel
theorem dX1_removeSlot_17 : decode cX1_removeSlot 17 = .ok (.aload_n 0, 1) := by decide +kernel
theorem dX1_removeSlot_18 : decode cX1_removeSlot 18 = .ok (.getfield 11, 3) := by decide +kernel
theorem dX1_removeSlot_21 : decode cX1_removeSlot 21 = .ok (.iload_n 2, 1) := by decide +kernel
theorem dX1_removeSlot_22 : decode cX1_removeSlot 22 = .ok (.iconst 1, 1) := by decide +kernel
theorem dX1_removeSlot_23 : decode cX1_removeSlot 23 = .ok (.iadd, 1) := by decide +kernel
theorem dX1_removeSlot_24 : decode cX1_removeSlot 24 = .ok (.iaload, 1) := by decide +kernel
theorem dX1_removeSlot_25 : decode cX1_removeSlot 25 = .ok (.iastore, 1) := by decide +kernel
theorem dX1_removeSlot_26 : decode cX1_removeSlot 26 = .ok (.aload_n 0, 1) := by decide +kernel
theorem dX1_removeSlot_27 : decode cX1_removeSlot 27 = .ok (.getfield 15, 3) := by decide +kernel
theorem dX1_removeSlot_30 : decode cX1_removeSlot 30 = .ok (.iload_n 2, 1) := by decide +kernel
theorem dX1_removeSlot_31 : decode cX1_removeSlot 31 = .ok (.aload_n 0, 1) := by decide +kernel
theorem dX1_removeSlot_32 : decode cX1_removeSlot 32 = .ok (.getfield 15, 3) := by decide +kernel
theorem dX1_removeSlot_35 : decode cX1_removeSlot 35 = .ok (.iload_n 2, 1) := by decide +kernel
theorem dX1_removeSlot_36 : decode cX1_removeSlot 36 = .ok (.iconst 1, 1) := by decide +kernel
theorem dX1_removeSlot_37 : decode cX1_removeSlot 37 = .ok (.iadd, 1) := by decide +kernel
theorem dX1_removeSlot_38 : decode cX1_removeSlot 38 = .ok (.iaload, 1) := by decide +kernel
theorem dX1_removeSlot_39 : decode cX1_removeSlot 39 = .ok (.iastore, 1) := by decide +kernel
theorem dX1_removeSlot_40 : decode cX1_removeSlot 40 = .ok (.iinc 2 1, 3) := by decide +kernel
theorem dX1_removeSlot_43 : decode cX1_removeSlot 43 = .ok (.goto (-41), 3) := by decide +kernel
theorem dX1_removeSlot_46 : decode cX1_removeSlot 46 = .ok (.aload_n 0, 1) := by decide +kernel
theorem dX1_removeSlot_47 : decode cX1_removeSlot 47 = .ok (.dup, 1) := by decide +kernel
theorem dX1_removeSlot_48 : decode cX1_removeSlot 48 = .ok (.getfield 18, 3) := by decide +kernel
theorem dX1_removeSlot_51 : decode cX1_removeSlot 51 = .ok (.iconst 1, 1) := by decide +kernel
theorem dX1_removeSlot_52 : decode cX1_removeSlot 52 = .ok (.isub, 1) := by decide +kernel
theorem dX1_removeSlot_53 : decode cX1_removeSlot 53 = .ok (.putfield 18, 3) := by decide +kernel
theorem dX1_removeSlot_56 : decode cX1_removeSlot 56 = .ok (.return_, 1) := by decide +kernel
theorem dX2_init_0 : decode cX2_init 0 = .ok (.aload_n 0, 1) := by decide +kernel
theorem dX2_init_1 : decode cX2_init 1 = .ok (.invokespecial 3, 3) := by decide +kernel
theorem dX2_init_4 : decode cX2_init 4 = .ok (.aload_n 0, 1) := by decide +kernel
theorem dX2_init_5 : decode cX2_init 5 = .ok (.bipush 50, 2) := by decide +kernel
theorem dX2_init_7 : decode cX2_init 7 = .ok (.newarray .int, 2) := by decide +kernel
theorem dX2_init_9 : decode cX2_init 9 = .ok (.putfield 11, 3) := by decide +kernel
theorem dX2_init_12 : decode cX2_init 12 = .ok (.aload_n 0, 1) := by decide +kernel
theorem dX2_init_13 : decode cX2_init 13 = .ok (.bipush 9, 2) := by decide +kernel
theorem dX2_init_15 : decode cX2_init 15 = .ok (.putfield 15, 3) := by decide +kernel
theorem dX2_init_18 : decode cX2_init 18 = .ok (.aload_n 0, 1) := by decide +kernel
theorem dX2_init_19 : decode cX2_init 19 = .ok (.iconst 0, 1) := by decide +kernel
theorem dX2_init_20 : decode cX2_init 20 = .ok (.putfield 19, 3) := by decide +kernel
theorem dX2_init_23 : decode cX2_init 23 = .ok (.aload_n 0, 1) := by decide +kernel
theorem dX2_init_24 : decode cX2_init 24 = .ok (.iconst 0, 1) := by decide +kernel
theorem dX2_init_25 : decode cX2_init 25 = .ok (.putfield 22, 3) := by decide +kernel
theorem dX2_init_28 : decode cX2_init 28 = .ok (.aload_n 0, 1) := by decide +kernel
theorem dX2_init_29 : decode cX2_init 29 = .ok (.iconst 0, 1) := by decide +kernel
theorem dX2_init_30 : decode cX2_init 30 = .ok (.putfield 25, 3) := by decide +kernel
theorem dX2_init_33 : decode cX2_init 33 = .ok (.return_, 1) := by decide +kernel
theorem dX2_add_0 : decode cX2_add 0 = .ok (.aload_n 0, 1) := by decide +kernel
theorem dX2_add_1 : decode cX2_add 1 = .ok (.aload_n 0, 1) := by decide +kernel
theorem dX2_add_2 : decode cX2_add 2 = .ok (.getfield 15, 3) := by decide +kernel
theorem dX2_add_5 : decode cX2_add 5 = .ok (.bipush 9, 2) := by decide +kernel
theorem dX2_add_7 : decode cX2_add 7 = .ok (.if_icmp .lt 7, 3) := by decide +kernel
theorem dX2_add_10 : decode cX2_add 10 = .ok (.iconst 0, 1) := by decide +kernel
theorem dX2_add_11 : decode cX2_add 11 = .ok (.goto 9, 3) := by decide +kernel
theorem dX2_add_14 : decode cX2_add 14 = .ok (.aload_n 0, 1) := by decide +kernel
theorem dX2_add_15 : decode cX2_add 15 = .ok (.getfield 15, 3) := by decide +kernel
theorem dX2_add_18 : decode cX2_add 18 = .ok (.iconst 1, 1) := by decide +kernel
theorem dX2_add_19 : decode cX2_add 19 = .ok (.iadd, 1) := by decide +kernel
theorem dX2_add_20 : decode cX2_add 20 = .ok (.putfield 15, 3) := by decide +kernel
theorem dX2_add_23 : decode cX2_add 23 = .ok (.aload_n 0, 1) := by decide +kernel
theorem dX2_add_24 : decode cX2_add 24 = .ok (.getfield 15, 3) := by decide +kernel
theorem dX2_add_27 : decode cX2_add 27 = .ok (.iconst 5, 1) := by decide +kernel
theorem dX2_add_28 : decode cX2_add 28 = .ok (.imul, 1) := by decide +kernel
theorem dX2_add_29 : decode cX2_add 29 = .ok (.istore 6, 2) := by decide +kernel
theorem dX2_add_31 : decode cX2_add 31 = .ok (.aload_n 0, 1) := by decide +kernel
theorem dX2_add_32 : decode cX2_add 32 = .ok (.getfield 11, 3) := by decide +kernel
theorem dX2_add_35 : decode cX2_add 35 = .ok (.iload 6, 2) := by decide +kernel
theorem dX2_add_37 : decode cX2_add 37 = .ok (.iload_n 1, 1) := by decide +kernel
theorem dX2_add_38 : decode cX2_add 38 = .ok (.iastore, 1) := by decide +kernel
theorem dX2_add_39 : decode cX2_add 39 = .ok (.aload_n 0, 1) := by decide +kernel
theorem dX2_add_40 : decode cX2_add 40 = .ok (.getfield 11, 3) := by decide +kernel
theorem dX2_add_43 : decode cX2_add 43 = .ok (.iload 6, 2) := by decide +kernel
theorem dX2_add_45 : decode cX2_add 45 = .ok (.iconst 1, 1) := by decide +kernel
theorem dX2_add_46 : decode cX2_add 46 = .ok (.iadd, 1) := by decide +kernel
theorem dX2_add_47 : decode cX2_add 47 = .ok (.iload_n 2, 1) := by decide +kernel
theorem dX2_add_48 : decode cX2_add 48 = .ok (.iastore, 1) := by decide +kernel
theorem dX2_add_49 : decode cX2_add 49 = .ok (.aload_n 0, 1) := by decide +kernel
theorem dX2_add_50 : decode cX2_add 50 = .ok (.getfield 11, 3) := by decide +kernel
theorem dX2_add_53 : decode cX2_add 53 = .ok (.iload 6, 2) := by decide +kernel
theorem dX2_add_55 : decode cX2_add 55 = .ok (.iconst 2, 1) := by decide +kernel
theorem dX2_add_56 : decode cX2_add 56 = .ok (.iadd, 1) := by decide +kernel
theorem dX2_add_57 : decode cX2_add 57 = .ok (.iload_n 3, 1) := by decide +kernel
theorem dX2_add_58 : decode cX2_add 58 = .ok (.iastore, 1) := by decide +kernel
theorem dX2_add_59 : decode cX2_add 59 = .ok (.aload_n 0, 1) := by decide +kernel
theorem dX2_add_60 : decode cX2_add 60 = .ok (.getfield 11, 3) := by decide +kernel
theorem dX2_add_63 : decode cX2_add 63 = .ok (.iload 6, 2) := by decide +kernel
theorem dX2_add_65 : decode cX2_add 65 = .ok (.iconst 3, 1) := by decide +kernel
theorem dX2_add_66 : decode cX2_add 66 = .ok (.iadd, 1) := by decide +kernel
theorem dX2_add_67 : decode cX2_add 67 = .ok (.iload 4, 2) := by decide +kernel
theorem dX2_add_69 : decode cX2_add 69 = .ok (.iastore, 1) := by decide +kernel
theorem dX2_add_70 : decode cX2_add 70 = .ok (.aload_n 0, 1) := by decide +kernel
theorem dX2_add_71 : decode cX2_add 71 = .ok (.getfield 11, 3) := by decide +kernel
theorem dX2_add_74 : decode cX2_add 74 = .ok (.iload 6, 2) := by decide +kernel
theorem dX2_add_76 : decode cX2_add 76 = .ok (.iconst 4, 1) := by decide +kernel
theorem dX2_add_77 : decode cX2_add 77 = .ok (.iadd, 1) := by decide +kernel
theorem dX2_add_78 : decode cX2_add 78 = .ok (.iload 5, 2) := by decide +kernel
theorem dX2_add_80 : decode cX2_add 80 = .ok (.iastore, 1) := by decide +kernel
theorem dX2_add_81 : decode cX2_add 81 = .ok (.aload_n 0, 1) := by decide +kernel
theorem dX2_add_82 : decode cX2_add 82 = .ok (.getfield 19, 3) := by decide +kernel
theorem dX2_add_85 : decode cX2_add 85 = .ok (.bipush 10, 2) := by decide +kernel
theorem dX2_add_87 : decode cX2_add 87 = .ok (.if_icmp .ge 13, 3) := by decide +kernel
theorem dX2_add_90 : decode cX2_add 90 = .ok (.aload_n 0, 1) := by decide +kernel
theorem dX2_add_91 : decode cX2_add 91 = .ok (.dup, 1) := by decide +kernel
theorem dX2_add_92 : decode cX2_add 92 = .ok (.getfield 19, 3) := by decide +kernel
theorem dX2_add_95 : decode cX2_add 95 = .ok (.iconst 1, 1) := by decide +kernel
theorem dX2_add_96 : decode cX2_add 96 = .ok (.iadd, 1) := by decide +kernel
theorem dX2_add_97 : decode cX2_add 97 = .ok (.putfield 19, 3) := by decide +kernel
theorem dX2_add_100 : decode cX2_add 100 = .ok (.aload_n 0, 1) := by decide +kernel
theorem dX2_add_101 : decode cX2_add 101 = .ok (.dup, 1) := by decide +kernel
theorem dX2_add_102 : decode cX2_add 102 = .ok (.getfield 22, 3) := by decide +kernel
theorem dX2_add_105 : decode cX2_add 105 = .ok (.iconst 1, 1) := by decide +kernel
theorem dX2_add_106 : decode cX2_add 106 = .ok (.iadd, 1) := by decide +kernel
theorem dX2_add_107 : decode cX2_add 107 = .ok (.putfield 22, 3) := by decide +kernel
theorem dX2_add_110 : decode cX2_add 110 = .ok (.iload_n 1, 1) := by decide +kernel
theorem dX2_add_111 : decode cX2_add 111 = .ok (.ifCond .ne 13, 3) := by decide +kernel
theorem dX2_add_114 : decode cX2_add 114 = .ok (.aload_n 0, 1) := by decide +kernel
theorem dX2_add_115 : decode cX2_add 115 = .ok (.dup, 1) := by decide +kernel
theorem dX2_add_116 : decode cX2_add 116 = .ok (.getfield 25, 3) := by decide +kernel
theorem dX2_add_119 : decode cX2_add 119 = .ok (.iconst 1, 1) := by decide +kernel
theorem dX2_add_120 : decode cX2_add 120 = .ok (.iadd, 1) := by decide +kernel
theorem dX2_add_121 : decode cX2_add 121 = .ok (.putfield 25, 3) := by decide +kernel
theorem dX2_add_124 : decode cX2_add 124 = .ok (.return_, 1) := by decide +kernel
theorem dX2_tell_0 : decode cX2_tell 0 = .ok (.iload_n 1, 1) := by decide +kernel
theorem dX2_tell_1 : decode cX2_tell 1 = .ok (.ifCond .lt 11, 3) := by decide +kernel
theorem dX2_tell_4 : decode cX2_tell 4 = .ok (.iload_n 1, 1) := by decide +kernel
theorem dX2_tell_5 : decode cX2_tell 5 = .ok (.aload_n 0, 1) := by decide +kernel
theorem dX2_tell_6 : decode cX2_tell 6 = .ok (.getfield 19, 3) := by decide +kernel
theorem dX2_tell_9 : decode cX2_tell 9 = .ok (.if_icmp .lt 6, 3) := by decide +kernel
theorem dX2_tell_12 : decode cX2_tell 12 = .ok (.bipush (-101), 2) := by decide +kernel
theorem dX2_tell_14 : decode cX2_tell 14 = .ok (.ireturn, 1) := by decide +kernel
theorem dX2_tell_15 : decode cX2_tell 15 = .ok (.iload_n 2, 1) := by decide +kernel
theorem dX2_tell_16 : decode cX2_tell 16 = .ok (.ifCond .lt 8, 3) := by decide +kernel
theorem dX2_tell_19 : decode cX2_tell 19 = .ok (.iload_n 2, 1) := by decide +kernel
theorem dX2_tell_20 : decode cX2_tell 20 = .ok (.iconst 5, 1) := by decide +kernel
theorem dX2_tell_21 : decode cX2_tell 21 = .ok (.if_icmp .lt 6, 3) := by decide +kernel
theorem dX2_tell_24 : decode cX2_tell 24 = .ok (.bipush (-102), 2) := by decide +kernel
theorem dX2_tell_26 : decode cX2_tell 26 = .ok (.ireturn, 1) := by decide +kernel
theorem dX2_tell_27 : decode cX2_tell 27 = .ok (.aload_n 0, 1) := by decide +kernel
theorem dX2_tell_28 : decode cX2_tell 28 = .ok (.getfield 15, 3) := by decide +kernel
theorem dX2_tell_31 : decode cX2_tell 31 = .ok (.iload_n 1, 1) := by decide +kernel
theorem dX2_tell_32 : decode cX2_tell 32 = .ok (.isub, 1) := by decide +kernel
theorem dX2_tell_33 : decode cX2_tell 33 = .ok (.istore_n 3, 1) := by decide +kernel
theorem dX2_tell_34 : decode cX2_tell 34 = .ok (.iload_n 3, 1) := by decide +kernel
theorem dX2_tell_35 : decode cX2_tell 35 = .ok (.ifCond .ge 6, 3) := by decide +kernel
theorem dX2_tell_38 : decode cX2_tell 38 = .ok (.iinc 3 10, 3) := by decide +kernel
theorem dX2_tell_41 : decode cX2_tell 41 = .ok (.aload_n 0, 1) := by decide +kernel
theorem dX2_tell_42 : decode cX2_tell 42 = .ok (.getfield 11, 3) := by decide +kernel
theorem dX2_tell_45 : decode cX2_tell 45 = .ok (.iload_n 3, 1) := by decide +kernel
theorem dX2_tell_46 : decode cX2_tell 46 = .ok (.iconst 5, 1) := by decide +kernel
theorem dX2_tell_47 : decode cX2_tell 47 = .ok (.imul, 1) := by decide +kernel
theorem dX2_tell_48 : decode cX2_tell 48 = .ok (.iload_n 2, 1) := by decide +kernel
theorem dX2_tell_49 : decode cX2_tell 49 = .ok (.iadd, 1) := by decide +kernel
theorem dX2_tell_50 : decode cX2_tell 50 = .ok (.iaload, 1) := by decide +kernel
theorem dX2_tell_51 : decode cX2_tell 51 = .ok (.ireturn, 1) := by decide +kernel
theorem dX2_howMany_0 : decode cX2_howMany 0 = .ok (.aload_n 0, 1) := by decide +kernel
theorem dX2_howMany_1 : decode cX2_howMany 1 = .ok (.getfield 19, 3) := by decide +kernel
theorem dX2_howMany_4 : decode cX2_howMany 4 = .ok (.ireturn, 1) := by decide +kernel
theorem dX2_allEver_0 : decode cX2_allEver 0 = .ok (.aload_n 0, 1) := by decide +kernel
theorem dX2_allEver_1 : decode cX2_allEver 1 = .ok (.getfield 22, 3) := by decide +kernel
theorem dX2_allEver_4 : decode cX2_allEver 4 = .ok (.ireturn, 1) := by decide +kernel
theorem dX2_lettersEver_0 : decode cX2_lettersEver 0 = .ok (.aload_n 0, 1) := by decide +kernel
theorem dX2_lettersEver_1 : decode cX2_lettersEver 1 = .ok (.getfield 25, 3) := by decide +kernel
theorem dX2_lettersEver_4 : decode cX2_lettersEver 4 = .ok (.ireturn, 1) := by decide +kernel
theorem dX3_init_0 : decode cX3_init 0 = .ok (.aload_n 0, 1) := by decide +kernel
theorem dX3_init_1 : decode cX3_init 1 = .ok (.invokespecial 3, 3) := by decide +kernel
theorem dX3_init_4 : decode cX3_init 4 = .ok (.aload_n 0, 1) := by decide +kernel
theorem dX3_init_5 : decode cX3_init 5 = .ok (.iconst 4, 1) := by decide +kernel
theorem dX3_init_6 : decode cX3_init 6 = .ok (.newarray .int, 2) := by decide +kernel
theorem dX3_init_8 : decode cX3_init 8 = .ok (.putfield 11, 3) := by decide +kernel
theorem dX3_init_11 : decode cX3_init 11 = .ok (.aload_n 0, 1) := by decide +kernel
theorem dX3_init_12 : decode cX3_init 12 = .ok (.iconst 4, 1) := by decide +kernel
theorem dX3_init_13 : decode cX3_init 13 = .ok (.newarray .int, 2) := by decide +kernel
theorem dX3_init_15 : decode cX3_init 15 = .ok (.putfield 15, 3) := by decide +kernel
theorem dX3_init_18 : decode cX3_init 18 = .ok (.aload_n 0, 1) := by decide +kernel
theorem dX3_init_19 : decode cX3_init 19 = .ok (.iconst 4, 1) := by decide +kernel
theorem dX3_init_20 : decode cX3_init 20 = .ok (.newarray .int, 2) := by decide +kernel
theorem dX3_init_22 : decode cX3_init 22 = .ok (.putfield 18, 3) := by decide +kernel
theorem dX3_init_25 : decode cX3_init 25 = .ok (.aload_n 0, 1) := by decide +kernel
theorem dX3_init_26 : decode cX3_init 26 = .ok (.iconst 0, 1) := by decide +kernel
theorem dX3_init_27 : decode cX3_init 27 = .ok (.putfield 21, 3) := by decide +kernel
theorem dX3_init_30 : decode cX3_init 30 = .ok (.return_, 1) := by decide +kernel
theorem dX3_howMany_0 : decode cX3_howMany 0 = .ok (.aload_n 0, 1) := by decide +kernel
theorem dX3_howMany_1 : decode cX3_howMany 1 = .ok (.getfield 21, 3) := by decide +kernel
theorem dX3_howMany_4 : decode cX3_howMany 4 = .ok (.ireturn, 1) := by decide +kernel
theorem dX3_slotOf_0 : decode cX3_slotOf 0 = .ok (.iconst 0, 1) := by decide +kernel
theorem dX3_slotOf_1 : decode cX3_slotOf 1 = .ok (.istore_n 2, 1) := by decide +kernel
theorem dX3_slotOf_2 : decode cX3_slotOf 2 = .ok (.iload_n 2, 1) := by decide +kernel
theorem dX3_slotOf_3 : decode cX3_slotOf 3 = .ok (.aload_n 0, 1) := by decide +kernel
theorem dX3_slotOf_4 : decode cX3_slotOf 4 = .ok (.getfield 21, 3) := by decide +kernel
theorem dX3_slotOf_7 : decode cX3_slotOf 7 = .ok (.if_icmp .ge 21, 3) := by decide +kernel
theorem dX3_slotOf_10 : decode cX3_slotOf 10 = .ok (.aload_n 0, 1) := by decide +kernel
theorem dX3_slotOf_11 : decode cX3_slotOf 11 = .ok (.getfield 11, 3) := by decide +kernel
theorem dX3_slotOf_14 : decode cX3_slotOf 14 = .ok (.iload_n 2, 1) := by decide +kernel
theorem dX3_slotOf_15 : decode cX3_slotOf 15 = .ok (.iaload, 1) := by decide +kernel
theorem dX3_slotOf_16 : decode cX3_slotOf 16 = .ok (.iload_n 1, 1) := by decide +kernel
theorem dX3_slotOf_17 : decode cX3_slotOf 17 = .ok (.if_icmp .ne 5, 3) := by decide +kernel
theorem dX3_slotOf_20 : decode cX3_slotOf 20 = .ok (.iload_n 2, 1) := by decide +kernel
theorem dX3_slotOf_21 : decode cX3_slotOf 21 = .ok (.ireturn, 1) := by decide +kernel
theorem dX3_slotOf_22 : decode cX3_slotOf 22 = .ok (.iinc 2 1, 3) := by decide +kernel
theorem dX3_slotOf_25 : decode cX3_slotOf 25 = .ok (.goto (-23), 3) := by decide +kernel
theorem dX3_slotOf_28 : decode cX3_slotOf 28 = .ok (.iconst (-1), 1) := by decide +kernel
theorem dX3_slotOf_29 : decode cX3_slotOf 29 = .ok (.ireturn, 1) := by decide +kernel
set_option maxRecDepth 20000 in
theorem ggX3_has_X3_slotOf : GoodIn wsX3_has wsX3_slotOf := goodIn_r _ [5, 6, 7, 8, 9, 10, 11] (by decide +kernel) (by decide +kernel)
set_option maxRecDepth 20000 in
theorem gX3_has_X3_slotOf : GoodIn wsX3_has (wsV RX3 25 RX3 yX3_slotOf wsX3_slotOf) := goodIn_app (goodIn_of _ (by decide +kernel)) ggX3_has_X3_slotOf
theorem dX3_has_0 : decode cX3_has 0 = .ok (.aload_n 0, 1) := by decide +kernel
theorem dX3_has_1 : decode cX3_has 1 = .ok (.iload_n 1, 1) := by decide +kernel
theorem dX3_has_2 : decode cX3_has 2 = .ok (.invokevirtual 25, 3) := by decide +kernel
theorem dX3_has_5 : decode cX3_has 5 = .ok (.iconst (-1), 1) := by decide +kernel
theorem dX3_has_6 : decode cX3_has 6 = .ok (.if_icmp .eq 7, 3) := by decide +kernel
theorem dX3_has_9 : decode cX3_has 9 = .ok (.iconst 1, 1) := by decide +kernel
theorem dX3_has_10 : decode cX3_has 10 = .ok (.goto 4, 3) := by decide +kernel
theorem dX3_has_13 : decode cX3_has 13 = .ok (.iconst 0, 1) := by decide +kernel
theorem dX3_has_14 : decode cX3_has 14 = .ok (.ireturn, 1) := by decide +kernel
set_option maxRecDepth 20000 in
theorem ggX3_hasRoomFor_X3_has : GoodIn wsX3_hasRoomFor wsX3_has := goodIn_r _ [6, 7, 8, 9, 5, 10, 1, 11, 12, 13, 14, 15] (by decide +kernel) (by decide +kernel)
set_option maxRecDepth 20000 in
theorem gX3_hasRoomFor_X3_has : GoodIn wsX3_hasRoomFor (wsV RX3 29 RX3 yX3_has wsX3_has) := goodIn_app (goodIn_of _ (by decide +kernel)) ggX3_hasRoomFor_X3_has
theorem dX3_hasRoomFor_0 : decode cX3_hasRoomFor 0 = .ok (.aload_n 0, 1) := by decide +kernel
theorem dX3_hasRoomFor_1 : decode cX3_hasRoomFor 1 = .ok (.getfield 21, 3) := by decide +kernel
theorem dX3_hasRoomFor_4 : decode cX3_hasRoomFor 4 = .ok (.iconst 4, 1) := by decide +kernel
theorem dX3_hasRoomFor_5 : decode cX3_hasRoomFor 5 = .ok (.if_icmp .lt 11, 3) := by decide +kernel
theorem dX3_hasRoomFor_8 : decode cX3_hasRoomFor 8 = .ok (.aload_n 0, 1) := by decide +kernel
theorem dX3_hasRoomFor_9 : decode cX3_hasRoomFor 9 = .ok (.iload_n 1, 1) := by decide +kernel
theorem dX3_hasRoomFor_10 : decode cX3_hasRoomFor 10 = .ok (.invokevirtual 29, 3) := by decide +kernel
theorem dX3_hasRoomFor_13 : decode cX3_hasRoomFor 13 = .ok (.ifCond .eq 7, 3) := by decide +kernel
