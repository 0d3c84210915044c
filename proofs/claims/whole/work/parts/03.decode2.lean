theorem dX3_hasRoomFor_16 : decode cX3_hasRoomFor 16 = .ok (.iconst 1, 1) := by decide +kernel
theorem dX3_hasRoomFor_17 : decode cX3_hasRoomFor 17 = .ok (.goto 4, 3) := by decide +kernel
theorem dX3_hasRoomFor_20 : decode cX3_hasRoomFor 20 = .ok (.iconst 0, 1) := by decide +kernel
theorem dX3_hasRoomFor_21 : decode cX3_hasRoomFor 21 = .ok (.ireturn, 1) := by decide +kernel
set_option maxRecDepth 20000 in
theorem ggX3_put_X3_slotOf : GoodIn wsX3_put wsX3_slotOf := goodIn_r _ [9, 1, 2, 10, 11, 12, 13] (by decide +kernel) (by decide +kernel)
set_option maxRecDepth 20000 in
theorem gX3_put_X3_slotOf : GoodIn wsX3_put (wsV RX3 25 RX3 yX3_slotOf wsX3_slotOf) := goodIn_app (goodIn_of _ (by decide +kernel)) ggX3_put_X3_slotOf
theorem dX3_put_0 : decode cX3_put 0 = .ok (.aload_n 0, 1) := by decide +kernel
theorem dX3_put_1 : decode cX3_put 1 = .ok (.iload_n 1, 1) := by decide +kernel
theorem dX3_put_2 : decode cX3_put 2 = .ok (.invokevirtual 25, 3) := by decide +kernel
theorem dX3_put_5 : decode cX3_put 5 = .ok (.istore 4, 2) := by decide +kernel
theorem dX3_put_7 : decode cX3_put 7 = .ok (.iload 4, 2) := by decide +kernel
theorem dX3_put_9 : decode cX3_put 9 = .ok (.iconst (-1), 1) := by decide +kernel
theorem dX3_put_10 : decode cX3_put 10 = .ok (.if_icmp .ne 28, 3) := by decide +kernel
theorem dX3_put_13 : decode cX3_put 13 = .ok (.aload_n 0, 1) := by decide +kernel
theorem dX3_put_14 : decode cX3_put 14 = .ok (.getfield 21, 3) := by decide +kernel
theorem dX3_put_17 : decode cX3_put 17 = .ok (.iconst 4, 1) := by decide +kernel
theorem dX3_put_18 : decode cX3_put 18 = .ok (.if_icmp .lt 4, 3) := by decide +kernel
theorem dX3_put_21 : decode cX3_put 21 = .ok (.return_, 1) := by decide +kernel
theorem dX3_put_22 : decode cX3_put 22 = .ok (.aload_n 0, 1) := by decide +kernel
theorem dX3_put_23 : decode cX3_put 23 = .ok (.getfield 21, 3) := by decide +kernel
theorem dX3_put_26 : decode cX3_put 26 = .ok (.istore 4, 2) := by decide +kernel
theorem dX3_put_28 : decode cX3_put 28 = .ok (.aload_n 0, 1) := by decide +kernel
theorem dX3_put_29 : decode cX3_put 29 = .ok (.dup, 1) := by decide +kernel
theorem dX3_put_30 : decode cX3_put 30 = .ok (.getfield 21, 3) := by decide +kernel
theorem dX3_put_33 : decode cX3_put 33 = .ok (.iconst 1, 1) := by decide +kernel
theorem dX3_put_34 : decode cX3_put 34 = .ok (.iadd, 1) := by decide +kernel
theorem dX3_put_35 : decode cX3_put 35 = .ok (.putfield 21, 3) := by decide +kernel
theorem dX3_put_38 : decode cX3_put 38 = .ok (.aload_n 0, 1) := by decide +kernel
theorem dX3_put_39 : decode cX3_put 39 = .ok (.getfield 11, 3) := by decide +kernel
theorem dX3_put_42 : decode cX3_put 42 = .ok (.iload 4, 2) := by decide +kernel
theorem dX3_put_44 : decode cX3_put 44 = .ok (.iload_n 1, 1) := by decide +kernel
theorem dX3_put_45 : decode cX3_put 45 = .ok (.iastore, 1) := by decide +kernel
theorem dX3_put_46 : decode cX3_put 46 = .ok (.aload_n 0, 1) := by decide +kernel
theorem dX3_put_47 : decode cX3_put 47 = .ok (.getfield 15, 3) := by decide +kernel
theorem dX3_put_50 : decode cX3_put 50 = .ok (.iload 4, 2) := by decide +kernel
theorem dX3_put_52 : decode cX3_put 52 = .ok (.iload_n 2, 1) := by decide +kernel
theorem dX3_put_53 : decode cX3_put 53 = .ok (.iastore, 1) := by decide +kernel
theorem dX3_put_54 : decode cX3_put 54 = .ok (.aload_n 0, 1) := by decide +kernel
theorem dX3_put_55 : decode cX3_put 55 = .ok (.getfield 18, 3) := by decide +kernel
theorem dX3_put_58 : decode cX3_put 58 = .ok (.iload 4, 2) := by decide +kernel
theorem dX3_put_60 : decode cX3_put 60 = .ok (.iload_n 3, 1) := by decide +kernel
theorem dX3_put_61 : decode cX3_put 61 = .ok (.iastore, 1) := by decide +kernel
theorem dX3_put_62 : decode cX3_put 62 = .ok (.return_, 1) := by decide +kernel
set_option maxRecDepth 20000 in
theorem ggX3_remove_X3_slotOf : GoodIn wsX3_remove wsX3_slotOf := goodIn_r _ [5, 6, 7, 14, 15, 16, 17] (by decide +kernel) (by decide +kernel)
set_option maxRecDepth 20000 in
theorem gX3_remove_X3_slotOf : GoodIn wsX3_remove (wsV RX3 25 RX3 yX3_slotOf wsX3_slotOf) := goodIn_app (goodIn_of _ (by decide +kernel)) ggX3_remove_X3_slotOf
set_option maxRecDepth 20000 in
theorem ggX3_remove_X3_removeSlot : GoodIn wsX3_remove wsX3_removeSlot := goodIn_r _ [11, 6, 7, 12, 13, 14, 15, 16, 17] (by decide +kernel) (by decide +kernel)
set_option maxRecDepth 20000 in
theorem gX3_remove_X3_removeSlot : GoodIn wsX3_remove (wsV RX3 33 RX3 yX3_removeSlot wsX3_removeSlot) := goodIn_app (goodIn_of _ (by decide +kernel)) ggX3_remove_X3_removeSlot
theorem dX3_remove_0 : decode cX3_remove 0 = .ok (.aload_n 0, 1) := by decide +kernel
theorem dX3_remove_1 : decode cX3_remove 1 = .ok (.iload_n 1, 1) := by decide +kernel
theorem dX3_remove_2 : decode cX3_remove 2 = .ok (.invokevirtual 25, 3) := by decide +kernel
theorem dX3_remove_5 : decode cX3_remove 5 = .ok (.istore_n 2, 1) := by decide +kernel
theorem dX3_remove_6 : decode cX3_remove 6 = .ok (.iload_n 2, 1) := by decide +kernel
theorem dX3_remove_7 : decode cX3_remove 7 = .ok (.iconst (-1), 1) := by decide +kernel
theorem dX3_remove_8 : decode cX3_remove 8 = .ok (.if_icmp .eq 8, 3) := by decide +kernel
theorem dX3_remove_11 : decode cX3_remove 11 = .ok (.aload_n 0, 1) := by decide +kernel
theorem dX3_remove_12 : decode cX3_remove 12 = .ok (.iload_n 2, 1) := by decide +kernel
theorem dX3_remove_13 : decode cX3_remove 13 = .ok (.invokevirtual 33, 3) := by decide +kernel
theorem dX3_remove_16 : decode cX3_remove 16 = .ok (.return_, 1) := by decide +kernel
theorem dX3_removeSlot_0 : decode cX3_removeSlot 0 = .ok (.aload_n 0, 1) := by decide +kernel
theorem dX3_removeSlot_1 : decode cX3_removeSlot 1 = .ok (.dup, 1) := by decide +kernel
theorem dX3_removeSlot_2 : decode cX3_removeSlot 2 = .ok (.getfield 21, 3) := by decide +kernel
theorem dX3_removeSlot_5 : decode cX3_removeSlot 5 = .ok (.iconst 1, 1) := by decide +kernel
theorem dX3_removeSlot_6 : decode cX3_removeSlot 6 = .ok (.isub, 1) := by decide +kernel
theorem dX3_removeSlot_7 : decode cX3_removeSlot 7 = .ok (.putfield 21, 3) := by decide +kernel
theorem dX3_removeSlot_10 : decode cX3_removeSlot 10 = .ok (.aload_n 0, 1) := by decide +kernel
theorem dX3_removeSlot_11 : decode cX3_removeSlot 11 = .ok (.getfield 11, 3) := by decide +kernel
theorem dX3_removeSlot_14 : decode cX3_removeSlot 14 = .ok (.iload_n 1, 1) := by decide +kernel
theorem dX3_removeSlot_15 : decode cX3_removeSlot 15 = .ok (.aload_n 0, 1) := by decide +kernel
theorem dX3_removeSlot_16 : decode cX3_removeSlot 16 = .ok (.getfield 11, 3) := by decide +kernel
theorem dX3_removeSlot_19 : decode cX3_removeSlot 19 = .ok (.aload_n 0, 1) := by decide +kernel
theorem dX3_removeSlot_20 : decode cX3_removeSlot 20 = .ok (.getfield 21, 3) := by decide +kernel
theorem dX3_removeSlot_23 : decode cX3_removeSlot 23 = .ok (.iaload, 1) := by decide +kernel
theorem dX3_removeSlot_24 : decode cX3_removeSlot 24 = .ok (.iastore, 1) := by decide +kernel
theorem dX3_removeSlot_25 : decode cX3_removeSlot 25 = .ok (.aload_n 0, 1) := by decide +kernel
theorem dX3_removeSlot_26 : decode cX3_removeSlot 26 = .ok (.getfield 15, 3) := by decide +kernel
theorem dX3_removeSlot_29 : decode cX3_removeSlot 29 = .ok (.iload_n 1, 1) := by decide +kernel
theorem dX3_removeSlot_30 : decode cX3_removeSlot 30 = .ok (.aload_n 0, 1) := by decide +kernel
theorem dX3_removeSlot_31 : decode cX3_removeSlot 31 = .ok (.getfield 15, 3) := by decide +kernel
theorem dX3_removeSlot_34 : decode cX3_removeSlot 34 = .ok (.aload_n 0, 1) := by decide +kernel
theorem dX3_removeSlot_35 : decode cX3_removeSlot 35 = .ok (.getfield 21, 3) := by decide +kernel
theorem dX3_removeSlot_38 : decode cX3_removeSlot 38 = .ok (.iaload, 1) := by decide +kernel
theorem dX3_removeSlot_39 : decode cX3_removeSlot 39 = .ok (.iastore, 1) := by decide +kernel
theorem dX3_removeSlot_40 : decode cX3_removeSlot 40 = .ok (.aload_n 0, 1) := by decide +kernel
theorem dX3_removeSlot_41 : decode cX3_removeSlot 41 = .ok (.getfield 18, 3) := by decide +kernel
theorem dX3_removeSlot_44 : decode cX3_removeSlot 44 = .ok (.iload_n 1, 1) := by decide +kernel
theorem dX3_removeSlot_45 : decode cX3_removeSlot 45 = .ok (.aload_n 0, 1) := by decide +kernel
theorem dX3_removeSlot_46 : decode cX3_removeSlot 46 = .ok (.getfield 18, 3) := by decide +kernel
theorem dX3_removeSlot_49 : decode cX3_removeSlot 49 = .ok (.aload_n 0, 1) := by decide +kernel
theorem dX3_removeSlot_50 : decode cX3_removeSlot 50 = .ok (.getfield 21, 3) := by decide +kernel
theorem dX3_removeSlot_53 : decode cX3_removeSlot 53 = .ok (.iaload, 1) := by decide +kernel
theorem dX3_removeSlot_54 : decode cX3_removeSlot 54 = .ok (.iastore, 1) := by decide +kernel
theorem dX3_removeSlot_55 : decode cX3_removeSlot 55 = .ok (.return_, 1) := by decide +kernel
set_option maxRecDepth 20000 in
theorem ggX3_endThoseOf_X3_removeSlot : GoodIn wsX3_endThoseOf wsX3_removeSlot := goodIn_r _ [7, 1, 8, 9, 2, 10, 11, 12, 13] (by decide +kernel) (by decide +kernel)
set_option maxRecDepth 20000 in
theorem gX3_endThoseOf_X3_removeSlot : GoodIn wsX3_endThoseOf (wsV RX3 33 RX3 yX3_removeSlot wsX3_removeSlot) := goodIn_app (goodIn_of _ (by decide +kernel)) ggX3_endThoseOf_X3_removeSlot
theorem dX3_endThoseOf_0 : decode cX3_endThoseOf 0 = .ok (.aload_n 0, 1) := by decide +kernel
theorem dX3_endThoseOf_1 : decode cX3_endThoseOf 1 = .ok (.getfield 21, 3) := by decide +kernel
theorem dX3_endThoseOf_4 : decode cX3_endThoseOf 4 = .ok (.iconst 1, 1) := by decide +kernel
theorem dX3_endThoseOf_5 : decode cX3_endThoseOf 5 = .ok (.isub, 1) := by decide +kernel
theorem dX3_endThoseOf_6 : decode cX3_endThoseOf 6 = .ok (.istore_n 2, 1) := by decide +kernel
theorem dX3_endThoseOf_7 : decode cX3_endThoseOf 7 = .ok (.iload_n 2, 1) := by decide +kernel
theorem dX3_endThoseOf_8 : decode cX3_endThoseOf 8 = .ok (.ifCond .lt 24, 3) := by decide +kernel
theorem dX3_endThoseOf_11 : decode cX3_endThoseOf 11 = .ok (.aload_n 0, 1) := by decide +kernel
theorem dX3_endThoseOf_12 : decode cX3_endThoseOf 12 = .ok (.getfield 18, 3) := by decide +kernel
theorem dX3_endThoseOf_15 : decode cX3_endThoseOf 15 = .ok (.iload_n 2, 1) := by decide +kernel
theorem dX3_endThoseOf_16 : decode cX3_endThoseOf 16 = .ok (.iaload, 1) := by decide +kernel
theorem dX3_endThoseOf_17 : decode cX3_endThoseOf 17 = .ok (.iload_n 1, 1) := by decide +kernel
theorem dX3_endThoseOf_18 : decode cX3_endThoseOf 18 = .ok (.if_icmp .ne 8, 3) := by decide +kernel
theorem dX3_endThoseOf_21 : decode cX3_endThoseOf 21 = .ok (.aload_n 0, 1) := by decide +kernel
theorem dX3_endThoseOf_22 : decode cX3_endThoseOf 22 = .ok (.iload_n 2, 1) := by decide +kernel
theorem dX3_endThoseOf_23 : decode cX3_endThoseOf 23 = .ok (.invokevirtual 33, 3) := by decide +kernel
theorem dX3_endThoseOf_26 : decode cX3_endThoseOf 26 = .ok (.iinc 2 (-1), 3) := by decide +kernel
theorem dX3_endThoseOf_29 : decode cX3_endThoseOf 29 = .ok (.goto (-22), 3) := by decide +kernel
theorem dX3_endThoseOf_32 : decode cX3_endThoseOf 32 = .ok (.return_, 1) := by decide +kernel
set_option maxRecDepth 20000 in
theorem ggX3_isGood_X0_hasMark : GoodIn wsX3_isGood wsX0_hasMark := goodIn_r _ [5, 6, 11, 12, 13, 14, 15, 16, 17, 18, 19, 20, 21, 22] (by decide +kernel) (by decide +kernel)
set_option maxRecDepth 20000 in
theorem gX3_isGood_X0_hasMark_n37 : GoodIn wsX3_isGood (wsX0_hasMark) := ggX3_isGood_X0_hasMark
theorem dX3_isGood_0 : decode cX3_isGood 0 = .ok (.aload_n 2, 1) := by decide +kernel
theorem dX3_isGood_1 : decode cX3_isGood 1 = .ok (.aload_n 0, 1) := by decide +kernel
theorem dX3_isGood_2 : decode cX3_isGood 2 = .ok (.getfield 11, 3) := by decide +kernel
theorem dX3_isGood_5 : decode cX3_isGood 5 = .ok (.iload_n 1, 1) := by decide +kernel
theorem dX3_isGood_6 : decode cX3_isGood 6 = .ok (.iaload, 1) := by decide +kernel
theorem dX3_isGood_7 : decode cX3_isGood 7 = .ok (.invokevirtual 37, 3) := by decide +kernel
theorem dX3_isGood_10 : decode cX3_isGood 10 = .ok (.ireturn, 1) := by decide +kernel
set_option maxRecDepth 20000 in
theorem ggX3_weight_X0_hasMark : GoodIn wsX3_weight wsX0_hasMark := goodIn_r _ [6, 7, 12, 13, 14, 15, 16, 17, 18, 19, 20, 21, 22, 23] (by decide +kernel) (by decide +kernel)
set_option maxRecDepth 20000 in
theorem gX3_weight_X0_hasMark_n37 : GoodIn wsX3_weight (wsX0_hasMark) := ggX3_weight_X0_hasMark
theorem dX3_weight_0 : decode cX3_weight 0 = .ok (.aload_n 2, 1) := by decide +kernel
theorem dX3_weight_1 : decode cX3_weight 1 = .ok (.aload_n 0, 1) := by decide +kernel
theorem dX3_weight_2 : decode cX3_weight 2 = .ok (.getfield 11, 3) := by decide +kernel
theorem dX3_weight_5 : decode cX3_weight 5 = .ok (.iload_n 1, 1) := by decide +kernel
theorem dX3_weight_6 : decode cX3_weight 6 = .ok (.iaload, 1) := by decide +kernel
theorem dX3_weight_7 : decode cX3_weight 7 = .ok (.invokevirtual 37, 3) := by decide +kernel
theorem dX3_weight_10 : decode cX3_weight 10 = .ok (.ifCond .eq 7, 3) := by decide +kernel
theorem dX3_weight_13 : decode cX3_weight 13 = .ok (.iconst 1, 1) := by decide +kernel
theorem dX3_weight_14 : decode cX3_weight 14 = .ok (.goto 4, 3) := by decide +kernel
theorem dX3_weight_17 : decode cX3_weight 17 = .ok (.iconst 0, 1) := by decide +kernel
theorem dX3_weight_18 : decode cX3_weight 18 = .ok (.istore_n 3, 1) := by decide +kernel
theorem dX3_weight_19 : decode cX3_weight 19 = .ok (.iload_n 3, 1) := by decide +kernel
theorem dX3_weight_20 : decode cX3_weight 20 = .ok (.iconst 3, 1) := by decide +kernel
theorem dX3_weight_21 : decode cX3_weight 21 = .ok (.imul, 1) := by decide +kernel
theorem dX3_weight_22 : decode cX3_weight 22 = .ok (.aload_n 0, 1) := by decide +kernel
theorem dX3_weight_23 : decode cX3_weight 23 = .ok (.getfield 15, 3) := by decide +kernel
theorem dX3_weight_26 : decode cX3_weight 26 = .ok (.iload_n 1, 1) := by decide +kernel
theorem dX3_weight_27 : decode cX3_weight 27 = .ok (.iaload, 1) := by decide +kernel
theorem dX3_weight_28 : decode cX3_weight 28 = .ok (.iadd, 1) := by decide +kernel
theorem dX3_weight_29 : decode cX3_weight 29 = .ok (.bipush 16, 2) := by decide +kernel
theorem dX3_weight_31 : decode cX3_weight 31 = .ok (.imul, 1) := by decide +kernel
theorem dX3_weight_32 : decode cX3_weight 32 = .ok (.aload_n 0, 1) := by decide +kernel
theorem dX3_weight_33 : decode cX3_weight 33 = .ok (.getfield 11, 3) := by decide +kernel
theorem dX3_weight_36 : decode cX3_weight 36 = .ok (.iload_n 1, 1) := by decide +kernel
theorem dX3_weight_37 : decode cX3_weight 37 = .ok (.iaload, 1) := by decide +kernel
theorem dX3_weight_38 : decode cX3_weight 38 = .ok (.isub, 1) := by decide +kernel
theorem dX3_weight_39 : decode cX3_weight 39 = .ok (.ireturn, 1) := by decide +kernel
set_option maxRecDepth 20000 in
theorem ggX3_slotInOrder_X3_weight : GoodIn wsX3_slotInOrder wsX3_weight := goodIn_r _ [6, 7, 8, 9, 10, 11, 12, 13, 14, 15, 16, 17, 18, 19, 20, 21, 22, 23, 24, 25, 26, 27, 28, 29] (by decide +kernel) (by decide +kernel)
set_option maxRecDepth 20000 in
theorem gX3_slotInOrder_X3_weight : GoodIn wsX3_slotInOrder (wsV RX3 42 RX3 yX3_weight wsX3_weight) := goodIn_app (goodIn_of _ (by decide +kernel)) ggX3_slotInOrder_X3_weight
theorem dX3_slotInOrder_0 : decode cX3_slotInOrder 0 = .ok (.iconst 0, 1) := by decide +kernel
theorem dX3_slotInOrder_1 : decode cX3_slotInOrder 1 = .ok (.istore_n 3, 1) := by decide +kernel
theorem dX3_slotInOrder_2 : decode cX3_slotInOrder 2 = .ok (.iload_n 3, 1) := by decide +kernel
theorem dX3_slotInOrder_3 : decode cX3_slotInOrder 3 = .ok (.aload_n 0, 1) := by decide +kernel
theorem dX3_slotInOrder_4 : decode cX3_slotInOrder 4 = .ok (.getfield 21, 3) := by decide +kernel
theorem dX3_slotInOrder_7 : decode cX3_slotInOrder 7 = .ok (.if_icmp .ge 61, 3) := by decide +kernel
theorem dX3_slotInOrder_10 : decode cX3_slotInOrder 10 = .ok (.aload_n 0, 1) := by decide +kernel
theorem dX3_slotInOrder_11 : decode cX3_slotInOrder 11 = .ok (.iload_n 3, 1) := by decide +kernel
theorem dX3_slotInOrder_12 : decode cX3_slotInOrder 12 = .ok (.aload_n 2, 1) := by decide +kernel
theorem dX3_slotInOrder_13 : decode cX3_slotInOrder 13 = .ok (.invokevirtual 42, 3) := by decide +kernel
theorem dX3_slotInOrder_16 : decode cX3_slotInOrder 16 = .ok (.istore 4, 2) := by decide +kernel
theorem dX3_slotInOrder_18 : decode cX3_slotInOrder 18 = .ok (.iconst 0, 1) := by decide +kernel
theorem dX3_slotInOrder_19 : decode cX3_slotInOrder 19 = .ok (.istore 5, 2) := by decide +kernel
theorem dX3_slotInOrder_21 : decode cX3_slotInOrder 21 = .ok (.iconst 0, 1) := by decide +kernel
theorem dX3_slotInOrder_22 : decode cX3_slotInOrder 22 = .ok (.istore 6, 2) := by decide +kernel
theorem dX3_slotInOrder_24 : decode cX3_slotInOrder 24 = .ok (.iload 6, 2) := by decide +kernel
theorem dX3_slotInOrder_26 : decode cX3_slotInOrder 26 = .ok (.aload_n 0, 1) := by decide +kernel
theorem dX3_slotInOrder_27 : decode cX3_slotInOrder 27 = .ok (.getfield 21, 3) := by decide +kernel
theorem dX3_slotInOrder_30 : decode cX3_slotInOrder 30 = .ok (.if_icmp .ge 24, 3) := by decide +kernel
theorem dX3_slotInOrder_33 : decode cX3_slotInOrder 33 = .ok (.aload_n 0, 1) := by decide +kernel
theorem dX3_slotInOrder_34 : decode cX3_slotInOrder 34 = .ok (.iload 6, 2) := by decide +kernel
theorem dX3_slotInOrder_36 : decode cX3_slotInOrder 36 = .ok (.aload_n 2, 1) := by decide +kernel
theorem dX3_slotInOrder_37 : decode cX3_slotInOrder 37 = .ok (.invokevirtual 42, 3) := by decide +kernel
theorem dX3_slotInOrder_40 : decode cX3_slotInOrder 40 = .ok (.iload 4, 2) := by decide +kernel
theorem dX3_slotInOrder_42 : decode cX3_slotInOrder 42 = .ok (.if_icmp .le 6, 3) := by decide +kernel
theorem dX3_slotInOrder_45 : decode cX3_slotInOrder 45 = .ok (.iinc 5 1, 3) := by decide +kernel
theorem dX3_slotInOrder_48 : decode cX3_slotInOrder 48 = .ok (.iinc 6 1, 3) := by decide +kernel
theorem dX3_slotInOrder_51 : decode cX3_slotInOrder 51 = .ok (.goto (-27), 3) := by decide +kernel
theorem dX3_slotInOrder_54 : decode cX3_slotInOrder 54 = .ok (.iload 5, 2) := by decide +kernel
theorem dX3_slotInOrder_56 : decode cX3_slotInOrder 56 = .ok (.iload_n 1, 1) := by decide +kernel
theorem dX3_slotInOrder_57 : decode cX3_slotInOrder 57 = .ok (.if_icmp .ne 5, 3) := by decide +kernel
theorem dX3_slotInOrder_60 : decode cX3_slotInOrder 60 = .ok (.iload_n 3, 1) := by decide +kernel
theorem dX3_slotInOrder_61 : decode cX3_slotInOrder 61 = .ok (.ireturn, 1) := by decide +kernel
theorem dX3_slotInOrder_62 : decode cX3_slotInOrder 62 = .ok (.iinc 3 1, 3) := by decide +kernel
theorem dX3_slotInOrder_65 : decode cX3_slotInOrder 65 = .ok (.goto (-63), 3) := by decide +kernel
theorem dX3_slotInOrder_68 : decode cX3_slotInOrder 68 = .ok (.iconst (-1), 1) := by decide +kernel
theorem dX3_slotInOrder_69 : decode cX3_slotInOrder 69 = .ok (.ireturn, 1) := by decide +kernel
set_option maxRecDepth 20000 in
theorem ggX3_firstGood_X3_slotInOrder : GoodIn wsX3_firstGood wsX3_slotInOrder := goodIn_r _ [6, 7, 8, 9, 10, 5, 11, 1, 12, 13, 14, 15, 16, 17, 22, 23, 24, 25, 26, 27, 28, 29, 30, 31, 32, 33, 34, 35, 36, 37] (by decide +kernel) (by decide +kernel)
set_option maxRecDepth 20000 in
theorem gX3_firstGood_X3_slotInOrder : GoodIn wsX3_firstGood (wsV RX3 46 RX3 yX3_slotInOrder wsX3_slotInOrder) := goodIn_app (goodIn_of _ (by decide +kernel)) ggX3_firstGood_X3_slotInOrder
set_option maxRecDepth 20000 in
theorem ggX3_firstGood_X3_isGood : GoodIn wsX3_firstGood wsX3_isGood := goodIn_r _ [21, 1, 13, 14, 15, 16, 17, 22, 23, 24, 25, 26, 27, 28, 29, 30, 31, 32, 33, 34, 35, 36, 37] (by decide +kernel) (by decide +kernel)
set_option maxRecDepth 20000 in
theorem gX3_firstGood_X3_isGood : GoodIn wsX3_firstGood (wsV RX3 49 RX3 yX3_isGood wsX3_isGood) := goodIn_app (goodIn_of _ (by decide +kernel)) ggX3_firstGood_X3_isGood
theorem dX3_firstGood_0 : decode cX3_firstGood 0 = .ok (.aload_n 0, 1) := by decide +kernel
theorem dX3_firstGood_1 : decode cX3_firstGood 1 = .ok (.iconst 0, 1) := by decide +kernel
theorem dX3_firstGood_2 : decode cX3_firstGood 2 = .ok (.aload_n 1, 1) := by decide +kernel
theorem dX3_firstGood_3 : decode cX3_firstGood 3 = .ok (.invokevirtual 46, 3) := by decide +kernel
theorem dX3_firstGood_6 : decode cX3_firstGood 6 = .ok (.istore_n 2, 1) := by decide +kernel
theorem dX3_firstGood_7 : decode cX3_firstGood 7 = .ok (.iload_n 2, 1) := by decide +kernel
theorem dX3_firstGood_8 : decode cX3_firstGood 8 = .ok (.iconst (-1), 1) := by decide +kernel
theorem dX3_firstGood_9 : decode cX3_firstGood 9 = .ok (.if_icmp .eq 21, 3) := by decide +kernel
theorem dX3_firstGood_12 : decode cX3_firstGood 12 = .ok (.aload_n 0, 1) := by decide +kernel
theorem dX3_firstGood_13 : decode cX3_firstGood 13 = .ok (.iload_n 2, 1) := by decide +kernel
theorem dX3_firstGood_14 : decode cX3_firstGood 14 = .ok (.aload_n 1, 1) := by decide +kernel
theorem dX3_firstGood_15 : decode cX3_firstGood 15 = .ok (.invokevirtual 49, 3) := by decide +kernel
theorem dX3_firstGood_18 : decode cX3_firstGood 18 = .ok (.ifCond .eq 12, 3) := by decide +kernel
theorem dX3_firstGood_21 : decode cX3_firstGood 21 = .ok (.aload_n 0, 1) := by decide +kernel
theorem dX3_firstGood_22 : decode cX3_firstGood 22 = .ok (.getfield 11, 3) := by decide +kernel
theorem dX3_firstGood_25 : decode cX3_firstGood 25 = .ok (.iload_n 2, 1) := by decide +kernel
theorem dX3_firstGood_26 : decode cX3_firstGood 26 = .ok (.iaload, 1) := by decide +kernel
theorem dX3_firstGood_27 : decode cX3_firstGood 27 = .ok (.goto 4, 3) := by decide +kernel
theorem dX3_firstGood_30 : decode cX3_firstGood 30 = .ok (.iconst (-1), 1) := by decide +kernel
theorem dX3_firstGood_31 : decode cX3_firstGood 31 = .ok (.ireturn, 1) := by decide +kernel
theorem dX3_leastAbove_0 : decode cX3_leastAbove 0 = .ok (.iconst (-1), 1) := by decide +kernel
theorem dX3_leastAbove_1 : decode cX3_leastAbove 1 = .ok (.istore_n 2, 1) := by decide +kernel
theorem dX3_leastAbove_2 : decode cX3_leastAbove 2 = .ok (.iconst 0, 1) := by decide +kernel
theorem dX3_leastAbove_3 : decode cX3_leastAbove 3 = .ok (.istore_n 3, 1) := by decide +kernel
theorem dX3_leastAbove_4 : decode cX3_leastAbove 4 = .ok (.iload_n 3, 1) := by decide +kernel
theorem dX3_leastAbove_5 : decode cX3_leastAbove 5 = .ok (.aload_n 0, 1) := by decide +kernel
theorem dX3_leastAbove_6 : decode cX3_leastAbove 6 = .ok (.getfield 21, 3) := by decide +kernel
theorem dX3_leastAbove_9 : decode cX3_leastAbove 9 = .ok (.if_icmp .ge 37, 3) := by decide +kernel
theorem dX3_leastAbove_12 : decode cX3_leastAbove 12 = .ok (.aload_n 0, 1) := by decide +kernel
theorem dX3_leastAbove_13 : decode cX3_leastAbove 13 = .ok (.getfield 11, 3) := by decide +kernel
theorem dX3_leastAbove_16 : decode cX3_leastAbove 16 = .ok (.iload_n 3, 1) := by decide +kernel
theorem dX3_leastAbove_17 : decode cX3_leastAbove 17 = .ok (.iaload, 1) := by decide +kernel
theorem dX3_leastAbove_18 : decode cX3_leastAbove 18 = .ok (.istore 4, 2) := by decide +kernel
theorem dX3_leastAbove_20 : decode cX3_leastAbove 20 = .ok (.iload 4, 2) := by decide +kernel
theorem dX3_leastAbove_22 : decode cX3_leastAbove 22 = .ok (.iload_n 1, 1) := by decide +kernel
theorem dX3_leastAbove_23 : decode cX3_leastAbove 23 = .ok (.if_icmp .le 17, 3) := by decide +kernel
theorem dX3_leastAbove_26 : decode cX3_leastAbove 26 = .ok (.iload_n 2, 1) := by decide +kernel
theorem dX3_leastAbove_27 : decode cX3_leastAbove 27 = .ok (.iconst (-1), 1) := by decide +kernel
theorem dX3_leastAbove_28 : decode cX3_leastAbove 28 = .ok (.if_icmp .eq 9, 3) := by decide +kernel
theorem dX3_leastAbove_31 : decode cX3_leastAbove 31 = .ok (.iload 4, 2) := by decide +kernel
theorem dX3_leastAbove_33 : decode cX3_leastAbove 33 = .ok (.iload_n 2, 1) := by decide +kernel
theorem dX3_leastAbove_34 : decode cX3_leastAbove 34 = .ok (.if_icmp .ge 6, 3) := by decide +kernel
theorem dX3_leastAbove_37 : decode cX3_leastAbove 37 = .ok (.iload 4, 2) := by decide +kernel
theorem dX3_leastAbove_39 : decode cX3_leastAbove 39 = .ok (.istore_n 2, 1) := by decide +kernel
theorem dX3_leastAbove_40 : decode cX3_leastAbove 40 = .ok (.iinc 3 1, 3) := by decide +kernel
theorem dX3_leastAbove_43 : decode cX3_leastAbove 43 = .ok (.goto (-39), 3) := by decide +kernel
theorem dX3_leastAbove_46 : decode cX3_leastAbove 46 = .ok (.iload_n 2, 1) := by decide +kernel
theorem dX3_leastAbove_47 : decode cX3_leastAbove 47 = .ok (.ireturn, 1) := by decide +kernel
theorem dX3_tell_0 : decode cX3_tell 0 = .ok (.iload_n 2, 1) := by decide +kernel
theorem dX3_tell_1 : decode cX3_tell 1 = .ok (.tableswitch 48 0 2 #[27, 34, 41], 27) := by decide +kernel
theorem dX3_tell_28 : decode cX3_tell 28 = .ok (.aload_n 0, 1) := by decide +kernel
theorem dX3_tell_29 : decode cX3_tell 29 = .ok (.getfield 11, 3) := by decide +kernel
theorem dX3_tell_32 : decode cX3_tell 32 = .ok (.iload_n 1, 1) := by decide +kernel
theorem dX3_tell_33 : decode cX3_tell 33 = .ok (.iaload, 1) := by decide +kernel
theorem dX3_tell_34 : decode cX3_tell 34 = .ok (.ireturn, 1) := by decide +kernel
theorem dX3_tell_35 : decode cX3_tell 35 = .ok (.aload_n 0, 1) := by decide +kernel
theorem dX3_tell_36 : decode cX3_tell 36 = .ok (.getfield 15, 3) := by decide +kernel
theorem dX3_tell_39 : decode cX3_tell 39 = .ok (.iload_n 1, 1) := by decide +kernel
theorem dX3_tell_40 : decode cX3_tell 40 = .ok (.iaload, 1) := by decide +kernel
theorem dX3_tell_41 : decode cX3_tell 41 = .ok (.ireturn, 1) := by decide +kernel
theorem dX3_tell_42 : decode cX3_tell 42 = .ok (.aload_n 0, 1) := by decide +kernel
theorem dX3_tell_43 : decode cX3_tell 43 = .ok (.getfield 18, 3) := by decide +kernel
theorem dX3_tell_46 : decode cX3_tell 46 = .ok (.iload_n 1, 1) := by decide +kernel
theorem dX3_tell_47 : decode cX3_tell 47 = .ok (.iaload, 1) := by decide +kernel
theorem dX3_tell_48 : decode cX3_tell 48 = .ok (.ireturn, 1) := by decide +kernel
theorem dX3_tell_49 : decode cX3_tell 49 = .ok (.bipush (-102), 2) := by decide +kernel
theorem dX3_tell_51 : decode cX3_tell 51 = .ok (.ireturn, 1) := by decide +kernel
set_option maxRecDepth 20000 in
theorem ggX4_init_X2_init : GoodIn wsX4_init wsX2_init := goodIn_r _ [28, 29, 2, 3, 30, 31, 32, 33, 34, 35, 67, 68, 69, 70, 71] (by decide +kernel) (by decide +kernel)
set_option maxRecDepth 20000 in
theorem gX4_init_X2_init_n9 : GoodIn wsX4_init (wsX2_init) := ggX4_init_X2_init
set_option maxRecDepth 20000 in
theorem ggX4_init_X1_init : GoodIn wsX4_init wsX1_init := goodIn_r _ [37, 38, 2, 3, 30, 39, 40, 41, 72, 73, 74] (by decide +kernel) (by decide +kernel)
set_option maxRecDepth 20000 in
theorem gX4_init_X1_init_n12 : GoodIn wsX4_init (wsX1_init) := ggX4_init_X1_init
set_option maxRecDepth 20000 in
theorem ggX4_init_X0_init : GoodIn wsX4_init wsX0_init := goodIn_r _ [43, 44, 2, 3, 30, 45, 46, 47, 48, 49, 50, 51, 52, 53, 54, 55, 56, 86, 87, 88, 89, 90, 91, 92, 93, 94, 95, 96, 97] (by decide +kernel) (by decide +kernel)
set_option maxRecDepth 20000 in
theorem gX4_init_X0_init_n25 : GoodIn wsX4_init (wsX0_init) := ggX4_init_X0_init
set_option maxRecDepth 20000 in
theorem ggX4_init_X3_init : GoodIn wsX4_init wsX3_init := goodIn_r _ [58, 59, 2, 3, 30, 60, 61, 62, 63, 98, 99, 100, 101] (by decide +kernel) (by decide +kernel)
set_option maxRecDepth 20000 in
theorem gX4_init_X3_init_n34 : GoodIn wsX4_init (wsX3_init) := ggX4_init_X3_init
set_option maxRecDepth 20000 in
theorem ggX4_init_X2_add : GoodIn wsX4_init wsX2_add := goodIn_r _ [66, 32, 31, 33, 34, 35, 67, 68, 69, 70, 71] (by decide +kernel) (by decide +kernel)
set_option maxRecDepth 20000 in
theorem gX4_init_X2_add_n62 : GoodIn wsX4_init (wsX2_add) := ggX4_init_X2_add
theorem dX4_init_0 : decode cX4_init 0 = .ok (.aload_n 0, 1) := by decide +kernel
theorem dX4_init_1 : decode cX4_init 1 = .ok (.invokespecial 1, 3) := by decide +kernel
theorem dX4_init_4 : decode cX4_init 4 = .ok (.new 7, 3) := by decide +kernel
theorem dX4_init_7 : decode cX4_init 7 = .ok (.dup, 1) := by decide +kernel
theorem dX4_init_8 : decode cX4_init 8 = .ok (.invokespecial 9, 3) := by decide +kernel
theorem dX4_init_11 : decode cX4_init 11 = .ok (.astore_n 1, 1) := by decide +kernel
theorem dX4_init_12 : decode cX4_init 12 = .ok (.new 10, 3) := by decide +kernel
theorem dX4_init_15 : decode cX4_init 15 = .ok (.dup, 1) := by decide +kernel
theorem dX4_init_16 : decode cX4_init 16 = .ok (.invokespecial 12, 3) := by decide +kernel
theorem dX4_init_19 : decode cX4_init 19 = .ok (.astore_n 2, 1) := by decide +kernel
theorem dX4_init_20 : decode cX4_init 20 = .ok (.aload_n 0, 1) := by decide +kernel
theorem dX4_init_21 : decode cX4_init 21 = .ok (.aload_n 1, 1) := by decide +kernel
theorem dX4_init_22 : decode cX4_init 22 = .ok (.putfield 13, 3) := by decide +kernel
theorem dX4_init_25 : decode cX4_init 25 = .ok (.aload_n 0, 1) := by decide +kernel
theorem dX4_init_26 : decode cX4_init 26 = .ok (.aload_n 2, 1) := by decide +kernel
theorem dX4_init_27 : decode cX4_init 27 = .ok (.putfield 19, 3) := by decide +kernel
theorem dX4_init_30 : decode cX4_init 30 = .ok (.aload_n 0, 1) := by decide +kernel
theorem dX4_init_31 : decode cX4_init 31 = .ok (.new 23, 3) := by decide +kernel
theorem dX4_init_34 : decode cX4_init 34 = .ok (.dup, 1) := by decide +kernel
theorem dX4_init_35 : decode cX4_init 35 = .ok (.aload_n 1, 1) := by decide +kernel
theorem dX4_init_36 : decode cX4_init 36 = .ok (.aload_n 2, 1) := by decide +kernel
theorem dX4_init_37 : decode cX4_init 37 = .ok (.invokespecial 25, 3) := by decide +kernel
theorem dX4_init_40 : decode cX4_init 40 = .ok (.putfield 28, 3) := by decide +kernel
theorem dX4_init_43 : decode cX4_init 43 = .ok (.aload_n 0, 1) := by decide +kernel
theorem dX4_init_44 : decode cX4_init 44 = .ok (.new 32, 3) := by decide +kernel
theorem dX4_init_47 : decode cX4_init 47 = .ok (.dup, 1) := by decide +kernel
theorem dX4_init_48 : decode cX4_init 48 = .ok (.invokespecial 34, 3) := by decide +kernel
theorem dX4_init_51 : decode cX4_init 51 = .ok (.putfield 35, 3) := by decide +kernel
theorem dX4_init_54 : decode cX4_init 54 = .ok (.aload_n 0, 1) := by decide +kernel
theorem dX4_init_55 : decode cX4_init 55 = .ok (.iconst 0, 1) := by decide +kernel
theorem dX4_init_56 : decode cX4_init 56 = .ok (.putfield 39, 3) := by decide +kernel
theorem dX4_init_59 : decode cX4_init 59 = .ok (.aload_n 0, 1) := by decide +kernel
theorem dX4_init_60 : decode cX4_init 60 = .ok (.iconst (-1), 1) := by decide +kernel
theorem dX4_init_61 : decode cX4_init 61 = .ok (.putfield 43, 3) := by decide +kernel
theorem dX4_init_64 : decode cX4_init 64 = .ok (.aload_n 0, 1) := by decide +kernel
theorem dX4_init_65 : decode cX4_init 65 = .ok (.iconst (-1), 1) := by decide +kernel
theorem dX4_init_66 : decode cX4_init 66 = .ok (.putfield 46, 3) := by decide +kernel
theorem dX4_init_69 : decode cX4_init 69 = .ok (.aload_n 0, 1) := by decide +kernel
theorem dX4_init_70 : decode cX4_init 70 = .ok (.iconst 0, 1) := by decide +kernel
theorem dX4_init_71 : decode cX4_init 71 = .ok (.putfield 49, 3) := by decide +kernel
theorem dX4_init_74 : decode cX4_init 74 = .ok (.aload_n 0, 1) := by decide +kernel
theorem dX4_init_75 : decode cX4_init 75 = .ok (.iconst 0, 1) := by decide +kernel
theorem dX4_init_76 : decode cX4_init 76 = .ok (.putfield 52, 3) := by decide +kernel
theorem dX4_init_79 : decode cX4_init 79 = .ok (.aload_n 0, 1) := by decide +kernel
theorem dX4_init_80 : decode cX4_init 80 = .ok (.iconst (-1), 1) := by decide +kernel
theorem dX4_init_81 : decode cX4_init 81 = .ok (.putfield 55, 3) := by decide +kernel
theorem dX4_init_84 : decode cX4_init 84 = .ok (.aload_n 0, 1) := by decide +kernel
theorem dX4_init_85 : decode cX4_init 85 = .ok (.iconst 0, 1) := by decide +kernel
theorem dX4_init_86 : decode cX4_init 86 = .ok (.putfield 58, 3) := by decide +kernel
theorem dX4_init_89 : decode cX4_init 89 = .ok (.aload_n 1, 1) := by decide +kernel
theorem dX4_init_90 : decode cX4_init 90 = .ok (.iconst 5, 1) := by decide +kernel
theorem dX4_init_91 : decode cX4_init 91 = .ok (.iconst (-1), 1) := by decide +kernel
theorem dX4_init_92 : decode cX4_init 92 = .ok (.iconst 0, 1) := by decide +kernel
theorem dX4_init_93 : decode cX4_init 93 = .ok (.iconst 0, 1) := by decide +kernel
theorem dX4_init_94 : decode cX4_init 94 = .ok (.iconst 0, 1) := by decide +kernel
theorem dX4_init_95 : decode cX4_init 95 = .ok (.invokevirtual 62, 3) := by decide +kernel
theorem dX4_init_98 : decode cX4_init 98 = .ok (.return_, 1) := by decide +kernel
set_option maxRecDepth 20000 in
theorem ggX4_pass_X4_tickPasses : GoodIn wsX4_pass wsX4_tickPasses := goodIn_r _ [6, 1, 7, 8, 9, 10, 11, 12, 13, 14, 15, 16, 17, 18, 19, 20, 21, 22, 23, 24, 25, 26, 27, 28, 29, 30, 31, 32, 33, 34, 35, 36, 37, 38, 39, 40, 41, 42, 43, 44, 45, 46, 47, 48, 49, 50, 51, 52, 53, 54, 55, 56, 57, 58, 59, 60, 61, 62, 63, 64, 65, 66, 67, 68, 69, 70, 71, 72, 73, 74, 75, 76, 77, 78, 79, 80, 81, 82, 83, 84, 85, 5, 86, 87, 88, 89, 90, 91, 92, 93, 94, 95, 96, 97, 98, 99, 100, 101, 102, 103, 104, 105, 106, 107, 108, 109, 110, 111, 112, 113, 114, 115, 116, 117, 118, 119, 120, 121, 122, 123, 124, 125, 126, 127, 128, 129, 130] (by decide +kernel) (by decide +kernel)
set_option maxRecDepth 20000 in
theorem gX4_pass_X4_tickPasses : GoodIn wsX4_pass (wsV RX4 66 RX4 yX4_tickPasses wsX4_tickPasses) := goodIn_app (goodIn_of _ (by decide +kernel)) ggX4_pass_X4_tickPasses
theorem dX4_pass_0 : decode cX4_pass 0 = .ok (.iload_n 1, 1) := by decide +kernel
theorem dX4_pass_1 : decode cX4_pass 1 = .ok (.iconst 1, 1) := by decide +kernel
theorem dX4_pass_2 : decode cX4_pass 2 = .ok (.if_icmp .lt 9, 3) := by decide +kernel
theorem dX4_pass_5 : decode cX4_pass 5 = .ok (.iload_n 1, 1) := by decide +kernel
theorem dX4_pass_6 : decode cX4_pass 6 = .ok (.bipush 60, 2) := by decide +kernel
theorem dX4_pass_8 : decode cX4_pass 8 = .ok (.if_icmp .le 6, 3) := by decide +kernel
theorem dX4_pass_11 : decode cX4_pass 11 = .ok (.bipush (-102), 2) := by decide +kernel
theorem dX4_pass_13 : decode cX4_pass 13 = .ok (.ireturn, 1) := by decide +kernel
theorem dX4_pass_14 : decode cX4_pass 14 = .ok (.iconst 0, 1) := by decide +kernel
theorem dX4_pass_15 : decode cX4_pass 15 = .ok (.istore_n 2, 1) := by decide +kernel
theorem dX4_pass_16 : decode cX4_pass 16 = .ok (.iload_n 2, 1) := by decide +kernel
theorem dX4_pass_17 : decode cX4_pass 17 = .ok (.iload_n 1, 1) := by decide +kernel
theorem dX4_pass_18 : decode cX4_pass 18 = .ok (.if_icmp .ge 13, 3) := by decide +kernel
theorem dX4_pass_21 : decode cX4_pass 21 = .ok (.aload_n 0, 1) := by decide +kernel
theorem dX4_pass_22 : decode cX4_pass 22 = .ok (.invokevirtual 66, 3) := by decide +kernel
theorem dX4_pass_25 : decode cX4_pass 25 = .ok (.iinc 2 1, 3) := by decide +kernel
theorem dX4_pass_28 : decode cX4_pass 28 = .ok (.goto (-12), 3) := by decide +kernel
theorem dX4_pass_31 : decode cX4_pass 31 = .ok (.aload_n 0, 1) := by decide +kernel
theorem dX4_pass_32 : decode cX4_pass 32 = .ok (.getfield 39, 3) := by decide +kernel
theorem dX4_pass_35 : decode cX4_pass 35 = .ok (.ireturn, 1) := by decide +kernel
set_option maxRecDepth 20000 in
theorem ggX4_tickPasses_X0_endThoseOf : GoodIn wsX4_tickPasses wsX0_endThoseOf := goodIn_r _ [7, 8, 9, 10, 11, 12, 5, 13, 14, 15, 16, 17, 18, 19, 20, 21, 22, 23, 24, 25, 26, 27, 28, 29, 30, 31, 32, 33, 34, 35, 36, 37, 38, 39, 40, 41, 42, 43, 44, 45, 46, 47, 48, 49, 50, 51, 52, 53, 54, 55, 56, 57, 58, 59, 60, 61, 62, 63, 64, 65, 103, 104, 105, 106, 107, 108, 109, 110, 111, 112, 113, 114, 115, 116, 117, 118, 119, 120, 121, 122] (by decide +kernel) (by decide +kernel)
set_option maxRecDepth 20000 in
theorem gX4_tickPasses_X0_endThoseOf_n69 : GoodIn wsX4_tickPasses (wsX0_endThoseOf) := ggX4_tickPasses_X0_endThoseOf
set_option maxRecDepth 20000 in
theorem ggX4_tickPasses_X3_endThoseOf : GoodIn wsX4_tickPasses wsX3_endThoseOf := goodIn_r _ [69, 70, 71, 72, 73, 74, 67, 75, 76, 77, 123, 124, 125, 126] (by decide +kernel) (by decide +kernel)
set_option maxRecDepth 20000 in
theorem gX4_tickPasses_X3_endThoseOf_n73 : GoodIn wsX4_tickPasses (wsX3_endThoseOf) := ggX4_tickPasses_X3_endThoseOf
set_option maxRecDepth 20000 in
theorem ggX4_tickPasses_X4_trialGoesOn : GoodIn wsX4_tickPasses wsX4_trialGoesOn := goodIn_r _ [82, 83, 1, 84, 85, 86, 33, 34, 35, 36, 37, 38, 39, 40, 41, 92, 93, 94, 95, 96, 97, 98, 99, 100, 101, 102, 115, 116, 117, 118, 119] (by decide +kernel) (by decide +kernel)
set_option maxRecDepth 20000 in
theorem gX4_tickPasses_X4_trialGoesOn : GoodIn wsX4_tickPasses (wsV RX4 74 RX4 yX4_trialGoesOn wsX4_trialGoesOn) := goodIn_app (goodIn_of _ (by decide +kernel)) ggX4_tickPasses_X4_trialGoesOn
set_option maxRecDepth 20000 in
theorem ggX4_tickPasses_X4_solicitIfDue : GoodIn wsX4_tickPasses wsX4_solicitIfDue := goodIn_r _ [90, 1, 91, 85, 33, 34, 35, 36, 37, 38, 39, 40, 41, 92, 93, 94, 95, 96, 97, 98, 99, 100, 101, 102, 115, 116, 117, 118, 119] (by decide +kernel) (by decide +kernel)
set_option maxRecDepth 20000 in
theorem gX4_tickPasses_X4_solicitIfDue : GoodIn wsX4_tickPasses (wsV RX4 77 RX4 yX4_solicitIfDue wsX4_solicitIfDue) := goodIn_app (goodIn_of _ (by decide +kernel)) ggX4_tickPasses_X4_solicitIfDue
theorem dX4_tickPasses_0 : decode cX4_tickPasses 0 = .ok (.aload_n 0, 1) := by decide +kernel
theorem dX4_tickPasses_1 : decode cX4_tickPasses 1 = .ok (.dup, 1) := by decide +kernel
theorem dX4_tickPasses_2 : decode cX4_tickPasses 2 = .ok (.getfield 39, 3) := by decide +kernel
theorem dX4_tickPasses_5 : decode cX4_tickPasses 5 = .ok (.iconst 1, 1) := by decide +kernel
theorem dX4_tickPasses_6 : decode cX4_tickPasses 6 = .ok (.iadd, 1) := by decide +kernel
theorem dX4_tickPasses_7 : decode cX4_tickPasses 7 = .ok (.putfield 39, 3) := by decide +kernel
theorem dX4_tickPasses_10 : decode cX4_tickPasses 10 = .ok (.aload_n 0, 1) := by decide +kernel
theorem dX4_tickPasses_11 : decode cX4_tickPasses 11 = .ok (.getfield 28, 3) := by decide +kernel
theorem dX4_tickPasses_14 : decode cX4_tickPasses 14 = .ok (.aload_n 0, 1) := by decide +kernel
theorem dX4_tickPasses_15 : decode cX4_tickPasses 15 = .ok (.getfield 39, 3) := by decide +kernel
theorem dX4_tickPasses_18 : decode cX4_tickPasses 18 = .ok (.invokevirtual 69, 3) := by decide +kernel
theorem dX4_tickPasses_21 : decode cX4_tickPasses 21 = .ok (.aload_n 0, 1) := by decide +kernel
theorem dX4_tickPasses_22 : decode cX4_tickPasses 22 = .ok (.getfield 35, 3) := by decide +kernel
theorem dX4_tickPasses_25 : decode cX4_tickPasses 25 = .ok (.aload_n 0, 1) := by decide +kernel
theorem dX4_tickPasses_26 : decode cX4_tickPasses 26 = .ok (.getfield 39, 3) := by decide +kernel
theorem dX4_tickPasses_29 : decode cX4_tickPasses 29 = .ok (.invokevirtual 73, 3) := by decide +kernel
theorem dX4_tickPasses_32 : decode cX4_tickPasses 32 = .ok (.aload_n 0, 1) := by decide +kernel
theorem dX4_tickPasses_33 : decode cX4_tickPasses 33 = .ok (.invokevirtual 74, 3) := by decide +kernel
theorem dX4_tickPasses_36 : decode cX4_tickPasses 36 = .ok (.aload_n 0, 1) := by decide +kernel
theorem dX4_tickPasses_37 : decode cX4_tickPasses 37 = .ok (.invokevirtual 77, 3) := by decide +kernel
theorem dX4_tickPasses_40 : decode cX4_tickPasses 40 = .ok (.return_, 1) := by decide +kernel
set_option maxRecDepth 20000 in
theorem ggX4_trialGoesOn_X2_add : GoodIn wsX4_trialGoesOn wsX2_add := goodIn_r _ [9, 10, 11, 12, 13, 14, 26, 27, 28, 29, 30] (by decide +kernel) (by decide +kernel)
set_option maxRecDepth 20000 in
theorem gX4_trialGoesOn_X2_add_n62 : GoodIn wsX4_trialGoesOn (wsX2_add) := ggX4_trialGoesOn_X2_add
theorem dX4_trialGoesOn_0 : decode cX4_trialGoesOn 0 = .ok (.aload_n 0, 1) := by decide +kernel
theorem dX4_trialGoesOn_1 : decode cX4_trialGoesOn 1 = .ok (.getfield 46, 3) := by decide +kernel
theorem dX4_trialGoesOn_4 : decode cX4_trialGoesOn 4 = .ok (.iconst (-1), 1) := by decide +kernel
theorem dX4_trialGoesOn_5 : decode cX4_trialGoesOn 5 = .ok (.if_icmp .ne 4, 3) := by decide +kernel
theorem dX4_trialGoesOn_8 : decode cX4_trialGoesOn 8 = .ok (.return_, 1) := by decide +kernel
theorem dX4_trialGoesOn_9 : decode cX4_trialGoesOn 9 = .ok (.aload_n 0, 1) := by decide +kernel
theorem dX4_trialGoesOn_10 : decode cX4_trialGoesOn 10 = .ok (.getfield 39, 3) := by decide +kernel
theorem dX4_trialGoesOn_13 : decode cX4_trialGoesOn 13 = .ok (.aload_n 0, 1) := by decide +kernel
theorem dX4_trialGoesOn_14 : decode cX4_trialGoesOn 14 = .ok (.getfield 49, 3) := by decide +kernel
theorem dX4_trialGoesOn_17 : decode cX4_trialGoesOn 17 = .ok (.isub, 1) := by decide +kernel
theorem dX4_trialGoesOn_18 : decode cX4_trialGoesOn 18 = .ok (.istore_n 1, 1) := by decide +kernel
theorem dX4_trialGoesOn_19 : decode cX4_trialGoesOn 19 = .ok (.iload_n 1, 1) := by decide +kernel
theorem dX4_trialGoesOn_20 : decode cX4_trialGoesOn 20 = .ok (.iconst 5, 1) := by decide +kernel
theorem dX4_trialGoesOn_21 : decode cX4_trialGoesOn 21 = .ok (.if_icmp .ne 24, 3) := by decide +kernel
theorem dX4_trialGoesOn_24 : decode cX4_trialGoesOn 24 = .ok (.aload_n 0, 1) := by decide +kernel
theorem dX4_trialGoesOn_25 : decode cX4_trialGoesOn 25 = .ok (.getfield 13, 3) := by decide +kernel
theorem dX4_trialGoesOn_28 : decode cX4_trialGoesOn 28 = .ok (.iconst 4, 1) := by decide +kernel
theorem dX4_trialGoesOn_29 : decode cX4_trialGoesOn 29 = .ok (.aload_n 0, 1) := by decide +kernel
theorem dX4_trialGoesOn_30 : decode cX4_trialGoesOn 30 = .ok (.getfield 46, 3) := by decide +kernel
theorem dX4_trialGoesOn_33 : decode cX4_trialGoesOn 33 = .ok (.iconst 0, 1) := by decide +kernel
theorem dX4_trialGoesOn_34 : decode cX4_trialGoesOn 34 = .ok (.iconst 0, 1) := by decide +kernel
theorem dX4_trialGoesOn_35 : decode cX4_trialGoesOn 35 = .ok (.aload_n 0, 1) := by decide +kernel
theorem dX4_trialGoesOn_36 : decode cX4_trialGoesOn 36 = .ok (.getfield 39, 3) := by decide +kernel
theorem dX4_trialGoesOn_39 : decode cX4_trialGoesOn 39 = .ok (.invokevirtual 62, 3) := by decide +kernel
theorem dX4_trialGoesOn_42 : decode cX4_trialGoesOn 42 = .ok (.goto 22, 3) := by decide +kernel
theorem dX4_trialGoesOn_45 : decode cX4_trialGoesOn 45 = .ok (.iload_n 1, 1) := by decide +kernel
theorem dX4_trialGoesOn_46 : decode cX4_trialGoesOn 46 = .ok (.bipush 10, 2) := by decide +kernel
theorem dX4_trialGoesOn_48 : decode cX4_trialGoesOn 48 = .ok (.if_icmp .ne 16, 3) := by decide +kernel
theorem dX4_trialGoesOn_51 : decode cX4_trialGoesOn 51 = .ok (.aload_n 0, 1) := by decide +kernel
theorem dX4_trialGoesOn_52 : decode cX4_trialGoesOn 52 = .ok (.aload_n 0, 1) := by decide +kernel
theorem dX4_trialGoesOn_53 : decode cX4_trialGoesOn 53 = .ok (.getfield 46, 3) := by decide +kernel
theorem dX4_trialGoesOn_56 : decode cX4_trialGoesOn 56 = .ok (.putfield 43, 3) := by decide +kernel
theorem dX4_trialGoesOn_59 : decode cX4_trialGoesOn 59 = .ok (.aload_n 0, 1) := by decide +kernel
theorem dX4_trialGoesOn_60 : decode cX4_trialGoesOn 60 = .ok (.iconst (-1), 1) := by decide +kernel
theorem dX4_trialGoesOn_61 : decode cX4_trialGoesOn 61 = .ok (.putfield 46, 3) := by decide +kernel
theorem dX4_trialGoesOn_64 : decode cX4_trialGoesOn 64 = .ok (.return_, 1) := by decide +kernel
set_option maxRecDepth 20000 in
theorem ggX4_solicitIfDue_X2_add : GoodIn wsX4_solicitIfDue wsX2_add := goodIn_r _ [7, 8, 9, 10, 11, 12, 24, 25, 26, 27, 28] (by decide +kernel) (by decide +kernel)
set_option maxRecDepth 20000 in
theorem gX4_solicitIfDue_X2_add_n62 : GoodIn wsX4_solicitIfDue (wsX2_add) := ggX4_solicitIfDue_X2_add
theorem dX4_solicitIfDue_0 : decode cX4_solicitIfDue 0 = .ok (.aload_n 0, 1) := by decide +kernel
theorem dX4_solicitIfDue_1 : decode cX4_solicitIfDue 1 = .ok (.getfield 39, 3) := by decide +kernel
theorem dX4_solicitIfDue_4 : decode cX4_solicitIfDue 4 = .ok (.iconst 4, 1) := by decide +kernel
theorem dX4_solicitIfDue_5 : decode cX4_solicitIfDue 5 = .ok (.if_icmp .eq 12, 3) := by decide +kernel
theorem dX4_solicitIfDue_8 : decode cX4_solicitIfDue 8 = .ok (.aload_n 0, 1) := by decide +kernel
theorem dX4_solicitIfDue_9 : decode cX4_solicitIfDue 9 = .ok (.getfield 39, 3) := by decide +kernel
theorem dX4_solicitIfDue_12 : decode cX4_solicitIfDue 12 = .ok (.bipush 8, 2) := by decide +kernel
theorem dX4_solicitIfDue_14 : decode cX4_solicitIfDue 14 = .ok (.if_icmp .ne 7, 3) := by decide +kernel
theorem dX4_solicitIfDue_17 : decode cX4_solicitIfDue 17 = .ok (.iconst 1, 1) := by decide +kernel
theorem dX4_solicitIfDue_18 : decode cX4_solicitIfDue 18 = .ok (.goto 4, 3) := by decide +kernel
theorem dX4_solicitIfDue_21 : decode cX4_solicitIfDue 21 = .ok (.iconst 0, 1) := by decide +kernel
theorem dX4_solicitIfDue_22 : decode cX4_solicitIfDue 22 = .ok (.istore_n 1, 1) := by decide +kernel
theorem dX4_solicitIfDue_23 : decode cX4_solicitIfDue 23 = .ok (.iload_n 1, 1) := by decide +kernel
theorem dX4_solicitIfDue_24 : decode cX4_solicitIfDue 24 = .ok (.ifCond .eq 25, 3) := by decide +kernel
theorem dX4_solicitIfDue_27 : decode cX4_solicitIfDue 27 = .ok (.aload_n 0, 1) := by decide +kernel
theorem dX4_solicitIfDue_28 : decode cX4_solicitIfDue 28 = .ok (.getfield 58, 3) := by decide +kernel
theorem dX4_solicitIfDue_31 : decode cX4_solicitIfDue 31 = .ok (.ifCond .ne 18, 3) := by decide +kernel
theorem dX4_solicitIfDue_34 : decode cX4_solicitIfDue 34 = .ok (.aload_n 0, 1) := by decide +kernel
theorem dX4_solicitIfDue_35 : decode cX4_solicitIfDue 35 = .ok (.getfield 13, 3) := by decide +kernel
theorem dX4_solicitIfDue_38 : decode cX4_solicitIfDue 38 = .ok (.iconst 5, 1) := by decide +kernel
theorem dX4_solicitIfDue_39 : decode cX4_solicitIfDue 39 = .ok (.iconst (-1), 1) := by decide +kernel
theorem dX4_solicitIfDue_40 : decode cX4_solicitIfDue 40 = .ok (.iconst 0, 1) := by decide +kernel
theorem dX4_solicitIfDue_41 : decode cX4_solicitIfDue 41 = .ok (.iconst 0, 1) := by decide +kernel
theorem dX4_solicitIfDue_42 : decode cX4_solicitIfDue 42 = .ok (.aload_n 0, 1) := by decide +kernel
theorem dX4_solicitIfDue_43 : decode cX4_solicitIfDue 43 = .ok (.getfield 39, 3) := by decide +kernel
theorem dX4_solicitIfDue_46 : decode cX4_solicitIfDue 46 = .ok (.invokevirtual 62, 3) := by decide +kernel
theorem dX4_solicitIfDue_49 : decode cX4_solicitIfDue 49 = .ok (.return_, 1) := by decide +kernel
set_option maxRecDepth 20000 in
theorem ggX4_send_X4_isAddress : GoodIn wsX4_send wsX4_isAddress := goodIn_r _ [6] (by decide +kernel) (by decide +kernel)
set_option maxRecDepth 20000 in
theorem gX4_send_X4_isAddress : GoodIn wsX4_send (va_wsS RX4 80 yX4_isAddress wsX4_isAddress) := goodIn_app (goodIn_of _ (by decide +kernel)) ggX4_send_X4_isAddress
set_option maxRecDepth 20000 in
theorem ggX4_send_X4_isLetter : GoodIn wsX4_send wsX4_isLetter := goodIn_r _ [9] (by decide +kernel) (by decide +kernel)
set_option maxRecDepth 20000 in
theorem gX4_send_X4_isLetter : GoodIn wsX4_send (va_wsS RX4 84 yX4_isLetter wsX4_isLetter) := goodIn_app (goodIn_of _ (by decide +kernel)) ggX4_send_X4_isLetter
set_option maxRecDepth 20000 in
theorem ggX4_send_X4_isOwnOrTrial : GoodIn wsX4_send wsX4_isOwnOrTrial := goodIn_r _ [13, 14, 15, 88, 89, 90, 91, 92, 93, 94, 95, 96, 97, 98] (by decide +kernel) (by decide +kernel)
set_option maxRecDepth 20000 in
theorem gX4_send_X4_isOwnOrTrial : GoodIn wsX4_send (wsV RX4 87 RX4 yX4_isOwnOrTrial wsX4_isOwnOrTrial) := goodIn_app (goodIn_of _ (by decide +kernel)) ggX4_send_X4_isOwnOrTrial
set_option maxRecDepth 20000 in
theorem ggX4_send_X0_takeLetter : GoodIn wsX4_send wsX0_takeLetter := goodIn_r _ [19, 20, 21, 22, 23, 24, 17, 25, 26, 27, 28, 29, 30, 31, 32, 33, 34, 35, 36, 37, 38, 39, 40, 41, 42, 43, 44, 45, 46, 47, 48, 49, 50, 51, 52, 53, 54, 55, 56, 57, 58, 59, 60, 61, 62, 63, 64, 65, 66, 67, 68, 69, 70, 71, 72, 73, 74, 75, 76, 77, 78, 79, 80, 81, 82, 83, 84, 85, 86, 87, 99, 100, 101, 102, 103, 104, 105, 106, 107, 108, 109, 110, 111, 112, 113, 114, 115, 116, 117, 118] (by decide +kernel) (by decide +kernel)
set_option maxRecDepth 20000 in
theorem gX4_send_X0_takeLetter_n90 : GoodIn wsX4_send (wsX0_takeLetter) := ggX4_send_X0_takeLetter
theorem dX4_send_0 : decode cX4_send 0 = .ok (.iload_n 1, 1) := by decide +kernel
theorem dX4_send_1 : decode cX4_send 1 = .ok (.invokestatic 80, 3) := by decide +kernel
theorem dX4_send_4 : decode cX4_send 4 = .ok (.ifCond .eq 10, 3) := by decide +kernel
theorem dX4_send_7 : decode cX4_send 7 = .ok (.iload_n 2, 1) := by decide +kernel
theorem dX4_send_8 : decode cX4_send 8 = .ok (.invokestatic 84, 3) := by decide +kernel
theorem dX4_send_11 : decode cX4_send 11 = .ok (.ifCond .ne 6, 3) := by decide +kernel
theorem dX4_send_14 : decode cX4_send 14 = .ok (.bipush (-102), 2) := by decide +kernel
theorem dX4_send_16 : decode cX4_send 16 = .ok (.ireturn, 1) := by decide +kernel
theorem dX4_send_17 : decode cX4_send 17 = .ok (.aload_n 0, 1) := by decide +kernel
theorem dX4_send_18 : decode cX4_send 18 = .ok (.iload_n 1, 1) := by decide +kernel
theorem dX4_send_19 : decode cX4_send 19 = .ok (.invokevirtual 87, 3) := by decide +kernel
theorem dX4_send_22 : decode cX4_send 22 = .ok (.ifCond .eq 6, 3) := by decide +kernel
theorem dX4_send_25 : decode cX4_send 25 = .ok (.bipush (-103), 2) := by decide +kernel
theorem dX4_send_27 : decode cX4_send 27 = .ok (.ireturn, 1) := by decide +kernel
theorem dX4_send_28 : decode cX4_send 28 = .ok (.aload_n 0, 1) := by decide +kernel
theorem dX4_send_29 : decode cX4_send 29 = .ok (.getfield 28, 3) := by decide +kernel
theorem dX4_send_32 : decode cX4_send 32 = .ok (.iload_n 1, 1) := by decide +kernel
theorem dX4_send_33 : decode cX4_send 33 = .ok (.iload_n 2, 1) := by decide +kernel
theorem dX4_send_34 : decode cX4_send 34 = .ok (.aload_n 0, 1) := by decide +kernel
theorem dX4_send_35 : decode cX4_send 35 = .ok (.getfield 39, 3) := by decide +kernel
theorem dX4_send_38 : decode cX4_send 38 = .ok (.invokevirtual 90, 3) := by decide +kernel
theorem dX4_send_41 : decode cX4_send 41 = .ok (.ireturn, 1) := by decide +kernel
set_option maxRecDepth 20000 in
theorem ggX4_route_X4_isGoal : GoodIn wsX4_route wsX4_isGoal := goodIn_r _ [7] (by decide +kernel) (by decide +kernel)
set_option maxRecDepth 20000 in
theorem gX4_route_X4_isGoal : GoodIn wsX4_route (va_wsS RX4 94 yX4_isGoal wsX4_isGoal) := goodIn_app (goodIn_of _ (by decide +kernel)) ggX4_route_X4_isGoal
set_option maxRecDepth 20000 in
theorem ggX4_route_X4_isLetter : GoodIn wsX4_route wsX4_isLetter := goodIn_r _ [10] (by decide +kernel) (by decide +kernel)
set_option maxRecDepth 20000 in
theorem gX4_route_X4_isLetter : GoodIn wsX4_route (va_wsS RX4 84 yX4_isLetter wsX4_isLetter) := goodIn_app (goodIn_of _ (by decide +kernel)) ggX4_route_X4_isLetter
set_option maxRecDepth 20000 in
theorem ggX4_route_X4_sureHopOf : GoodIn wsX4_route wsX4_sureHopOf := goodIn_r _ [14, 15, 16, 1, 17, 18, 19, 20, 21, 22, 23, 24, 25, 26, 27, 28, 29, 30, 31, 32, 33, 34, 35, 36, 37, 38, 39, 40, 41, 42, 43, 44, 45, 46, 47, 48, 49, 50, 51, 125, 126, 127, 128, 129, 130, 131, 132, 133, 134, 135, 136, 137, 138, 139, 140, 141, 142, 143, 144, 145, 146, 147, 148, 149, 150, 151, 152, 153, 154] (by decide +kernel) (by decide +kernel)
set_option maxRecDepth 20000 in
theorem gX4_route_X4_sureHopOf : GoodIn wsX4_route (wsV RX4 97 RX4 yX4_sureHopOf wsX4_sureHopOf) := goodIn_app (goodIn_of _ (by decide +kernel)) ggX4_route_X4_sureHopOf
set_option maxRecDepth 20000 in
theorem ggX4_route_X4_nextInTurn : GoodIn wsX4_route wsX4_nextInTurn := goodIn_r _ [55, 16, 3, 56, 29, 57, 58, 37, 32, 125, 126, 127, 128, 129, 130, 131, 132, 133, 134, 135, 139, 140, 141, 142] (by decide +kernel) (by decide +kernel)
set_option maxRecDepth 20000 in
theorem gX4_route_X4_nextInTurn : GoodIn wsX4_route (wsV RX4 101 RX4 yX4_nextInTurn wsX4_nextInTurn) := goodIn_app (goodIn_of _ (by decide +kernel)) ggX4_route_X4_nextInTurn
set_option maxRecDepth 20000 in
theorem ggX4_route_X0_takeLetter : GoodIn wsX4_route wsX0_takeLetter := goodIn_r _ [61, 62, 47, 63, 64, 65, 44, 66, 67, 68, 69, 70, 71, 72, 73, 74, 75, 76, 77, 78, 79, 80, 81, 82, 83, 84, 85, 86, 87, 88, 89, 18, 90, 91, 26, 21, 92, 93, 94, 95, 27, 96, 97, 98, 99, 100, 101, 102, 103, 104, 105, 106, 107, 108, 109, 110, 111, 112, 113, 114, 115, 116, 117, 118, 119, 120, 121, 122, 123, 124, 143, 144, 145, 146, 147, 148, 149, 150, 151, 152, 153, 154, 136, 137, 138, 155, 156, 157, 158, 159] (by decide +kernel) (by decide +kernel)
set_option maxRecDepth 20000 in
theorem gX4_route_X0_takeLetter_n90 : GoodIn wsX4_route (wsX0_takeLetter) := ggX4_route_X0_takeLetter
theorem dX4_route_0 : decode cX4_route 0 = .ok (.iload_n 1, 1) := by decide +kernel
theorem dX4_route_1 : decode cX4_route 1 = .ok (.invokestatic 94, 3) := by decide +kernel
theorem dX4_route_4 : decode cX4_route 4 = .ok (.ifCond .eq 10, 3) := by decide +kernel
theorem dX4_route_7 : decode cX4_route 7 = .ok (.iload_n 2, 1) := by decide +kernel
theorem dX4_route_8 : decode cX4_route 8 = .ok (.invokestatic 84, 3) := by decide +kernel
theorem dX4_route_11 : decode cX4_route 11 = .ok (.ifCond .ne 6, 3) := by decide +kernel
theorem dX4_route_14 : decode cX4_route 14 = .ok (.bipush (-102), 2) := by decide +kernel
theorem dX4_route_16 : decode cX4_route 16 = .ok (.ireturn, 1) := by decide +kernel
theorem dX4_route_17 : decode cX4_route 17 = .ok (.aload_n 0, 1) := by decide +kernel
theorem dX4_route_18 : decode cX4_route 18 = .ok (.iload_n 1, 1) := by decide +kernel
theorem dX4_route_19 : decode cX4_route 19 = .ok (.invokevirtual 97, 3) := by decide +kernel
theorem dX4_route_22 : decode cX4_route 22 = .ok (.istore_n 3, 1) := by decide +kernel
theorem dX4_route_23 : decode cX4_route 23 = .ok (.iload_n 3, 1) := by decide +kernel
theorem dX4_route_24 : decode cX4_route 24 = .ok (.iconst (-1), 1) := by decide +kernel
theorem dX4_route_25 : decode cX4_route 25 = .ok (.if_icmp .ne 10, 3) := by decide +kernel
theorem dX4_route_28 : decode cX4_route 28 = .ok (.aload_n 0, 1) := by decide +kernel
theorem dX4_route_29 : decode cX4_route 29 = .ok (.invokevirtual 101, 3) := by decide +kernel
theorem dX4_route_32 : decode cX4_route 32 = .ok (.goto 4, 3) := by decide +kernel
theorem dX4_route_35 : decode cX4_route 35 = .ok (.iload_n 3, 1) := by decide +kernel
theorem dX4_route_36 : decode cX4_route 36 = .ok (.istore 4, 2) := by decide +kernel
theorem dX4_route_38 : decode cX4_route 38 = .ok (.iload 4, 2) := by decide +kernel
theorem dX4_route_40 : decode cX4_route 40 = .ok (.iconst (-1), 1) := by decide +kernel
theorem dX4_route_41 : decode cX4_route 41 = .ok (.if_icmp .ne 6, 3) := by decide +kernel
theorem dX4_route_44 : decode cX4_route 44 = .ok (.bipush (-103), 2) := by decide +kernel
theorem dX4_route_46 : decode cX4_route 46 = .ok (.ireturn, 1) := by decide +kernel
theorem dX4_route_47 : decode cX4_route 47 = .ok (.aload_n 0, 1) := by decide +kernel
theorem dX4_route_48 : decode cX4_route 48 = .ok (.getfield 28, 3) := by decide +kernel
theorem dX4_route_51 : decode cX4_route 51 = .ok (.iload 4, 2) := by decide +kernel
theorem dX4_route_53 : decode cX4_route 53 = .ok (.iload_n 2, 1) := by decide +kernel
theorem dX4_route_54 : decode cX4_route 54 = .ok (.aload_n 0, 1) := by decide +kernel
theorem dX4_route_55 : decode cX4_route 55 = .ok (.getfield 39, 3) := by decide +kernel
theorem dX4_route_58 : decode cX4_route 58 = .ok (.invokevirtual 90, 3) := by decide +kernel
theorem dX4_route_61 : decode cX4_route 61 = .ok (.istore 5, 2) := by decide +kernel
theorem dX4_route_63 : decode cX4_route 63 = .ok (.iload 5, 2) := by decide +kernel
theorem dX4_route_65 : decode cX4_route 65 = .ok (.bipush (-104), 2) := by decide +kernel
theorem dX4_route_67 : decode cX4_route 67 = .ok (.if_icmp .eq 14, 3) := by decide +kernel
theorem dX4_route_70 : decode cX4_route 70 = .ok (.iload_n 3, 1) := by decide +kernel
theorem dX4_route_71 : decode cX4_route 71 = .ok (.iconst (-1), 1) := by decide +kernel
theorem dX4_route_72 : decode cX4_route 72 = .ok (.if_icmp .ne 9, 3) := by decide +kernel
theorem dX4_route_75 : decode cX4_route 75 = .ok (.aload_n 0, 1) := by decide +kernel
theorem dX4_route_76 : decode cX4_route 76 = .ok (.iload 4, 2) := by decide +kernel
theorem dX4_route_78 : decode cX4_route 78 = .ok (.putfield 55, 3) := by decide +kernel
theorem dX4_route_81 : decode cX4_route 81 = .ok (.iload 5, 2) := by decide +kernel
theorem dX4_route_83 : decode cX4_route 83 = .ok (.ireturn, 1) := by decide +kernel
set_option maxRecDepth 20000 in
theorem ggX4_hint_X4_isAddress : GoodIn wsX4_hint wsX4_isAddress := goodIn_r _ [6] (by decide +kernel) (by decide +kernel)
set_option maxRecDepth 20000 in
theorem gX4_hint_X4_isAddress : GoodIn wsX4_hint (va_wsS RX4 80 yX4_isAddress wsX4_isAddress) := goodIn_app (goodIn_of _ (by decide +kernel)) ggX4_hint_X4_isAddress
set_option maxRecDepth 20000 in
theorem ggX4_hint_X0_confirm : GoodIn wsX4_hint wsX0_confirm := goodIn_r _ [10, 11, 12, 13, 8, 14, 15, 16, 17, 18, 19, 20, 21, 22, 23, 24, 25, 26, 27, 28, 29, 30, 31, 32, 33, 45, 46, 47, 48, 49, 50, 51, 52, 53, 54, 55, 56] (by decide +kernel) (by decide +kernel)
set_option maxRecDepth 20000 in
theorem gX4_hint_X0_confirm_n105 : GoodIn wsX4_hint (wsX0_confirm) := ggX4_hint_X0_confirm
theorem dX4_hint_0 : decode cX4_hint 0 = .ok (.iload_n 1, 1) := by decide +kernel
theorem dX4_hint_1 : decode cX4_hint 1 = .ok (.invokestatic 80, 3) := by decide +kernel
theorem dX4_hint_4 : decode cX4_hint 4 = .ok (.ifCond .ne 6, 3) := by decide +kernel
theorem dX4_hint_7 : decode cX4_hint 7 = .ok (.bipush (-102), 2) := by decide +kernel
theorem dX4_hint_9 : decode cX4_hint 9 = .ok (.ireturn, 1) := by decide +kernel
theorem dX4_hint_10 : decode cX4_hint 10 = .ok (.aload_n 0, 1) := by decide +kernel
theorem dX4_hint_11 : decode cX4_hint 11 = .ok (.getfield 28, 3) := by decide +kernel
theorem dX4_hint_14 : decode cX4_hint 14 = .ok (.iload_n 1, 1) := by decide +kernel
theorem dX4_hint_15 : decode cX4_hint 15 = .ok (.aload_n 0, 1) := by decide +kernel
theorem dX4_hint_16 : decode cX4_hint 16 = .ok (.getfield 39, 3) := by decide +kernel
theorem dX4_hint_19 : decode cX4_hint 19 = .ok (.invokevirtual 105, 3) := by decide +kernel
theorem dX4_hint_22 : decode cX4_hint 22 = .ok (.ireturn, 1) := by decide +kernel
set_option maxRecDepth 20000 in
theorem ggX4_answered_X4_isAddress : GoodIn wsX4_answered wsX4_isAddress := goodIn_r _ [8] (by decide +kernel) (by decide +kernel)
set_option maxRecDepth 20000 in
theorem gX4_answered_X4_isAddress : GoodIn wsX4_answered (va_wsS RX4 80 yX4_isAddress wsX4_isAddress) := goodIn_app (goodIn_of _ (by decide +kernel)) ggX4_answered_X4_isAddress
set_option maxRecDepth 20000 in
theorem ggX4_answered_X4_isMark : GoodIn wsX4_answered wsX4_isMark := goodIn_r _ [11] (by decide +kernel) (by decide +kernel)
set_option maxRecDepth 20000 in
theorem gX4_answered_X4_isMark : GoodIn wsX4_answered (va_wsS RX4 109 yX4_isMark wsX4_isMark) := goodIn_app (goodIn_of _ (by decide +kernel)) ggX4_answered_X4_isMark
set_option maxRecDepth 20000 in
theorem ggX4_answered_X4_trialIsDoubled : GoodIn wsX4_answered wsX4_trialIsDoubled := goodIn_r _ [15, 16, 1, 92, 93, 94, 95, 96, 97, 98, 99, 100, 101, 102] (by decide +kernel) (by decide +kernel)
set_option maxRecDepth 20000 in
theorem gX4_answered_X4_trialIsDoubled : GoodIn wsX4_answered (wsV RX4 112 RX4 yX4_trialIsDoubled wsX4_trialIsDoubled) := goodIn_app (goodIn_of _ (by decide +kernel)) ggX4_answered_X4_trialIsDoubled
set_option maxRecDepth 20000 in
theorem ggX4_answered_X0_has : GoodIn wsX4_answered wsX0_has := goodIn_r _ [20, 21, 103, 104, 105, 106, 107, 108, 109, 110, 111, 112, 113, 114] (by decide +kernel) (by decide +kernel)
set_option maxRecDepth 20000 in
theorem gX4_answered_X0_has_n115 : GoodIn wsX4_answered (wsX0_has) := ggX4_answered_X0_has
set_option maxRecDepth 20000 in
theorem ggX4_answered_X0_takeAnswer : GoodIn wsX4_answered wsX0_takeAnswer := goodIn_r _ [24, 25, 21, 26, 27, 28, 18, 29, 30, 31, 32, 33, 34, 35, 36, 37, 38, 39, 40, 41, 42, 43, 44, 45, 46, 47, 48, 49, 50, 51, 52, 53, 54, 55, 56, 57, 58, 59, 60, 61, 62, 63, 64, 65, 66, 67, 68, 69, 70, 71, 103, 104, 105, 106, 107, 108, 109, 110, 111, 112, 113, 114, 115, 116, 117, 118, 119] (by decide +kernel) (by decide +kernel)
set_option maxRecDepth 20000 in
theorem gX4_answered_X0_takeAnswer_n118 : GoodIn wsX4_answered (wsX0_takeAnswer) := ggX4_answered_X0_takeAnswer
set_option maxRecDepth 20000 in
theorem ggX4_answered_X3_remove : GoodIn wsX4_answered wsX3_remove := goodIn_r _ [75, 76, 77, 78, 73, 79, 80, 81, 82, 83, 84, 85, 86, 87, 120, 121, 122, 123] (by decide +kernel) (by decide +kernel)
set_option maxRecDepth 20000 in
theorem gX4_answered_X3_remove_n122 : GoodIn wsX4_answered (wsX3_remove) := ggX4_answered_X3_remove
set_option maxRecDepth 20000 in
theorem ggX4_answered_X0_stateOf : GoodIn wsX4_answered wsX0_stateOf := goodIn_r _ [90, 21, 91, 17, 19, 18, 20, 103, 104, 105, 106, 107, 108, 109, 110, 111, 112, 113, 114] (by decide +kernel) (by decide +kernel)
set_option maxRecDepth 20000 in
theorem gX4_answered_X0_stateOf_n125 : GoodIn wsX4_answered (wsX0_stateOf) := ggX4_answered_X0_stateOf
theorem dX4_answered_0 : decode cX4_answered 0 = .ok (.iload_n 1, 1) := by decide +kernel
theorem dX4_answered_1 : decode cX4_answered 1 = .ok (.invokestatic 80, 3) := by decide +kernel
theorem dX4_answered_4 : decode cX4_answered 4 = .ok (.ifCond .eq 10, 3) := by decide +kernel
theorem dX4_answered_7 : decode cX4_answered 7 = .ok (.iload_n 2, 1) := by decide +kernel
theorem dX4_answered_8 : decode cX4_answered 8 = .ok (.invokestatic 109, 3) := by decide +kernel
theorem dX4_answered_11 : decode cX4_answered 11 = .ok (.ifCond .ne 6, 3) := by decide +kernel
theorem dX4_answered_14 : decode cX4_answered 14 = .ok (.bipush (-102), 2) := by decide +kernel
theorem dX4_answered_16 : decode cX4_answered 16 = .ok (.ireturn, 1) := by decide +kernel
theorem dX4_answered_17 : decode cX4_answered 17 = .ok (.iload_n 1, 1) := by decide +kernel
theorem dX4_answered_18 : decode cX4_answered 18 = .ok (.aload_n 0, 1) := by decide +kernel
theorem dX4_answered_19 : decode cX4_answered 19 = .ok (.getfield 46, 3) := by decide +kernel
theorem dX4_answered_22 : decode cX4_answered 22 = .ok (.if_icmp .ne 7, 3) := by decide +kernel
theorem dX4_answered_25 : decode cX4_answered 25 = .ok (.aload_n 0, 1) := by decide +kernel
theorem dX4_answered_26 : decode cX4_answered 26 = .ok (.invokevirtual 112, 3) := by decide +kernel
theorem dX4_answered_29 : decode cX4_answered 29 = .ok (.aload_n 0, 1) := by decide +kernel
theorem dX4_answered_30 : decode cX4_answered 30 = .ok (.getfield 28, 3) := by decide +kernel
theorem dX4_answered_33 : decode cX4_answered 33 = .ok (.iload_n 1, 1) := by decide +kernel
theorem dX4_answered_34 : decode cX4_answered 34 = .ok (.invokevirtual 115, 3) := by decide +kernel
theorem dX4_answered_37 : decode cX4_answered 37 = .ok (.ifCond .ne 5, 3) := by decide +kernel
theorem dX4_answered_40 : decode cX4_answered 40 = .ok (.iconst (-1), 1) := by decide +kernel
theorem dX4_answered_41 : decode cX4_answered 41 = .ok (.ireturn, 1) := by decide +kernel
theorem dX4_answered_42 : decode cX4_answered 42 = .ok (.aload_n 0, 1) := by decide +kernel
theorem dX4_answered_43 : decode cX4_answered 43 = .ok (.getfield 28, 3) := by decide +kernel
theorem dX4_answered_46 : decode cX4_answered 46 = .ok (.iload_n 1, 1) := by decide +kernel
theorem dX4_answered_47 : decode cX4_answered 47 = .ok (.iload_n 2, 1) := by decide +kernel
theorem dX4_answered_48 : decode cX4_answered 48 = .ok (.iload_n 3, 1) := by decide +kernel
theorem dX4_answered_49 : decode cX4_answered 49 = .ok (.iload 4, 2) := by decide +kernel
theorem dX4_answered_51 : decode cX4_answered 51 = .ok (.aload_n 0, 1) := by decide +kernel
theorem dX4_answered_52 : decode cX4_answered 52 = .ok (.getfield 39, 3) := by decide +kernel
theorem dX4_answered_55 : decode cX4_answered 55 = .ok (.invokevirtual 118, 3) := by decide +kernel
theorem dX4_answered_58 : decode cX4_answered 58 = .ok (.iload 5, 2) := by decide +kernel
theorem dX4_answered_60 : decode cX4_answered 60 = .ok (.ifCond .ne 11, 3) := by decide +kernel
theorem dX4_answered_63 : decode cX4_answered 63 = .ok (.aload_n 0, 1) := by decide +kernel
theorem dX4_answered_64 : decode cX4_answered 64 = .ok (.getfield 35, 3) := by decide +kernel
theorem dX4_answered_67 : decode cX4_answered 67 = .ok (.iload_n 1, 1) := by decide +kernel
theorem dX4_answered_68 : decode cX4_answered 68 = .ok (.invokevirtual 122, 3) := by decide +kernel
theorem dX4_answered_71 : decode cX4_answered 71 = .ok (.aload_n 0, 1) := by decide +kernel
theorem dX4_answered_72 : decode cX4_answered 72 = .ok (.getfield 28, 3) := by decide +kernel
theorem dX4_answered_75 : decode cX4_answered 75 = .ok (.iload_n 1, 1) := by decide +kernel
theorem dX4_answered_76 : decode cX4_answered 76 = .ok (.invokevirtual 125, 3) := by decide +kernel
theorem dX4_answered_79 : decode cX4_answered 79 = .ok (.ireturn, 1) := by decide +kernel
set_option maxRecDepth 20000 in
theorem ggX4_asks_X4_isAddress : GoodIn wsX4_asks wsX4_isAddress := goodIn_r _ [6] (by decide +kernel) (by decide +kernel)
set_option maxRecDepth 20000 in
theorem gX4_asks_X4_isAddress : GoodIn wsX4_asks (va_wsS RX4 80 yX4_isAddress wsX4_isAddress) := goodIn_app (goodIn_of _ (by decide +kernel)) ggX4_asks_X4_isAddress
set_option maxRecDepth 20000 in
theorem ggX4_asks_X4_isMark : GoodIn wsX4_asks wsX4_isMark := goodIn_r _ [9] (by decide +kernel) (by decide +kernel)
set_option maxRecDepth 20000 in
theorem gX4_asks_X4_isMark : GoodIn wsX4_asks (va_wsS RX4 109 yX4_isMark wsX4_isMark) := goodIn_app (goodIn_of _ (by decide +kernel)) ggX4_asks_X4_isMark
set_option maxRecDepth 20000 in
theorem ggX4_asks_X4_isOwnOrTrial : GoodIn wsX4_asks wsX4_isOwnOrTrial := goodIn_r _ [13, 1, 2, 110, 111, 112, 113, 114, 115, 116, 117, 118, 119, 120] (by decide +kernel) (by decide +kernel)
set_option maxRecDepth 20000 in
theorem gX4_asks_X4_isOwnOrTrial : GoodIn wsX4_asks (wsV RX4 87 RX4 yX4_isOwnOrTrial wsX4_isOwnOrTrial) := goodIn_app (goodIn_of _ (by decide +kernel)) ggX4_asks_X4_isOwnOrTrial
set_option maxRecDepth 20000 in
theorem ggX4_asks_X4_answerTo : GoodIn wsX4_asks wsX4_answerTo := goodIn_r _ [17, 18, 19, 20, 21, 22, 23, 24, 25, 26, 27, 28, 29, 30, 31, 32, 33, 34, 35, 36, 37, 38, 39, 40, 41, 42, 43, 44, 45, 46, 47, 48, 49, 50, 51, 52, 53, 54, 55, 56, 57, 58, 59, 60, 61, 62, 63, 64, 65, 66, 67, 68, 69, 70, 71, 72, 73, 74, 75, 76, 77, 78, 79, 80, 81, 82, 83, 84, 85, 86, 87, 88, 89, 90, 91, 92, 93, 94, 95, 96, 97, 98, 99, 100, 101, 102, 103, 104, 110, 111, 112, 113, 114, 115, 116, 117, 118, 119, 120, 121, 122, 123, 124, 125, 126, 127, 128, 129, 130, 131, 132, 133, 134, 135, 136, 137, 138, 139, 140] (by decide +kernel) (by decide +kernel)
set_option maxRecDepth 20000 in
theorem gX4_asks_X4_answerTo : GoodIn wsX4_asks (wsV RX4 128 RX4 yX4_answerTo wsX4_answerTo) := goodIn_app (goodIn_of _ (by decide +kernel)) ggX4_asks_X4_answerTo
set_option maxRecDepth 20000 in
theorem ggX4_asks_X4_trialIsDoubled : GoodIn wsX4_asks wsX4_trialIsDoubled := goodIn_r _ [108, 109, 2, 110, 111, 112, 113, 114, 115, 116, 117, 118, 119, 120] (by decide +kernel) (by decide +kernel)
set_option maxRecDepth 20000 in
theorem gX4_asks_X4_trialIsDoubled : GoodIn wsX4_asks (wsV RX4 112 RX4 yX4_trialIsDoubled wsX4_trialIsDoubled) := goodIn_app (goodIn_of _ (by decide +kernel)) ggX4_asks_X4_trialIsDoubled
theorem dX4_asks_0 : decode cX4_asks 0 = .ok (.iload_n 1, 1) := by decide +kernel
theorem dX4_asks_1 : decode cX4_asks 1 = .ok (.iconst (-1), 1) := by decide +kernel
theorem dX4_asks_2 : decode cX4_asks 2 = .ok (.if_icmp .ne 7, 3) := by decide +kernel
theorem dX4_asks_5 : decode cX4_asks 5 = .ok (.iconst 1, 1) := by decide +kernel
theorem dX4_asks_6 : decode cX4_asks 6 = .ok (.goto 4, 3) := by decide +kernel
theorem dX4_asks_9 : decode cX4_asks 9 = .ok (.iconst 0, 1) := by decide +kernel
theorem dX4_asks_10 : decode cX4_asks 10 = .ok (.istore 4, 2) := by decide +kernel
theorem dX4_asks_12 : decode cX4_asks 12 = .ok (.iload 4, 2) := by decide +kernel
theorem dX4_asks_14 : decode cX4_asks 14 = .ok (.ifCond .ne 10, 3) := by decide +kernel
theorem dX4_asks_17 : decode cX4_asks 17 = .ok (.iload_n 1, 1) := by decide +kernel
theorem dX4_asks_18 : decode cX4_asks 18 = .ok (.invokestatic 80, 3) := by decide +kernel
theorem dX4_asks_21 : decode cX4_asks 21 = .ok (.ifCond .eq 17, 3) := by decide +kernel
theorem dX4_asks_24 : decode cX4_asks 24 = .ok (.iload_n 2, 1) := by decide +kernel
theorem dX4_asks_25 : decode cX4_asks 25 = .ok (.invokestatic 109, 3) := by decide +kernel
theorem dX4_asks_28 : decode cX4_asks 28 = .ok (.ifCond .eq 10, 3) := by decide +kernel
theorem dX4_asks_31 : decode cX4_asks 31 = .ok (.iload_n 3, 1) := by decide +kernel
theorem dX4_asks_32 : decode cX4_asks 32 = .ok (.invokestatic 80, 3) := by decide +kernel
theorem dX4_asks_35 : decode cX4_asks 35 = .ok (.ifCond .ne 6, 3) := by decide +kernel
theorem dX4_asks_38 : decode cX4_asks 38 = .ok (.bipush (-102), 2) := by decide +kernel
theorem dX4_asks_40 : decode cX4_asks 40 = .ok (.ireturn, 1) := by decide +kernel
theorem dX4_asks_41 : decode cX4_asks 41 = .ok (.iload 4, 2) := by decide +kernel
theorem dX4_asks_43 : decode cX4_asks 43 = .ok (.ifCond .ne 14, 3) := by decide +kernel
theorem dX4_asks_46 : decode cX4_asks 46 = .ok (.aload_n 0, 1) := by decide +kernel
theorem dX4_asks_47 : decode cX4_asks 47 = .ok (.iload_n 1, 1) := by decide +kernel
theorem dX4_asks_48 : decode cX4_asks 48 = .ok (.invokevirtual 87, 3) := by decide +kernel
theorem dX4_asks_51 : decode cX4_asks 51 = .ok (.ifCond .eq 6, 3) := by decide +kernel
theorem dX4_asks_54 : decode cX4_asks 54 = .ok (.bipush (-103), 2) := by decide +kernel
theorem dX4_asks_56 : decode cX4_asks 56 = .ok (.ireturn, 1) := by decide +kernel
theorem dX4_asks_57 : decode cX4_asks 57 = .ok (.iload_n 3, 1) := by decide +kernel
theorem dX4_asks_58 : decode cX4_asks 58 = .ok (.aload_n 0, 1) := by decide +kernel
theorem dX4_asks_59 : decode cX4_asks 59 = .ok (.getfield 43, 3) := by decide +kernel
theorem dX4_asks_62 : decode cX4_asks 62 = .ok (.if_icmp .ne 11, 3) := by decide +kernel
theorem dX4_asks_65 : decode cX4_asks 65 = .ok (.aload_n 0, 1) := by decide +kernel
theorem dX4_asks_66 : decode cX4_asks 66 = .ok (.iload_n 1, 1) := by decide +kernel
theorem dX4_asks_67 : decode cX4_asks 67 = .ok (.iload_n 2, 1) := by decide +kernel
theorem dX4_asks_68 : decode cX4_asks 68 = .ok (.invokevirtual 128, 3) := by decide +kernel
theorem dX4_asks_71 : decode cX4_asks 71 = .ok (.iconst 1, 1) := by decide +kernel
theorem dX4_asks_72 : decode cX4_asks 72 = .ok (.ireturn, 1) := by decide +kernel
theorem dX4_asks_73 : decode cX4_asks 73 = .ok (.iload_n 3, 1) := by decide +kernel
theorem dX4_asks_74 : decode cX4_asks 74 = .ok (.aload_n 0, 1) := by decide +kernel
theorem dX4_asks_75 : decode cX4_asks 75 = .ok (.getfield 46, 3) := by decide +kernel
theorem dX4_asks_78 : decode cX4_asks 78 = .ok (.if_icmp .ne 14, 3) := by decide +kernel
theorem dX4_asks_81 : decode cX4_asks 81 = .ok (.iload 4, 2) := by decide +kernel
theorem dX4_asks_83 : decode cX4_asks 83 = .ok (.ifCond .eq 9, 3) := by decide +kernel
theorem dX4_asks_86 : decode cX4_asks 86 = .ok (.aload_n 0, 1) := by decide +kernel
theorem dX4_asks_87 : decode cX4_asks 87 = .ok (.invokevirtual 112, 3) := by decide +kernel
theorem dX4_asks_90 : decode cX4_asks 90 = .ok (.iconst 2, 1) := by decide +kernel
theorem dX4_asks_91 : decode cX4_asks 91 = .ok (.ireturn, 1) := by decide +kernel
theorem dX4_asks_92 : decode cX4_asks 92 = .ok (.iconst 0, 1) := by decide +kernel
theorem dX4_asks_93 : decode cX4_asks 93 = .ok (.ireturn, 1) := by decide +kernel
set_option maxRecDepth 20000 in
theorem ggX4_answerTo_X2_add : GoodIn wsX4_answerTo wsX2_add := goodIn_r _ [7, 8, 9, 10, 11, 12, 99, 100, 101, 102, 103] (by decide +kernel) (by decide +kernel)
set_option maxRecDepth 20000 in
theorem gX4_answerTo_X2_add_n62 : GoodIn wsX4_answerTo (wsX2_add) := ggX4_answerTo_X2_add
set_option maxRecDepth 20000 in
theorem ggX4_answerTo_X0_hear : GoodIn wsX4_answerTo wsX0_hear := goodIn_r _ [16, 17, 18, 19, 20, 21, 14, 22, 23, 24, 25, 26, 27, 28, 29, 30, 31, 32, 33, 34, 35, 36, 37, 38, 39, 40, 41, 42, 43, 44, 45, 46, 47, 48, 49, 50, 51, 52, 53, 54, 55, 56, 57, 58, 59, 60, 61, 62, 63, 64, 65, 66, 67, 68, 69, 70, 71, 72, 73, 74, 75, 76, 77, 78, 79, 80, 81, 82, 83, 4, 5, 6, 7, 8, 9, 10, 11, 12, 84, 85, 86, 87, 104, 105, 106, 107, 108, 109, 110, 111, 112, 113, 114, 115, 116, 117, 118, 99, 100, 101, 102, 103] (by decide +kernel) (by decide +kernel)
set_option maxRecDepth 20000 in
theorem gX4_answerTo_X0_hear_n132 : GoodIn wsX4_answerTo (wsX0_hear) := ggX4_answerTo_X0_hear
theorem dX4_answerTo_0 : decode cX4_answerTo 0 = .ok (.iload_n 1, 1) := by decide +kernel
theorem dX4_answerTo_1 : decode cX4_answerTo 1 = .ok (.iconst (-1), 1) := by decide +kernel
theorem dX4_answerTo_2 : decode cX4_answerTo 2 = .ok (.if_icmp .ne 19, 3) := by decide +kernel
theorem dX4_answerTo_5 : decode cX4_answerTo 5 = .ok (.aload_n 0, 1) := by decide +kernel
theorem dX4_answerTo_6 : decode cX4_answerTo 6 = .ok (.getfield 13, 3) := by decide +kernel
theorem dX4_answerTo_9 : decode cX4_answerTo 9 = .ok (.iconst 3, 1) := by decide +kernel
theorem dX4_answerTo_10 : decode cX4_answerTo 10 = .ok (.iconst (-1), 1) := by decide +kernel
theorem dX4_answerTo_11 : decode cX4_answerTo 11 = .ok (.iconst 0, 1) := by decide +kernel
theorem dX4_answerTo_12 : decode cX4_answerTo 12 = .ok (.iconst 0, 1) := by decide +kernel
theorem dX4_answerTo_13 : decode cX4_answerTo 13 = .ok (.aload_n 0, 1) := by decide +kernel
theorem dX4_answerTo_14 : decode cX4_answerTo 14 = .ok (.getfield 39, 3) := by decide +kernel
theorem dX4_answerTo_17 : decode cX4_answerTo 17 = .ok (.invokevirtual 62, 3) := by decide +kernel
theorem dX4_answerTo_20 : decode cX4_answerTo 20 = .ok (.return_, 1) := by decide +kernel
theorem dX4_answerTo_21 : decode cX4_answerTo 21 = .ok (.aload_n 0, 1) := by decide +kernel
theorem dX4_answerTo_22 : decode cX4_answerTo 22 = .ok (.getfield 28, 3) := by decide +kernel
theorem dX4_answerTo_25 : decode cX4_answerTo 25 = .ok (.iload_n 1, 1) := by decide +kernel
theorem dX4_answerTo_26 : decode cX4_answerTo 26 = .ok (.iload_n 2, 1) := by decide +kernel
theorem dX4_answerTo_27 : decode cX4_answerTo 27 = .ok (.aload_n 0, 1) := by decide +kernel
theorem dX4_answerTo_28 : decode cX4_answerTo 28 = .ok (.getfield 39, 3) := by decide +kernel
theorem dX4_answerTo_31 : decode cX4_answerTo 31 = .ok (.invokevirtual 132, 3) := by decide +kernel
theorem dX4_answerTo_34 : decode cX4_answerTo 34 = .ok (.aload_n 0, 1) := by decide +kernel
theorem dX4_answerTo_35 : decode cX4_answerTo 35 = .ok (.getfield 13, 3) := by decide +kernel
theorem dX4_answerTo_38 : decode cX4_answerTo 38 = .ok (.iconst 3, 1) := by decide +kernel
theorem dX4_answerTo_39 : decode cX4_answerTo 39 = .ok (.iload_n 1, 1) := by decide +kernel
theorem dX4_answerTo_40 : decode cX4_answerTo 40 = .ok (.iload_n 2, 1) := by decide +kernel
theorem dX4_answerTo_41 : decode cX4_answerTo 41 = .ok (.iconst 0, 1) := by decide +kernel
theorem dX4_answerTo_42 : decode cX4_answerTo 42 = .ok (.aload_n 0, 1) := by decide +kernel
theorem dX4_answerTo_43 : decode cX4_answerTo 43 = .ok (.getfield 39, 3) := by decide +kernel
theorem dX4_answerTo_46 : decode cX4_answerTo 46 = .ok (.invokevirtual 62, 3) := by decide +kernel
theorem dX4_answerTo_49 : decode cX4_answerTo 49 = .ok (.return_, 1) := by decide +kernel
theorem dX4_trialIsDoubled_0 : decode cX4_trialIsDoubled 0 = .ok (.aload_n 0, 1) := by decide +kernel
theorem dX4_trialIsDoubled_1 : decode cX4_trialIsDoubled 1 = .ok (.dup, 1) := by decide +kernel
theorem dX4_trialIsDoubled_2 : decode cX4_trialIsDoubled 2 = .ok (.getfield 52, 3) := by decide +kernel
theorem dX4_trialIsDoubled_5 : decode cX4_trialIsDoubled 5 = .ok (.iconst 1, 1) := by decide +kernel
theorem dX4_trialIsDoubled_6 : decode cX4_trialIsDoubled 6 = .ok (.aload_n 0, 1) := by decide +kernel
theorem dX4_trialIsDoubled_7 : decode cX4_trialIsDoubled 7 = .ok (.getfield 46, 3) := by decide +kernel
theorem dX4_trialIsDoubled_10 : decode cX4_trialIsDoubled 10 = .ok (.ishl, 1) := by decide +kernel
theorem dX4_trialIsDoubled_11 : decode cX4_trialIsDoubled 11 = .ok (.ior, 1) := by decide +kernel
theorem dX4_trialIsDoubled_12 : decode cX4_trialIsDoubled 12 = .ok (.putfield 52, 3) := by decide +kernel
theorem dX4_trialIsDoubled_15 : decode cX4_trialIsDoubled 15 = .ok (.aload_n 0, 1) := by decide +kernel
theorem dX4_trialIsDoubled_16 : decode cX4_trialIsDoubled 16 = .ok (.iconst (-1), 1) := by decide +kernel
theorem dX4_trialIsDoubled_17 : decode cX4_trialIsDoubled 17 = .ok (.putfield 46, 3) := by decide +kernel
theorem dX4_trialIsDoubled_20 : decode cX4_trialIsDoubled 20 = .ok (.return_, 1) := by decide +kernel
set_option maxRecDepth 20000 in
theorem ggX4_told_X4_isAddress : GoodIn wsX4_told wsX4_isAddress := goodIn_r _ [8] (by decide +kernel) (by decide +kernel)
set_option maxRecDepth 20000 in
theorem gX4_told_X4_isAddress : GoodIn wsX4_told (va_wsS RX4 80 yX4_isAddress wsX4_isAddress) := goodIn_app (goodIn_of _ (by decide +kernel)) ggX4_told_X4_isAddress
set_option maxRecDepth 20000 in
theorem ggX4_told_X4_isMark : GoodIn wsX4_told wsX4_isMark := goodIn_r _ [11] (by decide +kernel) (by decide +kernel)
set_option maxRecDepth 20000 in
theorem gX4_told_X4_isMark : GoodIn wsX4_told (va_wsS RX4 109 yX4_isMark wsX4_isMark) := goodIn_app (goodIn_of _ (by decide +kernel)) ggX4_told_X4_isMark
set_option maxRecDepth 20000 in
theorem ggX4_told_X4_isOwnOrTrial : GoodIn wsX4_told wsX4_isOwnOrTrial := goodIn_r _ [15, 16, 17, 131, 132, 133, 134, 135, 136, 137, 138, 139, 140, 141] (by decide +kernel) (by decide +kernel)
set_option maxRecDepth 20000 in
theorem gX4_told_X4_isOwnOrTrial : GoodIn wsX4_told (wsV RX4 87 RX4 yX4_isOwnOrTrial wsX4_isOwnOrTrial) := goodIn_app (goodIn_of _ (by decide +kernel)) ggX4_told_X4_isOwnOrTrial
set_option maxRecDepth 20000 in
theorem ggX4_told_X3_hasRoomFor : GoodIn wsX4_told wsX3_hasRoomFor := goodIn_r _ [21, 22, 23, 24, 25, 19, 26, 27, 28, 29, 30, 31, 142, 143, 144, 145] (by decide +kernel) (by decide +kernel)
set_option maxRecDepth 20000 in
theorem gX4_told_X3_hasRoomFor_n136 : GoodIn wsX4_told (wsX3_hasRoomFor) := ggX4_told_X3_hasRoomFor
set_option maxRecDepth 20000 in
theorem ggX4_told_X0_hear : GoodIn wsX4_told wsX0_hear := goodIn_r _ [35, 36, 37, 38, 39, 40, 33, 41, 42, 43, 44, 45, 46, 47, 48, 49, 50, 51, 52, 53, 54, 55, 56, 57, 58, 59, 60, 61, 62, 63, 64, 65, 66, 67, 68, 69, 70, 71, 72, 73, 74, 75, 76, 77, 78, 79, 80, 81, 82, 83, 84, 85, 86, 87, 88, 89, 90, 91, 92, 93, 94, 95, 96, 97, 98, 99, 100, 101, 102, 103, 104, 105, 106, 107, 108, 109, 110, 111, 112, 113, 114, 115, 146, 147, 148, 149, 150, 151, 152, 153, 154, 155, 156, 157, 158, 159, 160, 161, 162, 163, 164, 165] (by decide +kernel) (by decide +kernel)
set_option maxRecDepth 20000 in
theorem gX4_told_X0_hear_n132 : GoodIn wsX4_told (wsX0_hear) := ggX4_told_X0_hear
set_option maxRecDepth 20000 in
theorem ggX4_told_X3_put : GoodIn wsX4_told wsX3_put := goodIn_r _ [118, 22, 31, 119, 120, 27, 28, 29, 19, 30, 142, 143, 144, 145] (by decide +kernel) (by decide +kernel)
set_option maxRecDepth 20000 in
theorem gX4_told_X3_put_n139 : GoodIn wsX4_told (wsX3_put) := ggX4_told_X3_put
set_option maxRecDepth 20000 in
theorem ggX4_told_X3_remove : GoodIn wsX4_told wsX3_remove := goodIn_r _ [123, 27, 28, 29, 19, 30, 22, 31, 124, 125, 126, 127, 119, 120, 142, 143, 144, 145] (by decide +kernel) (by decide +kernel)
set_option maxRecDepth 20000 in
theorem gX4_told_X3_remove_n122 : GoodIn wsX4_told (wsX3_remove) := ggX4_told_X3_remove
set_option maxRecDepth 20000 in
theorem ggX4_told_X3_howMany : GoodIn wsX4_told wsX3_howMany := goodIn_r _ [130, 22, 142, 143, 144, 145] (by decide +kernel) (by decide +kernel)
set_option maxRecDepth 20000 in
theorem gX4_told_X3_howMany_n142 : GoodIn wsX4_told (wsX3_howMany) := ggX4_told_X3_howMany
theorem dX4_told_0 : decode cX4_told 0 = .ok (.iload_n 1, 1) := by decide +kernel
theorem dX4_told_1 : decode cX4_told 1 = .ok (.invokestatic 80, 3) := by decide +kernel
theorem dX4_told_4 : decode cX4_told 4 = .ok (.ifCond .eq 10, 3) := by decide +kernel
theorem dX4_told_7 : decode cX4_told 7 = .ok (.iload_n 2, 1) := by decide +kernel
theorem dX4_told_8 : decode cX4_told 8 = .ok (.invokestatic 109, 3) := by decide +kernel
theorem dX4_told_11 : decode cX4_told 11 = .ok (.ifCond .ne 6, 3) := by decide +kernel
theorem dX4_told_14 : decode cX4_told 14 = .ok (.bipush (-102), 2) := by decide +kernel
theorem dX4_told_16 : decode cX4_told 16 = .ok (.ireturn, 1) := by decide +kernel
theorem dX4_told_17 : decode cX4_told 17 = .ok (.iload_n 3, 1) := by decide +kernel
theorem dX4_told_18 : decode cX4_told 18 = .ok (.ifCond .lt 22, 3) := by decide +kernel
theorem dX4_told_21 : decode cX4_told 21 = .ok (.iload_n 3, 1) := by decide +kernel
theorem dX4_told_22 : decode cX4_told 22 = .ok (.sipush 200, 3) := by decide +kernel
theorem dX4_told_25 : decode cX4_told 25 = .ok (.if_icmp .gt 15, 3) := by decide +kernel
theorem dX4_told_28 : decode cX4_told 28 = .ok (.iload 4, 2) := by decide +kernel
theorem dX4_told_30 : decode cX4_told 30 = .ok (.iconst (-1), 1) := by decide +kernel
theorem dX4_told_31 : decode cX4_told 31 = .ok (.if_icmp .lt 9, 3) := by decide +kernel
theorem dX4_told_34 : decode cX4_told 34 = .ok (.iload 4, 2) := by decide +kernel
theorem dX4_told_36 : decode cX4_told 36 = .ok (.iconst 1, 1) := by decide +kernel
theorem dX4_told_37 : decode cX4_told 37 = .ok (.if_icmp .le 6, 3) := by decide +kernel
theorem dX4_told_40 : decode cX4_told 40 = .ok (.bipush (-102), 2) := by decide +kernel
theorem dX4_told_42 : decode cX4_told 42 = .ok (.ireturn, 1) := by decide +kernel
theorem dX4_told_43 : decode cX4_told 43 = .ok (.aload_n 0, 1) := by decide +kernel
theorem dX4_told_44 : decode cX4_told 44 = .ok (.iload_n 1, 1) := by decide +kernel
theorem dX4_told_45 : decode cX4_told 45 = .ok (.invokevirtual 87, 3) := by decide +kernel
theorem dX4_told_48 : decode cX4_told 48 = .ok (.ifCond .eq 6, 3) := by decide +kernel
theorem dX4_told_51 : decode cX4_told 51 = .ok (.bipush (-103), 2) := by decide +kernel
theorem dX4_told_53 : decode cX4_told 53 = .ok (.ireturn, 1) := by decide +kernel
theorem dX4_told_54 : decode cX4_told 54 = .ok (.iload_n 3, 1) := by decide +kernel
theorem dX4_told_55 : decode cX4_told 55 = .ok (.ifCond .le 17, 3) := by decide +kernel
theorem dX4_told_58 : decode cX4_told 58 = .ok (.aload_n 0, 1) := by decide +kernel
theorem dX4_told_59 : decode cX4_told 59 = .ok (.getfield 35, 3) := by decide +kernel
theorem dX4_told_62 : decode cX4_told 62 = .ok (.iload_n 1, 1) := by decide +kernel
theorem dX4_told_63 : decode cX4_told 63 = .ok (.invokevirtual 136, 3) := by decide +kernel
theorem dX4_told_66 : decode cX4_told 66 = .ok (.ifCond .ne 6, 3) := by decide +kernel
theorem dX4_told_69 : decode cX4_told 69 = .ok (.bipush (-104), 2) := by decide +kernel
theorem dX4_told_71 : decode cX4_told 71 = .ok (.ireturn, 1) := by decide +kernel
theorem dX4_told_72 : decode cX4_told 72 = .ok (.aload_n 0, 1) := by decide +kernel
theorem dX4_told_73 : decode cX4_told 73 = .ok (.getfield 28, 3) := by decide +kernel
theorem dX4_told_76 : decode cX4_told 76 = .ok (.iload_n 1, 1) := by decide +kernel
theorem dX4_told_77 : decode cX4_told 77 = .ok (.iload_n 2, 1) := by decide +kernel
theorem dX4_told_78 : decode cX4_told 78 = .ok (.aload_n 0, 1) := by decide +kernel
theorem dX4_told_79 : decode cX4_told 79 = .ok (.getfield 39, 3) := by decide +kernel
theorem dX4_told_82 : decode cX4_told 82 = .ok (.invokevirtual 132, 3) := by decide +kernel
theorem dX4_told_85 : decode cX4_told 85 = .ok (.iload_n 3, 1) := by decide +kernel
theorem dX4_told_86 : decode cX4_told 86 = .ok (.ifCond .le 27, 3) := by decide +kernel
theorem dX4_told_89 : decode cX4_told 89 = .ok (.aload_n 0, 1) := by decide +kernel
theorem dX4_told_90 : decode cX4_told 90 = .ok (.getfield 35, 3) := by decide +kernel
theorem dX4_told_93 : decode cX4_told 93 = .ok (.iload_n 1, 1) := by decide +kernel
theorem dX4_told_94 : decode cX4_told 94 = .ok (.iload 4, 2) := by decide +kernel
theorem dX4_told_96 : decode cX4_told 96 = .ok (.aload_n 0, 1) := by decide +kernel
theorem dX4_told_97 : decode cX4_told 97 = .ok (.getfield 39, 3) := by decide +kernel
theorem dX4_told_100 : decode cX4_told 100 = .ok (.iload_n 3, 1) := by decide +kernel
theorem dX4_told_101 : decode cX4_told 101 = .ok (.iadd, 1) := by decide +kernel
theorem dX4_told_102 : decode cX4_told 102 = .ok (.invokevirtual 139, 3) := by decide +kernel
theorem dX4_told_105 : decode cX4_told 105 = .ok (.aload_n 0, 1) := by decide +kernel
theorem dX4_told_106 : decode cX4_told 106 = .ok (.iconst 1, 1) := by decide +kernel
theorem dX4_told_107 : decode cX4_told 107 = .ok (.putfield 58, 3) := by decide +kernel
theorem dX4_told_110 : decode cX4_told 110 = .ok (.goto 11, 3) := by decide +kernel
theorem dX4_told_113 : decode cX4_told 113 = .ok (.aload_n 0, 1) := by decide +kernel
theorem dX4_told_114 : decode cX4_told 114 = .ok (.getfield 35, 3) := by decide +kernel
theorem dX4_told_117 : decode cX4_told 117 = .ok (.iload_n 1, 1) := by decide +kernel
theorem dX4_told_118 : decode cX4_told 118 = .ok (.invokevirtual 122, 3) := by decide +kernel
theorem dX4_told_121 : decode cX4_told 121 = .ok (.aload_n 0, 1) := by decide +kernel
theorem dX4_told_122 : decode cX4_told 122 = .ok (.getfield 35, 3) := by decide +kernel
theorem dX4_told_125 : decode cX4_told 125 = .ok (.invokevirtual 142, 3) := by decide +kernel
theorem dX4_told_128 : decode cX4_told 128 = .ok (.ireturn, 1) := by decide +kernel
set_option maxRecDepth 20000 in
theorem ggX4_better_X4_isAddress : GoodIn wsX4_better wsX4_isAddress := goodIn_r _ [5] (by decide +kernel) (by decide +kernel)
set_option maxRecDepth 20000 in
theorem gX4_better_X4_isAddress : GoodIn wsX4_better (va_wsS RX4 80 yX4_isAddress wsX4_isAddress) := goodIn_app (goodIn_of _ (by decide +kernel)) ggX4_better_X4_isAddress
set_option maxRecDepth 20000 in
theorem ggX4_better_X4_isGoal : GoodIn wsX4_better wsX4_isGoal := goodIn_r _ [8] (by decide +kernel) (by decide +kernel)
set_option maxRecDepth 20000 in
theorem gX4_better_X4_isGoal : GoodIn wsX4_better (va_wsS RX4 94 yX4_isGoal wsX4_isGoal) := goodIn_app (goodIn_of _ (by decide +kernel)) ggX4_better_X4_isGoal
set_option maxRecDepth 20000 in
theorem ggX4_better_X4_isOwnOrTrial : GoodIn wsX4_better wsX4_isOwnOrTrial := goodIn_r _ [12, 13, 14, 75, 76, 77, 78, 79, 80, 81, 82, 83, 84, 85] (by decide +kernel) (by decide +kernel)
set_option maxRecDepth 20000 in
theorem gX4_better_X4_isOwnOrTrial : GoodIn wsX4_better (wsV RX4 87 RX4 yX4_isOwnOrTrial wsX4_isOwnOrTrial) := goodIn_app (goodIn_of _ (by decide +kernel)) ggX4_better_X4_isOwnOrTrial
set_option maxRecDepth 20000 in
theorem ggX4_better_X4_hop : GoodIn wsX4_better wsX4_hop := goodIn_r _ [18, 6, 7, 4, 8, 19, 20, 21, 22, 1, 23, 24, 25, 26, 27, 28, 29, 30, 31, 32, 33, 34, 35, 36, 37, 38, 39, 40, 41, 42, 43, 44, 45, 46, 47, 48, 49, 50, 51, 52, 53, 54, 55, 56, 57, 58, 59, 60, 61, 62, 63, 64, 65, 66, 67, 75, 76, 77, 78, 79, 80, 81, 82, 83, 84, 85, 86, 87, 88, 89, 90, 91, 92, 93, 94, 95, 96, 97, 98, 99, 100, 101, 102, 103, 104] (by decide +kernel) (by decide +kernel)
set_option maxRecDepth 20000 in
theorem gX4_better_X4_hop : GoodIn wsX4_better (wsV RX4 145 RX4 yX4_hop wsX4_hop) := goodIn_app (goodIn_of _ (by decide +kernel)) ggX4_better_X4_hop
set_option maxRecDepth 20000 in
theorem ggX4_better_X1_keep : GoodIn wsX4_better wsX1_keep := goodIn_r _ [70, 29, 34, 35, 30, 31, 32, 26, 33, 71, 72, 73, 74, 86, 87, 88] (by decide +kernel) (by decide +kernel)
set_option maxRecDepth 20000 in
theorem gX4_better_X1_keep_n148 : GoodIn wsX4_better (wsX1_keep) := ggX4_better_X1_keep
theorem dX4_better_0 : decode cX4_better 0 = .ok (.iload_n 1, 1) := by decide +kernel
theorem dX4_better_1 : decode cX4_better 1 = .ok (.invokestatic 80, 3) := by decide +kernel
theorem dX4_better_4 : decode cX4_better 4 = .ok (.ifCond .eq 17, 3) := by decide +kernel
theorem dX4_better_7 : decode cX4_better 7 = .ok (.iload_n 2, 1) := by decide +kernel
theorem dX4_better_8 : decode cX4_better 8 = .ok (.invokestatic 94, 3) := by decide +kernel
theorem dX4_better_11 : decode cX4_better 11 = .ok (.ifCond .eq 10, 3) := by decide +kernel
theorem dX4_better_14 : decode cX4_better 14 = .ok (.iload_n 3, 1) := by decide +kernel
theorem dX4_better_15 : decode cX4_better 15 = .ok (.invokestatic 80, 3) := by decide +kernel
theorem dX4_better_18 : decode cX4_better 18 = .ok (.ifCond .ne 6, 3) := by decide +kernel
theorem dX4_better_21 : decode cX4_better 21 = .ok (.bipush (-102), 2) := by decide +kernel
theorem dX4_better_23 : decode cX4_better 23 = .ok (.ireturn, 1) := by decide +kernel
theorem dX4_better_24 : decode cX4_better 24 = .ok (.aload_n 0, 1) := by decide +kernel
theorem dX4_better_25 : decode cX4_better 25 = .ok (.iload_n 3, 1) := by decide +kernel
theorem dX4_better_26 : decode cX4_better 26 = .ok (.invokevirtual 87, 3) := by decide +kernel
theorem dX4_better_29 : decode cX4_better 29 = .ok (.ifCond .eq 6, 3) := by decide +kernel
theorem dX4_better_32 : decode cX4_better 32 = .ok (.bipush (-103), 2) := by decide +kernel
theorem dX4_better_34 : decode cX4_better 34 = .ok (.ireturn, 1) := by decide +kernel
theorem dX4_better_35 : decode cX4_better 35 = .ok (.aload_n 0, 1) := by decide +kernel
theorem dX4_better_36 : decode cX4_better 36 = .ok (.iload_n 2, 1) := by decide +kernel
theorem dX4_better_37 : decode cX4_better 37 = .ok (.invokevirtual 145, 3) := by decide +kernel
theorem dX4_better_40 : decode cX4_better 40 = .ok (.iload_n 1, 1) := by decide +kernel
theorem dX4_better_41 : decode cX4_better 41 = .ok (.if_icmp .eq 5, 3) := by decide +kernel
theorem dX4_better_44 : decode cX4_better 44 = .ok (.iconst 0, 1) := by decide +kernel
theorem dX4_better_45 : decode cX4_better 45 = .ok (.ireturn, 1) := by decide +kernel
theorem dX4_better_46 : decode cX4_better 46 = .ok (.aload_n 0, 1) := by decide +kernel
theorem dX4_better_47 : decode cX4_better 47 = .ok (.getfield 19, 3) := by decide +kernel
theorem dX4_better_50 : decode cX4_better 50 = .ok (.iload_n 2, 1) := by decide +kernel
theorem dX4_better_51 : decode cX4_better 51 = .ok (.iload_n 3, 1) := by decide +kernel
theorem dX4_better_52 : decode cX4_better 52 = .ok (.invokevirtual 148, 3) := by decide +kernel
theorem dX4_better_55 : decode cX4_better 55 = .ok (.iconst 1, 1) := by decide +kernel
theorem dX4_better_56 : decode cX4_better 56 = .ok (.ireturn, 1) := by decide +kernel
set_option maxRecDepth 20000 in
theorem ggX4_claim_X4_isAddress : GoodIn wsX4_claim wsX4_isAddress := goodIn_r _ [9] (by decide +kernel) (by decide +kernel)
set_option maxRecDepth 20000 in
theorem gX4_claim_X4_isAddress : GoodIn wsX4_claim (va_wsS RX4 80 yX4_isAddress wsX4_isAddress) := goodIn_app (goodIn_of _ (by decide +kernel)) ggX4_claim_X4_isAddress
set_option maxRecDepth 20000 in
theorem ggX4_claim_X4_isTaken : GoodIn wsX4_claim wsX4_isTaken := goodIn_r _ [13, 14, 15, 16, 17, 18, 19, 20, 21, 22, 23, 24, 25, 26, 27, 28, 29, 30, 31, 32, 33, 34, 35, 36, 37, 38, 48, 49, 50, 51, 52, 53, 54, 55, 56, 57, 58, 59, 60, 61, 62, 63, 64, 65, 66, 67, 68, 69, 70, 71, 72, 73, 74, 75, 76, 77] (by decide +kernel) (by decide +kernel)
set_option maxRecDepth 20000 in
theorem gX4_claim_X4_isTaken : GoodIn wsX4_claim (wsV RX4 151 RX4 yX4_isTaken wsX4_isTaken) := goodIn_app (goodIn_of _ (by decide +kernel)) ggX4_claim_X4_isTaken
set_option maxRecDepth 20000 in
theorem ggX4_claim_X2_add : GoodIn wsX4_claim wsX2_add := goodIn_r _ [42, 43, 44, 45, 46, 47, 78, 79, 80, 81, 82] (by decide +kernel) (by decide +kernel)
set_option maxRecDepth 20000 in
theorem gX4_claim_X2_add_n62 : GoodIn wsX4_claim (wsX2_add) := ggX4_claim_X2_add
theorem dX4_claim_0 : decode cX4_claim 0 = .ok (.iload_n 1, 1) := by decide +kernel
theorem dX4_claim_1 : decode cX4_claim 1 = .ok (.invokestatic 80, 3) := by decide +kernel
theorem dX4_claim_4 : decode cX4_claim 4 = .ok (.ifCond .ne 6, 3) := by decide +kernel
theorem dX4_claim_7 : decode cX4_claim 7 = .ok (.bipush (-102), 2) := by decide +kernel
theorem dX4_claim_9 : decode cX4_claim 9 = .ok (.ireturn, 1) := by decide +kernel
theorem dX4_claim_10 : decode cX4_claim 10 = .ok (.aload_n 0, 1) := by decide +kernel
theorem dX4_claim_11 : decode cX4_claim 11 = .ok (.getfield 43, 3) := by decide +kernel
theorem dX4_claim_14 : decode cX4_claim 14 = .ok (.iconst (-1), 1) := by decide +kernel
theorem dX4_claim_15 : decode cX4_claim 15 = .ok (.if_icmp .ne 19, 3) := by decide +kernel
theorem dX4_claim_18 : decode cX4_claim 18 = .ok (.aload_n 0, 1) := by decide +kernel
theorem dX4_claim_19 : decode cX4_claim 19 = .ok (.getfield 46, 3) := by decide +kernel
theorem dX4_claim_22 : decode cX4_claim 22 = .ok (.iconst (-1), 1) := by decide +kernel
theorem dX4_claim_23 : decode cX4_claim 23 = .ok (.if_icmp .ne 11, 3) := by decide +kernel
theorem dX4_claim_26 : decode cX4_claim 26 = .ok (.aload_n 0, 1) := by decide +kernel
theorem dX4_claim_27 : decode cX4_claim 27 = .ok (.iload_n 1, 1) := by decide +kernel
theorem dX4_claim_28 : decode cX4_claim 28 = .ok (.invokevirtual 151, 3) := by decide +kernel
theorem dX4_claim_31 : decode cX4_claim 31 = .ok (.ifCond .eq 6, 3) := by decide +kernel
theorem dX4_claim_34 : decode cX4_claim 34 = .ok (.bipush (-103), 2) := by decide +kernel
theorem dX4_claim_36 : decode cX4_claim 36 = .ok (.ireturn, 1) := by decide +kernel
theorem dX4_claim_37 : decode cX4_claim 37 = .ok (.aload_n 0, 1) := by decide +kernel
theorem dX4_claim_38 : decode cX4_claim 38 = .ok (.iload_n 1, 1) := by decide +kernel
theorem dX4_claim_39 : decode cX4_claim 39 = .ok (.putfield 46, 3) := by decide +kernel
theorem dX4_claim_42 : decode cX4_claim 42 = .ok (.aload_n 0, 1) := by decide +kernel
theorem dX4_claim_43 : decode cX4_claim 43 = .ok (.aload_n 0, 1) := by decide +kernel
theorem dX4_claim_44 : decode cX4_claim 44 = .ok (.getfield 39, 3) := by decide +kernel
theorem dX4_claim_47 : decode cX4_claim 47 = .ok (.putfield 49, 3) := by decide +kernel
theorem dX4_claim_50 : decode cX4_claim 50 = .ok (.aload_n 0, 1) := by decide +kernel
theorem dX4_claim_51 : decode cX4_claim 51 = .ok (.getfield 13, 3) := by decide +kernel
theorem dX4_claim_54 : decode cX4_claim 54 = .ok (.iconst 4, 1) := by decide +kernel
theorem dX4_claim_55 : decode cX4_claim 55 = .ok (.iload_n 1, 1) := by decide +kernel
theorem dX4_claim_56 : decode cX4_claim 56 = .ok (.iconst 0, 1) := by decide +kernel
theorem dX4_claim_57 : decode cX4_claim 57 = .ok (.iconst 0, 1) := by decide +kernel
theorem dX4_claim_58 : decode cX4_claim 58 = .ok (.aload_n 0, 1) := by decide +kernel
theorem dX4_claim_59 : decode cX4_claim 59 = .ok (.getfield 39, 3) := by decide +kernel
theorem dX4_claim_62 : decode cX4_claim 62 = .ok (.invokevirtual 62, 3) := by decide +kernel
theorem dX4_claim_65 : decode cX4_claim 65 = .ok (.aload_n 0, 1) := by decide +kernel
theorem dX4_claim_66 : decode cX4_claim 66 = .ok (.getfield 39, 3) := by decide +kernel
theorem dX4_claim_69 : decode cX4_claim 69 = .ok (.bipush 10, 2) := by decide +kernel
theorem dX4_claim_71 : decode cX4_claim 71 = .ok (.iadd, 1) := by decide +kernel
theorem dX4_claim_72 : decode cX4_claim 72 = .ok (.ireturn, 1) := by decide +kernel
set_option maxRecDepth 20000 in
theorem ggX4_isTaken_X0_has : GoodIn wsX4_isTaken wsX0_has := goodIn_r _ [8, 9, 37, 38, 39, 40, 41, 42, 43, 44, 45, 46, 47, 48] (by decide +kernel) (by decide +kernel)
set_option maxRecDepth 20000 in
theorem gX4_isTaken_X0_has_n115 : GoodIn wsX4_isTaken (wsX0_has) := ggX4_isTaken_X0_has
set_option maxRecDepth 20000 in
theorem ggX4_isTaken_X3_has : GoodIn wsX4_isTaken wsX3_has := goodIn_r _ [13, 14, 15, 16, 11, 17, 18, 19, 49, 50, 51, 52] (by decide +kernel) (by decide +kernel)
set_option maxRecDepth 20000 in
theorem gX4_isTaken_X3_has_n154 : GoodIn wsX4_isTaken (wsX3_has) := ggX4_isTaken_X3_has
set_option maxRecDepth 20000 in
theorem ggX4_isTaken_X1_leadTo : GoodIn wsX4_isTaken wsX1_leadTo := goodIn_r _ [23, 24, 25, 53, 54, 55] (by decide +kernel) (by decide +kernel)
set_option maxRecDepth 20000 in
theorem gX4_isTaken_X1_leadTo_n155 : GoodIn wsX4_isTaken (wsX1_leadTo) := ggX4_isTaken_X1_leadTo
theorem dX4_isTaken_0 : decode cX4_isTaken 0 = .ok (.aload_n 0, 1) := by decide +kernel
theorem dX4_isTaken_1 : decode cX4_isTaken 1 = .ok (.getfield 52, 3) := by decide +kernel
theorem dX4_isTaken_4 : decode cX4_isTaken 4 = .ok (.iconst 1, 1) := by decide +kernel
theorem dX4_isTaken_5 : decode cX4_isTaken 5 = .ok (.iload_n 1, 1) := by decide +kernel
theorem dX4_isTaken_6 : decode cX4_isTaken 6 = .ok (.ishl, 1) := by decide +kernel
theorem dX4_isTaken_7 : decode cX4_isTaken 7 = .ok (.iand, 1) := by decide +kernel
theorem dX4_isTaken_8 : decode cX4_isTaken 8 = .ok (.ifCond .eq 7, 3) := by decide +kernel
theorem dX4_isTaken_11 : decode cX4_isTaken 11 = .ok (.iconst 1, 1) := by decide +kernel
theorem dX4_isTaken_12 : decode cX4_isTaken 12 = .ok (.goto 4, 3) := by decide +kernel
theorem dX4_isTaken_15 : decode cX4_isTaken 15 = .ok (.iconst 0, 1) := by decide +kernel
theorem dX4_isTaken_16 : decode cX4_isTaken 16 = .ok (.istore_n 2, 1) := by decide +kernel
theorem dX4_isTaken_17 : decode cX4_isTaken 17 = .ok (.iload_n 2, 1) := by decide +kernel
theorem dX4_isTaken_18 : decode cX4_isTaken 18 = .ok (.ifCond .ne 36, 3) := by decide +kernel
theorem dX4_isTaken_21 : decode cX4_isTaken 21 = .ok (.aload_n 0, 1) := by decide +kernel
theorem dX4_isTaken_22 : decode cX4_isTaken 22 = .ok (.getfield 28, 3) := by decide +kernel
theorem dX4_isTaken_25 : decode cX4_isTaken 25 = .ok (.iload_n 1, 1) := by decide +kernel
theorem dX4_isTaken_26 : decode cX4_isTaken 26 = .ok (.invokevirtual 115, 3) := by decide +kernel
theorem dX4_isTaken_29 : decode cX4_isTaken 29 = .ok (.ifCond .ne 25, 3) := by decide +kernel
theorem dX4_isTaken_32 : decode cX4_isTaken 32 = .ok (.aload_n 0, 1) := by decide +kernel
theorem dX4_isTaken_33 : decode cX4_isTaken 33 = .ok (.getfield 35, 3) := by decide +kernel
theorem dX4_isTaken_36 : decode cX4_isTaken 36 = .ok (.iload_n 1, 1) := by decide +kernel
theorem dX4_isTaken_37 : decode cX4_isTaken 37 = .ok (.invokevirtual 154, 3) := by decide +kernel
theorem dX4_isTaken_40 : decode cX4_isTaken 40 = .ok (.ifCond .ne 14, 3) := by decide +kernel
theorem dX4_isTaken_43 : decode cX4_isTaken 43 = .ok (.aload_n 0, 1) := by decide +kernel
theorem dX4_isTaken_44 : decode cX4_isTaken 44 = .ok (.getfield 19, 3) := by decide +kernel
theorem dX4_isTaken_47 : decode cX4_isTaken 47 = .ok (.iload_n 1, 1) := by decide +kernel
theorem dX4_isTaken_48 : decode cX4_isTaken 48 = .ok (.invokevirtual 155, 3) := by decide +kernel
theorem dX4_isTaken_51 : decode cX4_isTaken 51 = .ok (.ifCond .eq 7, 3) := by decide +kernel
theorem dX4_isTaken_54 : decode cX4_isTaken 54 = .ok (.iconst 1, 1) := by decide +kernel
theorem dX4_isTaken_55 : decode cX4_isTaken 55 = .ok (.goto 4, 3) := by decide +kernel
theorem dX4_isTaken_58 : decode cX4_isTaken 58 = .ok (.iconst 0, 1) := by decide +kernel
theorem dX4_isTaken_59 : decode cX4_isTaken 59 = .ok (.ireturn, 1) := by decide +kernel
theorem dX4_give_0 : decode cX4_give 0 = .ok (.aload_n 0, 1) := by decide +kernel
theorem dX4_give_1 : decode cX4_give 1 = .ok (.getfield 43, 3) := by decide +kernel
theorem dX4_give_4 : decode cX4_give 4 = .ok (.iconst (-1), 1) := by decide +kernel
theorem dX4_give_5 : decode cX4_give 5 = .ok (.if_icmp .eq 10, 3) := by decide +kernel
theorem dX4_give_8 : decode cX4_give 8 = .ok (.aload_n 0, 1) := by decide +kernel
theorem dX4_give_9 : decode cX4_give 9 = .ok (.getfield 43, 3) := by decide +kernel
theorem dX4_give_12 : decode cX4_give 12 = .ok (.goto 7, 3) := by decide +kernel
theorem dX4_give_15 : decode cX4_give 15 = .ok (.aload_n 0, 1) := by decide +kernel
theorem dX4_give_16 : decode cX4_give 16 = .ok (.getfield 46, 3) := by decide +kernel
theorem dX4_give_19 : decode cX4_give 19 = .ok (.istore_n 1, 1) := by decide +kernel
theorem dX4_give_20 : decode cX4_give 20 = .ok (.iload_n 1, 1) := by decide +kernel
theorem dX4_give_21 : decode cX4_give 21 = .ok (.iconst (-1), 1) := by decide +kernel
theorem dX4_give_22 : decode cX4_give 22 = .ok (.if_icmp .ne 6, 3) := by decide +kernel
theorem dX4_give_25 : decode cX4_give 25 = .ok (.bipush (-103), 2) := by decide +kernel
theorem dX4_give_27 : decode cX4_give 27 = .ok (.ireturn, 1) := by decide +kernel
theorem dX4_give_28 : decode cX4_give 28 = .ok (.aload_n 0, 1) := by decide +kernel
theorem dX4_give_29 : decode cX4_give 29 = .ok (.iconst (-1), 1) := by decide +kernel
theorem dX4_give_30 : decode cX4_give 30 = .ok (.putfield 43, 3) := by decide +kernel
theorem dX4_give_33 : decode cX4_give 33 = .ok (.aload_n 0, 1) := by decide +kernel
theorem dX4_give_34 : decode cX4_give 34 = .ok (.iconst (-1), 1) := by decide +kernel
theorem dX4_give_35 : decode cX4_give 35 = .ok (.putfield 46, 3) := by decide +kernel
theorem dX4_give_38 : decode cX4_give 38 = .ok (.iload_n 1, 1) := by decide +kernel
theorem dX4_give_39 : decode cX4_give 39 = .ok (.ireturn, 1) := by decide +kernel
set_option maxRecDepth 20000 in
theorem ggX4_entry_X0_has : GoodIn wsX4_entry wsX0_has := goodIn_r _ [6, 7, 41, 42, 43, 44, 45, 46, 47, 48, 49, 50, 51, 52] (by decide +kernel) (by decide +kernel)
set_option maxRecDepth 20000 in
theorem gX4_entry_X0_has_n115 : GoodIn wsX4_entry (wsX0_has) := ggX4_entry_X0_has
set_option maxRecDepth 20000 in
theorem ggX4_entry_X3_has : GoodIn wsX4_entry wsX3_has := goodIn_r _ [11, 12, 13, 14, 9, 15, 16, 17, 53, 54, 55, 56] (by decide +kernel) (by decide +kernel)
set_option maxRecDepth 20000 in
theorem gX4_entry_X3_has_n154 : GoodIn wsX4_entry (wsX3_has) := ggX4_entry_X3_has
set_option maxRecDepth 20000 in
theorem ggX4_entry_X0_tell : GoodIn wsX4_entry wsX0_tell := goodIn_r _ [20, 7, 21, 22, 23, 24, 25, 26, 27, 28, 4, 29, 41, 42, 43, 44, 45, 46, 47, 48, 49, 50, 51, 52] (by decide +kernel) (by decide +kernel)
set_option maxRecDepth 20000 in
theorem gX4_entry_X0_tell_n158 : GoodIn wsX4_entry (wsX0_tell) := ggX4_entry_X0_tell
theorem dX4_entry_0 : decode cX4_entry 0 = .ok (.aload_n 0, 1) := by decide +kernel
theorem dX4_entry_1 : decode cX4_entry 1 = .ok (.getfield 28, 3) := by decide +kernel
theorem dX4_entry_4 : decode cX4_entry 4 = .ok (.iload_n 1, 1) := by decide +kernel
theorem dX4_entry_5 : decode cX4_entry 5 = .ok (.invokevirtual 115, 3) := by decide +kernel
theorem dX4_entry_8 : decode cX4_entry 8 = .ok (.ifCond .ne 6, 3) := by decide +kernel
theorem dX4_entry_11 : decode cX4_entry 11 = .ok (.bipush (-101), 2) := by decide +kernel
theorem dX4_entry_13 : decode cX4_entry 13 = .ok (.ireturn, 1) := by decide +kernel
theorem dX4_entry_14 : decode cX4_entry 14 = .ok (.iload_n 2, 1) := by decide +kernel
theorem dX4_entry_15 : decode cX4_entry 15 = .ok (.iconst 5, 1) := by decide +kernel
theorem dX4_entry_16 : decode cX4_entry 16 = .ok (.if_icmp .ne 20, 3) := by decide +kernel
theorem dX4_entry_19 : decode cX4_entry 19 = .ok (.aload_n 0, 1) := by decide +kernel
theorem dX4_entry_20 : decode cX4_entry 20 = .ok (.getfield 35, 3) := by decide +kernel
theorem dX4_entry_23 : decode cX4_entry 23 = .ok (.iload_n 1, 1) := by decide +kernel
theorem dX4_entry_24 : decode cX4_entry 24 = .ok (.invokevirtual 154, 3) := by decide +kernel
theorem dX4_entry_27 : decode cX4_entry 27 = .ok (.ifCond .eq 7, 3) := by decide +kernel
theorem dX4_entry_30 : decode cX4_entry 30 = .ok (.iconst 1, 1) := by decide +kernel
theorem dX4_entry_31 : decode cX4_entry 31 = .ok (.goto 4, 3) := by decide +kernel
theorem dX4_entry_34 : decode cX4_entry 34 = .ok (.iconst 0, 1) := by decide +kernel
theorem dX4_entry_35 : decode cX4_entry 35 = .ok (.ireturn, 1) := by decide +kernel
theorem dX4_entry_36 : decode cX4_entry 36 = .ok (.aload_n 0, 1) := by decide +kernel
theorem dX4_entry_37 : decode cX4_entry 37 = .ok (.getfield 28, 3) := by decide +kernel
theorem dX4_entry_40 : decode cX4_entry 40 = .ok (.iload_n 1, 1) := by decide +kernel
theorem dX4_entry_41 : decode cX4_entry 41 = .ok (.iload_n 2, 1) := by decide +kernel
theorem dX4_entry_42 : decode cX4_entry 42 = .ok (.invokevirtual 158, 3) := by decide +kernel
theorem dX4_entry_45 : decode cX4_entry 45 = .ok (.ireturn, 1) := by decide +kernel
set_option maxRecDepth 20000 in
theorem ggX4_held_X0_letterAt : GoodIn wsX4_held wsX0_letterAt := goodIn_r _ [5, 6, 7, 8, 9, 3, 10, 11, 12, 13, 14, 15, 16, 28, 29, 30, 31, 32, 33, 34, 35, 36, 37, 38, 39] (by decide +kernel) (by decide +kernel)
set_option maxRecDepth 20000 in
theorem gX4_held_X0_letterAt_n161 : GoodIn wsX4_held (wsX0_letterAt) := ggX4_held_X0_letterAt
theorem dX4_held_0 : decode cX4_held 0 = .ok (.aload_n 0, 1) := by decide +kernel
theorem dX4_held_1 : decode cX4_held 1 = .ok (.getfield 28, 3) := by decide +kernel
theorem dX4_held_4 : decode cX4_held 4 = .ok (.iload_n 1, 1) := by decide +kernel
theorem dX4_held_5 : decode cX4_held 5 = .ok (.iload_n 2, 1) := by decide +kernel
theorem dX4_held_6 : decode cX4_held 6 = .ok (.invokevirtual 161, 3) := by decide +kernel
theorem dX4_held_9 : decode cX4_held 9 = .ok (.ireturn, 1) := by decide +kernel
set_option maxRecDepth 20000 in
theorem ggX4_router_X3_slotInOrder : GoodIn wsX4_router wsX3_slotInOrder := goodIn_r _ [6, 7, 8, 9, 10, 4, 11, 12, 13, 14, 15, 16, 17, 18, 37, 38, 39, 40, 41, 42, 43, 44, 45, 46, 47, 48, 49, 50, 51, 52] (by decide +kernel) (by decide +kernel)
set_option maxRecDepth 20000 in
theorem gX4_router_X3_slotInOrder_n164 : GoodIn wsX4_router (wsX3_slotInOrder) := ggX4_router_X3_slotInOrder
set_option maxRecDepth 20000 in
theorem ggX4_router_X3_isGood : GoodIn wsX4_router wsX3_isGood := goodIn_r _ [21, 12, 14, 15, 16, 17, 18, 37, 38, 39, 40, 41, 42, 43, 44, 45, 46, 47, 48, 49, 50, 51, 52] (by decide +kernel) (by decide +kernel)
set_option maxRecDepth 20000 in
theorem gX4_router_X3_isGood_n168 : GoodIn wsX4_router (wsX3_isGood) := ggX4_router_X3_isGood
set_option maxRecDepth 20000 in
theorem ggX4_router_X3_tell : GoodIn wsX4_router wsX3_tell := goodIn_r _ [24, 12, 13, 25, 37, 38, 39, 40] (by decide +kernel) (by decide +kernel)
set_option maxRecDepth 20000 in
theorem gX4_router_X3_tell_n172 : GoodIn wsX4_router (wsX3_tell) := ggX4_router_X3_tell
theorem dX4_router_0 : decode cX4_router 0 = .ok (.aload_n 0, 1) := by decide +kernel
theorem dX4_router_1 : decode cX4_router 1 = .ok (.getfield 35, 3) := by decide +kernel
theorem dX4_router_4 : decode cX4_router 4 = .ok (.iload_n 1, 1) := by decide +kernel
theorem dX4_router_5 : decode cX4_router 5 = .ok (.aload_n 0, 1) := by decide +kernel
theorem dX4_router_6 : decode cX4_router 6 = .ok (.getfield 28, 3) := by decide +kernel
theorem dX4_router_9 : decode cX4_router 9 = .ok (.invokevirtual 164, 3) := by decide +kernel
theorem dX4_router_12 : decode cX4_router 12 = .ok (.istore_n 3, 1) := by decide +kernel
theorem dX4_router_13 : decode cX4_router 13 = .ok (.iload_n 3, 1) := by decide +kernel
theorem dX4_router_14 : decode cX4_router 14 = .ok (.iconst (-1), 1) := by decide +kernel
theorem dX4_router_15 : decode cX4_router 15 = .ok (.if_icmp .ne 6, 3) := by decide +kernel
theorem dX4_router_18 : decode cX4_router 18 = .ok (.bipush (-101), 2) := by decide +kernel
theorem dX4_router_20 : decode cX4_router 20 = .ok (.ireturn, 1) := by decide +kernel
theorem dX4_router_21 : decode cX4_router 21 = .ok (.iload_n 2, 1) := by decide +kernel
theorem dX4_router_22 : decode cX4_router 22 = .ok (.iconst 3, 1) := by decide +kernel
theorem dX4_router_23 : decode cX4_router 23 = .ok (.if_icmp .ne 24, 3) := by decide +kernel
theorem dX4_router_26 : decode cX4_router 26 = .ok (.aload_n 0, 1) := by decide +kernel
theorem dX4_router_27 : decode cX4_router 27 = .ok (.getfield 35, 3) := by decide +kernel
theorem dX4_router_30 : decode cX4_router 30 = .ok (.iload_n 3, 1) := by decide +kernel
theorem dX4_router_31 : decode cX4_router 31 = .ok (.aload_n 0, 1) := by decide +kernel
theorem dX4_router_32 : decode cX4_router 32 = .ok (.getfield 28, 3) := by decide +kernel
theorem dX4_router_35 : decode cX4_router 35 = .ok (.invokevirtual 168, 3) := by decide +kernel
theorem dX4_router_38 : decode cX4_router 38 = .ok (.ifCond .eq 7, 3) := by decide +kernel
theorem dX4_router_41 : decode cX4_router 41 = .ok (.iconst 1, 1) := by decide +kernel
theorem dX4_router_42 : decode cX4_router 42 = .ok (.goto 4, 3) := by decide +kernel
theorem dX4_router_45 : decode cX4_router 45 = .ok (.iconst 0, 1) := by decide +kernel
theorem dX4_router_46 : decode cX4_router 46 = .ok (.ireturn, 1) := by decide +kernel
theorem dX4_router_47 : decode cX4_router 47 = .ok (.aload_n 0, 1) := by decide +kernel
theorem dX4_router_48 : decode cX4_router 48 = .ok (.getfield 35, 3) := by decide +kernel
theorem dX4_router_51 : decode cX4_router 51 = .ok (.iload_n 3, 1) := by decide +kernel
theorem dX4_router_52 : decode cX4_router 52 = .ok (.iload_n 2, 1) := by decide +kernel
theorem dX4_router_53 : decode cX4_router 53 = .ok (.invokevirtual 172, 3) := by decide +kernel
theorem dX4_router_56 : decode cX4_router 56 = .ok (.ireturn, 1) := by decide +kernel
set_option maxRecDepth 20000 in
theorem ggX4_hop_X4_isGoal : GoodIn wsX4_hop wsX4_isGoal := goodIn_r _ [4] (by decide +kernel) (by decide +kernel)
set_option maxRecDepth 20000 in
theorem gX4_hop_X4_isGoal : GoodIn wsX4_hop (va_wsS RX4 94 yX4_isGoal wsX4_isGoal) := goodIn_app (goodIn_of _ (by decide +kernel)) ggX4_hop_X4_isGoal
set_option maxRecDepth 20000 in
theorem ggX4_hop_X4_sureHopOf : GoodIn wsX4_hop wsX4_sureHopOf := goodIn_r _ [8, 9, 10, 11, 12, 13, 14, 15, 16, 17, 18, 19, 20, 21, 22, 23, 24, 25, 26, 27, 28, 29, 30, 31, 32, 33, 34, 35, 36, 37, 38, 39, 40, 41, 42, 43, 44, 45, 46, 55, 56, 57, 58, 59, 60, 61, 62, 63, 64, 65, 66, 67, 68, 69, 70, 71, 72, 73, 74, 75, 76, 77, 78, 79, 80, 81, 82, 83, 84] (by decide +kernel) (by decide +kernel)
set_option maxRecDepth 20000 in
theorem gX4_hop_X4_sureHopOf : GoodIn wsX4_hop (wsV RX4 97 RX4 yX4_sureHopOf wsX4_sureHopOf) := goodIn_app (goodIn_of _ (by decide +kernel)) ggX4_hop_X4_sureHopOf
set_option maxRecDepth 20000 in
theorem ggX4_hop_X4_nextInTurn : GoodIn wsX4_hop wsX4_nextInTurn := goodIn_r _ [50, 10, 51, 52, 24, 53, 54, 32, 27, 55, 56, 57, 58, 59, 60, 61, 62, 63, 64, 65, 69, 70, 71, 72] (by decide +kernel) (by decide +kernel)
set_option maxRecDepth 20000 in
theorem gX4_hop_X4_nextInTurn : GoodIn wsX4_hop (wsV RX4 101 RX4 yX4_nextInTurn wsX4_nextInTurn) := goodIn_app (goodIn_of _ (by decide +kernel)) ggX4_hop_X4_nextInTurn
theorem dX4_hop_0 : decode cX4_hop 0 = .ok (.iload_n 1, 1) := by decide +kernel
theorem dX4_hop_1 : decode cX4_hop 1 = .ok (.invokestatic 94, 3) := by decide +kernel
theorem dX4_hop_4 : decode cX4_hop 4 = .ok (.ifCond .ne 6, 3) := by decide +kernel
theorem dX4_hop_7 : decode cX4_hop 7 = .ok (.bipush (-102), 2) := by decide +kernel
theorem dX4_hop_9 : decode cX4_hop 9 = .ok (.ireturn, 1) := by decide +kernel
theorem dX4_hop_10 : decode cX4_hop 10 = .ok (.aload_n 0, 1) := by decide +kernel
theorem dX4_hop_11 : decode cX4_hop 11 = .ok (.iload_n 1, 1) := by decide +kernel
theorem dX4_hop_12 : decode cX4_hop 12 = .ok (.invokevirtual 97, 3) := by decide +kernel
theorem dX4_hop_15 : decode cX4_hop 15 = .ok (.istore_n 2, 1) := by decide +kernel
theorem dX4_hop_16 : decode cX4_hop 16 = .ok (.iload_n 2, 1) := by decide +kernel
theorem dX4_hop_17 : decode cX4_hop 17 = .ok (.iconst (-1), 1) := by decide +kernel
theorem dX4_hop_18 : decode cX4_hop 18 = .ok (.if_icmp .ne 10, 3) := by decide +kernel
theorem dX4_hop_21 : decode cX4_hop 21 = .ok (.aload_n 0, 1) := by decide +kernel
theorem dX4_hop_22 : decode cX4_hop 22 = .ok (.invokevirtual 101, 3) := by decide +kernel
theorem dX4_hop_25 : decode cX4_hop 25 = .ok (.goto 4, 3) := by decide +kernel
theorem dX4_hop_28 : decode cX4_hop 28 = .ok (.iload_n 2, 1) := by decide +kernel
theorem dX4_hop_29 : decode cX4_hop 29 = .ok (.ireturn, 1) := by decide +kernel
set_option maxRecDepth 20000 in
theorem ggX4_sureHopOf_X1_hopOf : GoodIn wsX4_sureHopOf wsX1_hopOf := goodIn_r _ [7, 8, 9, 10, 11, 5, 12, 13, 14, 50, 51, 52] (by decide +kernel) (by decide +kernel)
set_option maxRecDepth 20000 in
theorem gX4_sureHopOf_X1_hopOf_n173 : GoodIn wsX4_sureHopOf (wsX1_hopOf) := ggX4_sureHopOf_X1_hopOf
set_option maxRecDepth 20000 in
theorem ggX4_sureHopOf_X3_firstGood : GoodIn wsX4_sureHopOf wsX3_firstGood := goodIn_r _ [18, 19, 20, 21, 22, 16, 23, 24, 25, 26, 27, 28, 29, 30, 31, 32, 33, 34, 35, 36, 37, 38, 53, 54, 55, 56, 57, 58, 59, 60, 61, 62, 63, 64, 65, 66, 67, 68] (by decide +kernel) (by decide +kernel)
set_option maxRecDepth 20000 in
theorem gX4_sureHopOf_X3_firstGood_n176 : GoodIn wsX4_sureHopOf (wsX3_firstGood) := ggX4_sureHopOf_X3_firstGood
theorem dX4_sureHopOf_0 : decode cX4_sureHopOf 0 = .ok (.aload_n 0, 1) := by decide +kernel
theorem dX4_sureHopOf_1 : decode cX4_sureHopOf 1 = .ok (.getfield 19, 3) := by decide +kernel
theorem dX4_sureHopOf_4 : decode cX4_sureHopOf 4 = .ok (.iload_n 1, 1) := by decide +kernel
theorem dX4_sureHopOf_5 : decode cX4_sureHopOf 5 = .ok (.invokevirtual 173, 3) := by decide +kernel
theorem dX4_sureHopOf_8 : decode cX4_sureHopOf 8 = .ok (.istore_n 2, 1) := by decide +kernel
theorem dX4_sureHopOf_9 : decode cX4_sureHopOf 9 = .ok (.iload_n 2, 1) := by decide +kernel
theorem dX4_sureHopOf_10 : decode cX4_sureHopOf 10 = .ok (.iconst (-1), 1) := by decide +kernel
theorem dX4_sureHopOf_11 : decode cX4_sureHopOf 11 = .ok (.if_icmp .ne 17, 3) := by decide +kernel
theorem dX4_sureHopOf_14 : decode cX4_sureHopOf 14 = .ok (.aload_n 0, 1) := by decide +kernel
theorem dX4_sureHopOf_15 : decode cX4_sureHopOf 15 = .ok (.getfield 35, 3) := by decide +kernel
theorem dX4_sureHopOf_18 : decode cX4_sureHopOf 18 = .ok (.aload_n 0, 1) := by decide +kernel
theorem dX4_sureHopOf_19 : decode cX4_sureHopOf 19 = .ok (.getfield 28, 3) := by decide +kernel
theorem dX4_sureHopOf_22 : decode cX4_sureHopOf 22 = .ok (.invokevirtual 176, 3) := by decide +kernel
theorem dX4_sureHopOf_25 : decode cX4_sureHopOf 25 = .ok (.goto 4, 3) := by decide +kernel
theorem dX4_sureHopOf_28 : decode cX4_sureHopOf 28 = .ok (.iload_n 2, 1) := by decide +kernel
theorem dX4_sureHopOf_29 : decode cX4_sureHopOf 29 = .ok (.ireturn, 1) := by decide +kernel
set_option maxRecDepth 20000 in
theorem ggX4_nextInTurn_X3_leastAbove : GoodIn wsX4_nextInTurn wsX3_leastAbove := goodIn_r _ [6, 7, 8, 20, 21, 22, 23] (by decide +kernel) (by decide +kernel)
set_option maxRecDepth 20000 in
theorem gX4_nextInTurn_X3_leastAbove_n180 : GoodIn wsX4_nextInTurn (wsX3_leastAbove) := ggX4_nextInTurn_X3_leastAbove
theorem dX4_nextInTurn_0 : decode cX4_nextInTurn 0 = .ok (.aload_n 0, 1) := by decide +kernel
theorem dX4_nextInTurn_1 : decode cX4_nextInTurn 1 = .ok (.getfield 35, 3) := by decide +kernel
theorem dX4_nextInTurn_4 : decode cX4_nextInTurn 4 = .ok (.aload_n 0, 1) := by decide +kernel
theorem dX4_nextInTurn_5 : decode cX4_nextInTurn 5 = .ok (.getfield 55, 3) := by decide +kernel
theorem dX4_nextInTurn_8 : decode cX4_nextInTurn 8 = .ok (.invokevirtual 180, 3) := by decide +kernel
theorem dX4_nextInTurn_11 : decode cX4_nextInTurn 11 = .ok (.istore_n 1, 1) := by decide +kernel
theorem dX4_nextInTurn_12 : decode cX4_nextInTurn 12 = .ok (.iload_n 1, 1) := by decide +kernel
theorem dX4_nextInTurn_13 : decode cX4_nextInTurn 13 = .ok (.iconst (-1), 1) := by decide +kernel
theorem dX4_nextInTurn_14 : decode cX4_nextInTurn 14 = .ok (.if_icmp .ne 14, 3) := by decide +kernel
theorem dX4_nextInTurn_17 : decode cX4_nextInTurn 17 = .ok (.aload_n 0, 1) := by decide +kernel
theorem dX4_nextInTurn_18 : decode cX4_nextInTurn 18 = .ok (.getfield 35, 3) := by decide +kernel
theorem dX4_nextInTurn_21 : decode cX4_nextInTurn 21 = .ok (.iconst (-1), 1) := by decide +kernel
theorem dX4_nextInTurn_22 : decode cX4_nextInTurn 22 = .ok (.invokevirtual 180, 3) := by decide +kernel
theorem dX4_nextInTurn_25 : decode cX4_nextInTurn 25 = .ok (.goto 4, 3) := by decide +kernel
theorem dX4_nextInTurn_28 : decode cX4_nextInTurn 28 = .ok (.iload_n 1, 1) := by decide +kernel
theorem dX4_nextInTurn_29 : decode cX4_nextInTurn 29 = .ok (.ireturn, 1) := by decide +kernel
set_option maxRecDepth 20000 in
theorem ggX4_out_X2_tell : GoodIn wsX4_out wsX2_tell := goodIn_r _ [5, 6, 7, 8, 20, 21, 22, 23, 24] (by decide +kernel) (by decide +kernel)
set_option maxRecDepth 20000 in
theorem gX4_out_X2_tell_n183 : GoodIn wsX4_out (wsX2_tell) := ggX4_out_X2_tell
theorem dX4_out_0 : decode cX4_out 0 = .ok (.aload_n 0, 1) := by decide +kernel
theorem dX4_out_1 : decode cX4_out 1 = .ok (.getfield 13, 3) := by decide +kernel
theorem dX4_out_4 : decode cX4_out 4 = .ok (.iload_n 1, 1) := by decide +kernel
theorem dX4_out_5 : decode cX4_out 5 = .ok (.iload_n 2, 1) := by decide +kernel
theorem dX4_out_6 : decode cX4_out 6 = .ok (.invokevirtual 183, 3) := by decide +kernel
theorem dX4_out_9 : decode cX4_out 9 = .ok (.ireturn, 1) := by decide +kernel
theorem dX4_about_0 : decode cX4_about 0 = .ok (.iload_n 1, 1) := by decide +kernel
theorem dX4_about_1 : decode cX4_about 1 = .ok (.tableswitch 84 0 5 #[39, 44, 49, 54, 74, 79], 39) := by decide +kernel
theorem dX4_about_40 : decode cX4_about 40 = .ok (.aload_n 0, 1) := by decide +kernel
theorem dX4_about_41 : decode cX4_about 41 = .ok (.getfield 39, 3) := by decide +kernel
theorem dX4_about_44 : decode cX4_about 44 = .ok (.ireturn, 1) := by decide +kernel
theorem dX4_about_45 : decode cX4_about 45 = .ok (.aload_n 0, 1) := by decide +kernel
theorem dX4_about_46 : decode cX4_about 46 = .ok (.getfield 43, 3) := by decide +kernel
theorem dX4_about_49 : decode cX4_about 49 = .ok (.ireturn, 1) := by decide +kernel
theorem dX4_about_50 : decode cX4_about 50 = .ok (.aload_n 0, 1) := by decide +kernel
theorem dX4_about_51 : decode cX4_about 51 = .ok (.getfield 46, 3) := by decide +kernel
theorem dX4_about_54 : decode cX4_about 54 = .ok (.ireturn, 1) := by decide +kernel
theorem dX4_about_55 : decode cX4_about 55 = .ok (.aload_n 0, 1) := by decide +kernel
theorem dX4_about_56 : decode cX4_about 56 = .ok (.getfield 46, 3) := by decide +kernel
theorem dX4_about_59 : decode cX4_about 59 = .ok (.iconst (-1), 1) := by decide +kernel
theorem dX4_about_60 : decode cX4_about 60 = .ok (.if_icmp .ne 7, 3) := by decide +kernel
theorem dX4_about_63 : decode cX4_about 63 = .ok (.iconst (-1), 1) := by decide +kernel
theorem dX4_about_64 : decode cX4_about 64 = .ok (.goto 10, 3) := by decide +kernel
theorem dX4_about_67 : decode cX4_about 67 = .ok (.aload_n 0, 1) := by decide +kernel
theorem dX4_about_68 : decode cX4_about 68 = .ok (.getfield 49, 3) := by decide +kernel
theorem dX4_about_71 : decode cX4_about 71 = .ok (.bipush 10, 2) := by decide +kernel
theorem dX4_about_73 : decode cX4_about 73 = .ok (.iadd, 1) := by decide +kernel
theorem dX4_about_74 : decode cX4_about 74 = .ok (.ireturn, 1) := by decide +kernel
theorem dX4_about_75 : decode cX4_about 75 = .ok (.aload_n 0, 1) := by decide +kernel
theorem dX4_about_76 : decode cX4_about 76 = .ok (.getfield 52, 3) := by decide +kernel
theorem dX4_about_79 : decode cX4_about 79 = .ok (.ireturn, 1) := by decide +kernel
theorem dX4_about_80 : decode cX4_about 80 = .ok (.aload_n 0, 1) := by decide +kernel
theorem dX4_about_81 : decode cX4_about 81 = .ok (.getfield 55, 3) := by decide +kernel
theorem dX4_about_84 : decode cX4_about 84 = .ok (.ireturn, 1) := by decide +kernel
theorem dX4_about_85 : decode cX4_about 85 = .ok (.bipush (-102), 2) := by decide +kernel
theorem dX4_about_87 : decode cX4_about 87 = .ok (.ireturn, 1) := by decide +kernel
set_option maxRecDepth 20000 in
theorem ggX4_count_X0_howMany : GoodIn wsX4_count wsX0_howMany := goodIn_r _ [8, 9, 64, 65, 66, 67, 68, 69, 70, 71, 72, 73, 74, 75] (by decide +kernel) (by decide +kernel)
set_option maxRecDepth 20000 in
theorem gX4_count_X0_howMany_n184 : GoodIn wsX4_count (wsX0_howMany) := ggX4_count_X0_howMany
set_option maxRecDepth 20000 in
theorem ggX4_count_X3_howMany : GoodIn wsX4_count wsX3_howMany := goodIn_r _ [13, 14, 76, 77, 78, 79] (by decide +kernel) (by decide +kernel)
set_option maxRecDepth 20000 in
theorem gX4_count_X3_howMany_n142 : GoodIn wsX4_count (wsX3_howMany) := ggX4_count_X3_howMany
set_option maxRecDepth 20000 in
theorem ggX4_count_X1_howMany : GoodIn wsX4_count wsX1_howMany := goodIn_r _ [18, 19, 80, 81, 82] (by decide +kernel) (by decide +kernel)
set_option maxRecDepth 20000 in
theorem gX4_count_X1_howMany_n185 : GoodIn wsX4_count (wsX1_howMany) := ggX4_count_X1_howMany
set_option maxRecDepth 20000 in
theorem ggX4_count_X0_allWaiting : GoodIn wsX4_count wsX0_allWaiting := goodIn_r _ [22, 23, 24, 25, 6, 26, 27, 28, 29, 30, 31, 32, 64, 65, 66, 67, 68, 69, 70, 71, 72, 73, 74, 75] (by decide +kernel) (by decide +kernel)
set_option maxRecDepth 20000 in
theorem gX4_count_X0_allWaiting_n186 : GoodIn wsX4_count (wsX0_allWaiting) := ggX4_count_X0_allWaiting
set_option maxRecDepth 20000 in
theorem ggX4_count_X0_lostEver : GoodIn wsX4_count wsX0_lostEver := goodIn_r _ [35, 36, 64, 65, 66, 67, 68, 69, 70, 71, 72, 73, 74, 75] (by decide +kernel) (by decide +kernel)
set_option maxRecDepth 20000 in
theorem gX4_count_X0_lostEver_n189 : GoodIn wsX4_count (wsX0_lostEver) := ggX4_count_X0_lostEver
set_option maxRecDepth 20000 in
theorem ggX4_count_X2_lettersEver : GoodIn wsX4_count wsX2_lettersEver := goodIn_r _ [40, 41, 83, 84, 85, 86, 87] (by decide +kernel) (by decide +kernel)
set_option maxRecDepth 20000 in
theorem gX4_count_X2_lettersEver_n192 : GoodIn wsX4_count (wsX2_lettersEver) := ggX4_count_X2_lettersEver
set_option maxRecDepth 20000 in
theorem ggX4_count_X2_allEver : GoodIn wsX4_count wsX2_allEver := goodIn_r _ [44, 45, 83, 84, 85, 86, 87] (by decide +kernel) (by decide +kernel)
set_option maxRecDepth 20000 in
theorem gX4_count_X2_allEver_n195 : GoodIn wsX4_count (wsX2_allEver) := ggX4_count_X2_allEver
set_option maxRecDepth 20000 in
theorem ggX4_count_X0_goneEver : GoodIn wsX4_count wsX0_goneEver := goodIn_r _ [48, 49, 64, 65, 66, 67, 68, 69, 70, 71, 72, 73, 74, 75] (by decide +kernel) (by decide +kernel)
set_option maxRecDepth 20000 in
theorem gX4_count_X0_goneEver_n198 : GoodIn wsX4_count (wsX0_goneEver) := ggX4_count_X0_goneEver
set_option maxRecDepth 20000 in
theorem ggX4_count_X0_allFresh : GoodIn wsX4_count wsX0_allFresh := goodIn_r _ [52, 32, 64, 65, 66, 67, 68, 69, 70, 71, 72, 73, 74, 75] (by decide +kernel) (by decide +kernel)
set_option maxRecDepth 20000 in
theorem gX4_count_X0_allFresh_n201 : GoodIn wsX4_count (wsX0_allFresh) := ggX4_count_X0_allFresh
theorem dX4_count_0 : decode cX4_count 0 = .ok (.iload_n 1, 1) := by decide +kernel
theorem dX4_count_1 : decode cX4_count 1 = .ok (.tableswitch 123 0 8 #[51, 59, 67, 75, 83, 91, 99, 107, 115], 51) := by decide +kernel
theorem dX4_count_52 : decode cX4_count 52 = .ok (.aload_n 0, 1) := by decide +kernel
theorem dX4_count_53 : decode cX4_count 53 = .ok (.getfield 28, 3) := by decide +kernel
theorem dX4_count_56 : decode cX4_count 56 = .ok (.invokevirtual 184, 3) := by decide +kernel
theorem dX4_count_59 : decode cX4_count 59 = .ok (.ireturn, 1) := by decide +kernel
theorem dX4_count_60 : decode cX4_count 60 = .ok (.aload_n 0, 1) := by decide +kernel
theorem dX4_count_61 : decode cX4_count 61 = .ok (.getfield 35, 3) := by decide +kernel
theorem dX4_count_64 : decode cX4_count 64 = .ok (.invokevirtual 142, 3) := by decide +kernel
theorem dX4_count_67 : decode cX4_count 67 = .ok (.ireturn, 1) := by decide +kernel
theorem dX4_count_68 : decode cX4_count 68 = .ok (.aload_n 0, 1) := by decide +kernel
theorem dX4_count_69 : decode cX4_count 69 = .ok (.getfield 19, 3) := by decide +kernel
theorem dX4_count_72 : decode cX4_count 72 = .ok (.invokevirtual 185, 3) := by decide +kernel
theorem dX4_count_75 : decode cX4_count 75 = .ok (.ireturn, 1) := by decide +kernel
theorem dX4_count_76 : decode cX4_count 76 = .ok (.aload_n 0, 1) := by decide +kernel
theorem dX4_count_77 : decode cX4_count 77 = .ok (.getfield 28, 3) := by decide +kernel
theorem dX4_count_80 : decode cX4_count 80 = .ok (.invokevirtual 186, 3) := by decide +kernel
theorem dX4_count_83 : decode cX4_count 83 = .ok (.ireturn, 1) := by decide +kernel
theorem dX4_count_84 : decode cX4_count 84 = .ok (.aload_n 0, 1) := by decide +kernel
theorem dX4_count_85 : decode cX4_count 85 = .ok (.getfield 28, 3) := by decide +kernel
theorem dX4_count_88 : decode cX4_count 88 = .ok (.invokevirtual 189, 3) := by decide +kernel
theorem dX4_count_91 : decode cX4_count 91 = .ok (.ireturn, 1) := by decide +kernel
theorem dX4_count_92 : decode cX4_count 92 = .ok (.aload_n 0, 1) := by decide +kernel
theorem dX4_count_93 : decode cX4_count 93 = .ok (.getfield 13, 3) := by decide +kernel
theorem dX4_count_96 : decode cX4_count 96 = .ok (.invokevirtual 192, 3) := by decide +kernel
theorem dX4_count_99 : decode cX4_count 99 = .ok (.ireturn, 1) := by decide +kernel
theorem dX4_count_100 : decode cX4_count 100 = .ok (.aload_n 0, 1) := by decide +kernel
theorem dX4_count_101 : decode cX4_count 101 = .ok (.getfield 13, 3) := by decide +kernel
theorem dX4_count_104 : decode cX4_count 104 = .ok (.invokevirtual 195, 3) := by decide +kernel
theorem dX4_count_107 : decode cX4_count 107 = .ok (.ireturn, 1) := by decide +kernel
theorem dX4_count_108 : decode cX4_count 108 = .ok (.aload_n 0, 1) := by decide +kernel
theorem dX4_count_109 : decode cX4_count 109 = .ok (.getfield 28, 3) := by decide +kernel
theorem dX4_count_112 : decode cX4_count 112 = .ok (.invokevirtual 198, 3) := by decide +kernel
theorem dX4_count_115 : decode cX4_count 115 = .ok (.ireturn, 1) := by decide +kernel
theorem dX4_count_116 : decode cX4_count 116 = .ok (.aload_n 0, 1) := by decide +kernel
theorem dX4_count_117 : decode cX4_count 117 = .ok (.getfield 28, 3) := by decide +kernel
theorem dX4_count_120 : decode cX4_count 120 = .ok (.invokevirtual 201, 3) := by decide +kernel
theorem dX4_count_123 : decode cX4_count 123 = .ok (.ireturn, 1) := by decide +kernel
theorem dX4_count_124 : decode cX4_count 124 = .ok (.bipush (-102), 2) := by decide +kernel
theorem dX4_count_126 : decode cX4_count 126 = .ok (.ireturn, 1) := by decide +kernel
set_option maxRecDepth 20000 in
theorem ggX4_digest_X4_about : GoodIn wsX4_digest wsX4_about := goodIn_r _ [6, 7, 8, 9, 10, 11, 12, 187, 188, 189, 190, 191, 192, 193, 194, 195, 196, 197] (by decide +kernel) (by decide +kernel)
set_option maxRecDepth 20000 in
theorem gX4_digest_X4_about : GoodIn wsX4_digest (wsV RX4 206 RX4 yX4_about wsX4_about) := goodIn_app (goodIn_of _ (by decide +kernel)) ggX4_digest_X4_about
set_option maxRecDepth 20000 in
theorem ggX4_digest_X4_mix : GoodIn wsX4_digest wsX4_mix := goodIn_r _ [15, 16] (by decide +kernel) (by decide +kernel)
set_option maxRecDepth 20000 in
theorem gX4_digest_X4_mix : GoodIn wsX4_digest (va_wsS RX4 209 yX4_mix wsX4_mix) := goodIn_app (goodIn_of _ (by decide +kernel)) ggX4_digest_X4_mix
set_option maxRecDepth 20000 in
theorem ggX4_digest_X4_mixEntries : GoodIn wsX4_digest wsX4_mixEntries := goodIn_r _ [20, 21, 22, 23, 24, 25, 26, 27, 28, 29, 5, 30, 31, 32, 33, 34, 35, 36, 37, 38, 39, 40, 41, 42, 43, 44, 45, 46, 47, 48, 49, 50, 51, 52, 53, 54, 55, 56, 57, 13, 14, 15, 16, 58, 59, 60, 61, 62, 63, 64, 65, 66, 67, 68, 69, 70, 187, 188, 189, 190, 191, 192, 193, 194, 195, 196, 197, 198, 199, 200, 201, 202, 203, 204, 205, 206, 207, 208, 209, 210, 211, 212, 213] (by decide +kernel) (by decide +kernel)
set_option maxRecDepth 20000 in
theorem gX4_digest_X4_mixEntries : GoodIn wsX4_digest (wsV RX4 213 RX4 yX4_mixEntries wsX4_mixEntries) := goodIn_app (goodIn_of _ (by decide +kernel)) ggX4_digest_X4_mixEntries
set_option maxRecDepth 20000 in
theorem ggX4_digest_X4_mixRouters : GoodIn wsX4_digest wsX4_mixRouters := goodIn_r _ [74, 35, 75, 37, 76, 77, 44, 78, 79, 80, 5, 81, 21, 82, 83, 84, 85, 86, 87, 88, 45, 89, 90, 23, 91, 92, 26, 93, 94, 95, 96, 97, 98, 99, 13, 14, 15, 16, 187, 188, 189, 190, 191, 192, 193, 194, 195, 196, 197, 210, 211, 212, 213, 198, 199, 200, 201, 202, 203, 204, 205, 206, 207, 208, 209] (by decide +kernel) (by decide +kernel)
set_option maxRecDepth 20000 in
theorem gX4_digest_X4_mixRouters : GoodIn wsX4_digest (wsV RX4 217 RX4 yX4_mixRouters wsX4_mixRouters) := goodIn_app (goodIn_of _ (by decide +kernel)) ggX4_digest_X4_mixRouters
set_option maxRecDepth 20000 in
theorem ggX4_digest_X4_hop : GoodIn wsX4_digest wsX4_hop := goodIn_r _ [103, 104, 105, 5, 106, 107, 108, 109, 110, 111, 35, 21, 112, 113, 114, 115, 116, 117, 118, 119, 120, 121, 122, 123, 37, 124, 125, 45, 126, 82, 83, 84, 44, 85, 86, 87, 88, 89, 90, 23, 91, 92, 26, 127, 93, 94, 95, 128, 129, 130, 131, 12, 132, 133, 134, 187, 188, 189, 190, 191, 192, 193, 194, 195, 196, 197, 214, 215, 216, 210, 211, 212, 213, 198, 199, 200, 201, 202, 203, 204, 205, 206, 207, 208, 209] (by decide +kernel) (by decide +kernel)
set_option maxRecDepth 20000 in
theorem gX4_digest_X4_hop : GoodIn wsX4_digest (wsV RX4 145 RX4 yX4_hop wsX4_hop) := goodIn_app (goodIn_of _ (by decide +kernel)) ggX4_digest_X4_hop
set_option maxRecDepth 20000 in
theorem ggX4_digest_X4_mixOutbox : GoodIn wsX4_digest wsX4_mixOutbox := goodIn_r _ [138, 139, 140, 141, 142, 143, 144, 145, 146, 147, 5, 148, 149, 150, 151, 152, 153, 13, 14, 15, 16, 187, 188, 189, 190, 191, 192, 193, 194, 195, 196, 197, 217, 218, 219, 220, 221] (by decide +kernel) (by decide +kernel)
set_option maxRecDepth 20000 in
theorem gX4_digest_X4_mixOutbox : GoodIn wsX4_digest (wsV RX4 220 RX4 yX4_mixOutbox wsX4_mixOutbox) := goodIn_app (goodIn_of _ (by decide +kernel)) ggX4_digest_X4_mixOutbox
set_option maxRecDepth 20000 in
theorem ggX4_digest_X4_count : GoodIn wsX4_digest wsX4_count := goodIn_r _ [157, 21, 35, 111, 139, 158, 23, 159, 160, 161, 75, 37, 76, 77, 44, 162, 113, 163, 164, 121, 165, 166, 167, 70, 58, 59, 60, 52, 61, 22, 24, 25, 26, 168, 169, 170, 171, 172, 141, 173, 174, 175, 176, 177, 178, 179, 180, 181, 182, 183, 184, 185, 186, 187, 188, 189, 190, 191, 192, 193, 194, 195, 196, 197, 198, 199, 200, 201, 202, 203, 204, 205, 206, 207, 208, 209, 210, 211, 212, 213, 214, 215, 216, 217, 218, 219, 220, 221] (by decide +kernel) (by decide +kernel)
set_option maxRecDepth 20000 in
theorem gX4_digest_X4_count : GoodIn wsX4_digest (wsV RX4 223 RX4 yX4_count wsX4_count) := goodIn_app (goodIn_of _ (by decide +kernel)) ggX4_digest_X4_count
theorem dX4_digest_0 : decode cX4_digest 0 = .ok (.ldc2_w 204, 3) := by decide +kernel
theorem dX4_digest_3 : decode cX4_digest 3 = .ok (.lstore_n 1, 1) := by decide +kernel
theorem dX4_digest_4 : decode cX4_digest 4 = .ok (.iconst 0, 1) := by decide +kernel
theorem dX4_digest_5 : decode cX4_digest 5 = .ok (.istore_n 3, 1) := by decide +kernel
theorem dX4_digest_6 : decode cX4_digest 6 = .ok (.iload_n 3, 1) := by decide +kernel
theorem dX4_digest_7 : decode cX4_digest 7 = .ok (.bipush 6, 2) := by decide +kernel
theorem dX4_digest_9 : decode cX4_digest 9 = .ok (.if_icmp .ge 19, 3) := by decide +kernel
theorem dX4_digest_12 : decode cX4_digest 12 = .ok (.lload_n 1, 1) := by decide +kernel
theorem dX4_digest_13 : decode cX4_digest 13 = .ok (.aload_n 0, 1) := by decide +kernel
theorem dX4_digest_14 : decode cX4_digest 14 = .ok (.iload_n 3, 1) := by decide +kernel
theorem dX4_digest_15 : decode cX4_digest 15 = .ok (.invokevirtual 206, 3) := by decide +kernel
theorem dX4_digest_18 : decode cX4_digest 18 = .ok (.invokestatic 209, 3) := by decide +kernel
theorem dX4_digest_21 : decode cX4_digest 21 = .ok (.lstore_n 1, 1) := by decide +kernel
theorem dX4_digest_22 : decode cX4_digest 22 = .ok (.iinc 3 1, 3) := by decide +kernel
theorem dX4_digest_25 : decode cX4_digest 25 = .ok (.goto (-19), 3) := by decide +kernel
theorem dX4_digest_28 : decode cX4_digest 28 = .ok (.aload_n 0, 1) := by decide +kernel
theorem dX4_digest_29 : decode cX4_digest 29 = .ok (.lload_n 1, 1) := by decide +kernel
theorem dX4_digest_30 : decode cX4_digest 30 = .ok (.invokevirtual 213, 3) := by decide +kernel
theorem dX4_digest_33 : decode cX4_digest 33 = .ok (.lstore_n 1, 1) := by decide +kernel
theorem dX4_digest_34 : decode cX4_digest 34 = .ok (.aload_n 0, 1) := by decide +kernel
theorem dX4_digest_35 : decode cX4_digest 35 = .ok (.lload_n 1, 1) := by decide +kernel
theorem dX4_digest_36 : decode cX4_digest 36 = .ok (.invokevirtual 217, 3) := by decide +kernel
theorem dX4_digest_39 : decode cX4_digest 39 = .ok (.lstore_n 1, 1) := by decide +kernel
theorem dX4_digest_40 : decode cX4_digest 40 = .ok (.iconst 0, 1) := by decide +kernel
theorem dX4_digest_41 : decode cX4_digest 41 = .ok (.istore_n 3, 1) := by decide +kernel
theorem dX4_digest_42 : decode cX4_digest 42 = .ok (.iload_n 3, 1) := by decide +kernel
theorem dX4_digest_43 : decode cX4_digest 43 = .ok (.iconst 4, 1) := by decide +kernel
theorem dX4_digest_44 : decode cX4_digest 44 = .ok (.if_icmp .ge 22, 3) := by decide +kernel
theorem dX4_digest_47 : decode cX4_digest 47 = .ok (.lload_n 1, 1) := by decide +kernel
theorem dX4_digest_48 : decode cX4_digest 48 = .ok (.aload_n 0, 1) := by decide +kernel
theorem dX4_digest_49 : decode cX4_digest 49 = .ok (.bipush 16, 2) := by decide +kernel
theorem dX4_digest_51 : decode cX4_digest 51 = .ok (.iload_n 3, 1) := by decide +kernel
theorem dX4_digest_52 : decode cX4_digest 52 = .ok (.iadd, 1) := by decide +kernel
theorem dX4_digest_53 : decode cX4_digest 53 = .ok (.invokevirtual 145, 3) := by decide +kernel
theorem dX4_digest_56 : decode cX4_digest 56 = .ok (.invokestatic 209, 3) := by decide +kernel
theorem dX4_digest_59 : decode cX4_digest 59 = .ok (.lstore_n 1, 1) := by decide +kernel
theorem dX4_digest_60 : decode cX4_digest 60 = .ok (.iinc 3 1, 3) := by decide +kernel
theorem dX4_digest_63 : decode cX4_digest 63 = .ok (.goto (-21), 3) := by decide +kernel
theorem dX4_digest_66 : decode cX4_digest 66 = .ok (.aload_n 0, 1) := by decide +kernel
theorem dX4_digest_67 : decode cX4_digest 67 = .ok (.lload_n 1, 1) := by decide +kernel
theorem dX4_digest_68 : decode cX4_digest 68 = .ok (.invokevirtual 220, 3) := by decide +kernel
theorem dX4_digest_71 : decode cX4_digest 71 = .ok (.lstore_n 1, 1) := by decide +kernel
theorem dX4_digest_72 : decode cX4_digest 72 = .ok (.iconst 0, 1) := by decide +kernel
theorem dX4_digest_73 : decode cX4_digest 73 = .ok (.istore_n 3, 1) := by decide +kernel
theorem dX4_digest_74 : decode cX4_digest 74 = .ok (.iload_n 3, 1) := by decide +kernel
theorem dX4_digest_75 : decode cX4_digest 75 = .ok (.bipush 9, 2) := by decide +kernel
theorem dX4_digest_77 : decode cX4_digest 77 = .ok (.if_icmp .ge 19, 3) := by decide +kernel
theorem dX4_digest_80 : decode cX4_digest 80 = .ok (.lload_n 1, 1) := by decide +kernel
theorem dX4_digest_81 : decode cX4_digest 81 = .ok (.aload_n 0, 1) := by decide +kernel
theorem dX4_digest_82 : decode cX4_digest 82 = .ok (.iload_n 3, 1) := by decide +kernel
theorem dX4_digest_83 : decode cX4_digest 83 = .ok (.invokevirtual 223, 3) := by decide +kernel
theorem dX4_digest_86 : decode cX4_digest 86 = .ok (.invokestatic 209, 3) := by decide +kernel
theorem dX4_digest_89 : decode cX4_digest 89 = .ok (.lstore_n 1, 1) := by decide +kernel
theorem dX4_digest_90 : decode cX4_digest 90 = .ok (.iinc 3 1, 3) := by decide +kernel
theorem dX4_digest_93 : decode cX4_digest 93 = .ok (.goto (-19), 3) := by decide +kernel
theorem dX4_digest_96 : decode cX4_digest 96 = .ok (.lload_n 1, 1) := by decide +kernel
theorem dX4_digest_97 : decode cX4_digest 97 = .ok (.lreturn, 1) := by decide +kernel
theorem dX4_mix_0 : decode cX4_mix 0 = .ok (.ldc2_w 226, 3) := by decide +kernel
theorem dX4_mix_3 : decode cX4_mix 3 = .ok (.lload_n 0, 1) := by decide +kernel
theorem dX4_mix_4 : decode cX4_mix 4 = .ok (.lmul, 1) := by decide +kernel
theorem dX4_mix_5 : decode cX4_mix 5 = .ok (.iload_n 2, 1) := by decide +kernel
theorem dX4_mix_6 : decode cX4_mix 6 = .ok (.i2l, 1) := by decide +kernel
theorem dX4_mix_7 : decode cX4_mix 7 = .ok (.ladd, 1) := by decide +kernel
theorem dX4_mix_8 : decode cX4_mix 8 = .ok (.lreturn, 1) := by decide +kernel
set_option maxRecDepth 20000 in
theorem ggX4_mixEntries_X0_has : GoodIn wsX4_mixEntries wsX0_has := goodIn_r _ [5, 6, 67, 68, 69, 70, 71, 72, 73, 74, 75, 76, 77, 78] (by decide +kernel) (by decide +kernel)
set_option maxRecDepth 20000 in
theorem gX4_mixEntries_X0_has_n115 : GoodIn wsX4_mixEntries (wsX0_has) := ggX4_mixEntries_X0_has
set_option maxRecDepth 20000 in
theorem ggX4_mixEntries_X4_mixEntry : GoodIn wsX4_mixEntries wsX4_mixEntry := goodIn_r _ [11, 1, 12, 13, 14, 10, 15, 16, 2, 3, 4, 5, 6, 17, 18, 19, 20, 21, 22, 23, 24, 25, 26, 27, 28, 29, 30, 31, 32, 33, 34, 35, 36, 37, 38, 39, 40, 41, 42, 43, 44, 45, 46, 47, 48, 49, 50, 51, 52, 53, 54, 55, 56, 57, 58, 59, 60, 61, 62, 63, 64, 65, 66, 67, 68, 69, 70, 71, 72, 73, 74, 75, 76, 77, 78, 79, 80, 81, 82] (by decide +kernel) (by decide +kernel)
set_option maxRecDepth 20000 in
theorem gX4_mixEntries_X4_mixEntry : GoodIn wsX4_mixEntries (wsV RX4 228 RX4 yX4_mixEntry wsX4_mixEntry) := goodIn_app (goodIn_of _ (by decide +kernel)) ggX4_mixEntries_X4_mixEntry
set_option maxRecDepth 20000 in
theorem ggX4_mixEntries_X4_mix : GoodIn wsX4_mixEntries wsX4_mix := goodIn_r _ [41, 42] (by decide +kernel) (by decide +kernel)
set_option maxRecDepth 20000 in
theorem gX4_mixEntries_X4_mix : GoodIn wsX4_mixEntries (va_wsS RX4 209 yX4_mix wsX4_mix) := goodIn_app (goodIn_of _ (by decide +kernel)) ggX4_mixEntries_X4_mix
theorem dX4_mixEntries_0 : decode cX4_mixEntries 0 = .ok (.lload_n 1, 1) := by decide +kernel
theorem dX4_mixEntries_1 : decode cX4_mixEntries 1 = .ok (.lstore_n 3, 1) := by decide +kernel
theorem dX4_mixEntries_2 : decode cX4_mixEntries 2 = .ok (.iconst 0, 1) := by decide +kernel
theorem dX4_mixEntries_3 : decode cX4_mixEntries 3 = .ok (.istore 5, 2) := by decide +kernel
theorem dX4_mixEntries_5 : decode cX4_mixEntries 5 = .ok (.iload 5, 2) := by decide +kernel
theorem dX4_mixEntries_7 : decode cX4_mixEntries 7 = .ok (.bipush 16, 2) := by decide +kernel
theorem dX4_mixEntries_9 : decode cX4_mixEntries 9 = .ok (.if_icmp .ge 37, 3) := by decide +kernel
theorem dX4_mixEntries_12 : decode cX4_mixEntries 12 = .ok (.aload_n 0, 1) := by decide +kernel
theorem dX4_mixEntries_13 : decode cX4_mixEntries 13 = .ok (.getfield 28, 3) := by decide +kernel
theorem dX4_mixEntries_16 : decode cX4_mixEntries 16 = .ok (.iload 5, 2) := by decide +kernel
theorem dX4_mixEntries_18 : decode cX4_mixEntries 18 = .ok (.invokevirtual 115, 3) := by decide +kernel
theorem dX4_mixEntries_21 : decode cX4_mixEntries 21 = .ok (.ifCond .eq 13, 3) := by decide +kernel
theorem dX4_mixEntries_24 : decode cX4_mixEntries 24 = .ok (.aload_n 0, 1) := by decide +kernel
theorem dX4_mixEntries_25 : decode cX4_mixEntries 25 = .ok (.lload_n 3, 1) := by decide +kernel
theorem dX4_mixEntries_26 : decode cX4_mixEntries 26 = .ok (.iload 5, 2) := by decide +kernel
theorem dX4_mixEntries_28 : decode cX4_mixEntries 28 = .ok (.invokevirtual 228, 3) := by decide +kernel
theorem dX4_mixEntries_31 : decode cX4_mixEntries 31 = .ok (.goto 8, 3) := by decide +kernel
theorem dX4_mixEntries_34 : decode cX4_mixEntries 34 = .ok (.lload_n 3, 1) := by decide +kernel
theorem dX4_mixEntries_35 : decode cX4_mixEntries 35 = .ok (.iconst (-1), 1) := by decide +kernel
theorem dX4_mixEntries_36 : decode cX4_mixEntries 36 = .ok (.invokestatic 209, 3) := by decide +kernel
theorem dX4_mixEntries_39 : decode cX4_mixEntries 39 = .ok (.lstore_n 3, 1) := by decide +kernel
theorem dX4_mixEntries_40 : decode cX4_mixEntries 40 = .ok (.iinc 5 1, 3) := by decide +kernel
theorem dX4_mixEntries_43 : decode cX4_mixEntries 43 = .ok (.goto (-38), 3) := by decide +kernel
theorem dX4_mixEntries_46 : decode cX4_mixEntries 46 = .ok (.lload_n 3, 1) := by decide +kernel
theorem dX4_mixEntries_47 : decode cX4_mixEntries 47 = .ok (.lreturn, 1) := by decide +kernel
set_option maxRecDepth 20000 in
theorem ggX4_mixEntry_X4_entry : GoodIn wsX4_mixEntry wsX4_entry := goodIn_r _ [6, 1, 7, 8, 9, 10, 11, 12, 13, 14, 15, 16, 17, 18, 19, 20, 21, 22, 23, 24, 25, 26, 27, 28, 29, 30, 31, 32, 33, 34, 52, 53, 54, 55, 56, 57, 58, 59, 60, 61, 62, 63, 64, 65, 66, 67, 68, 69, 70, 71, 72, 73, 74, 75, 76, 77, 78] (by decide +kernel) (by decide +kernel)
set_option maxRecDepth 20000 in
theorem gX4_mixEntry_X4_entry : GoodIn wsX4_mixEntry (wsV RX4 231 RX4 yX4_entry wsX4_entry) := goodIn_app (goodIn_of _ (by decide +kernel)) ggX4_mixEntry_X4_entry
set_option maxRecDepth 20000 in
theorem ggX4_mixEntry_X4_mix : GoodIn wsX4_mixEntry wsX4_mix := goodIn_r _ [37, 38] (by decide +kernel) (by decide +kernel)
