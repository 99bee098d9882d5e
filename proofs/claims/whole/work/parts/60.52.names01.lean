theorem dX1_crashingIn_39 : decode cX1_crashingIn 39 = .ok (.iload_n 3, 1) := by decide +kernel
theorem dX1_crashingIn_40 : decode cX1_crashingIn 40 = .ok (.iconst 1, 1) := by decide +kernel
theorem dX1_crashingIn_41 : decode cX1_crashingIn 41 = .ok (.iload 4, 2) := by decide +kernel
theorem dX1_crashingIn_43 : decode cX1_crashingIn 43 = .ok (.ishl, 1) := by decide +kernel
theorem dX1_crashingIn_44 : decode cX1_crashingIn 44 = .ok (.ior, 1) := by decide +kernel
theorem dX1_crashingIn_45 : decode cX1_crashingIn 45 = .ok (.istore_n 3, 1) := by decide +kernel
theorem dX1_crashingIn_46 : decode cX1_crashingIn 46 = .ok (.iinc 4 1, 3) := by decide +kernel
theorem dX1_crashingIn_49 : decode cX1_crashingIn 49 = .ok (.goto (-44), 3) := by decide +kernel
theorem dX1_crashingIn_52 : decode cX1_crashingIn 52 = .ok (.iload_n 3, 1) := by decide +kernel
theorem dX1_crashingIn_53 : decode cX1_crashingIn 53 = .ok (.ireturn, 1) := by decide +kernel
set_option maxRecDepth 20000 in
theorem ggX1_crashingAt_X5_has : GoodIn wsX1_crashingAt wsX5_has := goodIn_r _ [4] (by decide +kernel) (by decide +kernel)
set_option maxRecDepth 20000 in
theorem gX1_crashingAt_X5_has_n38 : GoodIn wsX1_crashingAt (wsX5_has) := ggX1_crashingAt_X5_has
theorem dX1_crashingAt_0 : decode cX1_crashingAt 0 = .ok (.iconst 0, 1) := by decide +kernel
theorem dX1_crashingAt_1 : decode cX1_crashingAt 1 = .ok (.istore_n 2, 1) := by decide +kernel
theorem dX1_crashingAt_2 : decode cX1_crashingAt 2 = .ok (.iconst 0, 1) := by decide +kernel
theorem dX1_crashingAt_3 : decode cX1_crashingAt 3 = .ok (.istore_n 3, 1) := by decide +kernel
theorem dX1_crashingAt_4 : decode cX1_crashingAt 4 = .ok (.iload_n 3, 1) := by decide +kernel
theorem dX1_crashingAt_5 : decode cX1_crashingAt 5 = .ok (.bipush 8, 2) := by decide +kernel
theorem dX1_crashingAt_7 : decode cX1_crashingAt 7 = .ok (.if_icmp .ge 30, 3) := by decide +kernel
theorem dX1_crashingAt_10 : decode cX1_crashingAt 10 = .ok (.aload_n 0, 1) := by decide +kernel
theorem dX1_crashingAt_11 : decode cX1_crashingAt 11 = .ok (.getfield 22, 3) := by decide +kernel
theorem dX1_crashingAt_14 : decode cX1_crashingAt 14 = .ok (.iload_n 3, 1) := by decide +kernel
theorem dX1_crashingAt_15 : decode cX1_crashingAt 15 = .ok (.invokestatic 38, 3) := by decide +kernel
theorem dX1_crashingAt_18 : decode cX1_crashingAt 18 = .ok (.ifCond .eq 13, 3) := by decide +kernel
theorem dX1_crashingAt_21 : decode cX1_crashingAt 21 = .ok (.iload_n 2, 1) := by decide +kernel
theorem dX1_crashingAt_22 : decode cX1_crashingAt 22 = .ok (.iload_n 1, 1) := by decide +kernel
theorem dX1_crashingAt_23 : decode cX1_crashingAt 23 = .ok (.if_icmp .ne 5, 3) := by decide +kernel
theorem dX1_crashingAt_26 : decode cX1_crashingAt 26 = .ok (.iload_n 3, 1) := by decide +kernel
theorem dX1_crashingAt_27 : decode cX1_crashingAt 27 = .ok (.ireturn, 1) := by decide +kernel
theorem dX1_crashingAt_28 : decode cX1_crashingAt 28 = .ok (.iinc 2 1, 3) := by decide +kernel
theorem dX1_crashingAt_31 : decode cX1_crashingAt 31 = .ok (.iinc 3 1, 3) := by decide +kernel
theorem dX1_crashingAt_34 : decode cX1_crashingAt 34 = .ok (.goto (-30), 3) := by decide +kernel
theorem dX1_crashingAt_37 : decode cX1_crashingAt 37 = .ok (.bipush (-2), 2) := by decide +kernel
theorem dX1_crashingAt_39 : decode cX1_crashingAt 39 = .ok (.ireturn, 1) := by decide +kernel
set_option maxRecDepth 20000 in
theorem ggX1_advance_X5_has : GoodIn wsX1_advance wsX5_has := goodIn_r _ [4] (by decide +kernel) (by decide +kernel)
set_option maxRecDepth 20000 in
theorem gX1_advance_X5_has_n38 : GoodIn wsX1_advance (wsX5_has) := ggX1_advance_X5_has
set_option maxRecDepth 20000 in
theorem ggX1_advance_X1_advanceOne : GoodIn wsX1_advance wsX1_advanceOne := goodIn_r _ [9, 10, 11, 35, 36, 37] (by decide +kernel) (by decide +kernel)
set_option maxRecDepth 20000 in
theorem gX1_advance_X1_advanceOne : GoodIn wsX1_advance (wsV RX1 46 RX1 yX1_advanceOne wsX1_advanceOne) := goodIn_app (goodIn_of _ (by decide +kernel)) ggX1_advance_X1_advanceOne
set_option maxRecDepth 20000 in
theorem ggX1_advance_X1_nextCrashing : GoodIn wsX1_advance wsX1_nextCrashing := goodIn_r _ [15, 1, 16, 17, 18, 8, 19, 20, 21, 22, 23, 24, 25, 26, 35, 36, 37] (by decide +kernel) (by decide +kernel)
set_option maxRecDepth 20000 in
theorem gX1_advance_X1_nextCrashing : GoodIn wsX1_advance (wsV RX1 49 RX1 yX1_nextCrashing wsX1_nextCrashing) := goodIn_app (goodIn_of _ (by decide +kernel)) ggX1_advance_X1_nextCrashing
set_option maxRecDepth 20000 in
theorem ggX1_advance_X1_crashAtOnce : GoodIn wsX1_advance wsX1_crashAtOnce := goodIn_r _ [30, 1, 11, 10, 31, 32, 33, 34, 35, 36, 37] (by decide +kernel) (by decide +kernel)
set_option maxRecDepth 20000 in
theorem gX1_advance_X1_crashAtOnce : GoodIn wsX1_advance (wsV RX1 18 RX1 yX1_crashAtOnce wsX1_crashAtOnce) := goodIn_app (goodIn_of _ (by decide +kernel)) ggX1_advance_X1_crashAtOnce
theorem dX1_advance_0 : decode cX1_advance 0 = .ok (.bipush 7, 2) := by decide +kernel
theorem dX1_advance_2 : decode cX1_advance 2 = .ok (.istore_n 3, 1) := by decide +kernel
theorem dX1_advance_3 : decode cX1_advance 3 = .ok (.iload_n 3, 1) := by decide +kernel
theorem dX1_advance_4 : decode cX1_advance 4 = .ok (.ifCond .lt 31, 3) := by decide +kernel
theorem dX1_advance_7 : decode cX1_advance 7 = .ok (.aload_n 0, 1) := by decide +kernel
theorem dX1_advance_8 : decode cX1_advance 8 = .ok (.getfield 22, 3) := by decide +kernel
theorem dX1_advance_11 : decode cX1_advance 11 = .ok (.iload_n 3, 1) := by decide +kernel
theorem dX1_advance_12 : decode cX1_advance 12 = .ok (.invokestatic 38, 3) := by decide +kernel
theorem dX1_advance_15 : decode cX1_advance 15 = .ok (.ifCond .eq 14, 3) := by decide +kernel
theorem dX1_advance_18 : decode cX1_advance 18 = .ok (.aload_n 0, 1) := by decide +kernel
theorem dX1_advance_19 : decode cX1_advance 19 = .ok (.iload_n 3, 1) := by decide +kernel
theorem dX1_advance_20 : decode cX1_advance 20 = .ok (.iload_n 1, 1) := by decide +kernel
theorem dX1_advance_21 : decode cX1_advance 21 = .ok (.iload_n 2, 1) := by decide +kernel
theorem dX1_advance_22 : decode cX1_advance 22 = .ok (.invokevirtual 46, 3) := by decide +kernel
theorem dX1_advance_25 : decode cX1_advance 25 = .ok (.ifCond .eq 4, 3) := by decide +kernel
theorem dX1_advance_28 : decode cX1_advance 28 = .ok (.return_, 1) := by decide +kernel
theorem dX1_advance_29 : decode cX1_advance 29 = .ok (.iinc 3 (-1), 3) := by decide +kernel
theorem dX1_advance_32 : decode cX1_advance 32 = .ok (.goto (-29), 3) := by decide +kernel
theorem dX1_advance_35 : decode cX1_advance 35 = .ok (.aload_n 0, 1) := by decide +kernel
theorem dX1_advance_36 : decode cX1_advance 36 = .ok (.aload_n 0, 1) := by decide +kernel
theorem dX1_advance_37 : decode cX1_advance 37 = .ok (.iload_n 1, 1) := by decide +kernel
theorem dX1_advance_38 : decode cX1_advance 38 = .ok (.invokevirtual 49, 3) := by decide +kernel
theorem dX1_advance_41 : decode cX1_advance 41 = .ok (.invokevirtual 18, 3) := by decide +kernel
theorem dX1_advance_44 : decode cX1_advance 44 = .ok (.return_, 1) := by decide +kernel
theorem dX1_advanceOne_0 : decode cX1_advanceOne 0 = .ok (.iconst 1, 1) := by decide +kernel
theorem dX1_advanceOne_1 : decode cX1_advanceOne 1 = .ok (.iload_n 1, 1) := by decide +kernel
theorem dX1_advanceOne_2 : decode cX1_advanceOne 2 = .ok (.ishl, 1) := by decide +kernel
theorem dX1_advanceOne_3 : decode cX1_advanceOne 3 = .ok (.istore 4, 2) := by decide +kernel
theorem dX1_advanceOne_5 : decode cX1_advanceOne 5 = .ok (.aload_n 0, 1) := by decide +kernel
theorem dX1_advanceOne_6 : decode cX1_advanceOne 6 = .ok (.getfield 15, 3) := by decide +kernel
theorem dX1_advanceOne_9 : decode cX1_advanceOne 9 = .ok (.iload_n 1, 1) := by decide +kernel
theorem dX1_advanceOne_10 : decode cX1_advanceOne 10 = .ok (.iaload, 1) := by decide +kernel
theorem dX1_advanceOne_11 : decode cX1_advanceOne 11 = .ok (.iload 4, 2) := by decide +kernel
theorem dX1_advanceOne_13 : decode cX1_advanceOne 13 = .ok (.ior, 1) := by decide +kernel
theorem dX1_advanceOne_14 : decode cX1_advanceOne 14 = .ok (.iconst 1, 1) := by decide +kernel
theorem dX1_advanceOne_15 : decode cX1_advanceOne 15 = .ok (.iadd, 1) := by decide +kernel
theorem dX1_advanceOne_16 : decode cX1_advanceOne 16 = .ok (.iload 4, 2) := by decide +kernel
theorem dX1_advanceOne_18 : decode cX1_advanceOne 18 = .ok (.iconst (-1), 1) := by decide +kernel
theorem dX1_advanceOne_19 : decode cX1_advanceOne 19 = .ok (.ixor, 1) := by decide +kernel
theorem dX1_advanceOne_20 : decode cX1_advanceOne 20 = .ok (.iand, 1) := by decide +kernel
theorem dX1_advanceOne_21 : decode cX1_advanceOne 21 = .ok (.istore 5, 2) := by decide +kernel
theorem dX1_advanceOne_23 : decode cX1_advanceOne 23 = .ok (.iload 5, 2) := by decide +kernel
theorem dX1_advanceOne_25 : decode cX1_advanceOne 25 = .ok (.iload_n 2, 1) := by decide +kernel
theorem dX1_advanceOne_26 : decode cX1_advanceOne 26 = .ok (.if_icmp .gt 13, 3) := by decide +kernel
theorem dX1_advanceOne_29 : decode cX1_advanceOne 29 = .ok (.aload_n 0, 1) := by decide +kernel
theorem dX1_advanceOne_30 : decode cX1_advanceOne 30 = .ok (.getfield 15, 3) := by decide +kernel
theorem dX1_advanceOne_33 : decode cX1_advanceOne 33 = .ok (.iload_n 1, 1) := by decide +kernel
theorem dX1_advanceOne_34 : decode cX1_advanceOne 34 = .ok (.iload 5, 2) := by decide +kernel
theorem dX1_advanceOne_36 : decode cX1_advanceOne 36 = .ok (.iastore, 1) := by decide +kernel
theorem dX1_advanceOne_37 : decode cX1_advanceOne 37 = .ok (.iconst 1, 1) := by decide +kernel
theorem dX1_advanceOne_38 : decode cX1_advanceOne 38 = .ok (.ireturn, 1) := by decide +kernel
theorem dX1_advanceOne_39 : decode cX1_advanceOne 39 = .ok (.aload_n 0, 1) := by decide +kernel
theorem dX1_advanceOne_40 : decode cX1_advanceOne 40 = .ok (.getfield 15, 3) := by decide +kernel
theorem dX1_advanceOne_43 : decode cX1_advanceOne 43 = .ok (.iload_n 1, 1) := by decide +kernel
theorem dX1_advanceOne_44 : decode cX1_advanceOne 44 = .ok (.iconst 0, 1) := by decide +kernel
theorem dX1_advanceOne_45 : decode cX1_advanceOne 45 = .ok (.iastore, 1) := by decide +kernel
theorem dX1_advanceOne_46 : decode cX1_advanceOne 46 = .ok (.aload_n 0, 1) := by decide +kernel
theorem dX1_advanceOne_47 : decode cX1_advanceOne 47 = .ok (.getfield 9, 3) := by decide +kernel
theorem dX1_advanceOne_50 : decode cX1_advanceOne 50 = .ok (.iload_n 1, 1) := by decide +kernel
theorem dX1_advanceOne_51 : decode cX1_advanceOne 51 = .ok (.iaload, 1) := by decide +kernel
theorem dX1_advanceOne_52 : decode cX1_advanceOne 52 = .ok (.iload_n 3, 1) := by decide +kernel
theorem dX1_advanceOne_53 : decode cX1_advanceOne 53 = .ok (.if_icmp .ge 15, 3) := by decide +kernel
theorem dX1_advanceOne_56 : decode cX1_advanceOne 56 = .ok (.aload_n 0, 1) := by decide +kernel
theorem dX1_advanceOne_57 : decode cX1_advanceOne 57 = .ok (.getfield 9, 3) := by decide +kernel
theorem dX1_advanceOne_60 : decode cX1_advanceOne 60 = .ok (.iload_n 1, 1) := by decide +kernel
theorem dX1_advanceOne_61 : decode cX1_advanceOne 61 = .ok (.dup2, 1) := by decide +kernel
theorem dX1_advanceOne_62 : decode cX1_advanceOne 62 = .ok (.iaload, 1) := by decide +kernel
theorem dX1_advanceOne_63 : decode cX1_advanceOne 63 = .ok (.iconst 1, 1) := by decide +kernel
theorem dX1_advanceOne_64 : decode cX1_advanceOne 64 = .ok (.iadd, 1) := by decide +kernel
theorem dX1_advanceOne_65 : decode cX1_advanceOne 65 = .ok (.iastore, 1) := by decide +kernel
theorem dX1_advanceOne_66 : decode cX1_advanceOne 66 = .ok (.iconst 1, 1) := by decide +kernel
theorem dX1_advanceOne_67 : decode cX1_advanceOne 67 = .ok (.ireturn, 1) := by decide +kernel
theorem dX1_advanceOne_68 : decode cX1_advanceOne 68 = .ok (.aload_n 0, 1) := by decide +kernel
theorem dX1_advanceOne_69 : decode cX1_advanceOne 69 = .ok (.getfield 9, 3) := by decide +kernel
theorem dX1_advanceOne_72 : decode cX1_advanceOne 72 = .ok (.iload_n 1, 1) := by decide +kernel
theorem dX1_advanceOne_73 : decode cX1_advanceOne 73 = .ok (.iconst 1, 1) := by decide +kernel
theorem dX1_advanceOne_74 : decode cX1_advanceOne 74 = .ok (.iastore, 1) := by decide +kernel
theorem dX1_advanceOne_75 : decode cX1_advanceOne 75 = .ok (.iconst 0, 1) := by decide +kernel
theorem dX1_advanceOne_76 : decode cX1_advanceOne 76 = .ok (.ireturn, 1) := by decide +kernel
set_option maxRecDepth 20000 in
theorem ggX1_nextCrashing_X1_size : GoodIn wsX1_nextCrashing wsX1_size := goodIn_r _ [6, 1, 7, 8, 9, 10, 11, 12, 13, 14, 15, 16] (by decide +kernel) (by decide +kernel)
set_option maxRecDepth 20000 in
theorem gX1_nextCrashing_X1_size : GoodIn wsX1_nextCrashing (wsV RX1 52 RX1 yX1_size wsX1_size) := goodIn_app (goodIn_of _ (by decide +kernel)) ggX1_nextCrashing_X1_size
set_option maxRecDepth 20000 in
theorem ggX1_nextCrashing_J6_bitCount_0f7a4 : GoodIn wsX1_nextCrashing wsJ6_bitCount_0f7a4 := goodIn_r _ [10, 11, 12, 13] (by decide +kernel) (by decide +kernel)
set_option maxRecDepth 20000 in
theorem gX1_nextCrashing_J6_bitCount_0f7a4 : GoodIn wsX1_nextCrashing (va_wsS RX1 32 yJ6_bitCount_0f7a4 wsJ6_bitCount_0f7a4) := goodIn_app (goodIn_of _ (by decide +kernel)) ggX1_nextCrashing_J6_bitCount_0f7a4
theorem dX1_nextCrashing_0 : decode cX1_nextCrashing 0 = .ok (.aload_n 0, 1) := by decide +kernel
theorem dX1_nextCrashing_1 : decode cX1_nextCrashing 1 = .ok (.invokevirtual 52, 3) := by decide +kernel
theorem dX1_nextCrashing_4 : decode cX1_nextCrashing 4 = .ok (.istore_n 2, 1) := by decide +kernel
theorem dX1_nextCrashing_5 : decode cX1_nextCrashing 5 = .ok (.aload_n 0, 1) := by decide +kernel
theorem dX1_nextCrashing_6 : decode cX1_nextCrashing 6 = .ok (.getfield 22, 3) := by decide +kernel
theorem dX1_nextCrashing_9 : decode cX1_nextCrashing 9 = .ok (.iconst 1, 1) := by decide +kernel
theorem dX1_nextCrashing_10 : decode cX1_nextCrashing 10 = .ok (.iadd, 1) := by decide +kernel
theorem dX1_nextCrashing_11 : decode cX1_nextCrashing 11 = .ok (.istore_n 3, 1) := by decide +kernel
theorem dX1_nextCrashing_12 : decode cX1_nextCrashing 12 = .ok (.iload_n 3, 1) := by decide +kernel
theorem dX1_nextCrashing_13 : decode cX1_nextCrashing 13 = .ok (.iload_n 1, 1) := by decide +kernel
theorem dX1_nextCrashing_14 : decode cX1_nextCrashing 14 = .ok (.if_icmp .gt 19, 3) := by decide +kernel
theorem dX1_nextCrashing_17 : decode cX1_nextCrashing 17 = .ok (.iload_n 3, 1) := by decide +kernel
theorem dX1_nextCrashing_18 : decode cX1_nextCrashing 18 = .ok (.invokestatic 32, 3) := by decide +kernel
theorem dX1_nextCrashing_21 : decode cX1_nextCrashing 21 = .ok (.iload_n 2, 1) := by decide +kernel
theorem dX1_nextCrashing_22 : decode cX1_nextCrashing 22 = .ok (.if_icmp .ne 5, 3) := by decide +kernel
theorem dX1_nextCrashing_25 : decode cX1_nextCrashing 25 = .ok (.iload_n 3, 1) := by decide +kernel
theorem dX1_nextCrashing_26 : decode cX1_nextCrashing 26 = .ok (.ireturn, 1) := by decide +kernel
theorem dX1_nextCrashing_27 : decode cX1_nextCrashing 27 = .ok (.iinc 3 1, 3) := by decide +kernel
theorem dX1_nextCrashing_30 : decode cX1_nextCrashing 30 = .ok (.goto (-18), 3) := by decide +kernel
theorem dX1_nextCrashing_33 : decode cX1_nextCrashing 33 = .ok (.iconst 1, 1) := by decide +kernel
theorem dX1_nextCrashing_34 : decode cX1_nextCrashing 34 = .ok (.iload_n 2, 1) := by decide +kernel
theorem dX1_nextCrashing_35 : decode cX1_nextCrashing 35 = .ok (.iconst 1, 1) := by decide +kernel
theorem dX1_nextCrashing_36 : decode cX1_nextCrashing 36 = .ok (.iadd, 1) := by decide +kernel
theorem dX1_nextCrashing_37 : decode cX1_nextCrashing 37 = .ok (.ishl, 1) := by decide +kernel
theorem dX1_nextCrashing_38 : decode cX1_nextCrashing 38 = .ok (.iconst 1, 1) := by decide +kernel
theorem dX1_nextCrashing_39 : decode cX1_nextCrashing 39 = .ok (.isub, 1) := by decide +kernel
theorem dX1_nextCrashing_40 : decode cX1_nextCrashing 40 = .ok (.ireturn, 1) := by decide +kernel
set_option maxRecDepth 20000 in
theorem ggX1_crashAtOnce_J7_fill_53178 : GoodIn wsX1_crashAtOnce wsJ7_fill_53178 := goodIn_r _ [7] (by decide +kernel) (by decide +kernel)
set_option maxRecDepth 20000 in
theorem gX1_crashAtOnce_J7_fill_53178 : GoodIn wsX1_crashAtOnce (va_wsS RX1 56 yJ7_fill_53178 wsJ7_fill_53178) := goodIn_app (goodIn_of _ (by decide +kernel)) ggX1_crashAtOnce_J7_fill_53178
theorem dX1_crashAtOnce_0 : decode cX1_crashAtOnce 0 = .ok (.aload_n 0, 1) := by decide +kernel
theorem dX1_crashAtOnce_1 : decode cX1_crashAtOnce 1 = .ok (.iload_n 1, 1) := by decide +kernel
theorem dX1_crashAtOnce_2 : decode cX1_crashAtOnce 2 = .ok (.putfield 22, 3) := by decide +kernel
theorem dX1_crashAtOnce_5 : decode cX1_crashAtOnce 5 = .ok (.aload_n 0, 1) := by decide +kernel
theorem dX1_crashAtOnce_6 : decode cX1_crashAtOnce 6 = .ok (.getfield 9, 3) := by decide +kernel
theorem dX1_crashAtOnce_9 : decode cX1_crashAtOnce 9 = .ok (.iconst 1, 1) := by decide +kernel
theorem dX1_crashAtOnce_10 : decode cX1_crashAtOnce 10 = .ok (.invokestatic 56, 3) := by decide +kernel
theorem dX1_crashAtOnce_13 : decode cX1_crashAtOnce 13 = .ok (.aload_n 0, 1) := by decide +kernel
theorem dX1_crashAtOnce_14 : decode cX1_crashAtOnce 14 = .ok (.getfield 15, 3) := by decide +kernel
theorem dX1_crashAtOnce_17 : decode cX1_crashAtOnce 17 = .ok (.iconst 0, 1) := by decide +kernel
theorem dX1_crashAtOnce_18 : decode cX1_crashAtOnce 18 = .ok (.invokestatic 56, 3) := by decide +kernel
theorem dX1_crashAtOnce_21 : decode cX1_crashAtOnce 21 = .ok (.return_, 1) := by decide +kernel
theorem dX2_init_0 : decode cX2_init 0 = .ok (.aload_n 0, 1) := by decide +kernel
theorem dX2_init_1 : decode cX2_init 1 = .ok (.invokespecial 3, 3) := by decide +kernel
theorem dX2_init_4 : decode cX2_init 4 = .ok (.return_, 1) := by decide +kernel
theorem dX2_put_0 : decode cX2_put 0 = .ok (.aload_n 0, 1) := by decide +kernel
theorem dX2_put_1 : decode cX2_put 1 = .ok (.iload_n 1, 1) := by decide +kernel
theorem dX2_put_2 : decode cX2_put 2 = .ok (.putfield 9, 3) := by decide +kernel
theorem dX2_put_5 : decode cX2_put 5 = .ok (.aload_n 0, 1) := by decide +kernel
theorem dX2_put_6 : decode cX2_put 6 = .ok (.iload_n 2, 1) := by decide +kernel
theorem dX2_put_7 : decode cX2_put 7 = .ok (.putfield 15, 3) := by decide +kernel
theorem dX2_put_10 : decode cX2_put 10 = .ok (.aload_n 0, 1) := by decide +kernel
theorem dX2_put_11 : decode cX2_put 11 = .ok (.iload_n 3, 1) := by decide +kernel
theorem dX2_put_12 : decode cX2_put 12 = .ok (.putfield 18, 3) := by decide +kernel
theorem dX2_put_15 : decode cX2_put 15 = .ok (.aload_n 0, 1) := by decide +kernel
theorem dX2_put_16 : decode cX2_put 16 = .ok (.iload_n 1, 1) := by decide +kernel
theorem dX2_put_17 : decode cX2_put 17 = .ok (.iconst 3, 1) := by decide +kernel
theorem dX2_put_18 : decode cX2_put 18 = .ok (.if_icmp .ne 8, 3) := by decide +kernel
theorem dX2_put_21 : decode cX2_put 21 = .ok (.iload 4, 2) := by decide +kernel
theorem dX2_put_23 : decode cX2_put 23 = .ok (.goto 4, 3) := by decide +kernel
theorem dX2_put_26 : decode cX2_put 26 = .ok (.iconst 1, 1) := by decide +kernel
theorem dX2_put_27 : decode cX2_put 27 = .ok (.putfield 21, 3) := by decide +kernel
theorem dX2_put_30 : decode cX2_put 30 = .ok (.iload_n 1, 1) := by decide +kernel
theorem dX2_put_31 : decode cX2_put 31 = .ok (.iconst 3, 1) := by decide +kernel
theorem dX2_put_32 : decode cX2_put 32 = .ok (.if_icmp .ne 15, 3) := by decide +kernel
theorem dX2_put_35 : decode cX2_put 35 = .ok (.iload 4, 2) := by decide +kernel
theorem dX2_put_37 : decode cX2_put 37 = .ok (.ifCond .le 10, 3) := by decide +kernel
theorem dX2_put_40 : decode cX2_put 40 = .ok (.iload_n 3, 1) := by decide +kernel
theorem dX2_put_41 : decode cX2_put 41 = .ok (.iload 4, 2) := by decide +kernel
theorem dX2_put_43 : decode cX2_put 43 = .ok (.idiv, 1) := by decide +kernel
theorem dX2_put_44 : decode cX2_put 44 = .ok (.goto 4, 3) := by decide +kernel
theorem dX2_put_47 : decode cX2_put 47 = .ok (.iload_n 3, 1) := by decide +kernel
theorem dX2_put_48 : decode cX2_put 48 = .ok (.istore 6, 2) := by decide +kernel
theorem dX2_put_50 : decode cX2_put 50 = .ok (.aload_n 0, 1) := by decide +kernel
theorem dX2_put_51 : decode cX2_put 51 = .ok (.iconst 1, 1) := by decide +kernel
theorem dX2_put_52 : decode cX2_put 52 = .ok (.iload 6, 2) := by decide +kernel
theorem dX2_put_54 : decode cX2_put 54 = .ok (.iconst 1, 1) := by decide +kernel
theorem dX2_put_55 : decode cX2_put 55 = .ok (.iadd, 1) := by decide +kernel
theorem dX2_put_56 : decode cX2_put 56 = .ok (.iload 5, 2) := by decide +kernel
theorem dX2_put_58 : decode cX2_put 58 = .ok (.isub, 1) := by decide +kernel
theorem dX2_put_59 : decode cX2_put 59 = .ok (.invokestatic 24, 3) := by decide +kernel
theorem dX2_put_62 : decode cX2_put 62 = .ok (.putfield 30, 3) := by decide +kernel
theorem dX2_put_65 : decode cX2_put 65 = .ok (.return_, 1) := by decide +kernel
theorem dX2_isProcess_0 : decode cX2_isProcess 0 = .ok (.iload_n 1, 1) := by decide +kernel
theorem dX2_isProcess_1 : decode cX2_isProcess 1 = .ok (.ifCond .lt 15, 3) := by decide +kernel
theorem dX2_isProcess_4 : decode cX2_isProcess 4 = .ok (.iload_n 1, 1) := by decide +kernel
theorem dX2_isProcess_5 : decode cX2_isProcess 5 = .ok (.aload_n 0, 1) := by decide +kernel
theorem dX2_isProcess_6 : decode cX2_isProcess 6 = .ok (.getfield 15, 3) := by decide +kernel
theorem dX2_isProcess_9 : decode cX2_isProcess 9 = .ok (.if_icmp .ge 7, 3) := by decide +kernel
theorem dX2_isProcess_12 : decode cX2_isProcess 12 = .ok (.iconst 1, 1) := by decide +kernel
theorem dX2_isProcess_13 : decode cX2_isProcess 13 = .ok (.goto 4, 3) := by decide +kernel
theorem dX2_isProcess_16 : decode cX2_isProcess 16 = .ok (.iconst 0, 1) := by decide +kernel
theorem dX2_isProcess_17 : decode cX2_isProcess 17 = .ok (.ireturn, 1) := by decide +kernel
theorem dX2_everyone_0 : decode cX2_everyone 0 = .ok (.iconst 1, 1) := by decide +kernel
theorem dX2_everyone_1 : decode cX2_everyone 1 = .ok (.aload_n 0, 1) := by decide +kernel
theorem dX2_everyone_2 : decode cX2_everyone 2 = .ok (.getfield 15, 3) := by decide +kernel
theorem dX2_everyone_5 : decode cX2_everyone 5 = .ok (.ishl, 1) := by decide +kernel
theorem dX2_everyone_6 : decode cX2_everyone 6 = .ok (.iconst 1, 1) := by decide +kernel
theorem dX2_everyone_7 : decode cX2_everyone 7 = .ok (.isub, 1) := by decide +kernel
theorem dX2_everyone_8 : decode cX2_everyone 8 = .ok (.ireturn, 1) := by decide +kernel
set_option maxRecDepth 20000 in
theorem ggX2_faultsBeside_J6_bitCount_0f7a4 : GoodIn wsX2_faultsBeside wsJ6_bitCount_0f7a4 := goodIn_r _ [5, 6, 7, 8] (by decide +kernel) (by decide +kernel)
set_option maxRecDepth 20000 in
theorem gX2_faultsBeside_J6_bitCount_0f7a4 : GoodIn wsX2_faultsBeside (va_wsS RX2 33 yJ6_bitCount_0f7a4 wsJ6_bitCount_0f7a4) := goodIn_app (goodIn_of _ (by decide +kernel)) ggX2_faultsBeside_J6_bitCount_0f7a4
theorem dX2_faultsBeside_0 : decode cX2_faultsBeside 0 = .ok (.aload_n 0, 1) := by decide +kernel
theorem dX2_faultsBeside_1 : decode cX2_faultsBeside 1 = .ok (.getfield 15, 3) := by decide +kernel
theorem dX2_faultsBeside_4 : decode cX2_faultsBeside 4 = .ok (.iload_n 1, 1) := by decide +kernel
theorem dX2_faultsBeside_5 : decode cX2_faultsBeside 5 = .ok (.invokestatic 33, 3) := by decide +kernel
theorem dX2_faultsBeside_8 : decode cX2_faultsBeside 8 = .ok (.isub, 1) := by decide +kernel
theorem dX2_faultsBeside_9 : decode cX2_faultsBeside 9 = .ok (.ireturn, 1) := by decide +kernel
set_option maxRecDepth 20000 in
theorem ggX2_boundFor_X2_faultsBeside : GoodIn wsX2_boundFor wsX2_faultsBeside := goodIn_r _ [11, 12, 13, 14, 15, 16, 17, 18, 19, 20, 21, 22, 23, 24] (by decide +kernel) (by decide +kernel)
set_option maxRecDepth 20000 in
theorem gX2_boundFor_X2_faultsBeside : GoodIn wsX2_boundFor (wsV RX2 39 RX2 yX2_faultsBeside wsX2_faultsBeside) := goodIn_app (goodIn_of _ (by decide +kernel)) ggX2_boundFor_X2_faultsBeside
theorem dX2_boundFor_0 : decode cX2_boundFor 0 = .ok (.aload_n 0, 1) := by decide +kernel
theorem dX2_boundFor_1 : decode cX2_boundFor 1 = .ok (.getfield 9, 3) := by decide +kernel
theorem dX2_boundFor_4 : decode cX2_boundFor 4 = .ok (.iconst 1, 1) := by decide +kernel
theorem dX2_boundFor_5 : decode cX2_boundFor 5 = .ok (.if_icmp .eq 11, 3) := by decide +kernel
theorem dX2_boundFor_8 : decode cX2_boundFor 8 = .ok (.aload_n 0, 1) := by decide +kernel
theorem dX2_boundFor_9 : decode cX2_boundFor 9 = .ok (.getfield 9, 3) := by decide +kernel
theorem dX2_boundFor_12 : decode cX2_boundFor 12 = .ok (.iconst 2, 1) := by decide +kernel
theorem dX2_boundFor_13 : decode cX2_boundFor 13 = .ok (.if_icmp .ne 7, 3) := by decide +kernel
theorem dX2_boundFor_16 : decode cX2_boundFor 16 = .ok (.iconst 1, 1) := by decide +kernel
theorem dX2_boundFor_17 : decode cX2_boundFor 17 = .ok (.goto 4, 3) := by decide +kernel
theorem dX2_boundFor_20 : decode cX2_boundFor 20 = .ok (.iconst 0, 1) := by decide +kernel
theorem dX2_boundFor_21 : decode cX2_boundFor 21 = .ok (.istore_n 2, 1) := by decide +kernel
theorem dX2_boundFor_22 : decode cX2_boundFor 22 = .ok (.iload_n 2, 1) := by decide +kernel
theorem dX2_boundFor_23 : decode cX2_boundFor 23 = .ok (.ifCond .eq 20, 3) := by decide +kernel
theorem dX2_boundFor_26 : decode cX2_boundFor 26 = .ok (.aload_n 0, 1) := by decide +kernel
theorem dX2_boundFor_27 : decode cX2_boundFor 27 = .ok (.iload_n 1, 1) := by decide +kernel
theorem dX2_boundFor_28 : decode cX2_boundFor 28 = .ok (.invokevirtual 39, 3) := by decide +kernel
theorem dX2_boundFor_31 : decode cX2_boundFor 31 = .ok (.iconst 2, 1) := by decide +kernel
theorem dX2_boundFor_32 : decode cX2_boundFor 32 = .ok (.iadd, 1) := by decide +kernel
theorem dX2_boundFor_33 : decode cX2_boundFor 33 = .ok (.aload_n 0, 1) := by decide +kernel
theorem dX2_boundFor_34 : decode cX2_boundFor 34 = .ok (.getfield 30, 3) := by decide +kernel
theorem dX2_boundFor_37 : decode cX2_boundFor 37 = .ok (.invokestatic 42, 3) := by decide +kernel
theorem dX2_boundFor_40 : decode cX2_boundFor 40 = .ok (.goto 7, 3) := by decide +kernel
theorem dX2_boundFor_43 : decode cX2_boundFor 43 = .ok (.aload_n 0, 1) := by decide +kernel
theorem dX2_boundFor_44 : decode cX2_boundFor 44 = .ok (.getfield 30, 3) := by decide +kernel
theorem dX2_boundFor_47 : decode cX2_boundFor 47 = .ok (.ireturn, 1) := by decide +kernel
set_option maxRecDepth 20000 in
theorem ggX3_init_X0_init : GoodIn wsX3_init wsX0_init := goodIn_r _ [21, 22, 2, 3, 12, 23, 29] (by decide +kernel) (by decide +kernel)
set_option maxRecDepth 20000 in
theorem gX3_init_X0_init_n11 : GoodIn wsX3_init (wsX0_init) := ggX3_init_X0_init
set_option maxRecDepth 20000 in
theorem ggX3_init_X1_init : GoodIn wsX3_init wsX1_init := goodIn_r _ [25, 26, 2, 3, 12, 27, 28, 44, 45, 46] (by decide +kernel) (by decide +kernel)
set_option maxRecDepth 20000 in
theorem gX3_init_X1_init_n20 : GoodIn wsX3_init (wsX1_init) := ggX3_init_X1_init
theorem dX3_init_0 : decode cX3_init 0 = .ok (.aload_n 0, 1) := by decide +kernel
theorem dX3_init_1 : decode cX3_init 1 = .ok (.invokespecial 3, 3) := by decide +kernel
theorem dX3_init_4 : decode cX3_init 4 = .ok (.aload_n 0, 1) := by decide +kernel
theorem dX3_init_5 : decode cX3_init 5 = .ok (.new 9, 3) := by decide +kernel
theorem dX3_init_8 : decode cX3_init 8 = .ok (.dup, 1) := by decide +kernel
theorem dX3_init_9 : decode cX3_init 9 = .ok (.invokespecial 11, 3) := by decide +kernel
theorem dX3_init_12 : decode cX3_init 12 = .ok (.putfield 12, 3) := by decide +kernel
theorem dX3_init_15 : decode cX3_init 15 = .ok (.aload_n 0, 1) := by decide +kernel
theorem dX3_init_16 : decode cX3_init 16 = .ok (.new 18, 3) := by decide +kernel
theorem dX3_init_19 : decode cX3_init 19 = .ok (.dup, 1) := by decide +kernel
theorem dX3_init_20 : decode cX3_init 20 = .ok (.invokespecial 20, 3) := by decide +kernel
theorem dX3_init_23 : decode cX3_init 23 = .ok (.putfield 21, 3) := by decide +kernel
theorem dX3_init_26 : decode cX3_init 26 = .ok (.aload_n 0, 1) := by decide +kernel
theorem dX3_init_27 : decode cX3_init 27 = .ok (.bipush 8, 2) := by decide +kernel
theorem dX3_init_29 : decode cX3_init 29 = .ok (.newarray .int, 2) := by decide +kernel
theorem dX3_init_31 : decode cX3_init 31 = .ok (.putfield 25, 3) := by decide +kernel
theorem dX3_init_34 : decode cX3_init 34 = .ok (.aload_n 0, 1) := by decide +kernel
theorem dX3_init_35 : decode cX3_init 35 = .ok (.bipush 8, 2) := by decide +kernel
theorem dX3_init_37 : decode cX3_init 37 = .ok (.newarray .int, 2) := by decide +kernel
theorem dX3_init_39 : decode cX3_init 39 = .ok (.putfield 29, 3) := by decide +kernel
theorem dX3_init_42 : decode cX3_init 42 = .ok (.aload_n 0, 1) := by decide +kernel
theorem dX3_init_43 : decode cX3_init 43 = .ok (.bipush 8, 2) := by decide +kernel
theorem dX3_init_45 : decode cX3_init 45 = .ok (.newarray .int, 2) := by decide +kernel
theorem dX3_init_47 : decode cX3_init 47 = .ok (.putfield 32, 3) := by decide +kernel
theorem dX3_init_50 : decode cX3_init 50 = .ok (.aload_n 0, 1) := by decide +kernel
theorem dX3_init_51 : decode cX3_init 51 = .ok (.bipush 8, 2) := by decide +kernel
theorem dX3_init_53 : decode cX3_init 53 = .ok (.newarray .int, 2) := by decide +kernel
theorem dX3_init_55 : decode cX3_init 55 = .ok (.putfield 35, 3) := by decide +kernel
theorem dX3_init_58 : decode cX3_init 58 = .ok (.aload_n 0, 1) := by decide +kernel
theorem dX3_init_59 : decode cX3_init 59 = .ok (.bipush 8, 2) := by decide +kernel
theorem dX3_init_61 : decode cX3_init 61 = .ok (.newarray .int, 2) := by decide +kernel
theorem dX3_init_63 : decode cX3_init 63 = .ok (.putfield 38, 3) := by decide +kernel
theorem dX3_init_66 : decode cX3_init 66 = .ok (.aload_n 0, 1) := by decide +kernel
theorem dX3_init_67 : decode cX3_init 67 = .ok (.bipush 8, 2) := by decide +kernel
theorem dX3_init_69 : decode cX3_init 69 = .ok (.newarray .int, 2) := by decide +kernel
theorem dX3_init_71 : decode cX3_init 71 = .ok (.putfield 41, 3) := by decide +kernel
theorem dX3_init_74 : decode cX3_init 74 = .ok (.aload_n 0, 1) := by decide +kernel
theorem dX3_init_75 : decode cX3_init 75 = .ok (.aload_n 1, 1) := by decide +kernel
theorem dX3_init_76 : decode cX3_init 76 = .ok (.putfield 44, 3) := by decide +kernel
theorem dX3_init_79 : decode cX3_init 79 = .ok (.return_, 1) := by decide +kernel
set_option maxRecDepth 20000 in
theorem ggX3_begin_X2_everyone : GoodIn wsX3_begin wsX2_everyone := goodIn_r _ [15, 16, 31, 32, 33, 34, 35] (by decide +kernel) (by decide +kernel)
set_option maxRecDepth 20000 in
theorem gX3_begin_X2_everyone : GoodIn wsX3_begin (wsV RX3 55 RX2 yX2_everyone wsX2_everyone) := goodIn_app (goodIn_of _ (by decide +kernel)) ggX3_begin_X2_everyone
theorem dX3_begin_0 : decode cX3_begin 0 = .ok (.aload_n 0, 1) := by decide +kernel
theorem dX3_begin_1 : decode cX3_begin 1 = .ok (.iconst 0, 1) := by decide +kernel
theorem dX3_begin_2 : decode cX3_begin 2 = .ok (.putfield 48, 3) := by decide +kernel
theorem dX3_begin_5 : decode cX3_begin 5 = .ok (.aload_n 0, 1) := by decide +kernel
theorem dX3_begin_6 : decode cX3_begin 6 = .ok (.iconst 0, 1) := by decide +kernel
theorem dX3_begin_7 : decode cX3_begin 7 = .ok (.putfield 52, 3) := by decide +kernel
theorem dX3_begin_10 : decode cX3_begin 10 = .ok (.aload_n 0, 1) := by decide +kernel
theorem dX3_begin_11 : decode cX3_begin 11 = .ok (.aload_n 0, 1) := by decide +kernel
theorem dX3_begin_12 : decode cX3_begin 12 = .ok (.getfield 44, 3) := by decide +kernel
theorem dX3_begin_15 : decode cX3_begin 15 = .ok (.invokevirtual 55, 3) := by decide +kernel
theorem dX3_begin_18 : decode cX3_begin 18 = .ok (.putfield 61, 3) := by decide +kernel
theorem dX3_begin_21 : decode cX3_begin 21 = .ok (.aload_n 0, 1) := by decide +kernel
theorem dX3_begin_22 : decode cX3_begin 22 = .ok (.iconst 0, 1) := by decide +kernel
theorem dX3_begin_23 : decode cX3_begin 23 = .ok (.putfield 64, 3) := by decide +kernel
theorem dX3_begin_26 : decode cX3_begin 26 = .ok (.iconst 0, 1) := by decide +kernel
theorem dX3_begin_27 : decode cX3_begin 27 = .ok (.istore_n 1, 1) := by decide +kernel
theorem dX3_begin_28 : decode cX3_begin 28 = .ok (.iload_n 1, 1) := by decide +kernel
theorem dX3_begin_29 : decode cX3_begin 29 = .ok (.bipush 8, 2) := by decide +kernel
theorem dX3_begin_31 : decode cX3_begin 31 = .ok (.if_icmp .ge 45, 3) := by decide +kernel
theorem dX3_begin_34 : decode cX3_begin 34 = .ok (.aload_n 0, 1) := by decide +kernel
theorem dX3_begin_35 : decode cX3_begin 35 = .ok (.getfield 25, 3) := by decide +kernel
theorem dX3_begin_38 : decode cX3_begin 38 = .ok (.iload_n 1, 1) := by decide +kernel
theorem dX3_begin_39 : decode cX3_begin 39 = .ok (.iconst 1, 1) := by decide +kernel
theorem dX3_begin_40 : decode cX3_begin 40 = .ok (.iload_n 1, 1) := by decide +kernel
theorem dX3_begin_41 : decode cX3_begin 41 = .ok (.ishl, 1) := by decide +kernel
theorem dX3_begin_42 : decode cX3_begin 42 = .ok (.iastore, 1) := by decide +kernel
theorem dX3_begin_43 : decode cX3_begin 43 = .ok (.aload_n 0, 1) := by decide +kernel
theorem dX3_begin_44 : decode cX3_begin 44 = .ok (.getfield 29, 3) := by decide +kernel
theorem dX3_begin_47 : decode cX3_begin 47 = .ok (.iload_n 1, 1) := by decide +kernel
theorem dX3_begin_48 : decode cX3_begin 48 = .ok (.aload_n 0, 1) := by decide +kernel
theorem dX3_begin_49 : decode cX3_begin 49 = .ok (.getfield 44, 3) := by decide +kernel
theorem dX3_begin_52 : decode cX3_begin 52 = .ok (.getfield 67, 3) := by decide +kernel
theorem dX3_begin_55 : decode cX3_begin 55 = .ok (.iastore, 1) := by decide +kernel
theorem dX3_begin_56 : decode cX3_begin 56 = .ok (.aload_n 0, 1) := by decide +kernel
theorem dX3_begin_57 : decode cX3_begin 57 = .ok (.getfield 32, 3) := by decide +kernel
theorem dX3_begin_60 : decode cX3_begin 60 = .ok (.iload_n 1, 1) := by decide +kernel
theorem dX3_begin_61 : decode cX3_begin 61 = .ok (.iconst 0, 1) := by decide +kernel
theorem dX3_begin_62 : decode cX3_begin 62 = .ok (.iastore, 1) := by decide +kernel
theorem dX3_begin_63 : decode cX3_begin 63 = .ok (.aload_n 0, 1) := by decide +kernel
theorem dX3_begin_64 : decode cX3_begin 64 = .ok (.getfield 35, 3) := by decide +kernel
theorem dX3_begin_67 : decode cX3_begin 67 = .ok (.iload_n 1, 1) := by decide +kernel
theorem dX3_begin_68 : decode cX3_begin 68 = .ok (.iconst 0, 1) := by decide +kernel
theorem dX3_begin_69 : decode cX3_begin 69 = .ok (.iastore, 1) := by decide +kernel
theorem dX3_begin_70 : decode cX3_begin 70 = .ok (.iinc 1 1, 3) := by decide +kernel
theorem dX3_begin_73 : decode cX3_begin 73 = .ok (.goto (-45), 3) := by decide +kernel
theorem dX3_begin_76 : decode cX3_begin 76 = .ok (.return_, 1) := by decide +kernel
theorem dX3_isOver_0 : decode cX3_isOver 0 = .ok (.aload_n 0, 1) := by decide +kernel
theorem dX3_isOver_1 : decode cX3_isOver 1 = .ok (.getfield 48, 3) := by decide +kernel
theorem dX3_isOver_4 : decode cX3_isOver 4 = .ok (.aload_n 0, 1) := by decide +kernel
theorem dX3_isOver_5 : decode cX3_isOver 5 = .ok (.getfield 44, 3) := by decide +kernel
theorem dX3_isOver_8 : decode cX3_isOver 8 = .ok (.getfield 70, 3) := by decide +kernel
theorem dX3_isOver_11 : decode cX3_isOver 11 = .ok (.if_icmp .lt 7, 3) := by decide +kernel
theorem dX3_isOver_14 : decode cX3_isOver 14 = .ok (.iconst 1, 1) := by decide +kernel
theorem dX3_isOver_15 : decode cX3_isOver 15 = .ok (.goto 4, 3) := by decide +kernel
theorem dX3_isOver_18 : decode cX3_isOver 18 = .ok (.iconst 0, 1) := by decide +kernel
theorem dX3_isOver_19 : decode cX3_isOver 19 = .ok (.ireturn, 1) := by decide +kernel
set_option maxRecDepth 20000 in
theorem ggX3_makeAllRounds_X3_makeRound : GoodIn wsX3_makeAllRounds wsX3_makeRound := goodIn_r _ [8, 1, 9, 10, 2, 11, 12, 13, 14, 15, 16, 17, 18, 19, 20, 21, 22, 23, 24, 25, 26, 7, 27, 28, 29, 30, 31, 32, 33, 34, 35, 36, 37, 38, 39, 40, 41, 42, 43, 44, 45, 46, 47, 48, 49, 50, 51, 52, 53, 54, 55, 56, 57, 58, 59, 60, 61, 62, 63, 64, 65, 3, 66, 67, 68, 69, 70, 71, 72, 73, 74, 75, 76, 77, 78, 79, 80, 81, 82, 83, 84, 85, 86, 87, 88, 89, 90, 91, 92, 93] (by decide +kernel) (by decide +kernel)
set_option maxRecDepth 20000 in
theorem gX3_makeAllRounds_X3_makeRound : GoodIn wsX3_makeAllRounds (wsV RX3 73 RX3 yX3_makeRound wsX3_makeRound) := goodIn_app (goodIn_of _ (by decide +kernel)) ggX3_makeAllRounds_X3_makeRound
theorem dX3_makeAllRounds_0 : decode cX3_makeAllRounds 0 = .ok (.aload_n 0, 1) := by decide +kernel
theorem dX3_makeAllRounds_1 : decode cX3_makeAllRounds 1 = .ok (.getfield 48, 3) := by decide +kernel
theorem dX3_makeAllRounds_4 : decode cX3_makeAllRounds 4 = .ok (.istore_n 1, 1) := by decide +kernel
theorem dX3_makeAllRounds_5 : decode cX3_makeAllRounds 5 = .ok (.iload_n 1, 1) := by decide +kernel
theorem dX3_makeAllRounds_6 : decode cX3_makeAllRounds 6 = .ok (.aload_n 0, 1) := by decide +kernel
theorem dX3_makeAllRounds_7 : decode cX3_makeAllRounds 7 = .ok (.getfield 44, 3) := by decide +kernel
theorem dX3_makeAllRounds_10 : decode cX3_makeAllRounds 10 = .ok (.getfield 70, 3) := by decide +kernel
theorem dX3_makeAllRounds_13 : decode cX3_makeAllRounds 13 = .ok (.if_icmp .ge 13, 3) := by decide +kernel
theorem dX3_makeAllRounds_16 : decode cX3_makeAllRounds 16 = .ok (.aload_n 0, 1) := by decide +kernel
theorem dX3_makeAllRounds_17 : decode cX3_makeAllRounds 17 = .ok (.invokevirtual 73, 3) := by decide +kernel
theorem dX3_makeAllRounds_20 : decode cX3_makeAllRounds 20 = .ok (.iinc 1 1, 3) := by decide +kernel
theorem dX3_makeAllRounds_23 : decode cX3_makeAllRounds 23 = .ok (.goto (-18), 3) := by decide +kernel
theorem dX3_makeAllRounds_26 : decode cX3_makeAllRounds 26 = .ok (.return_, 1) := by decide +kernel
set_option maxRecDepth 20000 in
theorem ggX3_makeRound_X1_crashingIn : GoodIn wsX3_makeRound wsX1_crashingIn := goodIn_r _ [10, 11, 12, 13, 14, 15, 16, 17, 87, 88, 89] (by decide +kernel) (by decide +kernel)
set_option maxRecDepth 20000 in
theorem gX3_makeRound_X1_crashingIn : GoodIn wsX3_makeRound (wsV RX3 76 RX1 yX1_crashingIn wsX1_crashingIn) := goodIn_app (goodIn_of _ (by decide +kernel)) ggX3_makeRound_X1_crashingIn
set_option maxRecDepth 20000 in
theorem ggX3_makeRound_X3_sendLetters : GoodIn wsX3_makeRound wsX3_sendLetters := goodIn_r _ [22, 23, 24, 4, 5, 25, 26, 27, 3, 2, 28, 29, 13, 14, 15, 30, 31, 32, 21, 33, 34, 1, 35, 36, 37, 38, 39, 40, 41, 42, 43, 44, 45, 46, 47, 68, 69, 70, 71, 72, 73, 74, 75, 76, 77, 78, 79, 80, 81, 82, 83, 84, 85, 86, 87, 88, 89] (by decide +kernel) (by decide +kernel)
set_option maxRecDepth 20000 in
theorem gX3_makeRound_X3_sendLetters : GoodIn wsX3_makeRound (wsV RX3 80 RX3 yX3_sendLetters wsX3_sendLetters) := goodIn_app (goodIn_of _ (by decide +kernel)) ggX3_makeRound_X3_sendLetters
set_option maxRecDepth 20000 in
theorem ggX3_makeRound_X5_has : GoodIn wsX3_makeRound wsX5_has := goodIn_r _ [15] (by decide +kernel) (by decide +kernel)
set_option maxRecDepth 20000 in
theorem gX3_makeRound_X5_has_n84 : GoodIn wsX3_makeRound (wsX5_has) := ggX3_makeRound_X5_has
set_option maxRecDepth 20000 in
theorem ggX3_makeRound_X3_readLetters : GoodIn wsX3_makeRound wsX3_readLetters := goodIn_r _ [51, 4, 5, 27, 25, 26, 52, 13, 14, 15, 41, 42, 43, 44, 45, 46, 47, 53, 54, 55, 21, 56, 34, 24, 23, 57, 58, 59, 60, 1, 61, 62, 63, 64, 65, 66, 67, 68, 69, 70, 71, 72, 73, 74, 75, 76, 77, 78, 79, 80, 81, 82, 83, 84, 85, 86] (by decide +kernel) (by decide +kernel)
set_option maxRecDepth 20000 in
theorem gX3_makeRound_X3_readLetters : GoodIn wsX3_makeRound (wsV RX3 88 RX3 yX3_readLetters wsX3_readLetters) := goodIn_app (goodIn_of _ (by decide +kernel)) ggX3_makeRound_X3_readLetters
theorem dX3_makeRound_0 : decode cX3_makeRound 0 = .ok (.aload_n 0, 1) := by decide +kernel
theorem dX3_makeRound_1 : decode cX3_makeRound 1 = .ok (.dup, 1) := by decide +kernel
theorem dX3_makeRound_2 : decode cX3_makeRound 2 = .ok (.getfield 48, 3) := by decide +kernel
theorem dX3_makeRound_5 : decode cX3_makeRound 5 = .ok (.iconst 1, 1) := by decide +kernel
theorem dX3_makeRound_6 : decode cX3_makeRound 6 = .ok (.iadd, 1) := by decide +kernel
theorem dX3_makeRound_7 : decode cX3_makeRound 7 = .ok (.putfield 48, 3) := by decide +kernel
theorem dX3_makeRound_10 : decode cX3_makeRound 10 = .ok (.aload_n 0, 1) := by decide +kernel
theorem dX3_makeRound_11 : decode cX3_makeRound 11 = .ok (.getfield 21, 3) := by decide +kernel
theorem dX3_makeRound_14 : decode cX3_makeRound 14 = .ok (.aload_n 0, 1) := by decide +kernel
theorem dX3_makeRound_15 : decode cX3_makeRound 15 = .ok (.getfield 48, 3) := by decide +kernel
theorem dX3_makeRound_18 : decode cX3_makeRound 18 = .ok (.aload_n 0, 1) := by decide +kernel
theorem dX3_makeRound_19 : decode cX3_makeRound 19 = .ok (.getfield 48, 3) := by decide +kernel
theorem dX3_makeRound_22 : decode cX3_makeRound 22 = .ok (.invokevirtual 76, 3) := by decide +kernel
theorem dX3_makeRound_25 : decode cX3_makeRound 25 = .ok (.istore_n 1, 1) := by decide +kernel
theorem dX3_makeRound_26 : decode cX3_makeRound 26 = .ok (.aload_n 0, 1) := by decide +kernel
theorem dX3_makeRound_27 : decode cX3_makeRound 27 = .ok (.iload_n 1, 1) := by decide +kernel
theorem dX3_makeRound_28 : decode cX3_makeRound 28 = .ok (.invokevirtual 80, 3) := by decide +kernel
theorem dX3_makeRound_31 : decode cX3_makeRound 31 = .ok (.aload_n 0, 1) := by decide +kernel
theorem dX3_makeRound_32 : decode cX3_makeRound 32 = .ok (.dup, 1) := by decide +kernel
theorem dX3_makeRound_33 : decode cX3_makeRound 33 = .ok (.getfield 61, 3) := by decide +kernel
theorem dX3_makeRound_36 : decode cX3_makeRound 36 = .ok (.iload_n 1, 1) := by decide +kernel
theorem dX3_makeRound_37 : decode cX3_makeRound 37 = .ok (.iconst (-1), 1) := by decide +kernel
theorem dX3_makeRound_38 : decode cX3_makeRound 38 = .ok (.ixor, 1) := by decide +kernel
theorem dX3_makeRound_39 : decode cX3_makeRound 39 = .ok (.iand, 1) := by decide +kernel
theorem dX3_makeRound_40 : decode cX3_makeRound 40 = .ok (.putfield 61, 3) := by decide +kernel
theorem dX3_makeRound_43 : decode cX3_makeRound 43 = .ok (.iconst 0, 1) := by decide +kernel
theorem dX3_makeRound_44 : decode cX3_makeRound 44 = .ok (.istore_n 2, 1) := by decide +kernel
theorem dX3_makeRound_45 : decode cX3_makeRound 45 = .ok (.iload_n 2, 1) := by decide +kernel
theorem dX3_makeRound_46 : decode cX3_makeRound 46 = .ok (.aload_n 0, 1) := by decide +kernel
theorem dX3_makeRound_47 : decode cX3_makeRound 47 = .ok (.getfield 44, 3) := by decide +kernel
theorem dX3_makeRound_50 : decode cX3_makeRound 50 = .ok (.getfield 67, 3) := by decide +kernel
theorem dX3_makeRound_53 : decode cX3_makeRound 53 = .ok (.if_icmp .ge 25, 3) := by decide +kernel
theorem dX3_makeRound_56 : decode cX3_makeRound 56 = .ok (.aload_n 0, 1) := by decide +kernel
theorem dX3_makeRound_57 : decode cX3_makeRound 57 = .ok (.getfield 61, 3) := by decide +kernel
theorem dX3_makeRound_60 : decode cX3_makeRound 60 = .ok (.iload_n 2, 1) := by decide +kernel
theorem dX3_makeRound_61 : decode cX3_makeRound 61 = .ok (.invokestatic 84, 3) := by decide +kernel
theorem dX3_makeRound_64 : decode cX3_makeRound 64 = .ok (.ifCond .eq 8, 3) := by decide +kernel
theorem dX3_makeRound_67 : decode cX3_makeRound 67 = .ok (.aload_n 0, 1) := by decide +kernel
theorem dX3_makeRound_68 : decode cX3_makeRound 68 = .ok (.iload_n 2, 1) := by decide +kernel
theorem dX3_makeRound_69 : decode cX3_makeRound 69 = .ok (.invokevirtual 88, 3) := by decide +kernel
theorem dX3_makeRound_72 : decode cX3_makeRound 72 = .ok (.iinc 2 1, 3) := by decide +kernel
theorem dX3_makeRound_75 : decode cX3_makeRound 75 = .ok (.goto (-30), 3) := by decide +kernel
theorem dX3_makeRound_78 : decode cX3_makeRound 78 = .ok (.return_, 1) := by decide +kernel
set_option maxRecDepth 20000 in
theorem ggX3_sendLetters_X5_has : GoodIn wsX3_sendLetters wsX5_has := goodIn_r _ [14] (by decide +kernel) (by decide +kernel)
set_option maxRecDepth 20000 in
theorem gX3_sendLetters_X5_has_n84 : GoodIn wsX3_sendLetters (wsX5_has) := ggX3_sendLetters_X5_has
set_option maxRecDepth 20000 in
theorem ggX3_sendLetters_X3_sendsNow : GoodIn wsX3_sendLetters wsX3_sendsNow := goodIn_r _ [19, 3, 20, 21, 35, 36, 37, 38, 39, 40, 41, 42, 43, 44, 45, 46, 47, 48, 49, 50, 51, 52, 53] (by decide +kernel) (by decide +kernel)
set_option maxRecDepth 20000 in
theorem gX3_sendLetters_X3_sendsNow : GoodIn wsX3_sendLetters (wsV RX3 94 RX3 yX3_sendsNow wsX3_sendsNow) := goodIn_app (goodIn_of _ (by decide +kernel)) ggX3_sendLetters_X3_sendsNow
set_option maxRecDepth 20000 in
theorem ggX3_sendLetters_X2_everyone : GoodIn wsX3_sendLetters wsX2_everyone := goodIn_r _ [26, 27, 49, 50, 51, 52, 53] (by decide +kernel) (by decide +kernel)
set_option maxRecDepth 20000 in
theorem gX3_sendLetters_X2_everyone : GoodIn wsX3_sendLetters (wsV RX3 55 RX2 yX2_everyone wsX2_everyone) := goodIn_app (goodIn_of _ (by decide +kernel)) ggX3_sendLetters_X2_everyone
set_option maxRecDepth 20000 in
theorem ggX3_sendLetters_J6_bitCount_0f7a4 : GoodIn wsX3_sendLetters wsJ6_bitCount_0f7a4 := goodIn_r _ [31, 32, 33, 34] (by decide +kernel) (by decide +kernel)
set_option maxRecDepth 20000 in
theorem gX3_sendLetters_J6_bitCount_0f7a4 : GoodIn wsX3_sendLetters (va_wsS RX3 101 yJ6_bitCount_0f7a4 wsJ6_bitCount_0f7a4) := goodIn_app (goodIn_of _ (by decide +kernel)) ggX3_sendLetters_J6_bitCount_0f7a4
theorem dX3_sendLetters_0 : decode cX3_sendLetters 0 = .ok (.aload_n 0, 1) := by decide +kernel
theorem dX3_sendLetters_1 : decode cX3_sendLetters 1 = .ok (.aload_n 0, 1) := by decide +kernel
theorem dX3_sendLetters_2 : decode cX3_sendLetters 2 = .ok (.getfield 64, 3) := by decide +kernel
theorem dX3_sendLetters_5 : decode cX3_sendLetters 5 = .ok (.putfield 91, 3) := by decide +kernel
theorem dX3_sendLetters_8 : decode cX3_sendLetters 8 = .ok (.iconst 0, 1) := by decide +kernel
theorem dX3_sendLetters_9 : decode cX3_sendLetters 9 = .ok (.istore_n 2, 1) := by decide +kernel
theorem dX3_sendLetters_10 : decode cX3_sendLetters 10 = .ok (.iload_n 2, 1) := by decide +kernel
theorem dX3_sendLetters_11 : decode cX3_sendLetters 11 = .ok (.aload_n 0, 1) := by decide +kernel
theorem dX3_sendLetters_12 : decode cX3_sendLetters 12 = .ok (.getfield 44, 3) := by decide +kernel
theorem dX3_sendLetters_15 : decode cX3_sendLetters 15 = .ok (.getfield 67, 3) := by decide +kernel
theorem dX3_sendLetters_18 : decode cX3_sendLetters 18 = .ok (.if_icmp .ge 108, 3) := by decide +kernel
theorem dX3_sendLetters_21 : decode cX3_sendLetters 21 = .ok (.aload_n 0, 1) := by decide +kernel
theorem dX3_sendLetters_22 : decode cX3_sendLetters 22 = .ok (.getfield 38, 3) := by decide +kernel
theorem dX3_sendLetters_25 : decode cX3_sendLetters 25 = .ok (.iload_n 2, 1) := by decide +kernel
theorem dX3_sendLetters_26 : decode cX3_sendLetters 26 = .ok (.aload_n 0, 1) := by decide +kernel
theorem dX3_sendLetters_27 : decode cX3_sendLetters 27 = .ok (.getfield 25, 3) := by decide +kernel
theorem dX3_sendLetters_30 : decode cX3_sendLetters 30 = .ok (.iload_n 2, 1) := by decide +kernel
theorem dX3_sendLetters_31 : decode cX3_sendLetters 31 = .ok (.iaload, 1) := by decide +kernel
theorem dX3_sendLetters_32 : decode cX3_sendLetters 32 = .ok (.iastore, 1) := by decide +kernel
theorem dX3_sendLetters_33 : decode cX3_sendLetters 33 = .ok (.aload_n 0, 1) := by decide +kernel
theorem dX3_sendLetters_34 : decode cX3_sendLetters 34 = .ok (.getfield 41, 3) := by decide +kernel
theorem dX3_sendLetters_37 : decode cX3_sendLetters 37 = .ok (.iload_n 2, 1) := by decide +kernel
theorem dX3_sendLetters_38 : decode cX3_sendLetters 38 = .ok (.iconst 0, 1) := by decide +kernel
theorem dX3_sendLetters_39 : decode cX3_sendLetters 39 = .ok (.iastore, 1) := by decide +kernel
theorem dX3_sendLetters_40 : decode cX3_sendLetters 40 = .ok (.aload_n 0, 1) := by decide +kernel
theorem dX3_sendLetters_41 : decode cX3_sendLetters 41 = .ok (.getfield 61, 3) := by decide +kernel
theorem dX3_sendLetters_44 : decode cX3_sendLetters 44 = .ok (.iload_n 2, 1) := by decide +kernel
theorem dX3_sendLetters_45 : decode cX3_sendLetters 45 = .ok (.invokestatic 84, 3) := by decide +kernel
theorem dX3_sendLetters_48 : decode cX3_sendLetters 48 = .ok (.ifCond .eq 72, 3) := by decide +kernel
theorem dX3_sendLetters_51 : decode cX3_sendLetters 51 = .ok (.aload_n 0, 1) := by decide +kernel
theorem dX3_sendLetters_52 : decode cX3_sendLetters 52 = .ok (.iload_n 2, 1) := by decide +kernel
theorem dX3_sendLetters_53 : decode cX3_sendLetters 53 = .ok (.invokevirtual 94, 3) := by decide +kernel
theorem dX3_sendLetters_56 : decode cX3_sendLetters 56 = .ok (.ifCond .eq 64, 3) := by decide +kernel
theorem dX3_sendLetters_59 : decode cX3_sendLetters 59 = .ok (.iconst 1, 1) := by decide +kernel
theorem dX3_sendLetters_60 : decode cX3_sendLetters 60 = .ok (.iload_n 2, 1) := by decide +kernel
theorem dX3_sendLetters_61 : decode cX3_sendLetters 61 = .ok (.ishl, 1) := by decide +kernel
theorem dX3_sendLetters_62 : decode cX3_sendLetters 62 = .ok (.istore_n 3, 1) := by decide +kernel
theorem dX3_sendLetters_63 : decode cX3_sendLetters 63 = .ok (.iload_n 1, 1) := by decide +kernel
theorem dX3_sendLetters_64 : decode cX3_sendLetters 64 = .ok (.iload_n 2, 1) := by decide +kernel
theorem dX3_sendLetters_65 : decode cX3_sendLetters 65 = .ok (.invokestatic 84, 3) := by decide +kernel
theorem dX3_sendLetters_68 : decode cX3_sendLetters 68 = .ok (.ifCond .eq 15, 3) := by decide +kernel
theorem dX3_sendLetters_71 : decode cX3_sendLetters 71 = .ok (.aload_n 0, 1) := by decide +kernel
theorem dX3_sendLetters_72 : decode cX3_sendLetters 72 = .ok (.getfield 21, 3) := by decide +kernel
theorem dX3_sendLetters_75 : decode cX3_sendLetters 75 = .ok (.getfield 98, 3) := by decide +kernel
theorem dX3_sendLetters_78 : decode cX3_sendLetters 78 = .ok (.iload_n 2, 1) := by decide +kernel
theorem dX3_sendLetters_79 : decode cX3_sendLetters 79 = .ok (.iaload, 1) := by decide +kernel
theorem dX3_sendLetters_80 : decode cX3_sendLetters 80 = .ok (.goto 14, 3) := by decide +kernel
theorem dX3_sendLetters_83 : decode cX3_sendLetters 83 = .ok (.aload_n 0, 1) := by decide +kernel
theorem dX3_sendLetters_84 : decode cX3_sendLetters 84 = .ok (.getfield 44, 3) := by decide +kernel
theorem dX3_sendLetters_87 : decode cX3_sendLetters 87 = .ok (.invokevirtual 55, 3) := by decide +kernel
theorem dX3_sendLetters_90 : decode cX3_sendLetters 90 = .ok (.iload_n 3, 1) := by decide +kernel
theorem dX3_sendLetters_91 : decode cX3_sendLetters 91 = .ok (.iconst (-1), 1) := by decide +kernel
theorem dX3_sendLetters_92 : decode cX3_sendLetters 92 = .ok (.ixor, 1) := by decide +kernel
theorem dX3_sendLetters_93 : decode cX3_sendLetters 93 = .ok (.iand, 1) := by decide +kernel
theorem dX3_sendLetters_94 : decode cX3_sendLetters 94 = .ok (.istore 4, 2) := by decide +kernel
theorem dX3_sendLetters_96 : decode cX3_sendLetters 96 = .ok (.aload_n 0, 1) := by decide +kernel
theorem dX3_sendLetters_97 : decode cX3_sendLetters 97 = .ok (.dup, 1) := by decide +kernel
theorem dX3_sendLetters_98 : decode cX3_sendLetters 98 = .ok (.getfield 52, 3) := by decide +kernel
theorem dX3_sendLetters_101 : decode cX3_sendLetters 101 = .ok (.iload 4, 2) := by decide +kernel
theorem dX3_sendLetters_103 : decode cX3_sendLetters 103 = .ok (.invokestatic 101, 3) := by decide +kernel
theorem dX3_sendLetters_106 : decode cX3_sendLetters 106 = .ok (.iadd, 1) := by decide +kernel
theorem dX3_sendLetters_107 : decode cX3_sendLetters 107 = .ok (.putfield 52, 3) := by decide +kernel
theorem dX3_sendLetters_110 : decode cX3_sendLetters 110 = .ok (.aload_n 0, 1) := by decide +kernel
theorem dX3_sendLetters_111 : decode cX3_sendLetters 111 = .ok (.getfield 41, 3) := by decide +kernel
theorem dX3_sendLetters_114 : decode cX3_sendLetters 114 = .ok (.iload_n 2, 1) := by decide +kernel
theorem dX3_sendLetters_115 : decode cX3_sendLetters 115 = .ok (.iload 4, 2) := by decide +kernel
theorem dX3_sendLetters_117 : decode cX3_sendLetters 117 = .ok (.iload_n 3, 1) := by decide +kernel
theorem dX3_sendLetters_118 : decode cX3_sendLetters 118 = .ok (.ior, 1) := by decide +kernel
theorem dX3_sendLetters_119 : decode cX3_sendLetters 119 = .ok (.iastore, 1) := by decide +kernel
theorem dX3_sendLetters_120 : decode cX3_sendLetters 120 = .ok (.iinc 2 1, 3) := by decide +kernel
theorem dX3_sendLetters_123 : decode cX3_sendLetters 123 = .ok (.goto (-113), 3) := by decide +kernel
theorem dX3_sendLetters_126 : decode cX3_sendLetters 126 = .ok (.return_, 1) := by decide +kernel
theorem dX3_sendsNow_0 : decode cX3_sendsNow 0 = .ok (.aload_n 0, 1) := by decide +kernel
theorem dX3_sendsNow_1 : decode cX3_sendsNow 1 = .ok (.getfield 44, 3) := by decide +kernel
theorem dX3_sendsNow_4 : decode cX3_sendsNow 4 = .ok (.getfield 107, 3) := by decide +kernel
theorem dX3_sendsNow_7 : decode cX3_sendsNow 7 = .ok (.bipush 6, 2) := by decide +kernel
theorem dX3_sendsNow_9 : decode cX3_sendsNow 9 = .ok (.if_icmp .ne 13, 3) := by decide +kernel
theorem dX3_sendsNow_12 : decode cX3_sendsNow 12 = .ok (.iload_n 1, 1) := by decide +kernel
theorem dX3_sendsNow_13 : decode cX3_sendsNow 13 = .ok (.aload_n 0, 1) := by decide +kernel
theorem dX3_sendsNow_14 : decode cX3_sendsNow 14 = .ok (.getfield 48, 3) := by decide +kernel
theorem dX3_sendsNow_17 : decode cX3_sendsNow 17 = .ok (.iconst 1, 1) := by decide +kernel
theorem dX3_sendsNow_18 : decode cX3_sendsNow 18 = .ok (.isub, 1) := by decide +kernel
theorem dX3_sendsNow_19 : decode cX3_sendsNow 19 = .ok (.if_icmp .ne 7, 3) := by decide +kernel
theorem dX3_sendsNow_22 : decode cX3_sendsNow 22 = .ok (.iconst 1, 1) := by decide +kernel
theorem dX3_sendsNow_23 : decode cX3_sendsNow 23 = .ok (.goto 4, 3) := by decide +kernel
theorem dX3_sendsNow_26 : decode cX3_sendsNow 26 = .ok (.iconst 0, 1) := by decide +kernel
theorem dX3_sendsNow_27 : decode cX3_sendsNow 27 = .ok (.ireturn, 1) := by decide +kernel
set_option maxRecDepth 20000 in
theorem ggX3_readLetters_X5_has : GoodIn wsX3_readLetters wsX5_has := goodIn_r _ [9] (by decide +kernel) (by decide +kernel)
set_option maxRecDepth 20000 in
theorem gX3_readLetters_X5_has_n84 : GoodIn wsX3_readLetters (wsX5_has) := ggX3_readLetters_X5_has
set_option maxRecDepth 20000 in
theorem ggX3_readLetters_J6_bitCount_0f7a4 : GoodIn wsX3_readLetters wsJ6_bitCount_0f7a4 := goodIn_r _ [13, 14, 15, 16] (by decide +kernel) (by decide +kernel)
set_option maxRecDepth 20000 in
theorem gX3_readLetters_J6_bitCount_0f7a4 : GoodIn wsX3_readLetters (va_wsS RX3 101 yJ6_bitCount_0f7a4 wsJ6_bitCount_0f7a4) := goodIn_app (goodIn_of _ (by decide +kernel)) ggX3_readLetters_J6_bitCount_0f7a4
set_option maxRecDepth 20000 in
theorem ggX3_readLetters_X3_conclude : GoodIn wsX3_readLetters wsX3_conclude := goodIn_r _ [21, 1, 22, 5, 23, 24, 4, 25, 26, 27, 20, 28, 29, 30, 31, 32, 33, 34, 35, 36, 7, 8, 9, 37, 38, 39, 40, 41, 42, 43, 44, 45, 46, 47, 48, 49, 50, 51, 52, 53, 54, 55] (by decide +kernel) (by decide +kernel)
set_option maxRecDepth 20000 in
theorem gX3_readLetters_X3_conclude : GoodIn wsX3_readLetters (wsV RX3 110 RX3 yX3_conclude wsX3_conclude) := goodIn_app (goodIn_of _ (by decide +kernel)) ggX3_readLetters_X3_conclude
theorem dX3_readLetters_0 : decode cX3_readLetters 0 = .ok (.iconst 0, 1) := by decide +kernel
theorem dX3_readLetters_1 : decode cX3_readLetters 1 = .ok (.istore_n 2, 1) := by decide +kernel
theorem dX3_readLetters_2 : decode cX3_readLetters 2 = .ok (.iconst 0, 1) := by decide +kernel
theorem dX3_readLetters_3 : decode cX3_readLetters 3 = .ok (.istore_n 3, 1) := by decide +kernel
theorem dX3_readLetters_4 : decode cX3_readLetters 4 = .ok (.iconst 0, 1) := by decide +kernel
theorem dX3_readLetters_5 : decode cX3_readLetters 5 = .ok (.istore 4, 2) := by decide +kernel
theorem dX3_readLetters_7 : decode cX3_readLetters 7 = .ok (.iload 4, 2) := by decide +kernel
theorem dX3_readLetters_9 : decode cX3_readLetters 9 = .ok (.aload_n 0, 1) := by decide +kernel
theorem dX3_readLetters_10 : decode cX3_readLetters 10 = .ok (.getfield 44, 3) := by decide +kernel
theorem dX3_readLetters_13 : decode cX3_readLetters 13 = .ok (.getfield 67, 3) := by decide +kernel
theorem dX3_readLetters_16 : decode cX3_readLetters 16 = .ok (.if_icmp .ge 40, 3) := by decide +kernel
theorem dX3_readLetters_19 : decode cX3_readLetters 19 = .ok (.aload_n 0, 1) := by decide +kernel
theorem dX3_readLetters_20 : decode cX3_readLetters 20 = .ok (.getfield 41, 3) := by decide +kernel
theorem dX3_readLetters_23 : decode cX3_readLetters 23 = .ok (.iload 4, 2) := by decide +kernel
theorem dX3_readLetters_25 : decode cX3_readLetters 25 = .ok (.iaload, 1) := by decide +kernel
theorem dX3_readLetters_26 : decode cX3_readLetters 26 = .ok (.iload_n 1, 1) := by decide +kernel
theorem dX3_readLetters_27 : decode cX3_readLetters 27 = .ok (.invokestatic 84, 3) := by decide +kernel
theorem dX3_readLetters_30 : decode cX3_readLetters 30 = .ok (.ifCond .eq 20, 3) := by decide +kernel
theorem dX3_readLetters_33 : decode cX3_readLetters 33 = .ok (.iload_n 2, 1) := by decide +kernel
theorem dX3_readLetters_34 : decode cX3_readLetters 34 = .ok (.iconst 1, 1) := by decide +kernel
theorem dX3_readLetters_35 : decode cX3_readLetters 35 = .ok (.iload 4, 2) := by decide +kernel
theorem dX3_readLetters_37 : decode cX3_readLetters 37 = .ok (.ishl, 1) := by decide +kernel
theorem dX3_readLetters_38 : decode cX3_readLetters 38 = .ok (.ior, 1) := by decide +kernel
theorem dX3_readLetters_39 : decode cX3_readLetters 39 = .ok (.istore_n 2, 1) := by decide +kernel
theorem dX3_readLetters_40 : decode cX3_readLetters 40 = .ok (.iload_n 3, 1) := by decide +kernel
theorem dX3_readLetters_41 : decode cX3_readLetters 41 = .ok (.aload_n 0, 1) := by decide +kernel
theorem dX3_readLetters_42 : decode cX3_readLetters 42 = .ok (.getfield 38, 3) := by decide +kernel
theorem dX3_readLetters_45 : decode cX3_readLetters 45 = .ok (.iload 4, 2) := by decide +kernel
theorem dX3_readLetters_47 : decode cX3_readLetters 47 = .ok (.iaload, 1) := by decide +kernel
theorem dX3_readLetters_48 : decode cX3_readLetters 48 = .ok (.ior, 1) := by decide +kernel
theorem dX3_readLetters_49 : decode cX3_readLetters 49 = .ok (.istore_n 3, 1) := by decide +kernel
theorem dX3_readLetters_50 : decode cX3_readLetters 50 = .ok (.iinc 4 1, 3) := by decide +kernel
theorem dX3_readLetters_53 : decode cX3_readLetters 53 = .ok (.goto (-46), 3) := by decide +kernel
theorem dX3_readLetters_56 : decode cX3_readLetters 56 = .ok (.iload_n 2, 1) := by decide +kernel
theorem dX3_readLetters_57 : decode cX3_readLetters 57 = .ok (.ifCond .eq 10, 3) := by decide +kernel
theorem dX3_readLetters_60 : decode cX3_readLetters 60 = .ok (.aload_n 0, 1) := by decide +kernel
theorem dX3_readLetters_61 : decode cX3_readLetters 61 = .ok (.getfield 25, 3) := by decide +kernel
theorem dX3_readLetters_64 : decode cX3_readLetters 64 = .ok (.iload_n 1, 1) := by decide +kernel
theorem dX3_readLetters_65 : decode cX3_readLetters 65 = .ok (.iload_n 3, 1) := by decide +kernel
theorem dX3_readLetters_66 : decode cX3_readLetters 66 = .ok (.iastore, 1) := by decide +kernel
theorem dX3_readLetters_67 : decode cX3_readLetters 67 = .ok (.aload_n 0, 1) := by decide +kernel
theorem dX3_readLetters_68 : decode cX3_readLetters 68 = .ok (.getfield 29, 3) := by decide +kernel
theorem dX3_readLetters_71 : decode cX3_readLetters 71 = .ok (.iload_n 1, 1) := by decide +kernel
theorem dX3_readLetters_72 : decode cX3_readLetters 72 = .ok (.iaload, 1) := by decide +kernel
theorem dX3_readLetters_73 : decode cX3_readLetters 73 = .ok (.istore 4, 2) := by decide +kernel
theorem dX3_readLetters_75 : decode cX3_readLetters 75 = .ok (.aload_n 0, 1) := by decide +kernel
theorem dX3_readLetters_76 : decode cX3_readLetters 76 = .ok (.getfield 29, 3) := by decide +kernel
theorem dX3_readLetters_79 : decode cX3_readLetters 79 = .ok (.iload_n 1, 1) := by decide +kernel
theorem dX3_readLetters_80 : decode cX3_readLetters 80 = .ok (.iload_n 2, 1) := by decide +kernel
theorem dX3_readLetters_81 : decode cX3_readLetters 81 = .ok (.invokestatic 101, 3) := by decide +kernel
theorem dX3_readLetters_84 : decode cX3_readLetters 84 = .ok (.iastore, 1) := by decide +kernel
theorem dX3_readLetters_85 : decode cX3_readLetters 85 = .ok (.aload_n 0, 1) := by decide +kernel
theorem dX3_readLetters_86 : decode cX3_readLetters 86 = .ok (.iload_n 1, 1) := by decide +kernel
theorem dX3_readLetters_87 : decode cX3_readLetters 87 = .ok (.aload_n 0, 1) := by decide +kernel
theorem dX3_readLetters_88 : decode cX3_readLetters 88 = .ok (.getfield 29, 3) := by decide +kernel
theorem dX3_readLetters_91 : decode cX3_readLetters 91 = .ok (.iload_n 1, 1) := by decide +kernel
theorem dX3_readLetters_92 : decode cX3_readLetters 92 = .ok (.iaload, 1) := by decide +kernel
theorem dX3_readLetters_93 : decode cX3_readLetters 93 = .ok (.iload 4, 2) := by decide +kernel
theorem dX3_readLetters_95 : decode cX3_readLetters 95 = .ok (.if_icmp .ne 7, 3) := by decide +kernel
theorem dX3_readLetters_98 : decode cX3_readLetters 98 = .ok (.iconst 1, 1) := by decide +kernel
theorem dX3_readLetters_99 : decode cX3_readLetters 99 = .ok (.goto 4, 3) := by decide +kernel
theorem dX3_readLetters_102 : decode cX3_readLetters 102 = .ok (.iconst 0, 1) := by decide +kernel
theorem dX3_readLetters_103 : decode cX3_readLetters 103 = .ok (.iload_n 2, 1) := by decide +kernel
theorem dX3_readLetters_104 : decode cX3_readLetters 104 = .ok (.invokevirtual 110, 3) := by decide +kernel
theorem dX3_readLetters_107 : decode cX3_readLetters 107 = .ok (.return_, 1) := by decide +kernel
set_option maxRecDepth 20000 in
theorem ggX3_conclude_X3_isOver : GoodIn wsX3_conclude wsX3_isOver := goodIn_r _ [11, 12, 1, 13, 23, 24, 25, 26, 27, 28, 29, 30, 31, 32, 33, 34, 35, 36, 37, 38, 39, 40, 41] (by decide +kernel) (by decide +kernel)
set_option maxRecDepth 20000 in
theorem gX3_conclude_X3_isOver : GoodIn wsX3_conclude (wsV RX3 114 RX3 yX3_isOver wsX3_isOver) := goodIn_app (goodIn_of _ (by decide +kernel)) ggX3_conclude_X3_isOver
set_option maxRecDepth 20000 in
theorem ggX3_conclude_X3_decide : GoodIn wsX3_conclude wsX3_decide := goodIn_r _ [17, 18, 12, 19, 23, 24, 25, 26, 27, 28, 29, 30, 31, 32, 33, 34, 35, 36] (by decide +kernel) (by decide +kernel)
set_option maxRecDepth 20000 in
theorem gX3_conclude_X3_decide : GoodIn wsX3_conclude (wsV RX3 118 RX3 yX3_decide wsX3_decide) := goodIn_app (goodIn_of _ (by decide +kernel)) ggX3_conclude_X3_decide
set_option maxRecDepth 20000 in
theorem ggX3_conclude_X5_has : GoodIn wsX3_conclude wsX5_has := goodIn_r _ [22] (by decide +kernel) (by decide +kernel)
set_option maxRecDepth 20000 in
theorem gX3_conclude_X5_has_n84 : GoodIn wsX3_conclude (wsX5_has) := ggX3_conclude_X5_has
theorem dX3_conclude_0 : decode cX3_conclude 0 = .ok (.aload_n 0, 1) := by decide +kernel
theorem dX3_conclude_1 : decode cX3_conclude 1 = .ok (.getfield 44, 3) := by decide +kernel
theorem dX3_conclude_4 : decode cX3_conclude 4 = .ok (.getfield 107, 3) := by decide +kernel
theorem dX3_conclude_7 : decode cX3_conclude 7 = .ok (.lookupswitch 121 #[(1, 25), (2, 50)], 25) := by decide +kernel
theorem dX3_conclude_32 : decode cX3_conclude 32 = .ok (.iload_n 2, 1) := by decide +kernel
theorem dX3_conclude_33 : decode cX3_conclude 33 = .ok (.ifCond .ne 10, 3) := by decide +kernel
theorem dX3_conclude_36 : decode cX3_conclude 36 = .ok (.aload_n 0, 1) := by decide +kernel
theorem dX3_conclude_37 : decode cX3_conclude 37 = .ok (.invokevirtual 114, 3) := by decide +kernel
theorem dX3_conclude_40 : decode cX3_conclude 40 = .ok (.ifCond .eq 106, 3) := by decide +kernel
theorem dX3_conclude_43 : decode cX3_conclude 43 = .ok (.aload_n 0, 1) := by decide +kernel
theorem dX3_conclude_44 : decode cX3_conclude 44 = .ok (.iload_n 1, 1) := by decide +kernel
theorem dX3_conclude_45 : decode cX3_conclude 45 = .ok (.aload_n 0, 1) := by decide +kernel
theorem dX3_conclude_46 : decode cX3_conclude 46 = .ok (.getfield 25, 3) := by decide +kernel
theorem dX3_conclude_49 : decode cX3_conclude 49 = .ok (.iload_n 1, 1) := by decide +kernel
theorem dX3_conclude_50 : decode cX3_conclude 50 = .ok (.iaload, 1) := by decide +kernel
theorem dX3_conclude_51 : decode cX3_conclude 51 = .ok (.invokevirtual 118, 3) := by decide +kernel
theorem dX3_conclude_54 : decode cX3_conclude 54 = .ok (.goto 92, 3) := by decide +kernel
theorem dX3_conclude_57 : decode cX3_conclude 57 = .ok (.iload_n 2, 1) := by decide +kernel
theorem dX3_conclude_58 : decode cX3_conclude 58 = .ok (.ifCond .ne 12, 3) := by decide +kernel
theorem dX3_conclude_61 : decode cX3_conclude 61 = .ok (.iload_n 3, 1) := by decide +kernel
theorem dX3_conclude_62 : decode cX3_conclude 62 = .ok (.aload_n 0, 1) := by decide +kernel
theorem dX3_conclude_63 : decode cX3_conclude 63 = .ok (.getfield 91, 3) := by decide +kernel
theorem dX3_conclude_66 : decode cX3_conclude 66 = .ok (.iand, 1) := by decide +kernel
theorem dX3_conclude_67 : decode cX3_conclude 67 = .ok (.ifCond .eq 15, 3) := by decide +kernel
theorem dX3_conclude_70 : decode cX3_conclude 70 = .ok (.aload_n 0, 1) := by decide +kernel
theorem dX3_conclude_71 : decode cX3_conclude 71 = .ok (.dup, 1) := by decide +kernel
theorem dX3_conclude_72 : decode cX3_conclude 72 = .ok (.getfield 64, 3) := by decide +kernel
theorem dX3_conclude_75 : decode cX3_conclude 75 = .ok (.iconst 1, 1) := by decide +kernel
theorem dX3_conclude_76 : decode cX3_conclude 76 = .ok (.iload_n 1, 1) := by decide +kernel
theorem dX3_conclude_77 : decode cX3_conclude 77 = .ok (.ishl, 1) := by decide +kernel
theorem dX3_conclude_78 : decode cX3_conclude 78 = .ok (.ior, 1) := by decide +kernel
theorem dX3_conclude_79 : decode cX3_conclude 79 = .ok (.putfield 64, 3) := by decide +kernel
theorem dX3_conclude_82 : decode cX3_conclude 82 = .ok (.aload_n 0, 1) := by decide +kernel
theorem dX3_conclude_83 : decode cX3_conclude 83 = .ok (.getfield 91, 3) := by decide +kernel
theorem dX3_conclude_86 : decode cX3_conclude 86 = .ok (.iload_n 1, 1) := by decide +kernel
theorem dX3_conclude_87 : decode cX3_conclude 87 = .ok (.invokestatic 84, 3) := by decide +kernel
theorem dX3_conclude_90 : decode cX3_conclude 90 = .ok (.ifCond .eq 17, 3) := by decide +kernel
theorem dX3_conclude_93 : decode cX3_conclude 93 = .ok (.aload_n 0, 1) := by decide +kernel
theorem dX3_conclude_94 : decode cX3_conclude 94 = .ok (.iload_n 1, 1) := by decide +kernel
theorem dX3_conclude_95 : decode cX3_conclude 95 = .ok (.aload_n 0, 1) := by decide +kernel
theorem dX3_conclude_96 : decode cX3_conclude 96 = .ok (.getfield 38, 3) := by decide +kernel
theorem dX3_conclude_99 : decode cX3_conclude 99 = .ok (.iload_n 1, 1) := by decide +kernel
theorem dX3_conclude_100 : decode cX3_conclude 100 = .ok (.iaload, 1) := by decide +kernel
theorem dX3_conclude_101 : decode cX3_conclude 101 = .ok (.invokevirtual 118, 3) := by decide +kernel
theorem dX3_conclude_104 : decode cX3_conclude 104 = .ok (.goto 42, 3) := by decide +kernel
theorem dX3_conclude_107 : decode cX3_conclude 107 = .ok (.aload_n 0, 1) := by decide +kernel
theorem dX3_conclude_108 : decode cX3_conclude 108 = .ok (.invokevirtual 114, 3) := by decide +kernel
theorem dX3_conclude_111 : decode cX3_conclude 111 = .ok (.ifCond .eq 35, 3) := by decide +kernel
theorem dX3_conclude_114 : decode cX3_conclude 114 = .ok (.aload_n 0, 1) := by decide +kernel
theorem dX3_conclude_115 : decode cX3_conclude 115 = .ok (.iload_n 1, 1) := by decide +kernel
theorem dX3_conclude_116 : decode cX3_conclude 116 = .ok (.aload_n 0, 1) := by decide +kernel
theorem dX3_conclude_117 : decode cX3_conclude 117 = .ok (.getfield 25, 3) := by decide +kernel
theorem dX3_conclude_120 : decode cX3_conclude 120 = .ok (.iload_n 1, 1) := by decide +kernel
theorem dX3_conclude_121 : decode cX3_conclude 121 = .ok (.iaload, 1) := by decide +kernel
theorem dX3_conclude_122 : decode cX3_conclude 122 = .ok (.invokevirtual 118, 3) := by decide +kernel
theorem dX3_conclude_125 : decode cX3_conclude 125 = .ok (.goto 21, 3) := by decide +kernel
theorem dX3_conclude_128 : decode cX3_conclude 128 = .ok (.aload_n 0, 1) := by decide +kernel
theorem dX3_conclude_129 : decode cX3_conclude 129 = .ok (.invokevirtual 114, 3) := by decide +kernel
theorem dX3_conclude_132 : decode cX3_conclude 132 = .ok (.ifCond .eq 14, 3) := by decide +kernel
theorem dX3_conclude_135 : decode cX3_conclude 135 = .ok (.aload_n 0, 1) := by decide +kernel
theorem dX3_conclude_136 : decode cX3_conclude 136 = .ok (.iload_n 1, 1) := by decide +kernel
theorem dX3_conclude_137 : decode cX3_conclude 137 = .ok (.aload_n 0, 1) := by decide +kernel
theorem dX3_conclude_138 : decode cX3_conclude 138 = .ok (.getfield 25, 3) := by decide +kernel
theorem dX3_conclude_141 : decode cX3_conclude 141 = .ok (.iload_n 1, 1) := by decide +kernel
theorem dX3_conclude_142 : decode cX3_conclude 142 = .ok (.iaload, 1) := by decide +kernel
theorem dX3_conclude_143 : decode cX3_conclude 143 = .ok (.invokevirtual 118, 3) := by decide +kernel
theorem dX3_conclude_146 : decode cX3_conclude 146 = .ok (.return_, 1) := by decide +kernel
theorem dX3_decide_0 : decode cX3_decide 0 = .ok (.aload_n 0, 1) := by decide +kernel
theorem dX3_decide_1 : decode cX3_decide 1 = .ok (.getfield 32, 3) := by decide +kernel
theorem dX3_decide_4 : decode cX3_decide 4 = .ok (.iload_n 1, 1) := by decide +kernel
theorem dX3_decide_5 : decode cX3_decide 5 = .ok (.iaload, 1) := by decide +kernel
theorem dX3_decide_6 : decode cX3_decide 6 = .ok (.ifCond .ne 20, 3) := by decide +kernel
theorem dX3_decide_9 : decode cX3_decide 9 = .ok (.aload_n 0, 1) := by decide +kernel
theorem dX3_decide_10 : decode cX3_decide 10 = .ok (.getfield 32, 3) := by decide +kernel
theorem dX3_decide_13 : decode cX3_decide 13 = .ok (.iload_n 1, 1) := by decide +kernel
theorem dX3_decide_14 : decode cX3_decide 14 = .ok (.aload_n 0, 1) := by decide +kernel
theorem dX3_decide_15 : decode cX3_decide 15 = .ok (.getfield 48, 3) := by decide +kernel
theorem dX3_decide_18 : decode cX3_decide 18 = .ok (.iastore, 1) := by decide +kernel
theorem dX3_decide_19 : decode cX3_decide 19 = .ok (.aload_n 0, 1) := by decide +kernel
theorem dX3_decide_20 : decode cX3_decide 20 = .ok (.getfield 35, 3) := by decide +kernel
theorem dX3_decide_23 : decode cX3_decide 23 = .ok (.iload_n 1, 1) := by decide +kernel
theorem dX3_decide_24 : decode cX3_decide 24 = .ok (.iload_n 2, 1) := by decide +kernel
theorem dX3_decide_25 : decode cX3_decide 25 = .ok (.iastore, 1) := by decide +kernel
theorem dX3_decide_26 : decode cX3_decide 26 = .ok (.return_, 1) := by decide +kernel
set_option maxRecDepth 20000 in
theorem ggX3_allDecidedFromSame_X3_isSameFor : GoodIn wsX3_allDecidedFromSame wsX3_isSameFor := goodIn_r _ [9, 1, 2, 10, 11, 12, 13, 14, 15, 16, 17, 18, 19, 20, 21, 22, 23, 24, 25, 26, 27, 28, 29, 30, 31] (by decide +kernel) (by decide +kernel)
set_option maxRecDepth 20000 in
theorem gX3_allDecidedFromSame_X3_isSameFor : GoodIn wsX3_allDecidedFromSame (wsV RX3 122 RX3 yX3_isSameFor wsX3_isSameFor) := goodIn_app (goodIn_of _ (by decide +kernel)) ggX3_allDecidedFromSame_X3_isSameFor
theorem dX3_allDecidedFromSame_0 : decode cX3_allDecidedFromSame 0 = .ok (.iconst 0, 1) := by decide +kernel
theorem dX3_allDecidedFromSame_1 : decode cX3_allDecidedFromSame 1 = .ok (.istore_n 1, 1) := by decide +kernel
theorem dX3_allDecidedFromSame_2 : decode cX3_allDecidedFromSame 2 = .ok (.iconst 0, 1) := by decide +kernel
theorem dX3_allDecidedFromSame_3 : decode cX3_allDecidedFromSame 3 = .ok (.istore_n 2, 1) := by decide +kernel
theorem dX3_allDecidedFromSame_4 : decode cX3_allDecidedFromSame 4 = .ok (.iload_n 2, 1) := by decide +kernel
theorem dX3_allDecidedFromSame_5 : decode cX3_allDecidedFromSame 5 = .ok (.aload_n 0, 1) := by decide +kernel
theorem dX3_allDecidedFromSame_6 : decode cX3_allDecidedFromSame 6 = .ok (.getfield 44, 3) := by decide +kernel
theorem dX3_allDecidedFromSame_9 : decode cX3_allDecidedFromSame 9 = .ok (.getfield 67, 3) := by decide +kernel
theorem dX3_allDecidedFromSame_12 : decode cX3_allDecidedFromSame 12 = .ok (.if_icmp .ge 24, 3) := by decide +kernel
theorem dX3_allDecidedFromSame_15 : decode cX3_allDecidedFromSame 15 = .ok (.aload_n 0, 1) := by decide +kernel
theorem dX3_allDecidedFromSame_16 : decode cX3_allDecidedFromSame 16 = .ok (.getfield 32, 3) := by decide +kernel
theorem dX3_allDecidedFromSame_19 : decode cX3_allDecidedFromSame 19 = .ok (.iload_n 2, 1) := by decide +kernel
theorem dX3_allDecidedFromSame_20 : decode cX3_allDecidedFromSame 20 = .ok (.iaload, 1) := by decide +kernel
theorem dX3_allDecidedFromSame_21 : decode cX3_allDecidedFromSame 21 = .ok (.ifCond .eq 9, 3) := by decide +kernel
theorem dX3_allDecidedFromSame_24 : decode cX3_allDecidedFromSame 24 = .ok (.iload_n 1, 1) := by decide +kernel
theorem dX3_allDecidedFromSame_25 : decode cX3_allDecidedFromSame 25 = .ok (.iconst 1, 1) := by decide +kernel
theorem dX3_allDecidedFromSame_26 : decode cX3_allDecidedFromSame 26 = .ok (.iload_n 2, 1) := by decide +kernel
theorem dX3_allDecidedFromSame_27 : decode cX3_allDecidedFromSame 27 = .ok (.ishl, 1) := by decide +kernel
theorem dX3_allDecidedFromSame_28 : decode cX3_allDecidedFromSame 28 = .ok (.ior, 1) := by decide +kernel
theorem dX3_allDecidedFromSame_29 : decode cX3_allDecidedFromSame 29 = .ok (.istore_n 1, 1) := by decide +kernel
theorem dX3_allDecidedFromSame_30 : decode cX3_allDecidedFromSame 30 = .ok (.iinc 2 1, 3) := by decide +kernel
theorem dX3_allDecidedFromSame_33 : decode cX3_allDecidedFromSame 33 = .ok (.goto (-29), 3) := by decide +kernel
theorem dX3_allDecidedFromSame_36 : decode cX3_allDecidedFromSame 36 = .ok (.aload_n 0, 1) := by decide +kernel
theorem dX3_allDecidedFromSame_37 : decode cX3_allDecidedFromSame 37 = .ok (.iload_n 1, 1) := by decide +kernel
theorem dX3_allDecidedFromSame_38 : decode cX3_allDecidedFromSame 38 = .ok (.aload_n 0, 1) := by decide +kernel
theorem dX3_allDecidedFromSame_39 : decode cX3_allDecidedFromSame 39 = .ok (.getfield 35, 3) := by decide +kernel
theorem dX3_allDecidedFromSame_42 : decode cX3_allDecidedFromSame 42 = .ok (.invokevirtual 122, 3) := by decide +kernel
theorem dX3_allDecidedFromSame_45 : decode cX3_allDecidedFromSame 45 = .ok (.ireturn, 1) := by decide +kernel
set_option maxRecDepth 20000 in
theorem ggX3_isSameFor_X5_has : GoodIn wsX3_isSameFor wsX5_has := goodIn_r _ [5] (by decide +kernel) (by decide +kernel)
set_option maxRecDepth 20000 in
theorem gX3_isSameFor_X5_has_n84 : GoodIn wsX3_isSameFor (wsX5_has) := ggX3_isSameFor_X5_has
theorem dX3_isSameFor_0 : decode cX3_isSameFor 0 = .ok (.iconst 0, 1) := by decide +kernel
theorem dX3_isSameFor_1 : decode cX3_isSameFor 1 = .ok (.istore_n 3, 1) := by decide +kernel
theorem dX3_isSameFor_2 : decode cX3_isSameFor 2 = .ok (.iconst 0, 1) := by decide +kernel
theorem dX3_isSameFor_3 : decode cX3_isSameFor 3 = .ok (.istore 4, 2) := by decide +kernel
theorem dX3_isSameFor_5 : decode cX3_isSameFor 5 = .ok (.iload 4, 2) := by decide +kernel
theorem dX3_isSameFor_7 : decode cX3_isSameFor 7 = .ok (.aload_n 0, 1) := by decide +kernel
theorem dX3_isSameFor_8 : decode cX3_isSameFor 8 = .ok (.getfield 44, 3) := by decide +kernel
theorem dX3_isSameFor_11 : decode cX3_isSameFor 11 = .ok (.getfield 67, 3) := by decide +kernel
theorem dX3_isSameFor_14 : decode cX3_isSameFor 14 = .ok (.if_icmp .ge 44, 3) := by decide +kernel
theorem dX3_isSameFor_17 : decode cX3_isSameFor 17 = .ok (.iload 4, 2) := by decide +kernel
theorem dX3_isSameFor_19 : decode cX3_isSameFor 19 = .ok (.aload_n 2, 1) := by decide +kernel
theorem dX3_isSameFor_20 : decode cX3_isSameFor 20 = .ok (.arraylength, 1) := by decide +kernel
theorem dX3_isSameFor_21 : decode cX3_isSameFor 21 = .ok (.if_icmp .ge 37, 3) := by decide +kernel
theorem dX3_isSameFor_24 : decode cX3_isSameFor 24 = .ok (.iload_n 1, 1) := by decide +kernel
theorem dX3_isSameFor_25 : decode cX3_isSameFor 25 = .ok (.iload 4, 2) := by decide +kernel
theorem dX3_isSameFor_27 : decode cX3_isSameFor 27 = .ok (.invokestatic 84, 3) := by decide +kernel
theorem dX3_isSameFor_30 : decode cX3_isSameFor 30 = .ok (.ifCond .eq 22, 3) := by decide +kernel
theorem dX3_isSameFor_33 : decode cX3_isSameFor 33 = .ok (.iload_n 3, 1) := by decide +kernel
theorem dX3_isSameFor_34 : decode cX3_isSameFor 34 = .ok (.ifCond .eq 13, 3) := by decide +kernel
theorem dX3_isSameFor_37 : decode cX3_isSameFor 37 = .ok (.aload_n 2, 1) := by decide +kernel
theorem dX3_isSameFor_38 : decode cX3_isSameFor 38 = .ok (.iload 4, 2) := by decide +kernel
theorem dX3_isSameFor_40 : decode cX3_isSameFor 40 = .ok (.iaload, 1) := by decide +kernel
theorem dX3_isSameFor_41 : decode cX3_isSameFor 41 = .ok (.iload_n 3, 1) := by decide +kernel
theorem dX3_isSameFor_42 : decode cX3_isSameFor 42 = .ok (.if_icmp .eq 5, 3) := by decide +kernel
theorem dX3_isSameFor_45 : decode cX3_isSameFor 45 = .ok (.iconst 0, 1) := by decide +kernel
theorem dX3_isSameFor_46 : decode cX3_isSameFor 46 = .ok (.ireturn, 1) := by decide +kernel
theorem dX3_isSameFor_47 : decode cX3_isSameFor 47 = .ok (.aload_n 2, 1) := by decide +kernel
theorem dX3_isSameFor_48 : decode cX3_isSameFor 48 = .ok (.iload 4, 2) := by decide +kernel
theorem dX3_isSameFor_50 : decode cX3_isSameFor 50 = .ok (.iaload, 1) := by decide +kernel
theorem dX3_isSameFor_51 : decode cX3_isSameFor 51 = .ok (.istore_n 3, 1) := by decide +kernel
theorem dX3_isSameFor_52 : decode cX3_isSameFor 52 = .ok (.iinc 4 1, 3) := by decide +kernel
theorem dX3_isSameFor_55 : decode cX3_isSameFor 55 = .ok (.goto (-50), 3) := by decide +kernel
theorem dX3_isSameFor_58 : decode cX3_isSameFor 58 = .ok (.iconst 1, 1) := by decide +kernel
theorem dX3_isSameFor_59 : decode cX3_isSameFor 59 = .ok (.ireturn, 1) := by decide +kernel
set_option maxRecDepth 20000 in
theorem ggX3_decisionFrom_J6_bitCount_0f7a4 : GoodIn wsX3_decisionFrom wsJ6_bitCount_0f7a4 := goodIn_r _ [7, 8, 9, 10] (by decide +kernel) (by decide +kernel)
set_option maxRecDepth 20000 in
theorem gX3_decisionFrom_J6_bitCount_0f7a4 : GoodIn wsX3_decisionFrom (va_wsS RX3 101 yJ6_bitCount_0f7a4 wsJ6_bitCount_0f7a4) := goodIn_app (goodIn_of _ (by decide +kernel)) ggX3_decisionFrom_J6_bitCount_0f7a4
set_option maxRecDepth 20000 in
theorem ggX3_decisionFrom_X2_everyone : GoodIn wsX3_decisionFrom wsX2_everyone := goodIn_r _ [15, 16, 40, 41, 42, 43, 44] (by decide +kernel) (by decide +kernel)
set_option maxRecDepth 20000 in
theorem gX3_decisionFrom_X2_everyone : GoodIn wsX3_decisionFrom (wsV RX3 55 RX2 yX2_everyone wsX2_everyone) := goodIn_app (goodIn_of _ (by decide +kernel)) ggX3_decisionFrom_X2_everyone
set_option maxRecDepth 20000 in
theorem ggX3_decisionFrom_X0_least : GoodIn wsX3_decisionFrom wsX0_least := goodIn_r _ [21, 22, 23, 24, 25, 45] (by decide +kernel) (by decide +kernel)
set_option maxRecDepth 20000 in
theorem gX3_decisionFrom_X0_least : GoodIn wsX3_decisionFrom (wsV RX3 126 RX0 yX0_least wsX0_least) := goodIn_app (goodIn_of _ (by decide +kernel)) ggX3_decisionFrom_X0_least
theorem dX3_decisionFrom_0 : decode cX3_decisionFrom 0 = .ok (.aload_n 0, 1) := by decide +kernel
theorem dX3_decisionFrom_1 : decode cX3_decisionFrom 1 = .ok (.getfield 44, 3) := by decide +kernel
theorem dX3_decisionFrom_4 : decode cX3_decisionFrom 4 = .ok (.getfield 107, 3) := by decide +kernel
theorem dX3_decisionFrom_7 : decode cX3_decisionFrom 7 = .ok (.lookupswitch 58 #[(4, 25), (5, 30)], 25) := by decide +kernel
theorem dX3_decisionFrom_32 : decode cX3_decisionFrom 32 = .ok (.iload_n 1, 1) := by decide +kernel
theorem dX3_decisionFrom_33 : decode cX3_decisionFrom 33 = .ok (.invokestatic 101, 3) := by decide +kernel
theorem dX3_decisionFrom_36 : decode cX3_decisionFrom 36 = .ok (.ireturn, 1) := by decide +kernel
theorem dX3_decisionFrom_37 : decode cX3_decisionFrom 37 = .ok (.iload_n 1, 1) := by decide +kernel
theorem dX3_decisionFrom_38 : decode cX3_decisionFrom 38 = .ok (.aload_n 0, 1) := by decide +kernel
theorem dX3_decisionFrom_39 : decode cX3_decisionFrom 39 = .ok (.getfield 44, 3) := by decide +kernel
theorem dX3_decisionFrom_42 : decode cX3_decisionFrom 42 = .ok (.invokevirtual 55, 3) := by decide +kernel
theorem dX3_decisionFrom_45 : decode cX3_decisionFrom 45 = .ok (.if_icmp .ne 18, 3) := by decide +kernel
theorem dX3_decisionFrom_48 : decode cX3_decisionFrom 48 = .ok (.aload_n 0, 1) := by decide +kernel
theorem dX3_decisionFrom_49 : decode cX3_decisionFrom 49 = .ok (.getfield 12, 3) := by decide +kernel
theorem dX3_decisionFrom_52 : decode cX3_decisionFrom 52 = .ok (.iload_n 1, 1) := by decide +kernel
theorem dX3_decisionFrom_53 : decode cX3_decisionFrom 53 = .ok (.invokevirtual 126, 3) := by decide +kernel
theorem dX3_decisionFrom_56 : decode cX3_decisionFrom 56 = .ok (.ifCond .eq 7, 3) := by decide +kernel
theorem dX3_decisionFrom_59 : decode cX3_decisionFrom 59 = .ok (.iconst 1, 1) := by decide +kernel
theorem dX3_decisionFrom_60 : decode cX3_decisionFrom 60 = .ok (.goto 4, 3) := by decide +kernel
theorem dX3_decisionFrom_63 : decode cX3_decisionFrom 63 = .ok (.iconst 0, 1) := by decide +kernel
theorem dX3_decisionFrom_64 : decode cX3_decisionFrom 64 = .ok (.ireturn, 1) := by decide +kernel
theorem dX3_decisionFrom_65 : decode cX3_decisionFrom 65 = .ok (.aload_n 0, 1) := by decide +kernel
theorem dX3_decisionFrom_66 : decode cX3_decisionFrom 66 = .ok (.getfield 12, 3) := by decide +kernel
theorem dX3_decisionFrom_69 : decode cX3_decisionFrom 69 = .ok (.iload_n 1, 1) := by decide +kernel
theorem dX3_decisionFrom_70 : decode cX3_decisionFrom 70 = .ok (.invokevirtual 126, 3) := by decide +kernel
theorem dX3_decisionFrom_73 : decode cX3_decisionFrom 73 = .ok (.ireturn, 1) := by decide +kernel
set_option maxRecDepth 20000 in
theorem ggX3_sound_X2_everyone : GoodIn wsX3_sound wsX2_everyone := goodIn_r _ [8, 9, 36, 37, 38, 39, 40] (by decide +kernel) (by decide +kernel)
set_option maxRecDepth 20000 in
theorem gX3_sound_X2_everyone : GoodIn wsX3_sound (wsV RX3 55 RX2 yX2_everyone wsX2_everyone) := goodIn_app (goodIn_of _ (by decide +kernel)) ggX3_sound_X2_everyone
set_option maxRecDepth 20000 in
theorem ggX3_sound_X1_crashingIn : GoodIn wsX3_sound wsX1_crashingIn := goodIn_r _ [14, 15, 16, 17, 18, 19, 20, 21, 41, 42, 43] (by decide +kernel) (by decide +kernel)
set_option maxRecDepth 20000 in
theorem gX3_sound_X1_crashingIn : GoodIn wsX3_sound (wsV RX3 76 RX1 yX1_crashingIn wsX1_crashingIn) := goodIn_app (goodIn_of _ (by decide +kernel)) ggX3_sound_X1_crashingIn
theorem dX3_sound_0 : decode cX3_sound 0 = .ok (.aload_n 0, 1) := by decide +kernel
theorem dX3_sound_1 : decode cX3_sound 1 = .ok (.getfield 44, 3) := by decide +kernel
theorem dX3_sound_4 : decode cX3_sound 4 = .ok (.invokevirtual 55, 3) := by decide +kernel
theorem dX3_sound_7 : decode cX3_sound 7 = .ok (.aload_n 0, 1) := by decide +kernel
theorem dX3_sound_8 : decode cX3_sound 8 = .ok (.getfield 21, 3) := by decide +kernel
theorem dX3_sound_11 : decode cX3_sound 11 = .ok (.iconst 1, 1) := by decide +kernel
theorem dX3_sound_12 : decode cX3_sound 12 = .ok (.aload_n 0, 1) := by decide +kernel
theorem dX3_sound_13 : decode cX3_sound 13 = .ok (.getfield 44, 3) := by decide +kernel
theorem dX3_sound_16 : decode cX3_sound 16 = .ok (.getfield 70, 3) := by decide +kernel
theorem dX3_sound_19 : decode cX3_sound 19 = .ok (.invokevirtual 76, 3) := by decide +kernel
theorem dX3_sound_22 : decode cX3_sound 22 = .ok (.iconst (-1), 1) := by decide +kernel
theorem dX3_sound_23 : decode cX3_sound 23 = .ok (.ixor, 1) := by decide +kernel
theorem dX3_sound_24 : decode cX3_sound 24 = .ok (.iand, 1) := by decide +kernel
theorem dX3_sound_25 : decode cX3_sound 25 = .ok (.ireturn, 1) := by decide +kernel
set_option maxRecDepth 20000 in
theorem ggX3_firstBreach_X3_sound : GoodIn wsX3_firstBreach wsX3_sound := goodIn_r _ [7, 1, 8, 9, 10, 11, 12, 13, 14, 15, 16, 17, 18, 19, 20, 21, 22, 23, 24, 25, 26, 27, 99, 100, 101, 102, 103, 104, 105, 106, 107, 108, 109, 110, 111, 112, 113, 114, 115, 116, 117, 118, 119, 120] (by decide +kernel) (by decide +kernel)
set_option maxRecDepth 20000 in
theorem gX3_firstBreach_X3_sound : GoodIn wsX3_firstBreach (wsV RX3 129 RX3 yX3_sound wsX3_sound) := goodIn_app (goodIn_of _ (by decide +kernel)) ggX3_firstBreach_X3_sound
set_option maxRecDepth 20000 in
theorem ggX3_firstBreach_X2_everyone : GoodIn wsX3_firstBreach wsX2_everyone := goodIn_r _ [14, 15, 113, 114, 115, 116, 117] (by decide +kernel) (by decide +kernel)
set_option maxRecDepth 20000 in
theorem gX3_firstBreach_X2_everyone : GoodIn wsX3_firstBreach (wsV RX3 55 RX2 yX2_everyone wsX2_everyone) := goodIn_app (goodIn_of _ (by decide +kernel)) ggX3_firstBreach_X2_everyone
set_option maxRecDepth 20000 in
theorem ggX3_firstBreach_X3_decisionsOf : GoodIn wsX3_firstBreach wsX3_decisionsOf := goodIn_r _ [31, 1, 32, 33, 34, 23, 24, 25, 35, 36, 37, 6, 38, 2, 39, 40, 41, 42, 43, 44, 45, 46, 10, 11, 12, 13, 14, 15, 47, 48, 49, 50, 51, 52, 99, 100, 101, 102, 103, 104, 105, 106, 107, 108, 109, 110, 111, 112, 113, 114, 115, 116, 117, 121] (by decide +kernel) (by decide +kernel)
set_option maxRecDepth 20000 in
theorem gX3_firstBreach_X3_decisionsOf : GoodIn wsX3_firstBreach (wsV RX3 132 RX3 yX3_decisionsOf wsX3_decisionsOf) := goodIn_app (goodIn_of _ (by decide +kernel)) ggX3_firstBreach_X3_decisionsOf
set_option maxRecDepth 20000 in
theorem ggX3_firstBreach_X3_disagrees : GoodIn wsX3_firstBreach wsX3_disagrees := goodIn_r _ [56, 1, 2, 57, 58, 59, 60, 61, 6, 62, 32, 23, 24, 25, 40, 41, 42, 43, 44, 45, 46, 99, 100, 101, 102, 103, 104, 105, 106, 107, 108, 109, 110, 111, 112, 113, 114, 115, 116, 117] (by decide +kernel) (by decide +kernel)
set_option maxRecDepth 20000 in
theorem gX3_firstBreach_X3_disagrees : GoodIn wsX3_firstBreach (wsV RX3 135 RX3 yX3_disagrees wsX3_disagrees) := goodIn_app (goodIn_of _ (by decide +kernel)) ggX3_firstBreach_X3_disagrees
set_option maxRecDepth 20000 in
theorem ggX3_firstBreach_X3_isUnfounded : GoodIn wsX3_firstBreach wsX3_isUnfounded := goodIn_r _ [66, 1, 2, 39, 67, 68, 69, 6, 70, 32, 57, 23, 24, 25, 71, 72, 73, 74, 10, 11, 12, 13, 14, 15, 47, 48, 49, 50, 51, 52, 75, 76, 77, 78, 79, 41, 42, 43, 44, 45, 46, 80, 81, 82, 83, 99, 100, 101, 102, 103, 104, 105, 106, 107, 108, 109, 110, 111, 112, 113, 114, 115, 116, 117, 121] (by decide +kernel) (by decide +kernel)
set_option maxRecDepth 20000 in
theorem gX3_firstBreach_X3_isUnfounded : GoodIn wsX3_firstBreach (wsV RX3 138 RX3 yX3_isUnfounded wsX3_isUnfounded) := goodIn_app (goodIn_of _ (by decide +kernel)) ggX3_firstBreach_X3_isUnfounded
set_option maxRecDepth 20000 in
theorem ggX3_firstBreach_X3_isLate : GoodIn wsX3_firstBreach wsX3_isLate := goodIn_r _ [87, 1, 32, 33, 88, 89, 90, 13, 91, 92, 93, 94, 95, 96, 97, 98, 76, 77, 78, 15, 79, 41, 42, 43, 44, 45, 46, 23, 24, 25, 99, 100, 101, 102, 103, 104, 105, 106, 107, 108, 109, 110, 111, 112, 113, 114, 115, 116, 117] (by decide +kernel) (by decide +kernel)
set_option maxRecDepth 20000 in
theorem gX3_firstBreach_X3_isLate : GoodIn wsX3_firstBreach (wsV RX3 141 RX3 yX3_isLate wsX3_isLate) := goodIn_app (goodIn_of _ (by decide +kernel)) ggX3_firstBreach_X3_isLate
theorem dX3_firstBreach_0 : decode cX3_firstBreach 0 = .ok (.aload_n 0, 1) := by decide +kernel
theorem dX3_firstBreach_1 : decode cX3_firstBreach 1 = .ok (.invokevirtual 129, 3) := by decide +kernel
theorem dX3_firstBreach_4 : decode cX3_firstBreach 4 = .ok (.istore_n 1, 1) := by decide +kernel
theorem dX3_firstBreach_5 : decode cX3_firstBreach 5 = .ok (.aload_n 0, 1) := by decide +kernel
theorem dX3_firstBreach_6 : decode cX3_firstBreach 6 = .ok (.aload_n 0, 1) := by decide +kernel
theorem dX3_firstBreach_7 : decode cX3_firstBreach 7 = .ok (.getfield 44, 3) := by decide +kernel
