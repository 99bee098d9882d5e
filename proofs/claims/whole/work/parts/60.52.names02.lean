theorem dX3_firstBreach_10 : decode cX3_firstBreach 10 = .ok (.invokevirtual 55, 3) := by decide +kernel
theorem dX3_firstBreach_13 : decode cX3_firstBreach 13 = .ok (.invokevirtual 132, 3) := by decide +kernel
theorem dX3_firstBreach_16 : decode cX3_firstBreach 16 = .ok (.istore_n 2, 1) := by decide +kernel
theorem dX3_firstBreach_17 : decode cX3_firstBreach 17 = .ok (.aload_n 0, 1) := by decide +kernel
theorem dX3_firstBreach_18 : decode cX3_firstBreach 18 = .ok (.getfield 44, 3) := by decide +kernel
theorem dX3_firstBreach_21 : decode cX3_firstBreach 21 = .ok (.getfield 107, 3) := by decide +kernel
theorem dX3_firstBreach_24 : decode cX3_firstBreach 24 = .ok (.iconst 2, 1) := by decide +kernel
theorem dX3_firstBreach_25 : decode cX3_firstBreach 25 = .ok (.if_icmp .ne 7, 3) := by decide +kernel
theorem dX3_firstBreach_28 : decode cX3_firstBreach 28 = .ok (.iload_n 2, 1) := by decide +kernel
theorem dX3_firstBreach_29 : decode cX3_firstBreach 29 = .ok (.goto 8, 3) := by decide +kernel
theorem dX3_firstBreach_32 : decode cX3_firstBreach 32 = .ok (.aload_n 0, 1) := by decide +kernel
theorem dX3_firstBreach_33 : decode cX3_firstBreach 33 = .ok (.iload_n 1, 1) := by decide +kernel
theorem dX3_firstBreach_34 : decode cX3_firstBreach 34 = .ok (.invokevirtual 132, 3) := by decide +kernel
theorem dX3_firstBreach_37 : decode cX3_firstBreach 37 = .ok (.istore_n 3, 1) := by decide +kernel
theorem dX3_firstBreach_38 : decode cX3_firstBreach 38 = .ok (.aload_n 0, 1) := by decide +kernel
theorem dX3_firstBreach_39 : decode cX3_firstBreach 39 = .ok (.iload_n 1, 1) := by decide +kernel
theorem dX3_firstBreach_40 : decode cX3_firstBreach 40 = .ok (.iload_n 3, 1) := by decide +kernel
theorem dX3_firstBreach_41 : decode cX3_firstBreach 41 = .ok (.invokevirtual 135, 3) := by decide +kernel
theorem dX3_firstBreach_44 : decode cX3_firstBreach 44 = .ok (.ifCond .eq 5, 3) := by decide +kernel
theorem dX3_firstBreach_47 : decode cX3_firstBreach 47 = .ok (.iconst 1, 1) := by decide +kernel
theorem dX3_firstBreach_48 : decode cX3_firstBreach 48 = .ok (.ireturn, 1) := by decide +kernel
theorem dX3_firstBreach_49 : decode cX3_firstBreach 49 = .ok (.aload_n 0, 1) := by decide +kernel
theorem dX3_firstBreach_50 : decode cX3_firstBreach 50 = .ok (.iload_n 1, 1) := by decide +kernel
theorem dX3_firstBreach_51 : decode cX3_firstBreach 51 = .ok (.iload_n 2, 1) := by decide +kernel
theorem dX3_firstBreach_52 : decode cX3_firstBreach 52 = .ok (.invokevirtual 138, 3) := by decide +kernel
theorem dX3_firstBreach_55 : decode cX3_firstBreach 55 = .ok (.ifCond .eq 5, 3) := by decide +kernel
theorem dX3_firstBreach_58 : decode cX3_firstBreach 58 = .ok (.iconst 2, 1) := by decide +kernel
theorem dX3_firstBreach_59 : decode cX3_firstBreach 59 = .ok (.ireturn, 1) := by decide +kernel
theorem dX3_firstBreach_60 : decode cX3_firstBreach 60 = .ok (.aload_n 0, 1) := by decide +kernel
theorem dX3_firstBreach_61 : decode cX3_firstBreach 61 = .ok (.iload_n 1, 1) := by decide +kernel
theorem dX3_firstBreach_62 : decode cX3_firstBreach 62 = .ok (.invokevirtual 141, 3) := by decide +kernel
theorem dX3_firstBreach_65 : decode cX3_firstBreach 65 = .ok (.ifCond .eq 7, 3) := by decide +kernel
theorem dX3_firstBreach_68 : decode cX3_firstBreach 68 = .ok (.iconst 3, 1) := by decide +kernel
theorem dX3_firstBreach_69 : decode cX3_firstBreach 69 = .ok (.goto 4, 3) := by decide +kernel
theorem dX3_firstBreach_72 : decode cX3_firstBreach 72 = .ok (.iconst 0, 1) := by decide +kernel
theorem dX3_firstBreach_73 : decode cX3_firstBreach 73 = .ok (.ireturn, 1) := by decide +kernel
set_option maxRecDepth 20000 in
theorem ggX3_disagrees_X3_isSameFor : GoodIn wsX3_disagrees wsX3_isSameFor := goodIn_r _ [9, 1, 10, 11, 12, 13, 21, 22, 23, 24, 25, 26, 27, 28, 29, 30, 31, 32, 33, 34, 35, 36, 37, 38, 39] (by decide +kernel) (by decide +kernel)
set_option maxRecDepth 20000 in
theorem gX3_disagrees_X3_isSameFor : GoodIn wsX3_disagrees (wsV RX3 122 RX3 yX3_isSameFor wsX3_isSameFor) := goodIn_app (goodIn_of _ (by decide +kernel)) ggX3_disagrees_X3_isSameFor
set_option maxRecDepth 20000 in
theorem ggX3_disagrees_J6_bitCount_0f7a4 : GoodIn wsX3_disagrees wsJ6_bitCount_0f7a4 := goodIn_r _ [17, 18, 19, 20] (by decide +kernel) (by decide +kernel)
set_option maxRecDepth 20000 in
theorem gX3_disagrees_J6_bitCount_0f7a4 : GoodIn wsX3_disagrees (va_wsS RX3 101 yJ6_bitCount_0f7a4 wsJ6_bitCount_0f7a4) := goodIn_app (goodIn_of _ (by decide +kernel)) ggX3_disagrees_J6_bitCount_0f7a4
theorem dX3_disagrees_0 : decode cX3_disagrees 0 = .ok (.aload_n 0, 1) := by decide +kernel
theorem dX3_disagrees_1 : decode cX3_disagrees 1 = .ok (.getfield 44, 3) := by decide +kernel
theorem dX3_disagrees_4 : decode cX3_disagrees 4 = .ok (.getfield 107, 3) := by decide +kernel
theorem dX3_disagrees_7 : decode cX3_disagrees 7 = .ok (.iconst 4, 1) := by decide +kernel
theorem dX3_disagrees_8 : decode cX3_disagrees 8 = .ok (.if_icmp .ne 21, 3) := by decide +kernel
theorem dX3_disagrees_11 : decode cX3_disagrees 11 = .ok (.aload_n 0, 1) := by decide +kernel
theorem dX3_disagrees_12 : decode cX3_disagrees 12 = .ok (.iload_n 1, 1) := by decide +kernel
theorem dX3_disagrees_13 : decode cX3_disagrees 13 = .ok (.aload_n 0, 1) := by decide +kernel
theorem dX3_disagrees_14 : decode cX3_disagrees 14 = .ok (.getfield 25, 3) := by decide +kernel
theorem dX3_disagrees_17 : decode cX3_disagrees 17 = .ok (.invokevirtual 122, 3) := by decide +kernel
theorem dX3_disagrees_20 : decode cX3_disagrees 20 = .ok (.ifCond .ne 7, 3) := by decide +kernel
theorem dX3_disagrees_23 : decode cX3_disagrees 23 = .ok (.iconst 1, 1) := by decide +kernel
theorem dX3_disagrees_24 : decode cX3_disagrees 24 = .ok (.goto 4, 3) := by decide +kernel
theorem dX3_disagrees_27 : decode cX3_disagrees 27 = .ok (.iconst 0, 1) := by decide +kernel
theorem dX3_disagrees_28 : decode cX3_disagrees 28 = .ok (.ireturn, 1) := by decide +kernel
theorem dX3_disagrees_29 : decode cX3_disagrees 29 = .ok (.iload_n 2, 1) := by decide +kernel
theorem dX3_disagrees_30 : decode cX3_disagrees 30 = .ok (.invokestatic 101, 3) := by decide +kernel
theorem dX3_disagrees_33 : decode cX3_disagrees 33 = .ok (.aload_n 0, 1) := by decide +kernel
theorem dX3_disagrees_34 : decode cX3_disagrees 34 = .ok (.getfield 44, 3) := by decide +kernel
theorem dX3_disagrees_37 : decode cX3_disagrees 37 = .ok (.getfield 144, 3) := by decide +kernel
theorem dX3_disagrees_40 : decode cX3_disagrees 40 = .ok (.if_icmp .le 7, 3) := by decide +kernel
theorem dX3_disagrees_43 : decode cX3_disagrees 43 = .ok (.iconst 1, 1) := by decide +kernel
theorem dX3_disagrees_44 : decode cX3_disagrees 44 = .ok (.goto 4, 3) := by decide +kernel
theorem dX3_disagrees_47 : decode cX3_disagrees 47 = .ok (.iconst 0, 1) := by decide +kernel
theorem dX3_disagrees_48 : decode cX3_disagrees 48 = .ok (.ireturn, 1) := by decide +kernel
set_option maxRecDepth 20000 in
theorem ggX3_decisionsOf_X5_has : GoodIn wsX3_decisionsOf wsX5_has := goodIn_r _ [7] (by decide +kernel) (by decide +kernel)
set_option maxRecDepth 20000 in
theorem gX3_decisionsOf_X5_has_n84 : GoodIn wsX3_decisionsOf (wsX5_has) := ggX3_decisionsOf_X5_has
set_option maxRecDepth 20000 in
theorem ggX3_decisionsOf_X3_decisionFrom : GoodIn wsX3_decisionsOf wsX3_decisionFrom := goodIn_r _ [12, 1, 13, 14, 15, 16, 17, 18, 19, 20, 21, 22, 23, 24, 25, 26, 27, 28, 29, 30, 31, 32, 33, 5, 6, 7, 34, 35, 36, 37, 38, 39, 40, 41, 42, 43, 44, 45, 46, 47, 48, 49, 50, 51, 52, 53] (by decide +kernel) (by decide +kernel)
set_option maxRecDepth 20000 in
theorem gX3_decisionsOf_X3_decisionFrom : GoodIn wsX3_decisionsOf (wsV RX3 147 RX3 yX3_decisionFrom wsX3_decisionFrom) := goodIn_app (goodIn_of _ (by decide +kernel)) ggX3_decisionsOf_X3_decisionFrom
theorem dX3_decisionsOf_0 : decode cX3_decisionsOf 0 = .ok (.iconst 0, 1) := by decide +kernel
theorem dX3_decisionsOf_1 : decode cX3_decisionsOf 1 = .ok (.istore_n 2, 1) := by decide +kernel
theorem dX3_decisionsOf_2 : decode cX3_decisionsOf 2 = .ok (.iconst 0, 1) := by decide +kernel
theorem dX3_decisionsOf_3 : decode cX3_decisionsOf 3 = .ok (.istore_n 3, 1) := by decide +kernel
theorem dX3_decisionsOf_4 : decode cX3_decisionsOf 4 = .ok (.iconst 0, 1) := by decide +kernel
theorem dX3_decisionsOf_5 : decode cX3_decisionsOf 5 = .ok (.istore 4, 2) := by decide +kernel
theorem dX3_decisionsOf_7 : decode cX3_decisionsOf 7 = .ok (.iload 4, 2) := by decide +kernel
theorem dX3_decisionsOf_9 : decode cX3_decisionsOf 9 = .ok (.aload_n 0, 1) := by decide +kernel
theorem dX3_decisionsOf_10 : decode cX3_decisionsOf 10 = .ok (.getfield 44, 3) := by decide +kernel
theorem dX3_decisionsOf_13 : decode cX3_decisionsOf 13 = .ok (.getfield 67, 3) := by decide +kernel
theorem dX3_decisionsOf_16 : decode cX3_decisionsOf 16 = .ok (.if_icmp .ge 57, 3) := by decide +kernel
theorem dX3_decisionsOf_19 : decode cX3_decisionsOf 19 = .ok (.iload_n 1, 1) := by decide +kernel
theorem dX3_decisionsOf_20 : decode cX3_decisionsOf 20 = .ok (.iload 4, 2) := by decide +kernel
theorem dX3_decisionsOf_22 : decode cX3_decisionsOf 22 = .ok (.invokestatic 84, 3) := by decide +kernel
theorem dX3_decisionsOf_25 : decode cX3_decisionsOf 25 = .ok (.ifCond .eq 42, 3) := by decide +kernel
theorem dX3_decisionsOf_28 : decode cX3_decisionsOf 28 = .ok (.aload_n 0, 1) := by decide +kernel
theorem dX3_decisionsOf_29 : decode cX3_decisionsOf 29 = .ok (.getfield 32, 3) := by decide +kernel
theorem dX3_decisionsOf_32 : decode cX3_decisionsOf 32 = .ok (.iload 4, 2) := by decide +kernel
theorem dX3_decisionsOf_34 : decode cX3_decisionsOf 34 = .ok (.iaload, 1) := by decide +kernel
theorem dX3_decisionsOf_35 : decode cX3_decisionsOf 35 = .ok (.ifCond .eq 32, 3) := by decide +kernel
theorem dX3_decisionsOf_38 : decode cX3_decisionsOf 38 = .ok (.aload_n 0, 1) := by decide +kernel
theorem dX3_decisionsOf_39 : decode cX3_decisionsOf 39 = .ok (.getfield 35, 3) := by decide +kernel
theorem dX3_decisionsOf_42 : decode cX3_decisionsOf 42 = .ok (.iload 4, 2) := by decide +kernel
theorem dX3_decisionsOf_44 : decode cX3_decisionsOf 44 = .ok (.iaload, 1) := by decide +kernel
theorem dX3_decisionsOf_45 : decode cX3_decisionsOf 45 = .ok (.iload_n 3, 1) := by decide +kernel
theorem dX3_decisionsOf_46 : decode cX3_decisionsOf 46 = .ok (.if_icmp .eq 21, 3) := by decide +kernel
theorem dX3_decisionsOf_49 : decode cX3_decisionsOf 49 = .ok (.aload_n 0, 1) := by decide +kernel
theorem dX3_decisionsOf_50 : decode cX3_decisionsOf 50 = .ok (.getfield 35, 3) := by decide +kernel
theorem dX3_decisionsOf_53 : decode cX3_decisionsOf 53 = .ok (.iload 4, 2) := by decide +kernel
theorem dX3_decisionsOf_55 : decode cX3_decisionsOf 55 = .ok (.iaload, 1) := by decide +kernel
theorem dX3_decisionsOf_56 : decode cX3_decisionsOf 56 = .ok (.istore_n 3, 1) := by decide +kernel
theorem dX3_decisionsOf_57 : decode cX3_decisionsOf 57 = .ok (.iload_n 2, 1) := by decide +kernel
theorem dX3_decisionsOf_58 : decode cX3_decisionsOf 58 = .ok (.iconst 1, 1) := by decide +kernel
theorem dX3_decisionsOf_59 : decode cX3_decisionsOf 59 = .ok (.aload_n 0, 1) := by decide +kernel
theorem dX3_decisionsOf_60 : decode cX3_decisionsOf 60 = .ok (.iload_n 3, 1) := by decide +kernel
theorem dX3_decisionsOf_61 : decode cX3_decisionsOf 61 = .ok (.invokevirtual 147, 3) := by decide +kernel
theorem dX3_decisionsOf_64 : decode cX3_decisionsOf 64 = .ok (.ishl, 1) := by decide +kernel
theorem dX3_decisionsOf_65 : decode cX3_decisionsOf 65 = .ok (.ior, 1) := by decide +kernel
theorem dX3_decisionsOf_66 : decode cX3_decisionsOf 66 = .ok (.istore_n 2, 1) := by decide +kernel
theorem dX3_decisionsOf_67 : decode cX3_decisionsOf 67 = .ok (.iinc 4 1, 3) := by decide +kernel
theorem dX3_decisionsOf_70 : decode cX3_decisionsOf 70 = .ok (.goto (-63), 3) := by decide +kernel
theorem dX3_decisionsOf_73 : decode cX3_decisionsOf 73 = .ok (.iload_n 2, 1) := by decide +kernel
theorem dX3_decisionsOf_74 : decode cX3_decisionsOf 74 = .ok (.ireturn, 1) := by decide +kernel
set_option maxRecDepth 20000 in
theorem ggX3_isUnfounded_X3_missesSomeOf : GoodIn wsX3_isUnfounded wsX3_missesSomeOf := goodIn_r _ [8, 1, 9, 10, 11, 12, 13, 45, 46, 47, 48, 49, 50, 51, 52, 53, 54, 55, 56, 57, 58, 59, 60, 61, 62, 63] (by decide +kernel) (by decide +kernel)
set_option maxRecDepth 20000 in
theorem gX3_isUnfounded_X3_missesSomeOf : GoodIn wsX3_isUnfounded (wsV RX3 150 RX3 yX3_missesSomeOf wsX3_missesSomeOf) := goodIn_app (goodIn_of _ (by decide +kernel)) ggX3_isUnfounded_X3_missesSomeOf
set_option maxRecDepth 20000 in
theorem ggX3_isUnfounded_X3_commitsWrongly : GoodIn wsX3_isUnfounded wsX3_commitsWrongly := goodIn_r _ [17, 3, 1, 18, 19, 20, 21, 22, 23, 24, 25, 26, 27, 28, 29, 11, 12, 13, 30, 31, 32, 33, 34, 35, 36, 37, 38, 39, 40, 45, 46, 47, 48, 49, 50, 51, 52, 53, 54, 55, 56, 57, 58, 59, 60, 61, 62, 63, 64] (by decide +kernel) (by decide +kernel)
set_option maxRecDepth 20000 in
theorem gX3_isUnfounded_X3_commitsWrongly : GoodIn wsX3_isUnfounded (wsV RX3 153 RX3 yX3_commitsWrongly wsX3_commitsWrongly) := goodIn_app (goodIn_of _ (by decide +kernel)) ggX3_isUnfounded_X3_commitsWrongly
set_option maxRecDepth 20000 in
theorem ggX3_isUnfounded_X2_everyone : GoodIn wsX3_isUnfounded wsX2_everyone := goodIn_r _ [22, 23, 59, 60, 61, 62, 63] (by decide +kernel) (by decide +kernel)
set_option maxRecDepth 20000 in
theorem gX3_isUnfounded_X2_everyone : GoodIn wsX3_isUnfounded (wsV RX3 55 RX2 yX2_everyone wsX2_everyone) := goodIn_app (goodIn_of _ (by decide +kernel)) ggX3_isUnfounded_X2_everyone
set_option maxRecDepth 20000 in
theorem ggX3_isUnfounded_X0_asBits : GoodIn wsX3_isUnfounded wsX0_asBits := goodIn_r _ [44, 29, 11, 12, 13, 64] (by decide +kernel) (by decide +kernel)
set_option maxRecDepth 20000 in
theorem gX3_isUnfounded_X0_asBits : GoodIn wsX3_isUnfounded (wsV RX3 156 RX0 yX0_asBits wsX0_asBits) := goodIn_app (goodIn_of _ (by decide +kernel)) ggX3_isUnfounded_X0_asBits
theorem dX3_isUnfounded_0 : decode cX3_isUnfounded 0 = .ok (.aload_n 0, 1) := by decide +kernel
theorem dX3_isUnfounded_1 : decode cX3_isUnfounded 1 = .ok (.getfield 44, 3) := by decide +kernel
theorem dX3_isUnfounded_4 : decode cX3_isUnfounded 4 = .ok (.getfield 107, 3) := by decide +kernel
theorem dX3_isUnfounded_7 : decode cX3_isUnfounded 7 = .ok (.lookupswitch 38 #[(4, 25), (5, 31)], 25) := by decide +kernel
theorem dX3_isUnfounded_32 : decode cX3_isUnfounded 32 = .ok (.aload_n 0, 1) := by decide +kernel
theorem dX3_isUnfounded_33 : decode cX3_isUnfounded 33 = .ok (.iload_n 1, 1) := by decide +kernel
theorem dX3_isUnfounded_34 : decode cX3_isUnfounded 34 = .ok (.invokevirtual 150, 3) := by decide +kernel
theorem dX3_isUnfounded_37 : decode cX3_isUnfounded 37 = .ok (.ireturn, 1) := by decide +kernel
theorem dX3_isUnfounded_38 : decode cX3_isUnfounded 38 = .ok (.aload_n 0, 1) := by decide +kernel
theorem dX3_isUnfounded_39 : decode cX3_isUnfounded 39 = .ok (.iload_n 1, 1) := by decide +kernel
theorem dX3_isUnfounded_40 : decode cX3_isUnfounded 40 = .ok (.iload_n 2, 1) := by decide +kernel
theorem dX3_isUnfounded_41 : decode cX3_isUnfounded 41 = .ok (.invokevirtual 153, 3) := by decide +kernel
theorem dX3_isUnfounded_44 : decode cX3_isUnfounded 44 = .ok (.ireturn, 1) := by decide +kernel
theorem dX3_isUnfounded_45 : decode cX3_isUnfounded 45 = .ok (.iload_n 2, 1) := by decide +kernel
theorem dX3_isUnfounded_46 : decode cX3_isUnfounded 46 = .ok (.aload_n 0, 1) := by decide +kernel
theorem dX3_isUnfounded_47 : decode cX3_isUnfounded 47 = .ok (.getfield 12, 3) := by decide +kernel
theorem dX3_isUnfounded_50 : decode cX3_isUnfounded 50 = .ok (.aload_n 0, 1) := by decide +kernel
theorem dX3_isUnfounded_51 : decode cX3_isUnfounded 51 = .ok (.getfield 44, 3) := by decide +kernel
theorem dX3_isUnfounded_54 : decode cX3_isUnfounded 54 = .ok (.invokevirtual 55, 3) := by decide +kernel
theorem dX3_isUnfounded_57 : decode cX3_isUnfounded 57 = .ok (.invokevirtual 156, 3) := by decide +kernel
theorem dX3_isUnfounded_60 : decode cX3_isUnfounded 60 = .ok (.iconst (-1), 1) := by decide +kernel
theorem dX3_isUnfounded_61 : decode cX3_isUnfounded 61 = .ok (.ixor, 1) := by decide +kernel
theorem dX3_isUnfounded_62 : decode cX3_isUnfounded 62 = .ok (.iand, 1) := by decide +kernel
theorem dX3_isUnfounded_63 : decode cX3_isUnfounded 63 = .ok (.ifCond .eq 7, 3) := by decide +kernel
theorem dX3_isUnfounded_66 : decode cX3_isUnfounded 66 = .ok (.iconst 1, 1) := by decide +kernel
theorem dX3_isUnfounded_67 : decode cX3_isUnfounded 67 = .ok (.goto 4, 3) := by decide +kernel
theorem dX3_isUnfounded_70 : decode cX3_isUnfounded 70 = .ok (.iconst 0, 1) := by decide +kernel
theorem dX3_isUnfounded_71 : decode cX3_isUnfounded 71 = .ok (.ireturn, 1) := by decide +kernel
set_option maxRecDepth 20000 in
theorem ggX3_commitsWrongly_X2_everyone : GoodIn wsX3_commitsWrongly wsX2_everyone := goodIn_r _ [7, 8, 43, 44, 45, 46, 47] (by decide +kernel) (by decide +kernel)
set_option maxRecDepth 20000 in
theorem gX3_commitsWrongly_X2_everyone : GoodIn wsX3_commitsWrongly (wsV RX3 55 RX2 yX2_everyone wsX2_everyone) := goodIn_app (goodIn_of _ (by decide +kernel)) ggX3_commitsWrongly_X2_everyone
set_option maxRecDepth 20000 in
theorem ggX3_commitsWrongly_X0_least : GoodIn wsX3_commitsWrongly wsX0_least := goodIn_r _ [13, 14, 15, 16, 17, 48] (by decide +kernel) (by decide +kernel)
set_option maxRecDepth 20000 in
theorem gX3_commitsWrongly_X0_least : GoodIn wsX3_commitsWrongly (wsV RX3 126 RX0 yX0_least wsX0_least) := goodIn_app (goodIn_of _ (by decide +kernel)) ggX3_commitsWrongly_X0_least
set_option maxRecDepth 20000 in
theorem ggX3_commitsWrongly_X5_has : GoodIn wsX3_commitsWrongly wsX5_has := goodIn_r _ [17] (by decide +kernel) (by decide +kernel)
set_option maxRecDepth 20000 in
theorem gX3_commitsWrongly_X5_has_n84 : GoodIn wsX3_commitsWrongly (wsX5_has) := ggX3_commitsWrongly_X5_has
set_option maxRecDepth 20000 in
theorem ggX3_commitsWrongly_X2_faultsBeside : GoodIn wsX3_commitsWrongly wsX2_faultsBeside := goodIn_r _ [21, 8, 22, 23, 24, 25, 26, 27, 28, 43, 44, 45, 46, 47] (by decide +kernel) (by decide +kernel)
set_option maxRecDepth 20000 in
theorem gX3_commitsWrongly_X2_faultsBeside : GoodIn wsX3_commitsWrongly (wsV RX3 159 RX2 yX2_faultsBeside wsX2_faultsBeside) := goodIn_app (goodIn_of _ (by decide +kernel)) ggX3_commitsWrongly_X2_faultsBeside
theorem dX3_commitsWrongly_0 : decode cX3_commitsWrongly 0 = .ok (.aload_n 0, 1) := by decide +kernel
theorem dX3_commitsWrongly_1 : decode cX3_commitsWrongly 1 = .ok (.getfield 12, 3) := by decide +kernel
theorem dX3_commitsWrongly_4 : decode cX3_commitsWrongly 4 = .ok (.aload_n 0, 1) := by decide +kernel
theorem dX3_commitsWrongly_5 : decode cX3_commitsWrongly 5 = .ok (.getfield 44, 3) := by decide +kernel
theorem dX3_commitsWrongly_8 : decode cX3_commitsWrongly 8 = .ok (.invokevirtual 55, 3) := by decide +kernel
theorem dX3_commitsWrongly_11 : decode cX3_commitsWrongly 11 = .ok (.invokevirtual 126, 3) := by decide +kernel
theorem dX3_commitsWrongly_14 : decode cX3_commitsWrongly 14 = .ok (.ifCond .ne 9, 3) := by decide +kernel
theorem dX3_commitsWrongly_17 : decode cX3_commitsWrongly 17 = .ok (.iload_n 2, 1) := by decide +kernel
theorem dX3_commitsWrongly_18 : decode cX3_commitsWrongly 18 = .ok (.iconst 1, 1) := by decide +kernel
theorem dX3_commitsWrongly_19 : decode cX3_commitsWrongly 19 = .ok (.invokestatic 84, 3) := by decide +kernel
theorem dX3_commitsWrongly_22 : decode cX3_commitsWrongly 22 = .ok (.ireturn, 1) := by decide +kernel
theorem dX3_commitsWrongly_23 : decode cX3_commitsWrongly 23 = .ok (.iload_n 2, 1) := by decide +kernel
theorem dX3_commitsWrongly_24 : decode cX3_commitsWrongly 24 = .ok (.iconst 0, 1) := by decide +kernel
theorem dX3_commitsWrongly_25 : decode cX3_commitsWrongly 25 = .ok (.invokestatic 84, 3) := by decide +kernel
theorem dX3_commitsWrongly_28 : decode cX3_commitsWrongly 28 = .ok (.ifCond .eq 18, 3) := by decide +kernel
theorem dX3_commitsWrongly_31 : decode cX3_commitsWrongly 31 = .ok (.aload_n 0, 1) := by decide +kernel
theorem dX3_commitsWrongly_32 : decode cX3_commitsWrongly 32 = .ok (.getfield 44, 3) := by decide +kernel
theorem dX3_commitsWrongly_35 : decode cX3_commitsWrongly 35 = .ok (.iload_n 1, 1) := by decide +kernel
theorem dX3_commitsWrongly_36 : decode cX3_commitsWrongly 36 = .ok (.invokevirtual 159, 3) := by decide +kernel
theorem dX3_commitsWrongly_39 : decode cX3_commitsWrongly 39 = .ok (.ifCond .ne 7, 3) := by decide +kernel
theorem dX3_commitsWrongly_42 : decode cX3_commitsWrongly 42 = .ok (.iconst 1, 1) := by decide +kernel
theorem dX3_commitsWrongly_43 : decode cX3_commitsWrongly 43 = .ok (.goto 4, 3) := by decide +kernel
theorem dX3_commitsWrongly_46 : decode cX3_commitsWrongly 46 = .ok (.iconst 0, 1) := by decide +kernel
theorem dX3_commitsWrongly_47 : decode cX3_commitsWrongly 47 = .ok (.ireturn, 1) := by decide +kernel
set_option maxRecDepth 20000 in
theorem ggX3_missesSomeOf_X5_has : GoodIn wsX3_missesSomeOf wsX5_has := goodIn_r _ [6] (by decide +kernel) (by decide +kernel)
set_option maxRecDepth 20000 in
theorem gX3_missesSomeOf_X5_has_n84 : GoodIn wsX3_missesSomeOf (wsX5_has) := ggX3_missesSomeOf_X5_has
theorem dX3_missesSomeOf_0 : decode cX3_missesSomeOf 0 = .ok (.iconst 0, 1) := by decide +kernel
theorem dX3_missesSomeOf_1 : decode cX3_missesSomeOf 1 = .ok (.istore_n 2, 1) := by decide +kernel
theorem dX3_missesSomeOf_2 : decode cX3_missesSomeOf 2 = .ok (.iload_n 2, 1) := by decide +kernel
theorem dX3_missesSomeOf_3 : decode cX3_missesSomeOf 3 = .ok (.aload_n 0, 1) := by decide +kernel
theorem dX3_missesSomeOf_4 : decode cX3_missesSomeOf 4 = .ok (.getfield 44, 3) := by decide +kernel
theorem dX3_missesSomeOf_7 : decode cX3_missesSomeOf 7 = .ok (.getfield 67, 3) := by decide +kernel
theorem dX3_missesSomeOf_10 : decode cX3_missesSomeOf 10 = .ok (.if_icmp .ge 32, 3) := by decide +kernel
theorem dX3_missesSomeOf_13 : decode cX3_missesSomeOf 13 = .ok (.iload_n 1, 1) := by decide +kernel
theorem dX3_missesSomeOf_14 : decode cX3_missesSomeOf 14 = .ok (.iload_n 2, 1) := by decide +kernel
theorem dX3_missesSomeOf_15 : decode cX3_missesSomeOf 15 = .ok (.invokestatic 84, 3) := by decide +kernel
theorem dX3_missesSomeOf_18 : decode cX3_missesSomeOf 18 = .ok (.ifCond .eq 18, 3) := by decide +kernel
theorem dX3_missesSomeOf_21 : decode cX3_missesSomeOf 21 = .ok (.iload_n 1, 1) := by decide +kernel
theorem dX3_missesSomeOf_22 : decode cX3_missesSomeOf 22 = .ok (.aload_n 0, 1) := by decide +kernel
theorem dX3_missesSomeOf_23 : decode cX3_missesSomeOf 23 = .ok (.getfield 25, 3) := by decide +kernel
theorem dX3_missesSomeOf_26 : decode cX3_missesSomeOf 26 = .ok (.iload_n 2, 1) := by decide +kernel
theorem dX3_missesSomeOf_27 : decode cX3_missesSomeOf 27 = .ok (.iaload, 1) := by decide +kernel
theorem dX3_missesSomeOf_28 : decode cX3_missesSomeOf 28 = .ok (.iconst (-1), 1) := by decide +kernel
theorem dX3_missesSomeOf_29 : decode cX3_missesSomeOf 29 = .ok (.ixor, 1) := by decide +kernel
theorem dX3_missesSomeOf_30 : decode cX3_missesSomeOf 30 = .ok (.iand, 1) := by decide +kernel
theorem dX3_missesSomeOf_31 : decode cX3_missesSomeOf 31 = .ok (.ifCond .eq 5, 3) := by decide +kernel
theorem dX3_missesSomeOf_34 : decode cX3_missesSomeOf 34 = .ok (.iconst 1, 1) := by decide +kernel
theorem dX3_missesSomeOf_35 : decode cX3_missesSomeOf 35 = .ok (.ireturn, 1) := by decide +kernel
theorem dX3_missesSomeOf_36 : decode cX3_missesSomeOf 36 = .ok (.iinc 2 1, 3) := by decide +kernel
theorem dX3_missesSomeOf_39 : decode cX3_missesSomeOf 39 = .ok (.goto (-37), 3) := by decide +kernel
theorem dX3_missesSomeOf_42 : decode cX3_missesSomeOf 42 = .ok (.iconst 0, 1) := by decide +kernel
theorem dX3_missesSomeOf_43 : decode cX3_missesSomeOf 43 = .ok (.ireturn, 1) := by decide +kernel
set_option maxRecDepth 20000 in
theorem ggX3_isLate_X2_boundFor : GoodIn wsX3_isLate wsX2_boundFor := goodIn_r _ [8, 9, 10, 11, 12, 13, 14, 15, 16, 17, 7, 18, 19, 20, 21, 22, 23, 24, 25, 26, 44, 45, 46, 47, 48] (by decide +kernel) (by decide +kernel)
set_option maxRecDepth 20000 in
theorem gX3_isLate_X2_boundFor : GoodIn wsX3_isLate (wsV RX3 162 RX2 yX2_boundFor wsX2_boundFor) := goodIn_app (goodIn_of _ (by decide +kernel)) ggX3_isLate_X2_boundFor
set_option maxRecDepth 20000 in
theorem ggX3_isLate_X5_has : GoodIn wsX3_isLate wsX5_has := goodIn_r _ [29] (by decide +kernel) (by decide +kernel)
set_option maxRecDepth 20000 in
theorem gX3_isLate_X5_has_n84 : GoodIn wsX3_isLate (wsX5_has) := ggX3_isLate_X5_has
theorem dX3_isLate_0 : decode cX3_isLate 0 = .ok (.aload_n 0, 1) := by decide +kernel
theorem dX3_isLate_1 : decode cX3_isLate 1 = .ok (.getfield 44, 3) := by decide +kernel
theorem dX3_isLate_4 : decode cX3_isLate 4 = .ok (.iload_n 1, 1) := by decide +kernel
theorem dX3_isLate_5 : decode cX3_isLate 5 = .ok (.invokevirtual 162, 3) := by decide +kernel
theorem dX3_isLate_8 : decode cX3_isLate 8 = .ok (.istore_n 2, 1) := by decide +kernel
theorem dX3_isLate_9 : decode cX3_isLate 9 = .ok (.iconst 0, 1) := by decide +kernel
theorem dX3_isLate_10 : decode cX3_isLate 10 = .ok (.istore_n 3, 1) := by decide +kernel
theorem dX3_isLate_11 : decode cX3_isLate 11 = .ok (.iload_n 3, 1) := by decide +kernel
theorem dX3_isLate_12 : decode cX3_isLate 12 = .ok (.aload_n 0, 1) := by decide +kernel
theorem dX3_isLate_13 : decode cX3_isLate 13 = .ok (.getfield 44, 3) := by decide +kernel
theorem dX3_isLate_16 : decode cX3_isLate 16 = .ok (.getfield 67, 3) := by decide +kernel
theorem dX3_isLate_19 : decode cX3_isLate 19 = .ok (.if_icmp .ge 38, 3) := by decide +kernel
theorem dX3_isLate_22 : decode cX3_isLate 22 = .ok (.iload_n 1, 1) := by decide +kernel
theorem dX3_isLate_23 : decode cX3_isLate 23 = .ok (.iload_n 3, 1) := by decide +kernel
theorem dX3_isLate_24 : decode cX3_isLate 24 = .ok (.invokestatic 84, 3) := by decide +kernel
theorem dX3_isLate_27 : decode cX3_isLate 27 = .ok (.ifCond .eq 24, 3) := by decide +kernel
theorem dX3_isLate_30 : decode cX3_isLate 30 = .ok (.aload_n 0, 1) := by decide +kernel
theorem dX3_isLate_31 : decode cX3_isLate 31 = .ok (.getfield 32, 3) := by decide +kernel
theorem dX3_isLate_34 : decode cX3_isLate 34 = .ok (.iload_n 3, 1) := by decide +kernel
theorem dX3_isLate_35 : decode cX3_isLate 35 = .ok (.iaload, 1) := by decide +kernel
theorem dX3_isLate_36 : decode cX3_isLate 36 = .ok (.ifCond .eq 13, 3) := by decide +kernel
theorem dX3_isLate_39 : decode cX3_isLate 39 = .ok (.aload_n 0, 1) := by decide +kernel
theorem dX3_isLate_40 : decode cX3_isLate 40 = .ok (.getfield 32, 3) := by decide +kernel
theorem dX3_isLate_43 : decode cX3_isLate 43 = .ok (.iload_n 3, 1) := by decide +kernel
theorem dX3_isLate_44 : decode cX3_isLate 44 = .ok (.iaload, 1) := by decide +kernel
theorem dX3_isLate_45 : decode cX3_isLate 45 = .ok (.iload_n 2, 1) := by decide +kernel
theorem dX3_isLate_46 : decode cX3_isLate 46 = .ok (.if_icmp .le 5, 3) := by decide +kernel
theorem dX3_isLate_49 : decode cX3_isLate 49 = .ok (.iconst 1, 1) := by decide +kernel
theorem dX3_isLate_50 : decode cX3_isLate 50 = .ok (.ireturn, 1) := by decide +kernel
theorem dX3_isLate_51 : decode cX3_isLate 51 = .ok (.iinc 3 1, 3) := by decide +kernel
theorem dX3_isLate_54 : decode cX3_isLate 54 = .ok (.goto (-43), 3) := by decide +kernel
theorem dX3_isLate_57 : decode cX3_isLate 57 = .ok (.iconst 0, 1) := by decide +kernel
theorem dX3_isLate_58 : decode cX3_isLate 58 = .ok (.ireturn, 1) := by decide +kernel
set_option maxRecDepth 20000 in
theorem ggX4_init_X3_init : GoodIn wsX4_init wsX3_init := goodIn_r _ [11, 12, 2, 3, 13, 14, 15, 16, 17, 18, 19, 20, 21, 22, 23, 24, 25, 26, 27, 28, 29, 30, 31, 32, 33, 34, 35, 36, 37, 55, 41, 42, 43, 44, 45, 46, 47, 48, 49, 50, 51, 52, 53, 54, 56, 57, 58] (by decide +kernel) (by decide +kernel)
set_option maxRecDepth 20000 in
theorem gX4_init_X3_init : GoodIn wsX4_init (wsX3_init) := ggX4_init_X3_init
theorem dX4_init_0 : decode cX4_init 0 = .ok (.aload_n 0, 1) := by decide +kernel
theorem dX4_init_1 : decode cX4_init 1 = .ok (.invokespecial 1, 3) := by decide +kernel
theorem dX4_init_4 : decode cX4_init 4 = .ok (.aload_n 0, 1) := by decide +kernel
theorem dX4_init_5 : decode cX4_init 5 = .ok (.aload_n 1, 1) := by decide +kernel
theorem dX4_init_6 : decode cX4_init 6 = .ok (.putfield 7, 3) := by decide +kernel
theorem dX4_init_9 : decode cX4_init 9 = .ok (.aload_n 0, 1) := by decide +kernel
theorem dX4_init_10 : decode cX4_init 10 = .ok (.new 13, 3) := by decide +kernel
theorem dX4_init_13 : decode cX4_init 13 = .ok (.dup, 1) := by decide +kernel
theorem dX4_init_14 : decode cX4_init 14 = .ok (.aload_n 1, 1) := by decide +kernel
theorem dX4_init_15 : decode cX4_init 15 = .ok (.invokespecial 15, 3) := by decide +kernel
theorem dX4_init_18 : decode cX4_init 18 = .ok (.putfield 18, 3) := by decide +kernel
theorem dX4_init_21 : decode cX4_init 21 = .ok (.return_, 1) := by decide +kernel
theorem dX4_planCount_0 : decode cX4_planCount 0 = .ok (.aload_n 0, 1) := by decide +kernel
theorem dX4_planCount_1 : decode cX4_planCount 1 = .ok (.getfield 7, 3) := by decide +kernel
theorem dX4_planCount_4 : decode cX4_planCount 4 = .ok (.getfield 22, 3) := by decide +kernel
theorem dX4_planCount_7 : decode cX4_planCount 7 = .ok (.i2l, 1) := by decide +kernel
theorem dX4_planCount_8 : decode cX4_planCount 8 = .ok (.aload_n 0, 1) := by decide +kernel
theorem dX4_planCount_9 : decode cX4_planCount 9 = .ok (.getfield 7, 3) := by decide +kernel
theorem dX4_planCount_12 : decode cX4_planCount 12 = .ok (.getfield 28, 3) := by decide +kernel
theorem dX4_planCount_15 : decode cX4_planCount 15 = .ok (.iconst 1, 1) := by decide +kernel
theorem dX4_planCount_16 : decode cX4_planCount 16 = .ok (.isub, 1) := by decide +kernel
theorem dX4_planCount_17 : decode cX4_planCount 17 = .ok (.lshl, 1) := by decide +kernel
theorem dX4_planCount_18 : decode cX4_planCount 18 = .ok (.lstore_n 1, 1) := by decide +kernel
theorem dX4_planCount_19 : decode cX4_planCount 19 = .ok (.lconst 1, 1) := by decide +kernel
theorem dX4_planCount_20 : decode cX4_planCount 20 = .ok (.lstore_n 3, 1) := by decide +kernel
theorem dX4_planCount_21 : decode cX4_planCount 21 = .ok (.lconst 1, 1) := by decide +kernel
theorem dX4_planCount_22 : decode cX4_planCount 22 = .ok (.lstore 5, 2) := by decide +kernel
theorem dX4_planCount_24 : decode cX4_planCount 24 = .ok (.lconst 1, 1) := by decide +kernel
theorem dX4_planCount_25 : decode cX4_planCount 25 = .ok (.lstore 7, 2) := by decide +kernel
theorem dX4_planCount_27 : decode cX4_planCount 27 = .ok (.iconst 1, 1) := by decide +kernel
theorem dX4_planCount_28 : decode cX4_planCount 28 = .ok (.istore 9, 2) := by decide +kernel
theorem dX4_planCount_30 : decode cX4_planCount 30 = .ok (.iload 9, 2) := by decide +kernel
theorem dX4_planCount_32 : decode cX4_planCount 32 = .ok (.aload_n 0, 1) := by decide +kernel
theorem dX4_planCount_33 : decode cX4_planCount 33 = .ok (.getfield 7, 3) := by decide +kernel
theorem dX4_planCount_36 : decode cX4_planCount 36 = .ok (.getfield 31, 3) := by decide +kernel
theorem dX4_planCount_39 : decode cX4_planCount 39 = .ok (.if_icmp .gt 44, 3) := by decide +kernel
theorem dX4_planCount_42 : decode cX4_planCount 42 = .ok (.lload_n 3, 1) := by decide +kernel
theorem dX4_planCount_43 : decode cX4_planCount 43 = .ok (.aload_n 0, 1) := by decide +kernel
theorem dX4_planCount_44 : decode cX4_planCount 44 = .ok (.getfield 7, 3) := by decide +kernel
theorem dX4_planCount_47 : decode cX4_planCount 47 = .ok (.getfield 28, 3) := by decide +kernel
theorem dX4_planCount_50 : decode cX4_planCount 50 = .ok (.iload 9, 2) := by decide +kernel
theorem dX4_planCount_52 : decode cX4_planCount 52 = .ok (.isub, 1) := by decide +kernel
theorem dX4_planCount_53 : decode cX4_planCount 53 = .ok (.iconst 1, 1) := by decide +kernel
theorem dX4_planCount_54 : decode cX4_planCount 54 = .ok (.iadd, 1) := by decide +kernel
theorem dX4_planCount_55 : decode cX4_planCount 55 = .ok (.i2l, 1) := by decide +kernel
theorem dX4_planCount_56 : decode cX4_planCount 56 = .ok (.lmul, 1) := by decide +kernel
theorem dX4_planCount_57 : decode cX4_planCount 57 = .ok (.iload 9, 2) := by decide +kernel
theorem dX4_planCount_59 : decode cX4_planCount 59 = .ok (.i2l, 1) := by decide +kernel
theorem dX4_planCount_60 : decode cX4_planCount 60 = .ok (.ldiv, 1) := by decide +kernel
theorem dX4_planCount_61 : decode cX4_planCount 61 = .ok (.lstore_n 3, 1) := by decide +kernel
theorem dX4_planCount_62 : decode cX4_planCount 62 = .ok (.lload 5, 2) := by decide +kernel
theorem dX4_planCount_64 : decode cX4_planCount 64 = .ok (.lload_n 1, 1) := by decide +kernel
theorem dX4_planCount_65 : decode cX4_planCount 65 = .ok (.lmul, 1) := by decide +kernel
theorem dX4_planCount_66 : decode cX4_planCount 66 = .ok (.lstore 5, 2) := by decide +kernel
theorem dX4_planCount_68 : decode cX4_planCount 68 = .ok (.lload 7, 2) := by decide +kernel
theorem dX4_planCount_70 : decode cX4_planCount 70 = .ok (.lload_n 3, 1) := by decide +kernel
theorem dX4_planCount_71 : decode cX4_planCount 71 = .ok (.lload 5, 2) := by decide +kernel
theorem dX4_planCount_73 : decode cX4_planCount 73 = .ok (.lmul, 1) := by decide +kernel
theorem dX4_planCount_74 : decode cX4_planCount 74 = .ok (.ladd, 1) := by decide +kernel
theorem dX4_planCount_75 : decode cX4_planCount 75 = .ok (.lstore 7, 2) := by decide +kernel
theorem dX4_planCount_77 : decode cX4_planCount 77 = .ok (.iinc 9 1, 3) := by decide +kernel
theorem dX4_planCount_80 : decode cX4_planCount 80 = .ok (.goto (-50), 3) := by decide +kernel
theorem dX4_planCount_83 : decode cX4_planCount 83 = .ok (.lload 7, 2) := by decide +kernel
theorem dX4_planCount_85 : decode cX4_planCount 85 = .ok (.lreturn, 1) := by decide +kernel
theorem dX4_inputCount_0 : decode cX4_inputCount 0 = .ok (.lconst 1, 1) := by decide +kernel
theorem dX4_inputCount_1 : decode cX4_inputCount 1 = .ok (.lstore_n 2, 1) := by decide +kernel
theorem dX4_inputCount_2 : decode cX4_inputCount 2 = .ok (.iconst 0, 1) := by decide +kernel
theorem dX4_inputCount_3 : decode cX4_inputCount 3 = .ok (.istore 4, 2) := by decide +kernel
theorem dX4_inputCount_5 : decode cX4_inputCount 5 = .ok (.iload 4, 2) := by decide +kernel
theorem dX4_inputCount_7 : decode cX4_inputCount 7 = .ok (.aload_n 0, 1) := by decide +kernel
theorem dX4_inputCount_8 : decode cX4_inputCount 8 = .ok (.getfield 7, 3) := by decide +kernel
theorem dX4_inputCount_11 : decode cX4_inputCount 11 = .ok (.getfield 28, 3) := by decide +kernel
theorem dX4_inputCount_14 : decode cX4_inputCount 14 = .ok (.if_icmp .ge 14, 3) := by decide +kernel
theorem dX4_inputCount_17 : decode cX4_inputCount 17 = .ok (.lload_n 2, 1) := by decide +kernel
theorem dX4_inputCount_18 : decode cX4_inputCount 18 = .ok (.iload_n 1, 1) := by decide +kernel
theorem dX4_inputCount_19 : decode cX4_inputCount 19 = .ok (.i2l, 1) := by decide +kernel
theorem dX4_inputCount_20 : decode cX4_inputCount 20 = .ok (.lmul, 1) := by decide +kernel
theorem dX4_inputCount_21 : decode cX4_inputCount 21 = .ok (.lstore_n 2, 1) := by decide +kernel
theorem dX4_inputCount_22 : decode cX4_inputCount 22 = .ok (.iinc 4 1, 3) := by decide +kernel
theorem dX4_inputCount_25 : decode cX4_inputCount 25 = .ok (.goto (-20), 3) := by decide +kernel
theorem dX4_inputCount_28 : decode cX4_inputCount 28 = .ok (.lload_n 2, 1) := by decide +kernel
theorem dX4_inputCount_29 : decode cX4_inputCount 29 = .ok (.lreturn, 1) := by decide +kernel
set_option maxRecDepth 20000 in
theorem ggX4_seek_X4_planCount : GoodIn wsX4_seek wsX4_planCount := goodIn_r _ [12, 5, 7, 6, 13, 209, 210, 211, 226, 227, 228, 229, 230] (by decide +kernel) (by decide +kernel)
set_option maxRecDepth 20000 in
theorem gX4_seek_X4_planCount : GoodIn wsX4_seek (wsV RX4 34 RX4 yX4_planCount wsX4_planCount) := goodIn_app (goodIn_of _ (by decide +kernel)) ggX4_seek_X4_planCount
set_option maxRecDepth 20000 in
theorem ggX4_seek_X4_inputCount : GoodIn wsX4_seek wsX4_inputCount := goodIn_r _ [17, 5, 6, 209, 210, 211, 226, 227, 228, 229, 230] (by decide +kernel) (by decide +kernel)
set_option maxRecDepth 20000 in
theorem gX4_seek_X4_inputCount : GoodIn wsX4_seek (wsV RX4 38 RX4 yX4_inputCount wsX4_inputCount) := goodIn_app (goodIn_of _ (by decide +kernel)) ggX4_seek_X4_inputCount
set_option maxRecDepth 20000 in
theorem ggX4_seek_X1_clear : GoodIn wsX4_seek wsX1_clear := goodIn_r _ [22, 23, 24, 25, 21, 26, 27, 28, 29, 30, 31, 32, 33, 231, 232, 233] (by decide +kernel) (by decide +kernel)
set_option maxRecDepth 20000 in
theorem gX4_seek_X1_clear : GoodIn wsX4_seek (wsV RX4 46 RX1 yX1_clear wsX1_clear) := goodIn_app (goodIn_of _ (by decide +kernel)) ggX4_seek_X1_clear
set_option maxRecDepth 20000 in
theorem ggX4_seek_X3_begin : GoodIn wsX4_seek wsX3_begin := goodIn_r _ [38, 39, 40, 41, 42, 43, 44, 45, 46, 47, 48, 49, 50, 51, 52, 53, 54, 212, 213, 214, 215, 216, 217, 218, 219, 220, 221, 222, 223, 224, 225, 226, 227, 228, 229, 230] (by decide +kernel) (by decide +kernel)
set_option maxRecDepth 20000 in
theorem gX4_seek_X3_begin : GoodIn wsX4_seek (wsV RX4 51 RX3 yX3_begin wsX3_begin) := goodIn_app (goodIn_of _ (by decide +kernel)) ggX4_seek_X3_begin
set_option maxRecDepth 20000 in
theorem ggX4_seek_X3_makeAllRounds : GoodIn wsX4_seek wsX3_makeAllRounds := goodIn_r _ [58, 39, 41, 59, 60, 61, 62, 37, 63, 64, 42, 46, 65, 66, 67, 21, 68, 27, 28, 69, 70, 71, 72, 73, 74, 75, 76, 77, 43, 78, 79, 44, 80, 81, 40, 82, 83, 84, 85, 86, 49, 50, 51, 52, 53, 54, 87, 88, 89, 90, 91, 92, 93, 94, 95, 96, 97, 45, 98, 99, 100, 101, 102, 103, 104, 105, 106, 107, 108, 109, 47, 48, 212, 213, 214, 215, 216, 217, 218, 219, 220, 221, 222, 223, 224, 225, 226, 227, 228, 229, 230, 231, 232, 233] (by decide +kernel) (by decide +kernel)
set_option maxRecDepth 20000 in
theorem gX4_seek_X3_makeAllRounds : GoodIn wsX4_seek (wsV RX4 54 RX3 yX3_makeAllRounds wsX3_makeAllRounds) := goodIn_app (goodIn_of _ (by decide +kernel)) ggX4_seek_X3_makeAllRounds
set_option maxRecDepth 20000 in
theorem ggX4_seek_X0_clear : GoodIn wsX4_seek wsX0_clear := goodIn_r _ [114, 115, 116, 31, 32, 33, 234] (by decide +kernel) (by decide +kernel)
set_option maxRecDepth 20000 in
theorem gX4_seek_X0_clear : GoodIn wsX4_seek (wsV RX4 61 RX0 yX0_clear wsX0_clear) := goodIn_app (goodIn_of _ (by decide +kernel)) ggX4_seek_X0_clear
set_option maxRecDepth 20000 in
theorem ggX4_seek_X3_allDecidedFromSame : GoodIn wsX4_seek wsX3_allDecidedFromSame := goodIn_r _ [120, 41, 46, 47, 48, 121, 122, 123, 37, 124, 69, 70, 71, 212, 213, 214, 215, 216, 217, 218, 219, 220, 221, 222, 223, 224, 225, 226, 227, 228, 229, 230] (by decide +kernel) (by decide +kernel)
set_option maxRecDepth 20000 in
theorem gX4_seek_X3_allDecidedFromSame : GoodIn wsX4_seek (wsV RX4 64 RX3 yX3_allDecidedFromSame wsX3_allDecidedFromSame) := goodIn_app (goodIn_of _ (by decide +kernel)) ggX4_seek_X3_allDecidedFromSame
set_option maxRecDepth 20000 in
theorem ggX4_seek_X3_firstBreach : GoodIn wsX4_seek wsX3_firstBreach := goodIn_r _ [128, 41, 86, 129, 130, 131, 37, 132, 64, 59, 49, 50, 51, 52, 53, 54, 65, 66, 67, 21, 68, 27, 28, 69, 70, 71, 72, 73, 133, 134, 135, 136, 46, 47, 48, 137, 138, 139, 140, 141, 87, 88, 89, 90, 91, 92, 93, 142, 143, 144, 113, 145, 115, 146, 147, 148, 149, 44, 150, 121, 122, 123, 124, 151, 152, 153, 154, 155, 156, 157, 158, 159, 160, 161, 162, 163, 164, 165, 166, 167, 168, 169, 170, 171, 172, 173, 174, 175, 176, 177, 178, 179, 180, 181, 182, 183, 184, 185, 186, 212, 213, 214, 215, 216, 217, 218, 219, 220, 221, 222, 223, 224, 225, 226, 227, 228, 229, 230, 231, 232, 233, 234] (by decide +kernel) (by decide +kernel)
set_option maxRecDepth 20000 in
theorem gX4_seek_X3_firstBreach : GoodIn wsX4_seek (wsV RX4 68 RX3 yX3_firstBreach wsX3_firstBreach) := goodIn_app (goodIn_of _ (by decide +kernel)) ggX4_seek_X3_firstBreach
set_option maxRecDepth 20000 in
theorem ggX4_seek_X0_advance : GoodIn wsX4_seek wsX0_advance := goodIn_r _ [190, 115, 234] (by decide +kernel) (by decide +kernel)
set_option maxRecDepth 20000 in
theorem gX4_seek_X0_advance : GoodIn wsX4_seek (wsV RX4 75 RX0 yX0_advance wsX0_advance) := goodIn_app (goodIn_of _ (by decide +kernel)) ggX4_seek_X0_advance
set_option maxRecDepth 20000 in
theorem ggX4_seek_X2_everyone : GoodIn wsX4_seek wsX2_everyone := goodIn_r _ [53, 54, 226, 227, 228, 229, 230] (by decide +kernel) (by decide +kernel)
set_option maxRecDepth 20000 in
theorem gX4_seek_X2_everyone : GoodIn wsX4_seek (wsV RX4 79 RX2 yX2_everyone wsX2_everyone) := goodIn_app (goodIn_of _ (by decide +kernel)) ggX4_seek_X2_everyone
set_option maxRecDepth 20000 in
theorem ggX4_seek_X1_advance : GoodIn wsX4_seek wsX1_advance := goodIn_r _ [195, 27, 69, 70, 71, 196, 197, 198, 21, 199, 29, 28, 200, 201, 202, 203, 204, 205, 206, 207, 208, 88, 89, 90, 91, 92, 93, 23, 24, 25, 26, 30, 31, 32, 33, 231, 232, 233] (by decide +kernel) (by decide +kernel)
set_option maxRecDepth 20000 in
theorem gX4_seek_X1_advance : GoodIn wsX4_seek (wsV RX4 82 RX1 yX1_advance wsX1_advance) := goodIn_app (goodIn_of _ (by decide +kernel)) ggX4_seek_X1_advance
theorem dX4_seek_0 : decode cX4_seek 0 = .ok (.aload_n 0, 1) := by decide +kernel
theorem dX4_seek_1 : decode cX4_seek 1 = .ok (.invokevirtual 34, 3) := by decide +kernel
theorem dX4_seek_4 : decode cX4_seek 4 = .ok (.lstore_n 2, 1) := by decide +kernel
theorem dX4_seek_5 : decode cX4_seek 5 = .ok (.aload_n 0, 1) := by decide +kernel
theorem dX4_seek_6 : decode cX4_seek 6 = .ok (.iload_n 1, 1) := by decide +kernel
theorem dX4_seek_7 : decode cX4_seek 7 = .ok (.invokevirtual 38, 3) := by decide +kernel
theorem dX4_seek_10 : decode cX4_seek 10 = .ok (.lstore 4, 2) := by decide +kernel
theorem dX4_seek_12 : decode cX4_seek 12 = .ok (.aload_n 0, 1) := by decide +kernel
theorem dX4_seek_13 : decode cX4_seek 13 = .ok (.getfield 18, 3) := by decide +kernel
theorem dX4_seek_16 : decode cX4_seek 16 = .ok (.getfield 42, 3) := by decide +kernel
theorem dX4_seek_19 : decode cX4_seek 19 = .ok (.invokevirtual 46, 3) := by decide +kernel
theorem dX4_seek_22 : decode cX4_seek 22 = .ok (.lconst 0, 1) := by decide +kernel
theorem dX4_seek_23 : decode cX4_seek 23 = .ok (.lstore 6, 2) := by decide +kernel
theorem dX4_seek_25 : decode cX4_seek 25 = .ok (.lload 6, 2) := by decide +kernel
theorem dX4_seek_27 : decode cX4_seek 27 = .ok (.lload_n 2, 1) := by decide +kernel
theorem dX4_seek_28 : decode cX4_seek 28 = .ok (.lcmp, 1) := by decide +kernel
theorem dX4_seek_29 : decode cX4_seek 29 = .ok (.ifCond .ge 139, 3) := by decide +kernel
theorem dX4_seek_32 : decode cX4_seek 32 = .ok (.aload_n 0, 1) := by decide +kernel
theorem dX4_seek_33 : decode cX4_seek 33 = .ok (.getfield 18, 3) := by decide +kernel
theorem dX4_seek_36 : decode cX4_seek 36 = .ok (.invokevirtual 51, 3) := by decide +kernel
theorem dX4_seek_39 : decode cX4_seek 39 = .ok (.aload_n 0, 1) := by decide +kernel
theorem dX4_seek_40 : decode cX4_seek 40 = .ok (.getfield 18, 3) := by decide +kernel
theorem dX4_seek_43 : decode cX4_seek 43 = .ok (.invokevirtual 54, 3) := by decide +kernel
theorem dX4_seek_46 : decode cX4_seek 46 = .ok (.aload_n 0, 1) := by decide +kernel
theorem dX4_seek_47 : decode cX4_seek 47 = .ok (.getfield 18, 3) := by decide +kernel
theorem dX4_seek_50 : decode cX4_seek 50 = .ok (.getfield 57, 3) := by decide +kernel
theorem dX4_seek_53 : decode cX4_seek 53 = .ok (.invokevirtual 61, 3) := by decide +kernel
theorem dX4_seek_56 : decode cX4_seek 56 = .ok (.aload_n 0, 1) := by decide +kernel
theorem dX4_seek_57 : decode cX4_seek 57 = .ok (.getfield 18, 3) := by decide +kernel
theorem dX4_seek_60 : decode cX4_seek 60 = .ok (.invokevirtual 64, 3) := by decide +kernel
theorem dX4_seek_63 : decode cX4_seek 63 = .ok (.ifCond .eq 7, 3) := by decide +kernel
theorem dX4_seek_66 : decode cX4_seek 66 = .ok (.lconst 1, 1) := by decide +kernel
theorem dX4_seek_67 : decode cX4_seek 67 = .ok (.goto 5, 3) := by decide +kernel
theorem dX4_seek_70 : decode cX4_seek 70 = .ok (.lload 4, 2) := by decide +kernel
theorem dX4_seek_72 : decode cX4_seek 72 = .ok (.lstore 8, 2) := by decide +kernel
theorem dX4_seek_74 : decode cX4_seek 74 = .ok (.lconst 0, 1) := by decide +kernel
theorem dX4_seek_75 : decode cX4_seek 75 = .ok (.lstore 10, 2) := by decide +kernel
theorem dX4_seek_77 : decode cX4_seek 77 = .ok (.lload 10, 2) := by decide +kernel
theorem dX4_seek_79 : decode cX4_seek 79 = .ok (.lload 8, 2) := by decide +kernel
theorem dX4_seek_81 : decode cX4_seek 81 = .ok (.lcmp, 1) := by decide +kernel
theorem dX4_seek_82 : decode cX4_seek 82 = .ok (.ifCond .ge 53, 3) := by decide +kernel
theorem dX4_seek_85 : decode cX4_seek 85 = .ok (.aload_n 0, 1) := by decide +kernel
theorem dX4_seek_86 : decode cX4_seek 86 = .ok (.aload_n 0, 1) := by decide +kernel
theorem dX4_seek_87 : decode cX4_seek 87 = .ok (.getfield 18, 3) := by decide +kernel
theorem dX4_seek_90 : decode cX4_seek 90 = .ok (.invokevirtual 68, 3) := by decide +kernel
theorem dX4_seek_93 : decode cX4_seek 93 = .ok (.putfield 72, 3) := by decide +kernel
theorem dX4_seek_96 : decode cX4_seek 96 = .ok (.aload_n 0, 1) := by decide +kernel
theorem dX4_seek_97 : decode cX4_seek 97 = .ok (.getfield 72, 3) := by decide +kernel
theorem dX4_seek_100 : decode cX4_seek 100 = .ok (.ifCond .eq 8, 3) := by decide +kernel
theorem dX4_seek_103 : decode cX4_seek 103 = .ok (.aload_n 0, 1) := by decide +kernel
theorem dX4_seek_104 : decode cX4_seek 104 = .ok (.getfield 72, 3) := by decide +kernel
theorem dX4_seek_107 : decode cX4_seek 107 = .ok (.ireturn, 1) := by decide +kernel
theorem dX4_seek_108 : decode cX4_seek 108 = .ok (.aload_n 0, 1) := by decide +kernel
theorem dX4_seek_109 : decode cX4_seek 109 = .ok (.getfield 18, 3) := by decide +kernel
theorem dX4_seek_112 : decode cX4_seek 112 = .ok (.getfield 57, 3) := by decide +kernel
theorem dX4_seek_115 : decode cX4_seek 115 = .ok (.aload_n 0, 1) := by decide +kernel
theorem dX4_seek_116 : decode cX4_seek 116 = .ok (.getfield 7, 3) := by decide +kernel
theorem dX4_seek_119 : decode cX4_seek 119 = .ok (.getfield 28, 3) := by decide +kernel
theorem dX4_seek_122 : decode cX4_seek 122 = .ok (.iload_n 1, 1) := by decide +kernel
theorem dX4_seek_123 : decode cX4_seek 123 = .ok (.invokevirtual 75, 3) := by decide +kernel
theorem dX4_seek_126 : decode cX4_seek 126 = .ok (.lload 10, 2) := by decide +kernel
theorem dX4_seek_128 : decode cX4_seek 128 = .ok (.lconst 1, 1) := by decide +kernel
theorem dX4_seek_129 : decode cX4_seek 129 = .ok (.ladd, 1) := by decide +kernel
theorem dX4_seek_130 : decode cX4_seek 130 = .ok (.lstore 10, 2) := by decide +kernel
theorem dX4_seek_132 : decode cX4_seek 132 = .ok (.goto (-55), 3) := by decide +kernel
theorem dX4_seek_135 : decode cX4_seek 135 = .ok (.aload_n 0, 1) := by decide +kernel
theorem dX4_seek_136 : decode cX4_seek 136 = .ok (.getfield 18, 3) := by decide +kernel
theorem dX4_seek_139 : decode cX4_seek 139 = .ok (.getfield 42, 3) := by decide +kernel
theorem dX4_seek_142 : decode cX4_seek 142 = .ok (.aload_n 0, 1) := by decide +kernel
theorem dX4_seek_143 : decode cX4_seek 143 = .ok (.getfield 7, 3) := by decide +kernel
theorem dX4_seek_146 : decode cX4_seek 146 = .ok (.invokevirtual 79, 3) := by decide +kernel
theorem dX4_seek_149 : decode cX4_seek 149 = .ok (.aload_n 0, 1) := by decide +kernel
theorem dX4_seek_150 : decode cX4_seek 150 = .ok (.getfield 7, 3) := by decide +kernel
theorem dX4_seek_153 : decode cX4_seek 153 = .ok (.getfield 22, 3) := by decide +kernel
theorem dX4_seek_156 : decode cX4_seek 156 = .ok (.invokevirtual 82, 3) := by decide +kernel
theorem dX4_seek_159 : decode cX4_seek 159 = .ok (.lload 6, 2) := by decide +kernel
theorem dX4_seek_161 : decode cX4_seek 161 = .ok (.lconst 1, 1) := by decide +kernel
theorem dX4_seek_162 : decode cX4_seek 162 = .ok (.ladd, 1) := by decide +kernel
theorem dX4_seek_163 : decode cX4_seek 163 = .ok (.lstore 6, 2) := by decide +kernel
theorem dX4_seek_165 : decode cX4_seek 165 = .ok (.goto (-140), 3) := by decide +kernel
theorem dX4_seek_168 : decode cX4_seek 168 = .ok (.iconst 0, 1) := by decide +kernel
theorem dX4_seek_169 : decode cX4_seek 169 = .ok (.ireturn, 1) := by decide +kernel
set_option maxRecDepth 20000 in
theorem ggX5_init_X2_init : GoodIn wsX5_init wsX2_init := goodIn_r _ [17, 18, 2, 3] (by decide +kernel) (by decide +kernel)
set_option maxRecDepth 20000 in
theorem gX5_init_X2_init_n9 : GoodIn wsX5_init (wsX2_init) := ggX5_init_X2_init
set_option maxRecDepth 20000 in
theorem ggX5_init_X3_init : GoodIn wsX5_init wsX3_init := goodIn_r _ [21, 22, 2, 3, 23, 24, 25, 26, 27, 28, 29, 30, 31, 32, 33, 34, 35, 36, 37, 38, 39, 40, 41, 42, 43, 44, 45, 46, 47, 133, 116, 117, 118, 119, 120, 121, 122, 123, 124, 125, 126, 127, 128, 129, 134, 135, 136] (by decide +kernel) (by decide +kernel)
set_option maxRecDepth 20000 in
theorem gX5_init_X3_init : GoodIn wsX5_init (wsX3_init) := ggX5_init_X3_init
set_option maxRecDepth 20000 in
theorem ggX5_init_X4_init : GoodIn wsX5_init wsX4_init := goodIn_r _ [50, 51, 2, 3, 52, 53, 9, 10, 54, 55, 20, 21, 22, 23, 24, 25, 26, 27, 28, 29, 30, 31, 32, 33, 34, 35, 36, 37, 38, 39, 40, 41, 42, 43, 44, 45, 46, 47, 130, 131, 132, 116, 117, 118, 119, 120, 121, 122, 123, 124, 125, 126, 127, 128, 129, 133, 134, 135, 136] (by decide +kernel) (by decide +kernel)
set_option maxRecDepth 20000 in
theorem gX5_init_X4_init : GoodIn wsX5_init (wsX4_init) := ggX5_init_X4_init
set_option maxRecDepth 20000 in
theorem ggX5_init_X5_setUp : GoodIn wsX5_init wsX5_setUp := goodIn_r _ [60, 7, 11, 61, 62, 15, 63, 64, 65, 66, 6, 67, 68, 69, 70, 71, 72, 73, 74, 75, 76, 77, 78, 79, 25, 80, 42, 81, 82, 83, 84, 85, 86, 87, 29, 88, 89, 90, 91, 92, 93, 46, 47, 94, 95, 96, 97, 10, 98, 99, 100, 38, 101, 102, 32, 33, 103, 34, 35, 104, 105, 106, 107, 113, 114, 115, 116, 117, 118, 119, 120, 121, 122, 123, 124, 125, 126, 127, 128, 129, 130, 131, 132, 108, 109, 110, 111, 112, 133, 134, 135, 136] (by decide +kernel) (by decide +kernel)
set_option maxRecDepth 20000 in
theorem gX5_init_X5_setUp : GoodIn wsX5_init (wsV RX5 32 RX5 yX5_setUp wsX5_setUp) := goodIn_app (goodIn_of _ (by decide +kernel)) ggX5_init_X5_setUp
theorem dX5_init_0 : decode cX5_init 0 = .ok (.aload_n 0, 1) := by decide +kernel
theorem dX5_init_1 : decode cX5_init 1 = .ok (.invokespecial 1, 3) := by decide +kernel
theorem dX5_init_4 : decode cX5_init 4 = .ok (.aload_n 0, 1) := by decide +kernel
theorem dX5_init_5 : decode cX5_init 5 = .ok (.new 7, 3) := by decide +kernel
theorem dX5_init_8 : decode cX5_init 8 = .ok (.dup, 1) := by decide +kernel
theorem dX5_init_9 : decode cX5_init 9 = .ok (.invokespecial 9, 3) := by decide +kernel
theorem dX5_init_12 : decode cX5_init 12 = .ok (.putfield 10, 3) := by decide +kernel
theorem dX5_init_15 : decode cX5_init 15 = .ok (.aload_n 0, 1) := by decide +kernel
theorem dX5_init_16 : decode cX5_init 16 = .ok (.new 16, 3) := by decide +kernel
theorem dX5_init_19 : decode cX5_init 19 = .ok (.dup, 1) := by decide +kernel
theorem dX5_init_20 : decode cX5_init 20 = .ok (.aload_n 0, 1) := by decide +kernel
theorem dX5_init_21 : decode cX5_init 21 = .ok (.getfield 10, 3) := by decide +kernel
theorem dX5_init_24 : decode cX5_init 24 = .ok (.invokespecial 18, 3) := by decide +kernel
theorem dX5_init_27 : decode cX5_init 27 = .ok (.putfield 21, 3) := by decide +kernel
theorem dX5_init_30 : decode cX5_init 30 = .ok (.aload_n 0, 1) := by decide +kernel
theorem dX5_init_31 : decode cX5_init 31 = .ok (.new 25, 3) := by decide +kernel
theorem dX5_init_34 : decode cX5_init 34 = .ok (.dup, 1) := by decide +kernel
theorem dX5_init_35 : decode cX5_init 35 = .ok (.aload_n 0, 1) := by decide +kernel
theorem dX5_init_36 : decode cX5_init 36 = .ok (.getfield 10, 3) := by decide +kernel
theorem dX5_init_39 : decode cX5_init 39 = .ok (.invokespecial 27, 3) := by decide +kernel
theorem dX5_init_42 : decode cX5_init 42 = .ok (.putfield 28, 3) := by decide +kernel
theorem dX5_init_45 : decode cX5_init 45 = .ok (.aload_n 0, 1) := by decide +kernel
theorem dX5_init_46 : decode cX5_init 46 = .ok (.iconst 0, 1) := by decide +kernel
theorem dX5_init_47 : decode cX5_init 47 = .ok (.iconst 4, 1) := by decide +kernel
theorem dX5_init_48 : decode cX5_init 48 = .ok (.iconst 1, 1) := by decide +kernel
theorem dX5_init_49 : decode cX5_init 49 = .ok (.iconst 1, 1) := by decide +kernel
theorem dX5_init_50 : decode cX5_init 50 = .ok (.iconst 0, 1) := by decide +kernel
theorem dX5_init_51 : decode cX5_init 51 = .ok (.invokevirtual 32, 3) := by decide +kernel
theorem dX5_init_54 : decode cX5_init 54 = .ok (.return_, 1) := by decide +kernel
set_option maxRecDepth 20000 in
theorem ggX5_start_X5_areRules : GoodIn wsX5_start wsX5_areRules := goodIn_r _ [6, 7, 8, 9, 10, 11, 12, 5, 13] (by decide +kernel) (by decide +kernel)
set_option maxRecDepth 20000 in
theorem gX5_start_X5_areRules : GoodIn wsX5_start (va_wsS RX5 36 yX5_areRules wsX5_areRules) := goodIn_app (goodIn_of _ (by decide +kernel)) ggX5_start_X5_areRules
set_option maxRecDepth 20000 in
theorem ggX5_start_X5_setUp : GoodIn wsX5_start wsX5_setUp := goodIn_r _ [17, 1, 18, 19, 20, 21, 22, 23, 24, 25, 26, 27, 28, 29, 30, 31, 32, 33, 9, 34, 35, 36, 37, 38, 39, 40, 41, 42, 43, 44, 45, 46, 47, 48, 49, 50, 51, 52, 53, 54, 55, 56, 57, 58, 59, 60, 61, 62, 63, 64, 65, 66, 67, 68, 69, 70, 71, 72, 73, 74, 75, 76, 77, 78, 79, 80, 86, 87, 88, 89, 90, 91, 92, 93, 94, 95, 96, 97, 98, 99, 100, 101, 102, 81, 82, 83, 84, 85, 103, 104, 105, 106] (by decide +kernel) (by decide +kernel)
set_option maxRecDepth 20000 in
theorem gX5_start_X5_setUp : GoodIn wsX5_start (wsV RX5 32 RX5 yX5_setUp wsX5_setUp) := goodIn_app (goodIn_of _ (by decide +kernel)) ggX5_start_X5_setUp
theorem dX5_start_0 : decode cX5_start 0 = .ok (.iload_n 1, 1) := by decide +kernel
theorem dX5_start_1 : decode cX5_start 1 = .ok (.iload_n 2, 1) := by decide +kernel
theorem dX5_start_2 : decode cX5_start 2 = .ok (.iload_n 3, 1) := by decide +kernel
theorem dX5_start_3 : decode cX5_start 3 = .ok (.iload 4, 2) := by decide +kernel
theorem dX5_start_5 : decode cX5_start 5 = .ok (.iload 5, 2) := by decide +kernel
theorem dX5_start_7 : decode cX5_start 7 = .ok (.invokestatic 36, 3) := by decide +kernel
theorem dX5_start_10 : decode cX5_start 10 = .ok (.ifCond .ne 5, 3) := by decide +kernel
theorem dX5_start_13 : decode cX5_start 13 = .ok (.iconst (-1), 1) := by decide +kernel
theorem dX5_start_14 : decode cX5_start 14 = .ok (.ireturn, 1) := by decide +kernel
theorem dX5_start_15 : decode cX5_start 15 = .ok (.aload_n 0, 1) := by decide +kernel
theorem dX5_start_16 : decode cX5_start 16 = .ok (.iload_n 1, 1) := by decide +kernel
theorem dX5_start_17 : decode cX5_start 17 = .ok (.iload_n 2, 1) := by decide +kernel
theorem dX5_start_18 : decode cX5_start 18 = .ok (.iload_n 3, 1) := by decide +kernel
theorem dX5_start_19 : decode cX5_start 19 = .ok (.iload 4, 2) := by decide +kernel
theorem dX5_start_21 : decode cX5_start 21 = .ok (.iload 5, 2) := by decide +kernel
theorem dX5_start_23 : decode cX5_start 23 = .ok (.invokevirtual 32, 3) := by decide +kernel
theorem dX5_start_26 : decode cX5_start 26 = .ok (.aload_n 0, 1) := by decide +kernel
theorem dX5_start_27 : decode cX5_start 27 = .ok (.getfield 10, 3) := by decide +kernel
theorem dX5_start_30 : decode cX5_start 30 = .ok (.getfield 40, 3) := by decide +kernel
theorem dX5_start_33 : decode cX5_start 33 = .ok (.ireturn, 1) := by decide +kernel
set_option maxRecDepth 20000 in
theorem ggX5_input_X5_isOpenTo : GoodIn wsX5_input wsX5_isOpenTo := goodIn_r _ [8, 9, 1, 10, 11, 12, 13, 14, 15, 16, 20, 21, 22, 23, 24, 25, 26, 27, 28, 29, 30, 31, 32, 33, 34, 35, 36, 38, 39, 40, 41, 42] (by decide +kernel) (by decide +kernel)
set_option maxRecDepth 20000 in
theorem gX5_input_X5_isOpenTo : GoodIn wsX5_input (wsV RX5 44 RX5 yX5_isOpenTo wsX5_isOpenTo) := goodIn_app (goodIn_of _ (by decide +kernel)) ggX5_input_X5_isOpenTo
set_option maxRecDepth 20000 in
theorem ggX5_input_X5_isWithin : GoodIn wsX5_input wsX5_isWithin := goodIn_r _ [19] (by decide +kernel) (by decide +kernel)
set_option maxRecDepth 20000 in
theorem gX5_input_X5_isWithin : GoodIn wsX5_input (va_wsS RX5 48 yX5_isWithin wsX5_isWithin) := goodIn_app (goodIn_of _ (by decide +kernel)) ggX5_input_X5_isWithin
theorem dX5_input_0 : decode cX5_input 0 = .ok (.aload_n 0, 1) := by decide +kernel
theorem dX5_input_1 : decode cX5_input 1 = .ok (.iload_n 1, 1) := by decide +kernel
theorem dX5_input_2 : decode cX5_input 2 = .ok (.invokevirtual 44, 3) := by decide +kernel
theorem dX5_input_5 : decode cX5_input 5 = .ok (.ifCond .eq 13, 3) := by decide +kernel
theorem dX5_input_8 : decode cX5_input 8 = .ok (.iload_n 2, 1) := by decide +kernel
theorem dX5_input_9 : decode cX5_input 9 = .ok (.iconst 0, 1) := by decide +kernel
theorem dX5_input_10 : decode cX5_input 10 = .ok (.bipush 15, 2) := by decide +kernel
theorem dX5_input_12 : decode cX5_input 12 = .ok (.invokestatic 48, 3) := by decide +kernel
theorem dX5_input_15 : decode cX5_input 15 = .ok (.ifCond .ne 5, 3) := by decide +kernel
theorem dX5_input_18 : decode cX5_input 18 = .ok (.iconst (-1), 1) := by decide +kernel
theorem dX5_input_19 : decode cX5_input 19 = .ok (.ireturn, 1) := by decide +kernel
theorem dX5_input_20 : decode cX5_input 20 = .ok (.aload_n 0, 1) := by decide +kernel
theorem dX5_input_21 : decode cX5_input 21 = .ok (.getfield 21, 3) := by decide +kernel
theorem dX5_input_24 : decode cX5_input 24 = .ok (.getfield 52, 3) := by decide +kernel
theorem dX5_input_27 : decode cX5_input 27 = .ok (.getfield 56, 3) := by decide +kernel
theorem dX5_input_30 : decode cX5_input 30 = .ok (.iload_n 1, 1) := by decide +kernel
theorem dX5_input_31 : decode cX5_input 31 = .ok (.iaload, 1) := by decide +kernel
theorem dX5_input_32 : decode cX5_input 32 = .ok (.istore_n 3, 1) := by decide +kernel
theorem dX5_input_33 : decode cX5_input 33 = .ok (.aload_n 0, 1) := by decide +kernel
theorem dX5_input_34 : decode cX5_input 34 = .ok (.getfield 21, 3) := by decide +kernel
theorem dX5_input_37 : decode cX5_input 37 = .ok (.getfield 52, 3) := by decide +kernel
theorem dX5_input_40 : decode cX5_input 40 = .ok (.getfield 56, 3) := by decide +kernel
theorem dX5_input_43 : decode cX5_input 43 = .ok (.iload_n 1, 1) := by decide +kernel
theorem dX5_input_44 : decode cX5_input 44 = .ok (.iload_n 2, 1) := by decide +kernel
theorem dX5_input_45 : decode cX5_input 45 = .ok (.iastore, 1) := by decide +kernel
theorem dX5_input_46 : decode cX5_input 46 = .ok (.iload_n 3, 1) := by decide +kernel
theorem dX5_input_47 : decode cX5_input 47 = .ok (.ireturn, 1) := by decide +kernel
set_option maxRecDepth 20000 in
theorem ggX5_crash_X5_isOpenTo : GoodIn wsX5_crash wsX5_isOpenTo := goodIn_r _ [10, 1, 2, 11, 12, 13, 14, 15, 16, 17, 47, 48, 49, 50, 51, 52, 53, 54, 55, 56, 57, 58, 59, 60, 61, 62, 63, 67, 68, 69, 70, 71] (by decide +kernel) (by decide +kernel)
set_option maxRecDepth 20000 in
theorem gX5_crash_X5_isOpenTo : GoodIn wsX5_crash (wsV RX5 44 RX5 yX5_isOpenTo wsX5_isOpenTo) := goodIn_app (goodIn_of _ (by decide +kernel)) ggX5_crash_X5_isOpenTo
set_option maxRecDepth 20000 in
theorem ggX5_crash_X5_isWithin : GoodIn wsX5_crash wsX5_isWithin := goodIn_r _ [20] (by decide +kernel) (by decide +kernel)
set_option maxRecDepth 20000 in
theorem gX5_crash_X5_isWithin : GoodIn wsX5_crash (va_wsS RX5 48 yX5_isWithin wsX5_isWithin) := goodIn_app (goodIn_of _ (by decide +kernel)) ggX5_crash_X5_isWithin
set_option maxRecDepth 20000 in
theorem ggX5_crash_X2_everyone : GoodIn wsX5_crash wsX2_everyone := goodIn_r _ [24, 17, 67, 68, 69, 70, 71] (by decide +kernel) (by decide +kernel)
set_option maxRecDepth 20000 in
theorem gX5_crash_X2_everyone : GoodIn wsX5_crash (wsV RX5 62 RX2 yX2_everyone wsX2_everyone) := goodIn_app (goodIn_of _ (by decide +kernel)) ggX5_crash_X2_everyone
set_option maxRecDepth 20000 in
theorem ggX5_crash_X5_has : GoodIn wsX5_crash wsX5_has := goodIn_r _ [27] (by decide +kernel) (by decide +kernel)
set_option maxRecDepth 20000 in
theorem gX5_crash_X5_has : GoodIn wsX5_crash (va_wsS RX5 75 yX5_has wsX5_has) := goodIn_app (goodIn_of _ (by decide +kernel)) ggX5_crash_X5_has
set_option maxRecDepth 20000 in
theorem ggX5_crash_X1_size : GoodIn wsX5_crash wsX1_size := goodIn_r _ [32, 33, 34, 35, 36, 37, 38, 39, 40, 64, 65, 66] (by decide +kernel) (by decide +kernel)
set_option maxRecDepth 20000 in
theorem gX5_crash_X1_size : GoodIn wsX5_crash (wsV RX5 79 RX1 yX1_size wsX1_size) := goodIn_app (goodIn_of _ (by decide +kernel)) ggX5_crash_X1_size
set_option maxRecDepth 20000 in
theorem ggX5_crash_X1_put : GoodIn wsX5_crash wsX1_put := goodIn_r _ [44, 33, 45, 46, 64, 65, 66] (by decide +kernel) (by decide +kernel)
set_option maxRecDepth 20000 in
theorem gX5_crash_X1_put : GoodIn wsX5_crash (wsV RX5 85 RX1 yX1_put wsX1_put) := goodIn_app (goodIn_of _ (by decide +kernel)) ggX5_crash_X1_put
theorem dX5_crash_0 : decode cX5_crash 0 = .ok (.aload_n 0, 1) := by decide +kernel
theorem dX5_crash_1 : decode cX5_crash 1 = .ok (.iload_n 1, 1) := by decide +kernel
theorem dX5_crash_2 : decode cX5_crash 2 = .ok (.invokevirtual 44, 3) := by decide +kernel
theorem dX5_crash_5 : decode cX5_crash 5 = .ok (.ifCond .eq 28, 3) := by decide +kernel
theorem dX5_crash_8 : decode cX5_crash 8 = .ok (.iload_n 2, 1) := by decide +kernel
theorem dX5_crash_9 : decode cX5_crash 9 = .ok (.iconst 1, 1) := by decide +kernel
theorem dX5_crash_10 : decode cX5_crash 10 = .ok (.bipush 20, 2) := by decide +kernel
theorem dX5_crash_12 : decode cX5_crash 12 = .ok (.invokestatic 48, 3) := by decide +kernel
theorem dX5_crash_15 : decode cX5_crash 15 = .ok (.ifCond .eq 18, 3) := by decide +kernel
theorem dX5_crash_18 : decode cX5_crash 18 = .ok (.iload_n 3, 1) := by decide +kernel
theorem dX5_crash_19 : decode cX5_crash 19 = .ok (.iconst 0, 1) := by decide +kernel
theorem dX5_crash_20 : decode cX5_crash 20 = .ok (.aload_n 0, 1) := by decide +kernel
theorem dX5_crash_21 : decode cX5_crash 21 = .ok (.getfield 10, 3) := by decide +kernel
theorem dX5_crash_24 : decode cX5_crash 24 = .ok (.invokevirtual 62, 3) := by decide +kernel
theorem dX5_crash_27 : decode cX5_crash 27 = .ok (.invokestatic 48, 3) := by decide +kernel
theorem dX5_crash_30 : decode cX5_crash 30 = .ok (.ifCond .ne 5, 3) := by decide +kernel
theorem dX5_crash_33 : decode cX5_crash 33 = .ok (.iconst (-1), 1) := by decide +kernel
theorem dX5_crash_34 : decode cX5_crash 34 = .ok (.ireturn, 1) := by decide +kernel
theorem dX5_crash_35 : decode cX5_crash 35 = .ok (.aload_n 0, 1) := by decide +kernel
theorem dX5_crash_36 : decode cX5_crash 36 = .ok (.getfield 21, 3) := by decide +kernel
theorem dX5_crash_39 : decode cX5_crash 39 = .ok (.getfield 66, 3) := by decide +kernel
theorem dX5_crash_42 : decode cX5_crash 42 = .ok (.astore 4, 2) := by decide +kernel
theorem dX5_crash_44 : decode cX5_crash 44 = .ok (.aload 4, 2) := by decide +kernel
theorem dX5_crash_46 : decode cX5_crash 46 = .ok (.getfield 70, 3) := by decide +kernel
theorem dX5_crash_49 : decode cX5_crash 49 = .ok (.iload_n 1, 1) := by decide +kernel
theorem dX5_crash_50 : decode cX5_crash 50 = .ok (.invokestatic 75, 3) := by decide +kernel
theorem dX5_crash_53 : decode cX5_crash 53 = .ok (.ifCond .ne 20, 3) := by decide +kernel
theorem dX5_crash_56 : decode cX5_crash 56 = .ok (.aload 4, 2) := by decide +kernel
theorem dX5_crash_58 : decode cX5_crash 58 = .ok (.invokevirtual 79, 3) := by decide +kernel
theorem dX5_crash_61 : decode cX5_crash 61 = .ok (.aload_n 0, 1) := by decide +kernel
theorem dX5_crash_62 : decode cX5_crash 62 = .ok (.getfield 10, 3) := by decide +kernel
theorem dX5_crash_65 : decode cX5_crash 65 = .ok (.getfield 82, 3) := by decide +kernel
theorem dX5_crash_68 : decode cX5_crash 68 = .ok (.if_icmp .lt 5, 3) := by decide +kernel
theorem dX5_crash_71 : decode cX5_crash 71 = .ok (.iconst (-1), 1) := by decide +kernel
theorem dX5_crash_72 : decode cX5_crash 72 = .ok (.ireturn, 1) := by decide +kernel
theorem dX5_crash_73 : decode cX5_crash 73 = .ok (.aload 4, 2) := by decide +kernel
theorem dX5_crash_75 : decode cX5_crash 75 = .ok (.iload_n 1, 1) := by decide +kernel
theorem dX5_crash_76 : decode cX5_crash 76 = .ok (.iload_n 2, 1) := by decide +kernel
theorem dX5_crash_77 : decode cX5_crash 77 = .ok (.iload_n 3, 1) := by decide +kernel
theorem dX5_crash_78 : decode cX5_crash 78 = .ok (.invokevirtual 85, 3) := by decide +kernel
theorem dX5_crash_81 : decode cX5_crash 81 = .ok (.aload 4, 2) := by decide +kernel
theorem dX5_crash_83 : decode cX5_crash 83 = .ok (.invokevirtual 79, 3) := by decide +kernel
theorem dX5_crash_86 : decode cX5_crash 86 = .ok (.ireturn, 1) := by decide +kernel
set_option maxRecDepth 20000 in
theorem ggX5_spare_X5_isOpenTo : GoodIn wsX5_spare wsX5_isOpenTo := goodIn_r _ [8, 9, 1, 10, 11, 12, 13, 14, 15, 16, 20, 21, 22, 23, 24, 25, 26, 27, 28, 29, 30, 31, 32, 33, 34, 35, 36, 40, 41, 42, 43, 44] (by decide +kernel) (by decide +kernel)
set_option maxRecDepth 20000 in
theorem gX5_spare_X5_isOpenTo : GoodIn wsX5_spare (wsV RX5 44 RX5 yX5_isOpenTo wsX5_isOpenTo) := goodIn_app (goodIn_of _ (by decide +kernel)) ggX5_spare_X5_isOpenTo
set_option maxRecDepth 20000 in
theorem ggX5_spare_X5_has : GoodIn wsX5_spare wsX5_has := goodIn_r _ [19] (by decide +kernel) (by decide +kernel)
set_option maxRecDepth 20000 in
theorem gX5_spare_X5_has : GoodIn wsX5_spare (va_wsS RX5 75 yX5_has wsX5_has) := goodIn_app (goodIn_of _ (by decide +kernel)) ggX5_spare_X5_has
theorem dX5_spare_0 : decode cX5_spare 0 = .ok (.aload_n 0, 1) := by decide +kernel
theorem dX5_spare_1 : decode cX5_spare 1 = .ok (.iload_n 1, 1) := by decide +kernel
theorem dX5_spare_2 : decode cX5_spare 2 = .ok (.invokevirtual 44, 3) := by decide +kernel
theorem dX5_spare_5 : decode cX5_spare 5 = .ok (.ifCond .ne 5, 3) := by decide +kernel
theorem dX5_spare_8 : decode cX5_spare 8 = .ok (.iconst (-1), 1) := by decide +kernel
theorem dX5_spare_9 : decode cX5_spare 9 = .ok (.ireturn, 1) := by decide +kernel
theorem dX5_spare_10 : decode cX5_spare 10 = .ok (.aload_n 0, 1) := by decide +kernel
theorem dX5_spare_11 : decode cX5_spare 11 = .ok (.getfield 21, 3) := by decide +kernel
theorem dX5_spare_14 : decode cX5_spare 14 = .ok (.getfield 66, 3) := by decide +kernel
theorem dX5_spare_17 : decode cX5_spare 17 = .ok (.astore_n 2, 1) := by decide +kernel
theorem dX5_spare_18 : decode cX5_spare 18 = .ok (.aload_n 2, 1) := by decide +kernel
theorem dX5_spare_19 : decode cX5_spare 19 = .ok (.getfield 70, 3) := by decide +kernel
theorem dX5_spare_22 : decode cX5_spare 22 = .ok (.iload_n 1, 1) := by decide +kernel
theorem dX5_spare_23 : decode cX5_spare 23 = .ok (.invokestatic 75, 3) := by decide +kernel
theorem dX5_spare_26 : decode cX5_spare 26 = .ok (.istore_n 3, 1) := by decide +kernel
theorem dX5_spare_27 : decode cX5_spare 27 = .ok (.aload_n 2, 1) := by decide +kernel
theorem dX5_spare_28 : decode cX5_spare 28 = .ok (.dup, 1) := by decide +kernel
theorem dX5_spare_29 : decode cX5_spare 29 = .ok (.getfield 70, 3) := by decide +kernel
theorem dX5_spare_32 : decode cX5_spare 32 = .ok (.iconst 1, 1) := by decide +kernel
theorem dX5_spare_33 : decode cX5_spare 33 = .ok (.iload_n 1, 1) := by decide +kernel
theorem dX5_spare_34 : decode cX5_spare 34 = .ok (.ishl, 1) := by decide +kernel
theorem dX5_spare_35 : decode cX5_spare 35 = .ok (.iconst (-1), 1) := by decide +kernel
theorem dX5_spare_36 : decode cX5_spare 36 = .ok (.ixor, 1) := by decide +kernel
theorem dX5_spare_37 : decode cX5_spare 37 = .ok (.iand, 1) := by decide +kernel
theorem dX5_spare_38 : decode cX5_spare 38 = .ok (.putfield 70, 3) := by decide +kernel
theorem dX5_spare_41 : decode cX5_spare 41 = .ok (.iload_n 3, 1) := by decide +kernel
theorem dX5_spare_42 : decode cX5_spare 42 = .ok (.ifCond .eq 7, 3) := by decide +kernel
theorem dX5_spare_45 : decode cX5_spare 45 = .ok (.iconst 1, 1) := by decide +kernel
theorem dX5_spare_46 : decode cX5_spare 46 = .ok (.goto 4, 3) := by decide +kernel
theorem dX5_spare_49 : decode cX5_spare 49 = .ok (.iconst 0, 1) := by decide +kernel
theorem dX5_spare_50 : decode cX5_spare 50 = .ok (.ireturn, 1) := by decide +kernel
set_option maxRecDepth 20000 in
theorem ggX5_step_X3_isOver : GoodIn wsX5_step wsX3_isOver := goodIn_r _ [7, 8, 9, 10, 78, 79, 80, 81, 82, 83, 84, 85, 86, 87, 88, 89, 90, 91, 92, 93, 94, 95, 96] (by decide +kernel) (by decide +kernel)
set_option maxRecDepth 20000 in
theorem gX5_step_X3_isOver : GoodIn wsX5_step (wsV RX5 89 RX3 yX3_isOver wsX3_isOver) := goodIn_app (goodIn_of _ (by decide +kernel)) ggX5_step_X3_isOver
set_option maxRecDepth 20000 in
theorem ggX5_step_X3_makeRound : GoodIn wsX5_step wsX3_makeRound := goodIn_r _ [14, 8, 15, 16, 9, 17, 18, 19, 20, 21, 22, 23, 24, 25, 26, 27, 28, 29, 30, 31, 32, 6, 33, 34, 35, 36, 37, 38, 39, 40, 41, 42, 43, 44, 45, 46, 47, 48, 49, 50, 51, 52, 53, 54, 55, 56, 57, 58, 59, 60, 61, 62, 63, 64, 65, 66, 67, 68, 4, 5, 7, 10, 69, 70, 71, 72, 73, 74, 78, 79, 80, 81, 82, 83, 84, 85, 86, 87, 88, 89, 90, 91, 92, 93, 94, 95, 96, 97, 98, 99] (by decide +kernel) (by decide +kernel)
set_option maxRecDepth 20000 in
theorem gX5_step_X3_makeRound : GoodIn wsX5_step (wsV RX5 93 RX3 yX3_makeRound wsX3_makeRound) := goodIn_app (goodIn_of _ (by decide +kernel)) ggX5_step_X3_makeRound
theorem dX5_step_0 : decode cX5_step 0 = .ok (.aload_n 0, 1) := by decide +kernel
theorem dX5_step_1 : decode cX5_step 1 = .ok (.getfield 21, 3) := by decide +kernel
theorem dX5_step_4 : decode cX5_step 4 = .ok (.invokevirtual 89, 3) := by decide +kernel
theorem dX5_step_7 : decode cX5_step 7 = .ok (.ifCond .eq 5, 3) := by decide +kernel
theorem dX5_step_10 : decode cX5_step 10 = .ok (.iconst (-1), 1) := by decide +kernel
theorem dX5_step_11 : decode cX5_step 11 = .ok (.ireturn, 1) := by decide +kernel
theorem dX5_step_12 : decode cX5_step 12 = .ok (.aload_n 0, 1) := by decide +kernel
theorem dX5_step_13 : decode cX5_step 13 = .ok (.getfield 21, 3) := by decide +kernel
theorem dX5_step_16 : decode cX5_step 16 = .ok (.invokevirtual 93, 3) := by decide +kernel
theorem dX5_step_19 : decode cX5_step 19 = .ok (.aload_n 0, 1) := by decide +kernel
theorem dX5_step_20 : decode cX5_step 20 = .ok (.getfield 21, 3) := by decide +kernel
theorem dX5_step_23 : decode cX5_step 23 = .ok (.getfield 96, 3) := by decide +kernel
theorem dX5_step_26 : decode cX5_step 26 = .ok (.ireturn, 1) := by decide +kernel
set_option maxRecDepth 20000 in
theorem ggX5_run_X3_makeAllRounds : GoodIn wsX5_run wsX3_makeAllRounds := goodIn_r _ [8, 9, 10, 11, 12, 13, 14, 7, 15, 16, 17, 18, 19, 20, 21, 22, 23, 24, 25, 26, 27, 28, 29, 30, 31, 32, 33, 34, 35, 36, 37, 38, 39, 40, 41, 42, 43, 44, 45, 46, 47, 48, 49, 50, 51, 52, 53, 54, 55, 56, 57, 58, 59, 60, 61, 62, 63, 64, 65, 66, 67, 68, 69, 70, 71, 72, 73, 74, 75, 76, 77, 78, 87, 88, 89, 90, 91, 92, 93, 94, 95, 96, 97, 98, 99, 100, 82, 83, 84, 85, 86, 101, 102, 103] (by decide +kernel) (by decide +kernel)
set_option maxRecDepth 20000 in
theorem gX5_run_X3_makeAllRounds : GoodIn wsX5_run (wsV RX5 99 RX3 yX3_makeAllRounds wsX3_makeAllRounds) := goodIn_app (goodIn_of _ (by decide +kernel)) ggX5_run_X3_makeAllRounds
theorem dX5_run_0 : decode cX5_run 0 = .ok (.aload_n 0, 1) := by decide +kernel
theorem dX5_run_1 : decode cX5_run 1 = .ok (.getfield 21, 3) := by decide +kernel
theorem dX5_run_4 : decode cX5_run 4 = .ok (.invokevirtual 99, 3) := by decide +kernel
theorem dX5_run_7 : decode cX5_run 7 = .ok (.aload_n 0, 1) := by decide +kernel
theorem dX5_run_8 : decode cX5_run 8 = .ok (.getfield 10, 3) := by decide +kernel
theorem dX5_run_11 : decode cX5_run 11 = .ok (.getfield 40, 3) := by decide +kernel
theorem dX5_run_14 : decode cX5_run 14 = .ok (.ireturn, 1) := by decide +kernel
set_option maxRecDepth 20000 in
theorem ggX5_again_X3_begin : GoodIn wsX5_again wsX3_begin := goodIn_r _ [7, 8, 9, 10, 11, 12, 13, 14, 15, 16, 17, 18, 19, 20, 21, 22, 23, 27, 28, 29, 30, 31, 32, 33, 34, 35, 36, 37, 38, 39, 40, 41, 42, 43, 44, 45] (by decide +kernel) (by decide +kernel)
set_option maxRecDepth 20000 in
theorem gX5_again_X3_begin : GoodIn wsX5_again (wsV RX5 102 RX3 yX3_begin wsX3_begin) := goodIn_app (goodIn_of _ (by decide +kernel)) ggX5_again_X3_begin
theorem dX5_again_0 : decode cX5_again 0 = .ok (.aload_n 0, 1) := by decide +kernel
theorem dX5_again_1 : decode cX5_again 1 = .ok (.getfield 21, 3) := by decide +kernel
theorem dX5_again_4 : decode cX5_again 4 = .ok (.getfield 96, 3) := by decide +kernel
theorem dX5_again_7 : decode cX5_again 7 = .ok (.istore_n 1, 1) := by decide +kernel
theorem dX5_again_8 : decode cX5_again 8 = .ok (.aload_n 0, 1) := by decide +kernel
theorem dX5_again_9 : decode cX5_again 9 = .ok (.getfield 21, 3) := by decide +kernel
theorem dX5_again_12 : decode cX5_again 12 = .ok (.invokevirtual 102, 3) := by decide +kernel
theorem dX5_again_15 : decode cX5_again 15 = .ok (.iload_n 1, 1) := by decide +kernel
theorem dX5_again_16 : decode cX5_again 16 = .ok (.ireturn, 1) := by decide +kernel
set_option maxRecDepth 20000 in
theorem ggX5_decided_X2_isProcess : GoodIn wsX5_decided wsX2_isProcess := goodIn_r _ [9, 10, 56, 57, 58, 59, 60] (by decide +kernel) (by decide +kernel)
set_option maxRecDepth 20000 in
theorem gX5_decided_X2_isProcess : GoodIn wsX5_decided (wsV RX5 105 RX2 yX2_isProcess wsX2_isProcess) := goodIn_app (goodIn_of _ (by decide +kernel)) ggX5_decided_X2_isProcess
set_option maxRecDepth 20000 in
theorem ggX5_decided_X3_decisionFrom : GoodIn wsX5_decided wsX3_decisionFrom := goodIn_r _ [15, 16, 17, 18, 19, 20, 21, 22, 23, 24, 25, 26, 27, 28, 8, 29, 10, 30, 31, 32, 33, 34, 35, 36, 37, 38, 42, 43, 44, 45, 46, 47, 48, 49, 50, 51, 52, 53, 54, 55, 56, 57, 58, 59, 60, 61] (by decide +kernel) (by decide +kernel)
set_option maxRecDepth 20000 in
theorem gX5_decided_X3_decisionFrom : GoodIn wsX5_decided (wsV RX5 114 RX3 yX3_decisionFrom wsX3_decisionFrom) := goodIn_app (goodIn_of _ (by decide +kernel)) ggX5_decided_X3_decisionFrom
theorem dX5_decided_0 : decode cX5_decided 0 = .ok (.aload_n 0, 1) := by decide +kernel
theorem dX5_decided_1 : decode cX5_decided 1 = .ok (.getfield 10, 3) := by decide +kernel
theorem dX5_decided_4 : decode cX5_decided 4 = .ok (.iload_n 1, 1) := by decide +kernel
theorem dX5_decided_5 : decode cX5_decided 5 = .ok (.invokevirtual 105, 3) := by decide +kernel
theorem dX5_decided_8 : decode cX5_decided 8 = .ok (.ifCond .ne 5, 3) := by decide +kernel
theorem dX5_decided_11 : decode cX5_decided 11 = .ok (.iconst (-1), 1) := by decide +kernel
theorem dX5_decided_12 : decode cX5_decided 12 = .ok (.ireturn, 1) := by decide +kernel
theorem dX5_decided_13 : decode cX5_decided 13 = .ok (.aload_n 0, 1) := by decide +kernel
theorem dX5_decided_14 : decode cX5_decided 14 = .ok (.getfield 21, 3) := by decide +kernel
theorem dX5_decided_17 : decode cX5_decided 17 = .ok (.getfield 108, 3) := by decide +kernel
theorem dX5_decided_20 : decode cX5_decided 20 = .ok (.iload_n 1, 1) := by decide +kernel
theorem dX5_decided_21 : decode cX5_decided 21 = .ok (.iaload, 1) := by decide +kernel
theorem dX5_decided_22 : decode cX5_decided 22 = .ok (.ifCond .ne 8, 3) := by decide +kernel
theorem dX5_decided_25 : decode cX5_decided 25 = .ok (.bipush (-2), 2) := by decide +kernel
theorem dX5_decided_27 : decode cX5_decided 27 = .ok (.goto 19, 3) := by decide +kernel
theorem dX5_decided_30 : decode cX5_decided 30 = .ok (.aload_n 0, 1) := by decide +kernel
theorem dX5_decided_31 : decode cX5_decided 31 = .ok (.getfield 21, 3) := by decide +kernel
theorem dX5_decided_34 : decode cX5_decided 34 = .ok (.aload_n 0, 1) := by decide +kernel
theorem dX5_decided_35 : decode cX5_decided 35 = .ok (.getfield 21, 3) := by decide +kernel
theorem dX5_decided_38 : decode cX5_decided 38 = .ok (.getfield 111, 3) := by decide +kernel
theorem dX5_decided_41 : decode cX5_decided 41 = .ok (.iload_n 1, 1) := by decide +kernel
theorem dX5_decided_42 : decode cX5_decided 42 = .ok (.iaload, 1) := by decide +kernel
theorem dX5_decided_43 : decode cX5_decided 43 = .ok (.invokevirtual 114, 3) := by decide +kernel
theorem dX5_decided_46 : decode cX5_decided 46 = .ok (.ireturn, 1) := by decide +kernel
set_option maxRecDepth 20000 in
theorem ggX5_decidedIn_X2_isProcess : GoodIn wsX5_decidedIn wsX2_isProcess := goodIn_r _ [8, 9, 27, 28, 29, 30, 31] (by decide +kernel) (by decide +kernel)
set_option maxRecDepth 20000 in
theorem gX5_decidedIn_X2_isProcess : GoodIn wsX5_decidedIn (wsV RX5 105 RX2 yX2_isProcess wsX2_isProcess) := goodIn_app (goodIn_of _ (by decide +kernel)) ggX5_decidedIn_X2_isProcess
theorem dX5_decidedIn_0 : decode cX5_decidedIn 0 = .ok (.aload_n 0, 1) := by decide +kernel
theorem dX5_decidedIn_1 : decode cX5_decidedIn 1 = .ok (.getfield 10, 3) := by decide +kernel
theorem dX5_decidedIn_4 : decode cX5_decidedIn 4 = .ok (.iload_n 1, 1) := by decide +kernel
theorem dX5_decidedIn_5 : decode cX5_decidedIn 5 = .ok (.invokevirtual 105, 3) := by decide +kernel
theorem dX5_decidedIn_8 : decode cX5_decidedIn 8 = .ok (.ifCond .eq 15, 3) := by decide +kernel
theorem dX5_decidedIn_11 : decode cX5_decidedIn 11 = .ok (.aload_n 0, 1) := by decide +kernel
theorem dX5_decidedIn_12 : decode cX5_decidedIn 12 = .ok (.getfield 21, 3) := by decide +kernel
theorem dX5_decidedIn_15 : decode cX5_decidedIn 15 = .ok (.getfield 108, 3) := by decide +kernel
theorem dX5_decidedIn_18 : decode cX5_decidedIn 18 = .ok (.iload_n 1, 1) := by decide +kernel
theorem dX5_decidedIn_19 : decode cX5_decidedIn 19 = .ok (.iaload, 1) := by decide +kernel
theorem dX5_decidedIn_20 : decode cX5_decidedIn 20 = .ok (.goto 4, 3) := by decide +kernel
theorem dX5_decidedIn_23 : decode cX5_decidedIn 23 = .ok (.iconst (-1), 1) := by decide +kernel
theorem dX5_decidedIn_24 : decode cX5_decidedIn 24 = .ok (.ireturn, 1) := by decide +kernel
set_option maxRecDepth 20000 in
theorem ggX5_knows_X2_isProcess : GoodIn wsX5_knows wsX2_isProcess := goodIn_r _ [10, 11, 42, 43, 44, 45, 46] (by decide +kernel) (by decide +kernel)
set_option maxRecDepth 20000 in
theorem gX5_knows_X2_isProcess : GoodIn wsX5_knows (wsV RX5 105 RX2 yX2_isProcess wsX2_isProcess) := goodIn_app (goodIn_of _ (by decide +kernel)) ggX5_knows_X2_isProcess
set_option maxRecDepth 20000 in
theorem ggX5_knows_X0_asBits : GoodIn wsX5_knows wsX0_asBits := goodIn_r _ [16, 17, 18, 19, 20, 47] (by decide +kernel) (by decide +kernel)
set_option maxRecDepth 20000 in
theorem gX5_knows_X0_asBits : GoodIn wsX5_knows (wsV RX5 124 RX0 yX0_asBits wsX0_asBits) := goodIn_app (goodIn_of _ (by decide +kernel)) ggX5_knows_X0_asBits
set_option maxRecDepth 20000 in
theorem ggX5_knows_X0_least : GoodIn wsX5_knows wsX0_least := goodIn_r _ [24, 17, 18, 19, 20, 47] (by decide +kernel) (by decide +kernel)
set_option maxRecDepth 20000 in
theorem gX5_knows_X0_least : GoodIn wsX5_knows (wsV RX5 127 RX0 yX0_least wsX0_least) := goodIn_app (goodIn_of _ (by decide +kernel)) ggX5_knows_X0_least
theorem dX5_knows_0 : decode cX5_knows 0 = .ok (.aload_n 0, 1) := by decide +kernel
theorem dX5_knows_1 : decode cX5_knows 1 = .ok (.getfield 10, 3) := by decide +kernel
theorem dX5_knows_4 : decode cX5_knows 4 = .ok (.iload_n 1, 1) := by decide +kernel
theorem dX5_knows_5 : decode cX5_knows 5 = .ok (.invokevirtual 105, 3) := by decide +kernel
theorem dX5_knows_8 : decode cX5_knows 8 = .ok (.ifCond .ne 5, 3) := by decide +kernel
theorem dX5_knows_11 : decode cX5_knows 11 = .ok (.iconst (-1), 1) := by decide +kernel
theorem dX5_knows_12 : decode cX5_knows 12 = .ok (.ireturn, 1) := by decide +kernel
theorem dX5_knows_13 : decode cX5_knows 13 = .ok (.aload_n 0, 1) := by decide +kernel
theorem dX5_knows_14 : decode cX5_knows 14 = .ok (.getfield 21, 3) := by decide +kernel
theorem dX5_knows_17 : decode cX5_knows 17 = .ok (.getfield 118, 3) := by decide +kernel
theorem dX5_knows_20 : decode cX5_knows 20 = .ok (.iload_n 1, 1) := by decide +kernel
theorem dX5_knows_21 : decode cX5_knows 21 = .ok (.iaload, 1) := by decide +kernel
theorem dX5_knows_22 : decode cX5_knows 22 = .ok (.istore_n 2, 1) := by decide +kernel
theorem dX5_knows_23 : decode cX5_knows 23 = .ok (.aload_n 0, 1) := by decide +kernel
theorem dX5_knows_24 : decode cX5_knows 24 = .ok (.getfield 10, 3) := by decide +kernel
theorem dX5_knows_27 : decode cX5_knows 27 = .ok (.getfield 121, 3) := by decide +kernel
theorem dX5_knows_30 : decode cX5_knows 30 = .ok (.lookupswitch 48 #[(0, 34), (4, 46), (5, 46)], 34) := by decide +kernel
theorem dX5_knows_64 : decode cX5_knows 64 = .ok (.aload_n 0, 1) := by decide +kernel
theorem dX5_knows_65 : decode cX5_knows 65 = .ok (.getfield 21, 3) := by decide +kernel
theorem dX5_knows_68 : decode cX5_knows 68 = .ok (.getfield 52, 3) := by decide +kernel
theorem dX5_knows_71 : decode cX5_knows 71 = .ok (.iload_n 2, 1) := by decide +kernel
theorem dX5_knows_72 : decode cX5_knows 72 = .ok (.invokevirtual 124, 3) := by decide +kernel
theorem dX5_knows_75 : decode cX5_knows 75 = .ok (.ireturn, 1) := by decide +kernel
theorem dX5_knows_76 : decode cX5_knows 76 = .ok (.iload_n 2, 1) := by decide +kernel
theorem dX5_knows_77 : decode cX5_knows 77 = .ok (.ireturn, 1) := by decide +kernel
theorem dX5_knows_78 : decode cX5_knows 78 = .ok (.aload_n 0, 1) := by decide +kernel
theorem dX5_knows_79 : decode cX5_knows 79 = .ok (.getfield 21, 3) := by decide +kernel
theorem dX5_knows_82 : decode cX5_knows 82 = .ok (.getfield 52, 3) := by decide +kernel
theorem dX5_knows_85 : decode cX5_knows 85 = .ok (.iload_n 2, 1) := by decide +kernel
theorem dX5_knows_86 : decode cX5_knows 86 = .ok (.invokevirtual 127, 3) := by decide +kernel
theorem dX5_knows_89 : decode cX5_knows 89 = .ok (.ireturn, 1) := by decide +kernel
set_option maxRecDepth 20000 in
theorem ggX5_vector_X2_isProcess : GoodIn wsX5_vector wsX2_isProcess := goodIn_r _ [11, 12, 20, 21, 22, 23, 24] (by decide +kernel) (by decide +kernel)
set_option maxRecDepth 20000 in
theorem gX5_vector_X2_isProcess : GoodIn wsX5_vector (wsV RX5 105 RX2 yX2_isProcess wsX2_isProcess) := goodIn_app (goodIn_of _ (by decide +kernel)) ggX5_vector_X2_isProcess
set_option maxRecDepth 20000 in
theorem ggX5_vector_X5_has : GoodIn wsX5_vector wsX5_has := goodIn_r _ [16] (by decide +kernel) (by decide +kernel)
set_option maxRecDepth 20000 in
theorem gX5_vector_X5_has : GoodIn wsX5_vector (va_wsS RX5 75 yX5_has wsX5_has) := goodIn_app (goodIn_of _ (by decide +kernel)) ggX5_vector_X5_has
theorem dX5_vector_0 : decode cX5_vector 0 = .ok (.aload_n 0, 1) := by decide +kernel
theorem dX5_vector_1 : decode cX5_vector 1 = .ok (.getfield 10, 3) := by decide +kernel
theorem dX5_vector_4 : decode cX5_vector 4 = .ok (.getfield 121, 3) := by decide +kernel
theorem dX5_vector_7 : decode cX5_vector 7 = .ok (.iconst 4, 1) := by decide +kernel
theorem dX5_vector_8 : decode cX5_vector 8 = .ok (.if_icmp .eq 14, 3) := by decide +kernel
theorem dX5_vector_11 : decode cX5_vector 11 = .ok (.aload_n 0, 1) := by decide +kernel
theorem dX5_vector_12 : decode cX5_vector 12 = .ok (.getfield 10, 3) := by decide +kernel
theorem dX5_vector_15 : decode cX5_vector 15 = .ok (.getfield 121, 3) := by decide +kernel
theorem dX5_vector_18 : decode cX5_vector 18 = .ok (.iconst 5, 1) := by decide +kernel
theorem dX5_vector_19 : decode cX5_vector 19 = .ok (.if_icmp .ne 7, 3) := by decide +kernel
theorem dX5_vector_22 : decode cX5_vector 22 = .ok (.iconst 1, 1) := by decide +kernel
theorem dX5_vector_23 : decode cX5_vector 23 = .ok (.goto 4, 3) := by decide +kernel
theorem dX5_vector_26 : decode cX5_vector 26 = .ok (.iconst 0, 1) := by decide +kernel
theorem dX5_vector_27 : decode cX5_vector 27 = .ok (.istore_n 3, 1) := by decide +kernel
theorem dX5_vector_28 : decode cX5_vector 28 = .ok (.iload_n 3, 1) := by decide +kernel
theorem dX5_vector_29 : decode cX5_vector 29 = .ok (.ifCond .eq 25, 3) := by decide +kernel
theorem dX5_vector_32 : decode cX5_vector 32 = .ok (.aload_n 0, 1) := by decide +kernel
theorem dX5_vector_33 : decode cX5_vector 33 = .ok (.getfield 10, 3) := by decide +kernel
theorem dX5_vector_36 : decode cX5_vector 36 = .ok (.iload_n 1, 1) := by decide +kernel
theorem dX5_vector_37 : decode cX5_vector 37 = .ok (.invokevirtual 105, 3) := by decide +kernel
theorem dX5_vector_40 : decode cX5_vector 40 = .ok (.ifCond .eq 14, 3) := by decide +kernel
theorem dX5_vector_43 : decode cX5_vector 43 = .ok (.aload_n 0, 1) := by decide +kernel
theorem dX5_vector_44 : decode cX5_vector 44 = .ok (.getfield 10, 3) := by decide +kernel
theorem dX5_vector_47 : decode cX5_vector 47 = .ok (.iload_n 2, 1) := by decide +kernel
theorem dX5_vector_48 : decode cX5_vector 48 = .ok (.invokevirtual 105, 3) := by decide +kernel
theorem dX5_vector_51 : decode cX5_vector 51 = .ok (.ifCond .ne 5, 3) := by decide +kernel
theorem dX5_vector_54 : decode cX5_vector 54 = .ok (.iconst (-1), 1) := by decide +kernel
theorem dX5_vector_55 : decode cX5_vector 55 = .ok (.ireturn, 1) := by decide +kernel
theorem dX5_vector_56 : decode cX5_vector 56 = .ok (.aload_n 0, 1) := by decide +kernel
theorem dX5_vector_57 : decode cX5_vector 57 = .ok (.getfield 21, 3) := by decide +kernel
theorem dX5_vector_60 : decode cX5_vector 60 = .ok (.getfield 118, 3) := by decide +kernel
theorem dX5_vector_63 : decode cX5_vector 63 = .ok (.iload_n 1, 1) := by decide +kernel
theorem dX5_vector_64 : decode cX5_vector 64 = .ok (.iaload, 1) := by decide +kernel
theorem dX5_vector_65 : decode cX5_vector 65 = .ok (.iload_n 2, 1) := by decide +kernel
theorem dX5_vector_66 : decode cX5_vector 66 = .ok (.invokestatic 75, 3) := by decide +kernel
theorem dX5_vector_69 : decode cX5_vector 69 = .ok (.ifCond .eq 18, 3) := by decide +kernel
theorem dX5_vector_72 : decode cX5_vector 72 = .ok (.aload_n 0, 1) := by decide +kernel
theorem dX5_vector_73 : decode cX5_vector 73 = .ok (.getfield 21, 3) := by decide +kernel
theorem dX5_vector_76 : decode cX5_vector 76 = .ok (.getfield 52, 3) := by decide +kernel
theorem dX5_vector_79 : decode cX5_vector 79 = .ok (.getfield 56, 3) := by decide +kernel
theorem dX5_vector_82 : decode cX5_vector 82 = .ok (.iload_n 2, 1) := by decide +kernel
theorem dX5_vector_83 : decode cX5_vector 83 = .ok (.iaload, 1) := by decide +kernel
theorem dX5_vector_84 : decode cX5_vector 84 = .ok (.goto 5, 3) := by decide +kernel
theorem dX5_vector_87 : decode cX5_vector 87 = .ok (.bipush (-2), 2) := by decide +kernel
theorem dX5_vector_89 : decode cX5_vector 89 = .ok (.ireturn, 1) := by decide +kernel
set_option maxRecDepth 20000 in
theorem ggX5_heard_X2_isProcess : GoodIn wsX5_heard wsX2_isProcess := goodIn_r _ [8, 9, 27, 28, 29, 30, 31] (by decide +kernel) (by decide +kernel)
set_option maxRecDepth 20000 in
theorem gX5_heard_X2_isProcess : GoodIn wsX5_heard (wsV RX5 105 RX2 yX2_isProcess wsX2_isProcess) := goodIn_app (goodIn_of _ (by decide +kernel)) ggX5_heard_X2_isProcess
theorem dX5_heard_0 : decode cX5_heard 0 = .ok (.aload_n 0, 1) := by decide +kernel
theorem dX5_heard_1 : decode cX5_heard 1 = .ok (.getfield 10, 3) := by decide +kernel
theorem dX5_heard_4 : decode cX5_heard 4 = .ok (.iload_n 1, 1) := by decide +kernel
theorem dX5_heard_5 : decode cX5_heard 5 = .ok (.invokevirtual 105, 3) := by decide +kernel
theorem dX5_heard_8 : decode cX5_heard 8 = .ok (.ifCond .eq 15, 3) := by decide +kernel
