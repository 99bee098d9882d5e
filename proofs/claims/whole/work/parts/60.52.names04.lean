theorem dX6_sendLetters_89 : decode cX6_sendLetters 89 = .ok (.aload_n 0, 1) := by decide +kernel
theorem dX6_sendLetters_90 : decode cX6_sendLetters 90 = .ok (.invokevirtual 63, 3) := by decide +kernel
theorem dX6_sendLetters_93 : decode cX6_sendLetters 93 = .ok (.iconst 1, 1) := by decide +kernel
theorem dX6_sendLetters_94 : decode cX6_sendLetters 94 = .ok (.iload_n 2, 1) := by decide +kernel
theorem dX6_sendLetters_95 : decode cX6_sendLetters 95 = .ok (.ishl, 1) := by decide +kernel
theorem dX6_sendLetters_96 : decode cX6_sendLetters 96 = .ok (.iconst (-1), 1) := by decide +kernel
theorem dX6_sendLetters_97 : decode cX6_sendLetters 97 = .ok (.ixor, 1) := by decide +kernel
theorem dX6_sendLetters_98 : decode cX6_sendLetters 98 = .ok (.iand, 1) := by decide +kernel
theorem dX6_sendLetters_99 : decode cX6_sendLetters 99 = .ok (.iastore, 1) := by decide +kernel
theorem dX6_sendLetters_100 : decode cX6_sendLetters 100 = .ok (.aload_n 0, 1) := by decide +kernel
theorem dX6_sendLetters_101 : decode cX6_sendLetters 101 = .ok (.dup, 1) := by decide +kernel
theorem dX6_sendLetters_102 : decode cX6_sendLetters 102 = .ok (.getfield 60, 3) := by decide +kernel
theorem dX6_sendLetters_105 : decode cX6_sendLetters 105 = .ok (.aload_n 0, 1) := by decide +kernel
theorem dX6_sendLetters_106 : decode cX6_sendLetters 106 = .ok (.getfield 34, 3) := by decide +kernel
theorem dX6_sendLetters_109 : decode cX6_sendLetters 109 = .ok (.iload_n 2, 1) := by decide +kernel
theorem dX6_sendLetters_110 : decode cX6_sendLetters 110 = .ok (.iaload, 1) := by decide +kernel
theorem dX6_sendLetters_111 : decode cX6_sendLetters 111 = .ok (.invokestatic 105, 3) := by decide +kernel
theorem dX6_sendLetters_114 : decode cX6_sendLetters 114 = .ok (.iadd, 1) := by decide +kernel
theorem dX6_sendLetters_115 : decode cX6_sendLetters 115 = .ok (.putfield 60, 3) := by decide +kernel
theorem dX6_sendLetters_118 : decode cX6_sendLetters 118 = .ok (.iinc 2 1, 3) := by decide +kernel
theorem dX6_sendLetters_121 : decode cX6_sendLetters 121 = .ok (.goto (-119), 3) := by decide +kernel
theorem dX6_sendLetters_124 : decode cX6_sendLetters 124 = .ok (.return_, 1) := by decide +kernel
theorem dX6_joined_0 : decode cX6_joined 0 = .ok (.aload_n 0, 1) := by decide +kernel
theorem dX6_joined_1 : decode cX6_joined 1 = .ok (.getfield 73, 3) := by decide +kernel
theorem dX6_joined_4 : decode cX6_joined 4 = .ok (.tableswitch 50 0 6 #[44, 50, 50, 50, 44, 44, 48], 44) := by decide +kernel
theorem dX6_joined_48 : decode cX6_joined 48 = .ok (.iload_n 1, 1) := by decide +kernel
theorem dX6_joined_49 : decode cX6_joined 49 = .ok (.iload_n 2, 1) := by decide +kernel
theorem dX6_joined_50 : decode cX6_joined 50 = .ok (.ior, 1) := by decide +kernel
theorem dX6_joined_51 : decode cX6_joined 51 = .ok (.ireturn, 1) := by decide +kernel
theorem dX6_joined_52 : decode cX6_joined 52 = .ok (.iload_n 2, 1) := by decide +kernel
theorem dX6_joined_53 : decode cX6_joined 53 = .ok (.ireturn, 1) := by decide +kernel
theorem dX6_joined_54 : decode cX6_joined 54 = .ok (.iload_n 1, 1) := by decide +kernel
theorem dX6_joined_55 : decode cX6_joined 55 = .ok (.iload_n 2, 1) := by decide +kernel
theorem dX6_joined_56 : decode cX6_joined 56 = .ok (.if_icmp .ge 7, 3) := by decide +kernel
theorem dX6_joined_59 : decode cX6_joined 59 = .ok (.iload_n 1, 1) := by decide +kernel
theorem dX6_joined_60 : decode cX6_joined 60 = .ok (.goto 4, 3) := by decide +kernel
theorem dX6_joined_63 : decode cX6_joined 63 = .ok (.iload_n 2, 1) := by decide +kernel
theorem dX6_joined_64 : decode cX6_joined 64 = .ok (.ireturn, 1) := by decide +kernel
theorem dX6_decide_0 : decode cX6_decide 0 = .ok (.aload_n 0, 1) := by decide +kernel
theorem dX6_decide_1 : decode cX6_decide 1 = .ok (.getfield 28, 3) := by decide +kernel
theorem dX6_decide_4 : decode cX6_decide 4 = .ok (.iload_n 1, 1) := by decide +kernel
theorem dX6_decide_5 : decode cX6_decide 5 = .ok (.iaload, 1) := by decide +kernel
theorem dX6_decide_6 : decode cX6_decide 6 = .ok (.ifCond .ne 20, 3) := by decide +kernel
theorem dX6_decide_9 : decode cX6_decide 9 = .ok (.aload_n 0, 1) := by decide +kernel
theorem dX6_decide_10 : decode cX6_decide 10 = .ok (.getfield 25, 3) := by decide +kernel
theorem dX6_decide_13 : decode cX6_decide 13 = .ok (.iload_n 1, 1) := by decide +kernel
theorem dX6_decide_14 : decode cX6_decide 14 = .ok (.iload_n 2, 1) := by decide +kernel
theorem dX6_decide_15 : decode cX6_decide 15 = .ok (.iastore, 1) := by decide +kernel
theorem dX6_decide_16 : decode cX6_decide 16 = .ok (.aload_n 0, 1) := by decide +kernel
theorem dX6_decide_17 : decode cX6_decide 17 = .ok (.getfield 28, 3) := by decide +kernel
theorem dX6_decide_20 : decode cX6_decide 20 = .ok (.iload_n 1, 1) := by decide +kernel
theorem dX6_decide_21 : decode cX6_decide 21 = .ok (.aload_n 0, 1) := by decide +kernel
theorem dX6_decide_22 : decode cX6_decide 22 = .ok (.getfield 57, 3) := by decide +kernel
theorem dX6_decide_25 : decode cX6_decide 25 = .ok (.iastore, 1) := by decide +kernel
theorem dX6_decide_26 : decode cX6_decide 26 = .ok (.return_, 1) := by decide +kernel
set_option maxRecDepth 20000 in
theorem ggX6_lastWord_X6_bits : GoodIn wsX6_lastWord wsX6_bits := goodIn_r _ [8] (by decide +kernel) (by decide +kernel)
set_option maxRecDepth 20000 in
theorem gX6_lastWord_X6_bits : GoodIn wsX6_lastWord (va_wsS RX6 105 yX6_bits wsX6_bits) := goodIn_app (goodIn_of _ (by decide +kernel)) ggX6_lastWord_X6_bits
set_option maxRecDepth 20000 in
theorem ggX6_lastWord_X6_all : GoodIn wsX6_lastWord wsX6_all := goodIn_r _ [12, 3, 13, 14, 15, 16, 17, 18, 19, 20, 21, 22, 23, 24, 25, 26, 27, 28, 29, 30, 31, 32, 33, 34, 35] (by decide +kernel) (by decide +kernel)
set_option maxRecDepth 20000 in
theorem gX6_lastWord_X6_all : GoodIn wsX6_lastWord (wsV RX6 63 RX6 yX6_all wsX6_all) := goodIn_app (goodIn_of _ (by decide +kernel)) ggX6_lastWord_X6_all
theorem dX6_lastWord_0 : decode cX6_lastWord 0 = .ok (.aload_n 0, 1) := by decide +kernel
theorem dX6_lastWord_1 : decode cX6_lastWord 1 = .ok (.getfield 73, 3) := by decide +kernel
theorem dX6_lastWord_4 : decode cX6_lastWord 4 = .ok (.lookupswitch 136 #[(0, 36), (4, 59), (5, 69)], 36) := by decide +kernel
theorem dX6_lastWord_40 : decode cX6_lastWord 40 = .ok (.iconst 0, 1) := by decide +kernel
theorem dX6_lastWord_41 : decode cX6_lastWord 41 = .ok (.istore_n 2, 1) := by decide +kernel
theorem dX6_lastWord_42 : decode cX6_lastWord 42 = .ok (.aload_n 0, 1) := by decide +kernel
theorem dX6_lastWord_43 : decode cX6_lastWord 43 = .ok (.getfield 19, 3) := by decide +kernel
theorem dX6_lastWord_46 : decode cX6_lastWord 46 = .ok (.iload_n 1, 1) := by decide +kernel
theorem dX6_lastWord_47 : decode cX6_lastWord 47 = .ok (.iaload, 1) := by decide +kernel
theorem dX6_lastWord_48 : decode cX6_lastWord 48 = .ok (.iload_n 2, 1) := by decide +kernel
theorem dX6_lastWord_49 : decode cX6_lastWord 49 = .ok (.ishr, 1) := by decide +kernel
theorem dX6_lastWord_50 : decode cX6_lastWord 50 = .ok (.iconst 1, 1) := by decide +kernel
theorem dX6_lastWord_51 : decode cX6_lastWord 51 = .ok (.iand, 1) := by decide +kernel
theorem dX6_lastWord_52 : decode cX6_lastWord 52 = .ok (.ifCond .ne 9, 3) := by decide +kernel
theorem dX6_lastWord_55 : decode cX6_lastWord 55 = .ok (.iinc 2 1, 3) := by decide +kernel
theorem dX6_lastWord_58 : decode cX6_lastWord 58 = .ok (.goto (-16), 3) := by decide +kernel
theorem dX6_lastWord_61 : decode cX6_lastWord 61 = .ok (.iload_n 2, 1) := by decide +kernel
theorem dX6_lastWord_62 : decode cX6_lastWord 62 = .ok (.ireturn, 1) := by decide +kernel
theorem dX6_lastWord_63 : decode cX6_lastWord 63 = .ok (.aload_n 0, 1) := by decide +kernel
theorem dX6_lastWord_64 : decode cX6_lastWord 64 = .ok (.getfield 19, 3) := by decide +kernel
theorem dX6_lastWord_67 : decode cX6_lastWord 67 = .ok (.iload_n 1, 1) := by decide +kernel
theorem dX6_lastWord_68 : decode cX6_lastWord 68 = .ok (.iaload, 1) := by decide +kernel
theorem dX6_lastWord_69 : decode cX6_lastWord 69 = .ok (.invokestatic 105, 3) := by decide +kernel
theorem dX6_lastWord_72 : decode cX6_lastWord 72 = .ok (.ireturn, 1) := by decide +kernel
theorem dX6_lastWord_73 : decode cX6_lastWord 73 = .ok (.aload_n 0, 1) := by decide +kernel
theorem dX6_lastWord_74 : decode cX6_lastWord 74 = .ok (.getfield 19, 3) := by decide +kernel
theorem dX6_lastWord_77 : decode cX6_lastWord 77 = .ok (.iload_n 1, 1) := by decide +kernel
theorem dX6_lastWord_78 : decode cX6_lastWord 78 = .ok (.iaload, 1) := by decide +kernel
theorem dX6_lastWord_79 : decode cX6_lastWord 79 = .ok (.aload_n 0, 1) := by decide +kernel
theorem dX6_lastWord_80 : decode cX6_lastWord 80 = .ok (.invokevirtual 63, 3) := by decide +kernel
theorem dX6_lastWord_83 : decode cX6_lastWord 83 = .ok (.if_icmp .ne 7, 3) := by decide +kernel
theorem dX6_lastWord_86 : decode cX6_lastWord 86 = .ok (.iconst 1, 1) := by decide +kernel
theorem dX6_lastWord_87 : decode cX6_lastWord 87 = .ok (.goto 4, 3) := by decide +kernel
theorem dX6_lastWord_90 : decode cX6_lastWord 90 = .ok (.iconst 0, 1) := by decide +kernel
theorem dX6_lastWord_91 : decode cX6_lastWord 91 = .ok (.istore_n 3, 1) := by decide +kernel
theorem dX6_lastWord_92 : decode cX6_lastWord 92 = .ok (.iconst 0, 1) := by decide +kernel
theorem dX6_lastWord_93 : decode cX6_lastWord 93 = .ok (.istore 4, 2) := by decide +kernel
theorem dX6_lastWord_95 : decode cX6_lastWord 95 = .ok (.iload 4, 2) := by decide +kernel
theorem dX6_lastWord_97 : decode cX6_lastWord 97 = .ok (.aload_n 0, 1) := by decide +kernel
theorem dX6_lastWord_98 : decode cX6_lastWord 98 = .ok (.getfield 53, 3) := by decide +kernel
theorem dX6_lastWord_101 : decode cX6_lastWord 101 = .ok (.if_icmp .ge 29, 3) := by decide +kernel
theorem dX6_lastWord_104 : decode cX6_lastWord 104 = .ok (.iload_n 3, 1) := by decide +kernel
theorem dX6_lastWord_105 : decode cX6_lastWord 105 = .ok (.ifCond .eq 17, 3) := by decide +kernel
theorem dX6_lastWord_108 : decode cX6_lastWord 108 = .ok (.aload_n 0, 1) := by decide +kernel
theorem dX6_lastWord_109 : decode cX6_lastWord 109 = .ok (.getfield 7, 3) := by decide +kernel
theorem dX6_lastWord_112 : decode cX6_lastWord 112 = .ok (.iload 4, 2) := by decide +kernel
theorem dX6_lastWord_114 : decode cX6_lastWord 114 = .ok (.iaload, 1) := by decide +kernel
theorem dX6_lastWord_115 : decode cX6_lastWord 115 = .ok (.ifCond .eq 7, 3) := by decide +kernel
theorem dX6_lastWord_118 : decode cX6_lastWord 118 = .ok (.iconst 1, 1) := by decide +kernel
theorem dX6_lastWord_119 : decode cX6_lastWord 119 = .ok (.goto 4, 3) := by decide +kernel
theorem dX6_lastWord_122 : decode cX6_lastWord 122 = .ok (.iconst 0, 1) := by decide +kernel
theorem dX6_lastWord_123 : decode cX6_lastWord 123 = .ok (.istore_n 3, 1) := by decide +kernel
theorem dX6_lastWord_124 : decode cX6_lastWord 124 = .ok (.iinc 4 1, 3) := by decide +kernel
theorem dX6_lastWord_127 : decode cX6_lastWord 127 = .ok (.goto (-32), 3) := by decide +kernel
theorem dX6_lastWord_130 : decode cX6_lastWord 130 = .ok (.iload_n 3, 1) := by decide +kernel
theorem dX6_lastWord_131 : decode cX6_lastWord 131 = .ok (.ifCond .eq 7, 3) := by decide +kernel
theorem dX6_lastWord_134 : decode cX6_lastWord 134 = .ok (.iconst 1, 1) := by decide +kernel
theorem dX6_lastWord_135 : decode cX6_lastWord 135 = .ok (.goto 4, 3) := by decide +kernel
theorem dX6_lastWord_138 : decode cX6_lastWord 138 = .ok (.iconst 0, 1) := by decide +kernel
theorem dX6_lastWord_139 : decode cX6_lastWord 139 = .ok (.ireturn, 1) := by decide +kernel
theorem dX6_lastWord_140 : decode cX6_lastWord 140 = .ok (.aload_n 0, 1) := by decide +kernel
theorem dX6_lastWord_141 : decode cX6_lastWord 141 = .ok (.getfield 19, 3) := by decide +kernel
theorem dX6_lastWord_144 : decode cX6_lastWord 144 = .ok (.iload_n 1, 1) := by decide +kernel
theorem dX6_lastWord_145 : decode cX6_lastWord 145 = .ok (.iaload, 1) := by decide +kernel
theorem dX6_lastWord_146 : decode cX6_lastWord 146 = .ok (.ireturn, 1) := by decide +kernel
set_option maxRecDepth 20000 in
theorem ggX6_round_X6_sendLetters : GoodIn wsX6_round wsX6_sendLetters := goodIn_r _ [10, 3, 11, 12, 13, 14, 4, 15, 16, 17, 18, 19, 9, 20, 5, 21, 22, 23, 24, 25, 26, 27, 49, 50, 51, 52, 53, 54, 55, 56, 57, 58, 59, 60, 61, 62, 63, 64, 65, 66, 67, 68, 69, 70, 71] (by decide +kernel) (by decide +kernel)
set_option maxRecDepth 20000 in
theorem gX6_round_X6_sendLetters : GoodIn wsX6_round (wsV RX6 109 RX6 yX6_sendLetters wsX6_sendLetters) := goodIn_app (goodIn_of _ (by decide +kernel)) ggX6_round_X6_sendLetters
set_option maxRecDepth 20000 in
theorem ggX6_round_X6_isUp : GoodIn wsX6_round wsX6_isUp := goodIn_r _ [20, 5, 49, 50, 51, 52, 53, 54, 55, 56, 57, 58, 59, 60, 61, 62, 63, 64, 65, 66, 67, 68, 69, 70, 71] (by decide +kernel) (by decide +kernel)
set_option maxRecDepth 20000 in
theorem gX6_round_X6_isUp : GoodIn wsX6_round (wsV RX6 102 RX6 yX6_isUp wsX6_isUp) := goodIn_app (goodIn_of _ (by decide +kernel)) ggX6_round_X6_isUp
set_option maxRecDepth 20000 in
theorem ggX6_round_X6_receive : GoodIn wsX6_round wsX6_receive := goodIn_r _ [31, 13, 1, 3, 14, 12, 11, 32, 33, 2, 34, 35, 36, 9, 37, 38, 39, 40, 41, 42, 43, 44, 45, 46, 47, 48, 25, 26, 27, 21, 22, 23, 24, 49, 50, 51, 52, 53, 54, 55, 56, 57, 58, 59, 60, 61, 62, 63, 64, 65, 66, 67, 68, 69, 70, 71] (by decide +kernel) (by decide +kernel)
set_option maxRecDepth 20000 in
theorem gX6_round_X6_receive : GoodIn wsX6_round (wsV RX6 113 RX6 yX6_receive wsX6_receive) := goodIn_app (goodIn_of _ (by decide +kernel)) ggX6_round_X6_receive
theorem dX6_round_0 : decode cX6_round 0 = .ok (.aload_n 0, 1) := by decide +kernel
theorem dX6_round_1 : decode cX6_round 1 = .ok (.getfield 57, 3) := by decide +kernel
theorem dX6_round_4 : decode cX6_round 4 = .ok (.iconst 1, 1) := by decide +kernel
theorem dX6_round_5 : decode cX6_round 5 = .ok (.iadd, 1) := by decide +kernel
theorem dX6_round_6 : decode cX6_round 6 = .ok (.istore_n 1, 1) := by decide +kernel
theorem dX6_round_7 : decode cX6_round 7 = .ok (.aload_n 0, 1) := by decide +kernel
theorem dX6_round_8 : decode cX6_round 8 = .ok (.iload_n 1, 1) := by decide +kernel
theorem dX6_round_9 : decode cX6_round 9 = .ok (.invokevirtual 109, 3) := by decide +kernel
theorem dX6_round_12 : decode cX6_round 12 = .ok (.aload_n 0, 1) := by decide +kernel
theorem dX6_round_13 : decode cX6_round 13 = .ok (.getfield 70, 3) := by decide +kernel
theorem dX6_round_16 : decode cX6_round 16 = .ok (.istore_n 2, 1) := by decide +kernel
theorem dX6_round_17 : decode cX6_round 17 = .ok (.iconst 0, 1) := by decide +kernel
theorem dX6_round_18 : decode cX6_round 18 = .ok (.istore_n 3, 1) := by decide +kernel
theorem dX6_round_19 : decode cX6_round 19 = .ok (.iload_n 3, 1) := by decide +kernel
theorem dX6_round_20 : decode cX6_round 20 = .ok (.aload_n 0, 1) := by decide +kernel
theorem dX6_round_21 : decode cX6_round 21 = .ok (.getfield 53, 3) := by decide +kernel
theorem dX6_round_24 : decode cX6_round 24 = .ok (.if_icmp .ge 40, 3) := by decide +kernel
theorem dX6_round_27 : decode cX6_round 27 = .ok (.aload_n 0, 1) := by decide +kernel
theorem dX6_round_28 : decode cX6_round 28 = .ok (.aload_n 0, 1) := by decide +kernel
theorem dX6_round_29 : decode cX6_round 29 = .ok (.getfield 13, 3) := by decide +kernel
theorem dX6_round_32 : decode cX6_round 32 = .ok (.iload_n 3, 1) := by decide +kernel
theorem dX6_round_33 : decode cX6_round 33 = .ok (.iaload, 1) := by decide +kernel
theorem dX6_round_34 : decode cX6_round 34 = .ok (.iload_n 1, 1) := by decide +kernel
theorem dX6_round_35 : decode cX6_round 35 = .ok (.if_icmp .ne 16, 3) := by decide +kernel
theorem dX6_round_38 : decode cX6_round 38 = .ok (.aload_n 0, 1) := by decide +kernel
theorem dX6_round_39 : decode cX6_round 39 = .ok (.getfield 67, 3) := by decide +kernel
theorem dX6_round_42 : decode cX6_round 42 = .ok (.iconst 1, 1) := by decide +kernel
theorem dX6_round_43 : decode cX6_round 43 = .ok (.iload_n 3, 1) := by decide +kernel
theorem dX6_round_44 : decode cX6_round 44 = .ok (.ishl, 1) := by decide +kernel
theorem dX6_round_45 : decode cX6_round 45 = .ok (.iconst (-1), 1) := by decide +kernel
theorem dX6_round_46 : decode cX6_round 46 = .ok (.ixor, 1) := by decide +kernel
theorem dX6_round_47 : decode cX6_round 47 = .ok (.iand, 1) := by decide +kernel
theorem dX6_round_48 : decode cX6_round 48 = .ok (.goto 7, 3) := by decide +kernel
theorem dX6_round_51 : decode cX6_round 51 = .ok (.aload_n 0, 1) := by decide +kernel
theorem dX6_round_52 : decode cX6_round 52 = .ok (.getfield 67, 3) := by decide +kernel
theorem dX6_round_55 : decode cX6_round 55 = .ok (.putfield 67, 3) := by decide +kernel
theorem dX6_round_58 : decode cX6_round 58 = .ok (.iinc 3 1, 3) := by decide +kernel
theorem dX6_round_61 : decode cX6_round 61 = .ok (.goto (-42), 3) := by decide +kernel
theorem dX6_round_64 : decode cX6_round 64 = .ok (.aload_n 0, 1) := by decide +kernel
theorem dX6_round_65 : decode cX6_round 65 = .ok (.iload_n 1, 1) := by decide +kernel
theorem dX6_round_66 : decode cX6_round 66 = .ok (.putfield 57, 3) := by decide +kernel
theorem dX6_round_69 : decode cX6_round 69 = .ok (.iconst 0, 1) := by decide +kernel
theorem dX6_round_70 : decode cX6_round 70 = .ok (.istore_n 3, 1) := by decide +kernel
theorem dX6_round_71 : decode cX6_round 71 = .ok (.iload_n 3, 1) := by decide +kernel
theorem dX6_round_72 : decode cX6_round 72 = .ok (.aload_n 0, 1) := by decide +kernel
theorem dX6_round_73 : decode cX6_round 73 = .ok (.getfield 53, 3) := by decide +kernel
theorem dX6_round_76 : decode cX6_round 76 = .ok (.if_icmp .ge 23, 3) := by decide +kernel
theorem dX6_round_79 : decode cX6_round 79 = .ok (.aload_n 0, 1) := by decide +kernel
theorem dX6_round_80 : decode cX6_round 80 = .ok (.iload_n 3, 1) := by decide +kernel
theorem dX6_round_81 : decode cX6_round 81 = .ok (.invokevirtual 102, 3) := by decide +kernel
theorem dX6_round_84 : decode cX6_round 84 = .ok (.ifCond .eq 9, 3) := by decide +kernel
theorem dX6_round_87 : decode cX6_round 87 = .ok (.aload_n 0, 1) := by decide +kernel
theorem dX6_round_88 : decode cX6_round 88 = .ok (.iload_n 3, 1) := by decide +kernel
theorem dX6_round_89 : decode cX6_round 89 = .ok (.iload_n 2, 1) := by decide +kernel
theorem dX6_round_90 : decode cX6_round 90 = .ok (.invokevirtual 113, 3) := by decide +kernel
theorem dX6_round_93 : decode cX6_round 93 = .ok (.iinc 3 1, 3) := by decide +kernel
theorem dX6_round_96 : decode cX6_round 96 = .ok (.goto (-25), 3) := by decide +kernel
theorem dX6_round_99 : decode cX6_round 99 = .ok (.return_, 1) := by decide +kernel
set_option maxRecDepth 20000 in
theorem ggX6_receive_X6_joined : GoodIn wsX6_receive wsX6_joined := goodIn_r _ [14, 1, 33, 34, 35, 36, 37, 38, 39, 40, 41, 42, 43, 44, 45, 46, 47, 48, 49, 50, 51, 52, 53, 54, 55] (by decide +kernel) (by decide +kernel)
set_option maxRecDepth 20000 in
theorem gX6_receive_X6_joined : GoodIn wsX6_receive (wsV RX6 117 RX6 yX6_joined wsX6_joined) := goodIn_app (goodIn_of _ (by decide +kernel)) ggX6_receive_X6_joined
set_option maxRecDepth 20000 in
theorem ggX6_receive_X6_decide : GoodIn wsX6_receive wsX6_decide := goodIn_r _ [18, 19, 20, 2, 33, 34, 35, 36, 37, 38, 39, 40, 41, 42, 43, 44, 45, 46, 47, 48, 49, 50, 51, 52, 53, 54, 55] (by decide +kernel) (by decide +kernel)
set_option maxRecDepth 20000 in
theorem gX6_receive_X6_decide : GoodIn wsX6_receive (wsV RX6 121 RX6 yX6_decide wsX6_decide) := goodIn_app (goodIn_of _ (by decide +kernel)) ggX6_receive_X6_decide
set_option maxRecDepth 20000 in
theorem ggX6_receive_X6_lastWord : GoodIn wsX6_receive wsX6_lastWord := goodIn_r _ [24, 1, 5, 3, 25, 26, 27, 13, 28, 29, 30, 31, 32, 33, 34, 35, 36, 37, 38, 39, 40, 41, 42, 43, 44, 45, 46, 47, 48, 49, 50, 51, 52, 53, 54, 55] (by decide +kernel) (by decide +kernel)
set_option maxRecDepth 20000 in
theorem gX6_receive_X6_lastWord : GoodIn wsX6_receive (wsV RX6 124 RX6 yX6_lastWord wsX6_lastWord) := goodIn_app (goodIn_of _ (by decide +kernel)) ggX6_receive_X6_lastWord
theorem dX6_receive_0 : decode cX6_receive 0 = .ok (.aload_n 0, 1) := by decide +kernel
theorem dX6_receive_1 : decode cX6_receive 1 = .ok (.getfield 73, 3) := by decide +kernel
theorem dX6_receive_4 : decode cX6_receive 4 = .ok (.bipush 6, 2) := by decide +kernel
theorem dX6_receive_6 : decode cX6_receive 6 = .ok (.if_icmp .ne 22, 3) := by decide +kernel
theorem dX6_receive_9 : decode cX6_receive 9 = .ok (.aload_n 0, 1) := by decide +kernel
theorem dX6_receive_10 : decode cX6_receive 10 = .ok (.getfield 57, 3) := by decide +kernel
theorem dX6_receive_13 : decode cX6_receive 13 = .ok (.iconst 1, 1) := by decide +kernel
theorem dX6_receive_14 : decode cX6_receive 14 = .ok (.isub, 1) := by decide +kernel
theorem dX6_receive_15 : decode cX6_receive 15 = .ok (.aload_n 0, 1) := by decide +kernel
theorem dX6_receive_16 : decode cX6_receive 16 = .ok (.getfield 53, 3) := by decide +kernel
theorem dX6_receive_19 : decode cX6_receive 19 = .ok (.irem, 1) := by decide +kernel
theorem dX6_receive_20 : decode cX6_receive 20 = .ok (.iload_n 1, 1) := by decide +kernel
theorem dX6_receive_21 : decode cX6_receive 21 = .ok (.if_icmp .eq 7, 3) := by decide +kernel
theorem dX6_receive_24 : decode cX6_receive 24 = .ok (.iconst 0, 1) := by decide +kernel
theorem dX6_receive_25 : decode cX6_receive 25 = .ok (.goto 4, 3) := by decide +kernel
theorem dX6_receive_28 : decode cX6_receive 28 = .ok (.iconst 1, 1) := by decide +kernel
theorem dX6_receive_29 : decode cX6_receive 29 = .ok (.istore_n 3, 1) := by decide +kernel
theorem dX6_receive_30 : decode cX6_receive 30 = .ok (.iconst 0, 1) := by decide +kernel
theorem dX6_receive_31 : decode cX6_receive 31 = .ok (.istore 4, 2) := by decide +kernel
theorem dX6_receive_33 : decode cX6_receive 33 = .ok (.iconst 0, 1) := by decide +kernel
theorem dX6_receive_34 : decode cX6_receive 34 = .ok (.istore 5, 2) := by decide +kernel
theorem dX6_receive_36 : decode cX6_receive 36 = .ok (.iload 5, 2) := by decide +kernel
theorem dX6_receive_38 : decode cX6_receive 38 = .ok (.aload_n 0, 1) := by decide +kernel
theorem dX6_receive_39 : decode cX6_receive 39 = .ok (.getfield 53, 3) := by decide +kernel
theorem dX6_receive_42 : decode cX6_receive 42 = .ok (.if_icmp .ge 72, 3) := by decide +kernel
theorem dX6_receive_45 : decode cX6_receive 45 = .ok (.aload_n 0, 1) := by decide +kernel
theorem dX6_receive_46 : decode cX6_receive 46 = .ok (.getfield 34, 3) := by decide +kernel
theorem dX6_receive_49 : decode cX6_receive 49 = .ok (.iload 5, 2) := by decide +kernel
theorem dX6_receive_51 : decode cX6_receive 51 = .ok (.iaload, 1) := by decide +kernel
theorem dX6_receive_52 : decode cX6_receive 52 = .ok (.iload_n 1, 1) := by decide +kernel
theorem dX6_receive_53 : decode cX6_receive 53 = .ok (.ishr, 1) := by decide +kernel
theorem dX6_receive_54 : decode cX6_receive 54 = .ok (.iconst 1, 1) := by decide +kernel
theorem dX6_receive_55 : decode cX6_receive 55 = .ok (.iand, 1) := by decide +kernel
theorem dX6_receive_56 : decode cX6_receive 56 = .ok (.iconst 1, 1) := by decide +kernel
theorem dX6_receive_57 : decode cX6_receive 57 = .ok (.if_icmp .ne 51, 3) := by decide +kernel
theorem dX6_receive_60 : decode cX6_receive 60 = .ok (.iinc 3 1, 3) := by decide +kernel
theorem dX6_receive_63 : decode cX6_receive 63 = .ok (.aload_n 0, 1) := by decide +kernel
theorem dX6_receive_64 : decode cX6_receive 64 = .ok (.getfield 19, 3) := by decide +kernel
theorem dX6_receive_67 : decode cX6_receive 67 = .ok (.iload_n 1, 1) := by decide +kernel
theorem dX6_receive_68 : decode cX6_receive 68 = .ok (.aload_n 0, 1) := by decide +kernel
theorem dX6_receive_69 : decode cX6_receive 69 = .ok (.aload_n 0, 1) := by decide +kernel
theorem dX6_receive_70 : decode cX6_receive 70 = .ok (.getfield 19, 3) := by decide +kernel
theorem dX6_receive_73 : decode cX6_receive 73 = .ok (.iload_n 1, 1) := by decide +kernel
theorem dX6_receive_74 : decode cX6_receive 74 = .ok (.iaload, 1) := by decide +kernel
theorem dX6_receive_75 : decode cX6_receive 75 = .ok (.aload_n 0, 1) := by decide +kernel
theorem dX6_receive_76 : decode cX6_receive 76 = .ok (.getfield 31, 3) := by decide +kernel
theorem dX6_receive_79 : decode cX6_receive 79 = .ok (.iload 5, 2) := by decide +kernel
theorem dX6_receive_81 : decode cX6_receive 81 = .ok (.iaload, 1) := by decide +kernel
theorem dX6_receive_82 : decode cX6_receive 82 = .ok (.invokevirtual 117, 3) := by decide +kernel
theorem dX6_receive_85 : decode cX6_receive 85 = .ok (.iastore, 1) := by decide +kernel
theorem dX6_receive_86 : decode cX6_receive 86 = .ok (.iload 4, 2) := by decide +kernel
theorem dX6_receive_88 : decode cX6_receive 88 = .ok (.ifCond .ne 13, 3) := by decide +kernel
theorem dX6_receive_91 : decode cX6_receive 91 = .ok (.iload_n 2, 1) := by decide +kernel
theorem dX6_receive_92 : decode cX6_receive 92 = .ok (.iload 5, 2) := by decide +kernel
theorem dX6_receive_94 : decode cX6_receive 94 = .ok (.ishr, 1) := by decide +kernel
theorem dX6_receive_95 : decode cX6_receive 95 = .ok (.iconst 1, 1) := by decide +kernel
theorem dX6_receive_96 : decode cX6_receive 96 = .ok (.iand, 1) := by decide +kernel
theorem dX6_receive_97 : decode cX6_receive 97 = .ok (.iconst 1, 1) := by decide +kernel
theorem dX6_receive_98 : decode cX6_receive 98 = .ok (.if_icmp .ne 7, 3) := by decide +kernel
theorem dX6_receive_101 : decode cX6_receive 101 = .ok (.iconst 1, 1) := by decide +kernel
theorem dX6_receive_102 : decode cX6_receive 102 = .ok (.goto 4, 3) := by decide +kernel
theorem dX6_receive_105 : decode cX6_receive 105 = .ok (.iconst 0, 1) := by decide +kernel
theorem dX6_receive_106 : decode cX6_receive 106 = .ok (.istore 4, 2) := by decide +kernel
theorem dX6_receive_108 : decode cX6_receive 108 = .ok (.iinc 5 1, 3) := by decide +kernel
theorem dX6_receive_111 : decode cX6_receive 111 = .ok (.goto (-75), 3) := by decide +kernel
theorem dX6_receive_114 : decode cX6_receive 114 = .ok (.iload_n 3, 1) := by decide +kernel
theorem dX6_receive_115 : decode cX6_receive 115 = .ok (.aload_n 0, 1) := by decide +kernel
theorem dX6_receive_116 : decode cX6_receive 116 = .ok (.getfield 22, 3) := by decide +kernel
theorem dX6_receive_119 : decode cX6_receive 119 = .ok (.iload_n 1, 1) := by decide +kernel
theorem dX6_receive_120 : decode cX6_receive 120 = .ok (.iaload, 1) := by decide +kernel
theorem dX6_receive_121 : decode cX6_receive 121 = .ok (.if_icmp .ne 7, 3) := by decide +kernel
theorem dX6_receive_124 : decode cX6_receive 124 = .ok (.iconst 1, 1) := by decide +kernel
theorem dX6_receive_125 : decode cX6_receive 125 = .ok (.goto 4, 3) := by decide +kernel
theorem dX6_receive_128 : decode cX6_receive 128 = .ok (.iconst 0, 1) := by decide +kernel
theorem dX6_receive_129 : decode cX6_receive 129 = .ok (.istore 5, 2) := by decide +kernel
theorem dX6_receive_131 : decode cX6_receive 131 = .ok (.iload 5, 2) := by decide +kernel
theorem dX6_receive_133 : decode cX6_receive 133 = .ok (.ifCond .ne 14, 3) := by decide +kernel
theorem dX6_receive_136 : decode cX6_receive 136 = .ok (.aload_n 0, 1) := by decide +kernel
theorem dX6_receive_137 : decode cX6_receive 137 = .ok (.getfield 57, 3) := by decide +kernel
theorem dX6_receive_140 : decode cX6_receive 140 = .ok (.aload_n 0, 1) := by decide +kernel
theorem dX6_receive_141 : decode cX6_receive 141 = .ok (.getfield 86, 3) := by decide +kernel
theorem dX6_receive_144 : decode cX6_receive 144 = .ok (.if_icmp .ne 7, 3) := by decide +kernel
theorem dX6_receive_147 : decode cX6_receive 147 = .ok (.iconst 1, 1) := by decide +kernel
theorem dX6_receive_148 : decode cX6_receive 148 = .ok (.goto 4, 3) := by decide +kernel
theorem dX6_receive_151 : decode cX6_receive 151 = .ok (.iconst 0, 1) := by decide +kernel
theorem dX6_receive_152 : decode cX6_receive 152 = .ok (.istore 6, 2) := by decide +kernel
theorem dX6_receive_154 : decode cX6_receive 154 = .ok (.aload_n 0, 1) := by decide +kernel
theorem dX6_receive_155 : decode cX6_receive 155 = .ok (.getfield 22, 3) := by decide +kernel
theorem dX6_receive_158 : decode cX6_receive 158 = .ok (.iload_n 1, 1) := by decide +kernel
theorem dX6_receive_159 : decode cX6_receive 159 = .ok (.iload_n 3, 1) := by decide +kernel
theorem dX6_receive_160 : decode cX6_receive 160 = .ok (.iastore, 1) := by decide +kernel
theorem dX6_receive_161 : decode cX6_receive 161 = .ok (.aload_n 0, 1) := by decide +kernel
theorem dX6_receive_162 : decode cX6_receive 162 = .ok (.getfield 73, 3) := by decide +kernel
theorem dX6_receive_165 : decode cX6_receive 165 = .ok (.iconst 1, 1) := by decide +kernel
theorem dX6_receive_166 : decode cX6_receive 166 = .ok (.if_icmp .ne 22, 3) := by decide +kernel
theorem dX6_receive_169 : decode cX6_receive 169 = .ok (.iload 6, 2) := by decide +kernel
theorem dX6_receive_171 : decode cX6_receive 171 = .ok (.ifCond .eq 17, 3) := by decide +kernel
theorem dX6_receive_174 : decode cX6_receive 174 = .ok (.aload_n 0, 1) := by decide +kernel
theorem dX6_receive_175 : decode cX6_receive 175 = .ok (.iload_n 1, 1) := by decide +kernel
theorem dX6_receive_176 : decode cX6_receive 176 = .ok (.aload_n 0, 1) := by decide +kernel
theorem dX6_receive_177 : decode cX6_receive 177 = .ok (.getfield 19, 3) := by decide +kernel
theorem dX6_receive_180 : decode cX6_receive 180 = .ok (.iload_n 1, 1) := by decide +kernel
theorem dX6_receive_181 : decode cX6_receive 181 = .ok (.iaload, 1) := by decide +kernel
theorem dX6_receive_182 : decode cX6_receive 182 = .ok (.invokevirtual 121, 3) := by decide +kernel
theorem dX6_receive_185 : decode cX6_receive 185 = .ok (.goto 60, 3) := by decide +kernel
theorem dX6_receive_188 : decode cX6_receive 188 = .ok (.aload_n 0, 1) := by decide +kernel
theorem dX6_receive_189 : decode cX6_receive 189 = .ok (.getfield 73, 3) := by decide +kernel
theorem dX6_receive_192 : decode cX6_receive 192 = .ok (.iconst 2, 1) := by decide +kernel
theorem dX6_receive_193 : decode cX6_receive 193 = .ok (.if_icmp .ne 52, 3) := by decide +kernel
theorem dX6_receive_196 : decode cX6_receive 196 = .ok (.iload_n 2, 1) := by decide +kernel
theorem dX6_receive_197 : decode cX6_receive 197 = .ok (.iload_n 1, 1) := by decide +kernel
theorem dX6_receive_198 : decode cX6_receive 198 = .ok (.ishr, 1) := by decide +kernel
theorem dX6_receive_199 : decode cX6_receive 199 = .ok (.iconst 1, 1) := by decide +kernel
theorem dX6_receive_200 : decode cX6_receive 200 = .ok (.iand, 1) := by decide +kernel
theorem dX6_receive_201 : decode cX6_receive 201 = .ok (.iconst 1, 1) := by decide +kernel
theorem dX6_receive_202 : decode cX6_receive 202 = .ok (.if_icmp .ne 14, 3) := by decide +kernel
theorem dX6_receive_205 : decode cX6_receive 205 = .ok (.aload_n 0, 1) := by decide +kernel
theorem dX6_receive_206 : decode cX6_receive 206 = .ok (.iload_n 1, 1) := by decide +kernel
theorem dX6_receive_207 : decode cX6_receive 207 = .ok (.aload_n 0, 1) := by decide +kernel
theorem dX6_receive_208 : decode cX6_receive 208 = .ok (.getfield 31, 3) := by decide +kernel
theorem dX6_receive_211 : decode cX6_receive 211 = .ok (.iload_n 1, 1) := by decide +kernel
theorem dX6_receive_212 : decode cX6_receive 212 = .ok (.iaload, 1) := by decide +kernel
theorem dX6_receive_213 : decode cX6_receive 213 = .ok (.invokevirtual 121, 3) := by decide +kernel
theorem dX6_receive_216 : decode cX6_receive 216 = .ok (.aload_n 0, 1) := by decide +kernel
theorem dX6_receive_217 : decode cX6_receive 217 = .ok (.iload 5, 2) := by decide +kernel
theorem dX6_receive_219 : decode cX6_receive 219 = .ok (.ifCond .ne 8, 3) := by decide +kernel
theorem dX6_receive_222 : decode cX6_receive 222 = .ok (.iload 4, 2) := by decide +kernel
theorem dX6_receive_224 : decode cX6_receive 224 = .ok (.ifCond .eq 14, 3) := by decide +kernel
theorem dX6_receive_227 : decode cX6_receive 227 = .ok (.aload_n 0, 1) := by decide +kernel
theorem dX6_receive_228 : decode cX6_receive 228 = .ok (.getfield 70, 3) := by decide +kernel
theorem dX6_receive_231 : decode cX6_receive 231 = .ok (.iconst 1, 1) := by decide +kernel
theorem dX6_receive_232 : decode cX6_receive 232 = .ok (.iload_n 1, 1) := by decide +kernel
theorem dX6_receive_233 : decode cX6_receive 233 = .ok (.ishl, 1) := by decide +kernel
theorem dX6_receive_234 : decode cX6_receive 234 = .ok (.ior, 1) := by decide +kernel
theorem dX6_receive_235 : decode cX6_receive 235 = .ok (.goto 7, 3) := by decide +kernel
theorem dX6_receive_238 : decode cX6_receive 238 = .ok (.aload_n 0, 1) := by decide +kernel
theorem dX6_receive_239 : decode cX6_receive 239 = .ok (.getfield 70, 3) := by decide +kernel
theorem dX6_receive_242 : decode cX6_receive 242 = .ok (.putfield 70, 3) := by decide +kernel
theorem dX6_receive_245 : decode cX6_receive 245 = .ok (.aload_n 0, 1) := by decide +kernel
theorem dX6_receive_246 : decode cX6_receive 246 = .ok (.getfield 57, 3) := by decide +kernel
theorem dX6_receive_249 : decode cX6_receive 249 = .ok (.aload_n 0, 1) := by decide +kernel
theorem dX6_receive_250 : decode cX6_receive 250 = .ok (.getfield 86, 3) := by decide +kernel
theorem dX6_receive_253 : decode cX6_receive 253 = .ok (.if_icmp .ne 13, 3) := by decide +kernel
theorem dX6_receive_256 : decode cX6_receive 256 = .ok (.aload_n 0, 1) := by decide +kernel
theorem dX6_receive_257 : decode cX6_receive 257 = .ok (.iload_n 1, 1) := by decide +kernel
theorem dX6_receive_258 : decode cX6_receive 258 = .ok (.aload_n 0, 1) := by decide +kernel
theorem dX6_receive_259 : decode cX6_receive 259 = .ok (.iload_n 1, 1) := by decide +kernel
theorem dX6_receive_260 : decode cX6_receive 260 = .ok (.invokevirtual 124, 3) := by decide +kernel
theorem dX6_receive_263 : decode cX6_receive 263 = .ok (.invokevirtual 121, 3) := by decide +kernel
theorem dX6_receive_266 : decode cX6_receive 266 = .ok (.return_, 1) := by decide +kernel
set_option maxRecDepth 20000 in
theorem ggX6_step_X6_round : GoodIn wsX6_step wsX6_round := goodIn_r _ [7, 1, 8, 9, 10, 11, 12, 13, 14, 6, 15, 16, 17, 18, 19, 20, 21, 22, 23, 24, 25, 26, 27, 28, 29, 30, 31, 32, 33, 34, 35, 36, 37, 2, 38, 39, 40, 41, 42, 43, 44, 45, 46, 47, 48, 49, 50, 51, 52, 53, 54, 55, 56, 57, 58, 59, 60, 61, 62, 63, 64, 65, 66, 67, 68, 69, 70, 71, 72, 73, 74, 75] (by decide +kernel) (by decide +kernel)
set_option maxRecDepth 20000 in
theorem gX6_step_X6_round : GoodIn wsX6_step (wsV RX6 127 RX6 yX6_round wsX6_round) := goodIn_app (goodIn_of _ (by decide +kernel)) ggX6_step_X6_round
theorem dX6_step_0 : decode cX6_step 0 = .ok (.aload_n 0, 1) := by decide +kernel
theorem dX6_step_1 : decode cX6_step 1 = .ok (.getfield 57, 3) := by decide +kernel
theorem dX6_step_4 : decode cX6_step 4 = .ok (.aload_n 0, 1) := by decide +kernel
theorem dX6_step_5 : decode cX6_step 5 = .ok (.getfield 86, 3) := by decide +kernel
theorem dX6_step_8 : decode cX6_step 8 = .ok (.if_icmp .ne 5, 3) := by decide +kernel
theorem dX6_step_11 : decode cX6_step 11 = .ok (.iconst (-1), 1) := by decide +kernel
theorem dX6_step_12 : decode cX6_step 12 = .ok (.ireturn, 1) := by decide +kernel
theorem dX6_step_13 : decode cX6_step 13 = .ok (.aload_n 0, 1) := by decide +kernel
theorem dX6_step_14 : decode cX6_step 14 = .ok (.invokevirtual 127, 3) := by decide +kernel
theorem dX6_step_17 : decode cX6_step 17 = .ok (.aload_n 0, 1) := by decide +kernel
theorem dX6_step_18 : decode cX6_step 18 = .ok (.getfield 57, 3) := by decide +kernel
theorem dX6_step_21 : decode cX6_step 21 = .ok (.ireturn, 1) := by decide +kernel
set_option maxRecDepth 20000 in
theorem ggX6_run_X6_round : GoodIn wsX6_run wsX6_round := goodIn_r _ [7, 1, 8, 9, 10, 11, 12, 13, 14, 6, 15, 16, 17, 18, 19, 20, 21, 22, 23, 24, 25, 26, 27, 28, 29, 30, 31, 32, 33, 34, 35, 36, 37, 2, 38, 39, 40, 41, 42, 43, 44, 45, 46, 47, 48, 49, 50, 51, 52, 53, 54, 55, 56, 57, 58, 59, 60, 61, 62, 63, 64, 65, 66, 67, 68, 69, 70, 71, 72, 73, 74, 75] (by decide +kernel) (by decide +kernel)
set_option maxRecDepth 20000 in
theorem gX6_run_X6_round : GoodIn wsX6_run (wsV RX6 127 RX6 yX6_round wsX6_round) := goodIn_app (goodIn_of _ (by decide +kernel)) ggX6_run_X6_round
theorem dX6_run_0 : decode cX6_run 0 = .ok (.aload_n 0, 1) := by decide +kernel
theorem dX6_run_1 : decode cX6_run 1 = .ok (.getfield 57, 3) := by decide +kernel
theorem dX6_run_4 : decode cX6_run 4 = .ok (.aload_n 0, 1) := by decide +kernel
theorem dX6_run_5 : decode cX6_run 5 = .ok (.getfield 86, 3) := by decide +kernel
theorem dX6_run_8 : decode cX6_run 8 = .ok (.if_icmp .ge 10, 3) := by decide +kernel
theorem dX6_run_11 : decode cX6_run 11 = .ok (.aload_n 0, 1) := by decide +kernel
theorem dX6_run_12 : decode cX6_run 12 = .ok (.invokevirtual 127, 3) := by decide +kernel
theorem dX6_run_15 : decode cX6_run 15 = .ok (.goto (-15), 3) := by decide +kernel
theorem dX6_run_18 : decode cX6_run 18 = .ok (.aload_n 0, 1) := by decide +kernel
theorem dX6_run_19 : decode cX6_run 19 = .ok (.getfield 86, 3) := by decide +kernel
theorem dX6_run_22 : decode cX6_run 22 = .ok (.ireturn, 1) := by decide +kernel
set_option maxRecDepth 20000 in
theorem ggX6_again_X6_begin : GoodIn wsX6_again wsX6_begin := goodIn_r _ [6, 1, 7, 8, 9, 10, 11, 12, 13, 14, 15, 16, 17, 18, 19, 5, 20, 21, 22, 23, 24, 25, 26, 27, 28, 29, 30, 31, 32, 33, 34, 35, 36, 37, 38, 39, 40, 41, 42, 43] (by decide +kernel) (by decide +kernel)
set_option maxRecDepth 20000 in
theorem gX6_again_X6_begin : GoodIn wsX6_again (wsV RX6 92 RX6 yX6_begin wsX6_begin) := goodIn_app (goodIn_of _ (by decide +kernel)) ggX6_again_X6_begin
theorem dX6_again_0 : decode cX6_again 0 = .ok (.aload_n 0, 1) := by decide +kernel
theorem dX6_again_1 : decode cX6_again 1 = .ok (.getfield 57, 3) := by decide +kernel
theorem dX6_again_4 : decode cX6_again 4 = .ok (.istore_n 1, 1) := by decide +kernel
theorem dX6_again_5 : decode cX6_again 5 = .ok (.aload_n 0, 1) := by decide +kernel
theorem dX6_again_6 : decode cX6_again 6 = .ok (.invokevirtual 92, 3) := by decide +kernel
theorem dX6_again_9 : decode cX6_again 9 = .ok (.iload_n 1, 1) := by decide +kernel
theorem dX6_again_10 : decode cX6_again 10 = .ok (.ireturn, 1) := by decide +kernel
set_option maxRecDepth 20000 in
theorem ggX6_decided_X6_isProcess : GoodIn wsX6_decided wsX6_isProcess := goodIn_r _ [6, 7, 8, 9, 10, 11, 12, 13, 14, 15, 16, 17, 18, 19, 20, 21, 22, 23, 24, 25, 26, 27, 28, 29, 30] (by decide +kernel) (by decide +kernel)
set_option maxRecDepth 20000 in
theorem gX6_decided_X6_isProcess : GoodIn wsX6_decided (wsV RX6 95 RX6 yX6_isProcess wsX6_isProcess) := goodIn_app (goodIn_of _ (by decide +kernel)) ggX6_decided_X6_isProcess
theorem dX6_decided_0 : decode cX6_decided 0 = .ok (.aload_n 0, 1) := by decide +kernel
theorem dX6_decided_1 : decode cX6_decided 1 = .ok (.iload_n 1, 1) := by decide +kernel
theorem dX6_decided_2 : decode cX6_decided 2 = .ok (.invokevirtual 95, 3) := by decide +kernel
theorem dX6_decided_5 : decode cX6_decided 5 = .ok (.ifCond .eq 12, 3) := by decide +kernel
theorem dX6_decided_8 : decode cX6_decided 8 = .ok (.aload_n 0, 1) := by decide +kernel
theorem dX6_decided_9 : decode cX6_decided 9 = .ok (.getfield 25, 3) := by decide +kernel
theorem dX6_decided_12 : decode cX6_decided 12 = .ok (.iload_n 1, 1) := by decide +kernel
theorem dX6_decided_13 : decode cX6_decided 13 = .ok (.iaload, 1) := by decide +kernel
theorem dX6_decided_14 : decode cX6_decided 14 = .ok (.goto 4, 3) := by decide +kernel
theorem dX6_decided_17 : decode cX6_decided 17 = .ok (.iconst (-1), 1) := by decide +kernel
theorem dX6_decided_18 : decode cX6_decided 18 = .ok (.ireturn, 1) := by decide +kernel
set_option maxRecDepth 20000 in
theorem ggX6_decidedIn_X6_isProcess : GoodIn wsX6_decidedIn wsX6_isProcess := goodIn_r _ [6, 7, 8, 9, 10, 11, 12, 13, 14, 15, 16, 17, 18, 19, 20, 21, 22, 23, 24, 25, 26, 27, 28, 29, 30] (by decide +kernel) (by decide +kernel)
set_option maxRecDepth 20000 in
theorem gX6_decidedIn_X6_isProcess : GoodIn wsX6_decidedIn (wsV RX6 95 RX6 yX6_isProcess wsX6_isProcess) := goodIn_app (goodIn_of _ (by decide +kernel)) ggX6_decidedIn_X6_isProcess
theorem dX6_decidedIn_0 : decode cX6_decidedIn 0 = .ok (.aload_n 0, 1) := by decide +kernel
theorem dX6_decidedIn_1 : decode cX6_decidedIn 1 = .ok (.iload_n 1, 1) := by decide +kernel
theorem dX6_decidedIn_2 : decode cX6_decidedIn 2 = .ok (.invokevirtual 95, 3) := by decide +kernel
theorem dX6_decidedIn_5 : decode cX6_decidedIn 5 = .ok (.ifCond .eq 12, 3) := by decide +kernel
theorem dX6_decidedIn_8 : decode cX6_decidedIn 8 = .ok (.aload_n 0, 1) := by decide +kernel
theorem dX6_decidedIn_9 : decode cX6_decidedIn 9 = .ok (.getfield 28, 3) := by decide +kernel
theorem dX6_decidedIn_12 : decode cX6_decidedIn 12 = .ok (.iload_n 1, 1) := by decide +kernel
theorem dX6_decidedIn_13 : decode cX6_decidedIn 13 = .ok (.iaload, 1) := by decide +kernel
theorem dX6_decidedIn_14 : decode cX6_decidedIn 14 = .ok (.goto 4, 3) := by decide +kernel
theorem dX6_decidedIn_17 : decode cX6_decidedIn 17 = .ok (.iconst (-1), 1) := by decide +kernel
theorem dX6_decidedIn_18 : decode cX6_decidedIn 18 = .ok (.ireturn, 1) := by decide +kernel
set_option maxRecDepth 20000 in
theorem ggX6_knows_X6_isProcess : GoodIn wsX6_knows wsX6_isProcess := goodIn_r _ [6, 7, 8, 9, 10, 11, 12, 13, 14, 15, 16, 17, 18, 19, 20, 21, 22, 23, 24, 25, 26, 27, 28, 29, 30] (by decide +kernel) (by decide +kernel)
set_option maxRecDepth 20000 in
theorem gX6_knows_X6_isProcess : GoodIn wsX6_knows (wsV RX6 95 RX6 yX6_isProcess wsX6_isProcess) := goodIn_app (goodIn_of _ (by decide +kernel)) ggX6_knows_X6_isProcess
theorem dX6_knows_0 : decode cX6_knows 0 = .ok (.aload_n 0, 1) := by decide +kernel
theorem dX6_knows_1 : decode cX6_knows 1 = .ok (.iload_n 1, 1) := by decide +kernel
theorem dX6_knows_2 : decode cX6_knows 2 = .ok (.invokevirtual 95, 3) := by decide +kernel
theorem dX6_knows_5 : decode cX6_knows 5 = .ok (.ifCond .eq 12, 3) := by decide +kernel
theorem dX6_knows_8 : decode cX6_knows 8 = .ok (.aload_n 0, 1) := by decide +kernel
theorem dX6_knows_9 : decode cX6_knows 9 = .ok (.getfield 19, 3) := by decide +kernel
theorem dX6_knows_12 : decode cX6_knows 12 = .ok (.iload_n 1, 1) := by decide +kernel
theorem dX6_knows_13 : decode cX6_knows 13 = .ok (.iaload, 1) := by decide +kernel
theorem dX6_knows_14 : decode cX6_knows 14 = .ok (.goto 4, 3) := by decide +kernel
theorem dX6_knows_17 : decode cX6_knows 17 = .ok (.iconst (-1), 1) := by decide +kernel
theorem dX6_knows_18 : decode cX6_knows 18 = .ok (.ireturn, 1) := by decide +kernel
set_option maxRecDepth 20000 in
theorem ggX6_vector_X6_isProcess : GoodIn wsX6_vector wsX6_isProcess := goodIn_r _ [8, 9, 10, 11, 12, 13, 14, 15, 16, 17, 18, 19, 20, 21, 22, 23, 24, 25, 26, 27, 28, 29, 30, 31, 32] (by decide +kernel) (by decide +kernel)
set_option maxRecDepth 20000 in
theorem gX6_vector_X6_isProcess : GoodIn wsX6_vector (wsV RX6 95 RX6 yX6_isProcess wsX6_isProcess) := goodIn_app (goodIn_of _ (by decide +kernel)) ggX6_vector_X6_isProcess
theorem dX6_vector_0 : decode cX6_vector 0 = .ok (.aload_n 0, 1) := by decide +kernel
theorem dX6_vector_1 : decode cX6_vector 1 = .ok (.iload_n 1, 1) := by decide +kernel
theorem dX6_vector_2 : decode cX6_vector 2 = .ok (.invokevirtual 95, 3) := by decide +kernel
theorem dX6_vector_5 : decode cX6_vector 5 = .ok (.ifCond .eq 27, 3) := by decide +kernel
theorem dX6_vector_8 : decode cX6_vector 8 = .ok (.aload_n 0, 1) := by decide +kernel
theorem dX6_vector_9 : decode cX6_vector 9 = .ok (.iload_n 2, 1) := by decide +kernel
theorem dX6_vector_10 : decode cX6_vector 10 = .ok (.invokevirtual 95, 3) := by decide +kernel
theorem dX6_vector_13 : decode cX6_vector 13 = .ok (.ifCond .eq 19, 3) := by decide +kernel
theorem dX6_vector_16 : decode cX6_vector 16 = .ok (.aload_n 0, 1) := by decide +kernel
theorem dX6_vector_17 : decode cX6_vector 17 = .ok (.getfield 73, 3) := by decide +kernel
theorem dX6_vector_20 : decode cX6_vector 20 = .ok (.iconst 4, 1) := by decide +kernel
theorem dX6_vector_21 : decode cX6_vector 21 = .ok (.if_icmp .eq 13, 3) := by decide +kernel
theorem dX6_vector_24 : decode cX6_vector 24 = .ok (.aload_n 0, 1) := by decide +kernel
theorem dX6_vector_25 : decode cX6_vector 25 = .ok (.getfield 73, 3) := by decide +kernel
theorem dX6_vector_28 : decode cX6_vector 28 = .ok (.iconst 5, 1) := by decide +kernel
theorem dX6_vector_29 : decode cX6_vector 29 = .ok (.if_icmp .eq 5, 3) := by decide +kernel
theorem dX6_vector_32 : decode cX6_vector 32 = .ok (.iconst (-1), 1) := by decide +kernel
theorem dX6_vector_33 : decode cX6_vector 33 = .ok (.ireturn, 1) := by decide +kernel
theorem dX6_vector_34 : decode cX6_vector 34 = .ok (.aload_n 0, 1) := by decide +kernel
theorem dX6_vector_35 : decode cX6_vector 35 = .ok (.getfield 19, 3) := by decide +kernel
theorem dX6_vector_38 : decode cX6_vector 38 = .ok (.iload_n 1, 1) := by decide +kernel
theorem dX6_vector_39 : decode cX6_vector 39 = .ok (.iaload, 1) := by decide +kernel
theorem dX6_vector_40 : decode cX6_vector 40 = .ok (.iload_n 2, 1) := by decide +kernel
theorem dX6_vector_41 : decode cX6_vector 41 = .ok (.ishr, 1) := by decide +kernel
theorem dX6_vector_42 : decode cX6_vector 42 = .ok (.iconst 1, 1) := by decide +kernel
theorem dX6_vector_43 : decode cX6_vector 43 = .ok (.iand, 1) := by decide +kernel
theorem dX6_vector_44 : decode cX6_vector 44 = .ok (.iconst 1, 1) := by decide +kernel
theorem dX6_vector_45 : decode cX6_vector 45 = .ok (.if_icmp .ne 12, 3) := by decide +kernel
theorem dX6_vector_48 : decode cX6_vector 48 = .ok (.aload_n 0, 1) := by decide +kernel
theorem dX6_vector_49 : decode cX6_vector 49 = .ok (.getfield 7, 3) := by decide +kernel
theorem dX6_vector_52 : decode cX6_vector 52 = .ok (.iload_n 2, 1) := by decide +kernel
theorem dX6_vector_53 : decode cX6_vector 53 = .ok (.iaload, 1) := by decide +kernel
theorem dX6_vector_54 : decode cX6_vector 54 = .ok (.goto 5, 3) := by decide +kernel
theorem dX6_vector_57 : decode cX6_vector 57 = .ok (.bipush (-2), 2) := by decide +kernel
theorem dX6_vector_59 : decode cX6_vector 59 = .ok (.ireturn, 1) := by decide +kernel
set_option maxRecDepth 20000 in
theorem ggX6_heard_X6_isProcess : GoodIn wsX6_heard wsX6_isProcess := goodIn_r _ [6, 7, 8, 9, 10, 11, 12, 13, 14, 15, 16, 17, 18, 19, 20, 21, 22, 23, 24, 25, 26, 27, 28, 29, 30] (by decide +kernel) (by decide +kernel)
set_option maxRecDepth 20000 in
theorem gX6_heard_X6_isProcess : GoodIn wsX6_heard (wsV RX6 95 RX6 yX6_isProcess wsX6_isProcess) := goodIn_app (goodIn_of _ (by decide +kernel)) ggX6_heard_X6_isProcess
theorem dX6_heard_0 : decode cX6_heard 0 = .ok (.aload_n 0, 1) := by decide +kernel
theorem dX6_heard_1 : decode cX6_heard 1 = .ok (.iload_n 1, 1) := by decide +kernel
theorem dX6_heard_2 : decode cX6_heard 2 = .ok (.invokevirtual 95, 3) := by decide +kernel
theorem dX6_heard_5 : decode cX6_heard 5 = .ok (.ifCond .eq 12, 3) := by decide +kernel
theorem dX6_heard_8 : decode cX6_heard 8 = .ok (.aload_n 0, 1) := by decide +kernel
theorem dX6_heard_9 : decode cX6_heard 9 = .ok (.getfield 22, 3) := by decide +kernel
theorem dX6_heard_12 : decode cX6_heard 12 = .ok (.iload_n 1, 1) := by decide +kernel
theorem dX6_heard_13 : decode cX6_heard 13 = .ok (.iaload, 1) := by decide +kernel
theorem dX6_heard_14 : decode cX6_heard 14 = .ok (.goto 4, 3) := by decide +kernel
theorem dX6_heard_17 : decode cX6_heard 17 = .ok (.iconst (-1), 1) := by decide +kernel
theorem dX6_heard_18 : decode cX6_heard 18 = .ok (.ireturn, 1) := by decide +kernel
theorem dX6_isSound_0 : decode cX6_isSound 0 = .ok (.aload_n 0, 1) := by decide +kernel
theorem dX6_isSound_1 : decode cX6_isSound 1 = .ok (.getfield 13, 3) := by decide +kernel
theorem dX6_isSound_4 : decode cX6_isSound 4 = .ok (.iload_n 1, 1) := by decide +kernel
theorem dX6_isSound_5 : decode cX6_isSound 5 = .ok (.iaload, 1) := by decide +kernel
theorem dX6_isSound_6 : decode cX6_isSound 6 = .ok (.ifCond .eq 16, 3) := by decide +kernel
theorem dX6_isSound_9 : decode cX6_isSound 9 = .ok (.aload_n 0, 1) := by decide +kernel
theorem dX6_isSound_10 : decode cX6_isSound 10 = .ok (.getfield 13, 3) := by decide +kernel
theorem dX6_isSound_13 : decode cX6_isSound 13 = .ok (.iload_n 1, 1) := by decide +kernel
theorem dX6_isSound_14 : decode cX6_isSound 14 = .ok (.iaload, 1) := by decide +kernel
theorem dX6_isSound_15 : decode cX6_isSound 15 = .ok (.aload_n 0, 1) := by decide +kernel
theorem dX6_isSound_16 : decode cX6_isSound 16 = .ok (.getfield 86, 3) := by decide +kernel
theorem dX6_isSound_19 : decode cX6_isSound 19 = .ok (.if_icmp .le 7, 3) := by decide +kernel
theorem dX6_isSound_22 : decode cX6_isSound 22 = .ok (.iconst 1, 1) := by decide +kernel
theorem dX6_isSound_23 : decode cX6_isSound 23 = .ok (.goto 4, 3) := by decide +kernel
theorem dX6_isSound_26 : decode cX6_isSound 26 = .ok (.iconst 0, 1) := by decide +kernel
theorem dX6_isSound_27 : decode cX6_isSound 27 = .ok (.ireturn, 1) := by decide +kernel
set_option maxRecDepth 20000 in
theorem ggX6_others_X6_isSound : GoodIn wsX6_others wsX6_isSound := goodIn_r _ [6, 7, 8, 9, 10, 11, 12, 13, 14, 15, 16, 17, 18, 19, 20, 21, 22, 23, 24, 25, 26, 27, 28, 29, 30, 31] (by decide +kernel) (by decide +kernel)
set_option maxRecDepth 20000 in
theorem gX6_others_X6_isSound : GoodIn wsX6_others (wsV RX6 130 RX6 yX6_isSound wsX6_isSound) := goodIn_app (goodIn_of _ (by decide +kernel)) ggX6_others_X6_isSound
theorem dX6_others_0 : decode cX6_others 0 = .ok (.iconst 0, 1) := by decide +kernel
theorem dX6_others_1 : decode cX6_others 1 = .ok (.istore_n 1, 1) := by decide +kernel
theorem dX6_others_2 : decode cX6_others 2 = .ok (.iconst 0, 1) := by decide +kernel
theorem dX6_others_3 : decode cX6_others 3 = .ok (.istore_n 2, 1) := by decide +kernel
theorem dX6_others_4 : decode cX6_others 4 = .ok (.iload_n 2, 1) := by decide +kernel
theorem dX6_others_5 : decode cX6_others 5 = .ok (.aload_n 0, 1) := by decide +kernel
theorem dX6_others_6 : decode cX6_others 6 = .ok (.getfield 53, 3) := by decide +kernel
theorem dX6_others_9 : decode cX6_others 9 = .ok (.if_icmp .ge 25, 3) := by decide +kernel
theorem dX6_others_12 : decode cX6_others 12 = .ok (.iload_n 1, 1) := by decide +kernel
theorem dX6_others_13 : decode cX6_others 13 = .ok (.aload_n 0, 1) := by decide +kernel
theorem dX6_others_14 : decode cX6_others 14 = .ok (.iload_n 2, 1) := by decide +kernel
theorem dX6_others_15 : decode cX6_others 15 = .ok (.invokevirtual 130, 3) := by decide +kernel
theorem dX6_others_18 : decode cX6_others 18 = .ok (.ifCond .eq 7, 3) := by decide +kernel
theorem dX6_others_21 : decode cX6_others 21 = .ok (.iconst 0, 1) := by decide +kernel
theorem dX6_others_22 : decode cX6_others 22 = .ok (.goto 4, 3) := by decide +kernel
theorem dX6_others_25 : decode cX6_others 25 = .ok (.iconst 1, 1) := by decide +kernel
theorem dX6_others_26 : decode cX6_others 26 = .ok (.iadd, 1) := by decide +kernel
theorem dX6_others_27 : decode cX6_others 27 = .ok (.istore_n 1, 1) := by decide +kernel
theorem dX6_others_28 : decode cX6_others 28 = .ok (.iinc 2 1, 3) := by decide +kernel
theorem dX6_others_31 : decode cX6_others 31 = .ok (.goto (-27), 3) := by decide +kernel
theorem dX6_others_34 : decode cX6_others 34 = .ok (.iload_n 1, 1) := by decide +kernel
theorem dX6_others_35 : decode cX6_others 35 = .ok (.ireturn, 1) := by decide +kernel
set_option maxRecDepth 20000 in
theorem ggX6_bound_X6_others : GoodIn wsX6_bound wsX6_others := goodIn_r _ [7, 8, 9, 10, 11, 6, 12, 13, 2, 14, 15, 16, 17, 18, 19, 20, 21, 22, 23, 24, 25, 26, 27, 28, 29, 30, 31, 32, 33, 34, 35, 36] (by decide +kernel) (by decide +kernel)
set_option maxRecDepth 20000 in
theorem gX6_bound_X6_others : GoodIn wsX6_bound (wsV RX6 133 RX6 yX6_others wsX6_others) := goodIn_app (goodIn_of _ (by decide +kernel)) ggX6_bound_X6_others
theorem dX6_bound_0 : decode cX6_bound 0 = .ok (.aload_n 0, 1) := by decide +kernel
theorem dX6_bound_1 : decode cX6_bound 1 = .ok (.getfield 73, 3) := by decide +kernel
theorem dX6_bound_4 : decode cX6_bound 4 = .ok (.iconst 1, 1) := by decide +kernel
theorem dX6_bound_5 : decode cX6_bound 5 = .ok (.if_icmp .eq 11, 3) := by decide +kernel
theorem dX6_bound_8 : decode cX6_bound 8 = .ok (.aload_n 0, 1) := by decide +kernel
theorem dX6_bound_9 : decode cX6_bound 9 = .ok (.getfield 73, 3) := by decide +kernel
theorem dX6_bound_12 : decode cX6_bound 12 = .ok (.iconst 2, 1) := by decide +kernel
theorem dX6_bound_13 : decode cX6_bound 13 = .ok (.if_icmp .ne 7, 3) := by decide +kernel
theorem dX6_bound_16 : decode cX6_bound 16 = .ok (.iconst 1, 1) := by decide +kernel
theorem dX6_bound_17 : decode cX6_bound 17 = .ok (.goto 4, 3) := by decide +kernel
theorem dX6_bound_20 : decode cX6_bound 20 = .ok (.iconst 0, 1) := by decide +kernel
theorem dX6_bound_21 : decode cX6_bound 21 = .ok (.istore_n 1, 1) := by decide +kernel
theorem dX6_bound_22 : decode cX6_bound 22 = .ok (.iload_n 1, 1) := by decide +kernel
theorem dX6_bound_23 : decode cX6_bound 23 = .ok (.ifCond .eq 25, 3) := by decide +kernel
theorem dX6_bound_26 : decode cX6_bound 26 = .ok (.aload_n 0, 1) := by decide +kernel
theorem dX6_bound_27 : decode cX6_bound 27 = .ok (.invokevirtual 133, 3) := by decide +kernel
theorem dX6_bound_30 : decode cX6_bound 30 = .ok (.iconst 2, 1) := by decide +kernel
theorem dX6_bound_31 : decode cX6_bound 31 = .ok (.iadd, 1) := by decide +kernel
theorem dX6_bound_32 : decode cX6_bound 32 = .ok (.aload_n 0, 1) := by decide +kernel
theorem dX6_bound_33 : decode cX6_bound 33 = .ok (.getfield 86, 3) := by decide +kernel
theorem dX6_bound_36 : decode cX6_bound 36 = .ok (.if_icmp .ge 12, 3) := by decide +kernel
theorem dX6_bound_39 : decode cX6_bound 39 = .ok (.aload_n 0, 1) := by decide +kernel
theorem dX6_bound_40 : decode cX6_bound 40 = .ok (.invokevirtual 133, 3) := by decide +kernel
theorem dX6_bound_43 : decode cX6_bound 43 = .ok (.iconst 2, 1) := by decide +kernel
theorem dX6_bound_44 : decode cX6_bound 44 = .ok (.iadd, 1) := by decide +kernel
theorem dX6_bound_45 : decode cX6_bound 45 = .ok (.goto 7, 3) := by decide +kernel
theorem dX6_bound_48 : decode cX6_bound 48 = .ok (.aload_n 0, 1) := by decide +kernel
theorem dX6_bound_49 : decode cX6_bound 49 = .ok (.getfield 86, 3) := by decide +kernel
theorem dX6_bound_52 : decode cX6_bound 52 = .ok (.ireturn, 1) := by decide +kernel
set_option maxRecDepth 20000 in
theorem ggX6_count_X6_others : GoodIn wsX6_count wsX6_others := goodIn_r _ [12, 1, 13, 14, 15, 11, 16, 17, 3, 23, 24, 25, 26, 27, 28, 29, 30, 31, 32, 33, 34, 35, 36, 37, 38, 39, 40, 41, 42, 43, 44, 45] (by decide +kernel) (by decide +kernel)
set_option maxRecDepth 20000 in
theorem gX6_count_X6_others : GoodIn wsX6_count (wsV RX6 133 RX6 yX6_others wsX6_others) := goodIn_app (goodIn_of _ (by decide +kernel)) ggX6_count_X6_others
set_option maxRecDepth 20000 in
theorem ggX6_count_X6_bound : GoodIn wsX6_count wsX6_bound := goodIn_r _ [21, 22, 3, 8, 9, 10, 11, 12, 1, 13, 14, 15, 16, 17, 23, 24, 25, 26, 27, 28, 29, 30, 31, 32, 33, 34, 35, 36, 37, 38, 39, 40, 41, 42, 43, 44, 45] (by decide +kernel) (by decide +kernel)
set_option maxRecDepth 20000 in
theorem gX6_count_X6_bound : GoodIn wsX6_count (wsV RX6 136 RX6 yX6_bound wsX6_bound) := goodIn_app (goodIn_of _ (by decide +kernel)) ggX6_count_X6_bound
theorem dX6_count_0 : decode cX6_count 0 = .ok (.iload_n 1, 1) := by decide +kernel
theorem dX6_count_1 : decode cX6_count 1 = .ok (.tableswitch 96 0 8 #[51, 56, 61, 66, 71, 76, 81, 86, 91], 51) := by decide +kernel
theorem dX6_count_52 : decode cX6_count 52 = .ok (.aload_n 0, 1) := by decide +kernel
theorem dX6_count_53 : decode cX6_count 53 = .ok (.getfield 53, 3) := by decide +kernel
theorem dX6_count_56 : decode cX6_count 56 = .ok (.ireturn, 1) := by decide +kernel
theorem dX6_count_57 : decode cX6_count 57 = .ok (.aload_n 0, 1) := by decide +kernel
theorem dX6_count_58 : decode cX6_count 58 = .ok (.getfield 80, 3) := by decide +kernel
theorem dX6_count_61 : decode cX6_count 61 = .ok (.ireturn, 1) := by decide +kernel
theorem dX6_count_62 : decode cX6_count 62 = .ok (.aload_n 0, 1) := by decide +kernel
theorem dX6_count_63 : decode cX6_count 63 = .ok (.getfield 86, 3) := by decide +kernel
theorem dX6_count_66 : decode cX6_count 66 = .ok (.ireturn, 1) := by decide +kernel
theorem dX6_count_67 : decode cX6_count 67 = .ok (.aload_n 0, 1) := by decide +kernel
theorem dX6_count_68 : decode cX6_count 68 = .ok (.getfield 57, 3) := by decide +kernel
theorem dX6_count_71 : decode cX6_count 71 = .ok (.ireturn, 1) := by decide +kernel
theorem dX6_count_72 : decode cX6_count 72 = .ok (.aload_n 0, 1) := by decide +kernel
theorem dX6_count_73 : decode cX6_count 73 = .ok (.getfield 60, 3) := by decide +kernel
theorem dX6_count_76 : decode cX6_count 76 = .ok (.ireturn, 1) := by decide +kernel
theorem dX6_count_77 : decode cX6_count 77 = .ok (.aload_n 0, 1) := by decide +kernel
theorem dX6_count_78 : decode cX6_count 78 = .ok (.invokevirtual 133, 3) := by decide +kernel
theorem dX6_count_81 : decode cX6_count 81 = .ok (.ireturn, 1) := by decide +kernel
theorem dX6_count_82 : decode cX6_count 82 = .ok (.aload_n 0, 1) := by decide +kernel
theorem dX6_count_83 : decode cX6_count 83 = .ok (.invokevirtual 136, 3) := by decide +kernel
theorem dX6_count_86 : decode cX6_count 86 = .ok (.ireturn, 1) := by decide +kernel
theorem dX6_count_87 : decode cX6_count 87 = .ok (.aload_n 0, 1) := by decide +kernel
theorem dX6_count_88 : decode cX6_count 88 = .ok (.getfield 67, 3) := by decide +kernel
theorem dX6_count_91 : decode cX6_count 91 = .ok (.ireturn, 1) := by decide +kernel
theorem dX6_count_92 : decode cX6_count 92 = .ok (.aload_n 0, 1) := by decide +kernel
theorem dX6_count_93 : decode cX6_count 93 = .ok (.getfield 70, 3) := by decide +kernel
theorem dX6_count_96 : decode cX6_count 96 = .ok (.ireturn, 1) := by decide +kernel
theorem dX6_count_97 : decode cX6_count 97 = .ok (.iconst (-1), 1) := by decide +kernel
theorem dX6_count_98 : decode cX6_count 98 = .ok (.ireturn, 1) := by decide +kernel
set_option maxRecDepth 20000 in
theorem ggX6_isCompared_X6_isSound : GoodIn wsX6_isCompared wsX6_isSound := goodIn_r _ [7, 8, 9, 10, 11, 12, 13, 14, 15, 16, 17, 18, 19, 20, 21, 22, 23, 24, 25, 26, 27, 28, 29, 30, 31, 32] (by decide +kernel) (by decide +kernel)
set_option maxRecDepth 20000 in
theorem gX6_isCompared_X6_isSound : GoodIn wsX6_isCompared (wsV RX6 130 RX6 yX6_isSound wsX6_isSound) := goodIn_app (goodIn_of _ (by decide +kernel)) ggX6_isCompared_X6_isSound
theorem dX6_isCompared_0 : decode cX6_isCompared 0 = .ok (.aload_n 0, 1) := by decide +kernel
theorem dX6_isCompared_1 : decode cX6_isCompared 1 = .ok (.getfield 28, 3) := by decide +kernel
theorem dX6_isCompared_4 : decode cX6_isCompared 4 = .ok (.iload_n 1, 1) := by decide +kernel
theorem dX6_isCompared_5 : decode cX6_isCompared 5 = .ok (.iaload, 1) := by decide +kernel
theorem dX6_isCompared_6 : decode cX6_isCompared 6 = .ok (.ifCond .le 23, 3) := by decide +kernel
theorem dX6_isCompared_9 : decode cX6_isCompared 9 = .ok (.aload_n 0, 1) := by decide +kernel
theorem dX6_isCompared_10 : decode cX6_isCompared 10 = .ok (.getfield 73, 3) := by decide +kernel
theorem dX6_isCompared_13 : decode cX6_isCompared 13 = .ok (.iconst 2, 1) := by decide +kernel
theorem dX6_isCompared_14 : decode cX6_isCompared 14 = .ok (.if_icmp .eq 11, 3) := by decide +kernel
theorem dX6_isCompared_17 : decode cX6_isCompared 17 = .ok (.aload_n 0, 1) := by decide +kernel
theorem dX6_isCompared_18 : decode cX6_isCompared 18 = .ok (.iload_n 1, 1) := by decide +kernel
theorem dX6_isCompared_19 : decode cX6_isCompared 19 = .ok (.invokevirtual 130, 3) := by decide +kernel
theorem dX6_isCompared_22 : decode cX6_isCompared 22 = .ok (.ifCond .eq 7, 3) := by decide +kernel
theorem dX6_isCompared_25 : decode cX6_isCompared 25 = .ok (.iconst 1, 1) := by decide +kernel
theorem dX6_isCompared_26 : decode cX6_isCompared 26 = .ok (.goto 4, 3) := by decide +kernel
theorem dX6_isCompared_29 : decode cX6_isCompared 29 = .ok (.iconst 0, 1) := by decide +kernel
theorem dX6_isCompared_30 : decode cX6_isCompared 30 = .ok (.ireturn, 1) := by decide +kernel
set_option maxRecDepth 20000 in
theorem ggX6_differ_X6_isSound : GoodIn wsX6_differ wsX6_isSound := goodIn_r _ [10, 11, 12, 18, 19, 20, 21, 22, 23, 24, 25, 26, 27, 28, 29, 30, 31, 32, 33, 34, 35, 36, 37, 38, 39, 40] (by decide +kernel) (by decide +kernel)
set_option maxRecDepth 20000 in
theorem gX6_differ_X6_isSound : GoodIn wsX6_differ (wsV RX6 130 RX6 yX6_isSound wsX6_isSound) := goodIn_app (goodIn_of _ (by decide +kernel)) ggX6_differ_X6_isSound
set_option maxRecDepth 20000 in
theorem ggX6_differ_X6_isCompared : GoodIn wsX6_differ wsX6_isCompared := goodIn_r _ [16, 17, 2, 6, 7, 8, 9, 10, 11, 12, 18, 19, 20, 21, 22, 23, 24, 25, 26, 27, 28, 29, 30, 31, 32, 33, 34, 35, 36, 37, 38, 39, 40] (by decide +kernel) (by decide +kernel)
set_option maxRecDepth 20000 in
theorem gX6_differ_X6_isCompared : GoodIn wsX6_differ (wsV RX6 139 RX6 yX6_isCompared wsX6_isCompared) := goodIn_app (goodIn_of _ (by decide +kernel)) ggX6_differ_X6_isCompared
theorem dX6_differ_0 : decode cX6_differ 0 = .ok (.iconst 0, 1) := by decide +kernel
theorem dX6_differ_1 : decode cX6_differ 1 = .ok (.istore_n 1, 1) := by decide +kernel
theorem dX6_differ_2 : decode cX6_differ 2 = .ok (.iconst 0, 1) := by decide +kernel
theorem dX6_differ_3 : decode cX6_differ 3 = .ok (.istore_n 2, 1) := by decide +kernel
theorem dX6_differ_4 : decode cX6_differ 4 = .ok (.iconst 0, 1) := by decide +kernel
theorem dX6_differ_5 : decode cX6_differ 5 = .ok (.istore_n 3, 1) := by decide +kernel
theorem dX6_differ_6 : decode cX6_differ 6 = .ok (.iload_n 3, 1) := by decide +kernel
theorem dX6_differ_7 : decode cX6_differ 7 = .ok (.aload_n 0, 1) := by decide +kernel
theorem dX6_differ_8 : decode cX6_differ 8 = .ok (.getfield 53, 3) := by decide +kernel
theorem dX6_differ_11 : decode cX6_differ 11 = .ok (.if_icmp .ge 161, 3) := by decide +kernel
theorem dX6_differ_14 : decode cX6_differ 14 = .ok (.aload_n 0, 1) := by decide +kernel
theorem dX6_differ_15 : decode cX6_differ 15 = .ok (.getfield 73, 3) := by decide +kernel
theorem dX6_differ_18 : decode cX6_differ 18 = .ok (.iconst 4, 1) := by decide +kernel
theorem dX6_differ_19 : decode cX6_differ 19 = .ok (.if_icmp .ne 11, 3) := by decide +kernel
theorem dX6_differ_22 : decode cX6_differ 22 = .ok (.aload_n 0, 1) := by decide +kernel
theorem dX6_differ_23 : decode cX6_differ 23 = .ok (.iload_n 3, 1) := by decide +kernel
theorem dX6_differ_24 : decode cX6_differ 24 = .ok (.invokevirtual 130, 3) := by decide +kernel
theorem dX6_differ_27 : decode cX6_differ 27 = .ok (.goto 8, 3) := by decide +kernel
theorem dX6_differ_30 : decode cX6_differ 30 = .ok (.aload_n 0, 1) := by decide +kernel
theorem dX6_differ_31 : decode cX6_differ 31 = .ok (.iload_n 3, 1) := by decide +kernel
theorem dX6_differ_32 : decode cX6_differ 32 = .ok (.invokevirtual 139, 3) := by decide +kernel
theorem dX6_differ_35 : decode cX6_differ 35 = .ok (.istore 4, 2) := by decide +kernel
theorem dX6_differ_37 : decode cX6_differ 37 = .ok (.iconst 0, 1) := by decide +kernel
theorem dX6_differ_38 : decode cX6_differ 38 = .ok (.istore 5, 2) := by decide +kernel
theorem dX6_differ_40 : decode cX6_differ 40 = .ok (.iload 5, 2) := by decide +kernel
theorem dX6_differ_42 : decode cX6_differ 42 = .ok (.iload_n 3, 1) := by decide +kernel
theorem dX6_differ_43 : decode cX6_differ 43 = .ok (.if_icmp .ge 99, 3) := by decide +kernel
theorem dX6_differ_46 : decode cX6_differ 46 = .ok (.iload 4, 2) := by decide +kernel
theorem dX6_differ_48 : decode cX6_differ 48 = .ok (.ifCond .eq 94, 3) := by decide +kernel
theorem dX6_differ_51 : decode cX6_differ 51 = .ok (.aload_n 0, 1) := by decide +kernel
theorem dX6_differ_52 : decode cX6_differ 52 = .ok (.getfield 73, 3) := by decide +kernel
theorem dX6_differ_55 : decode cX6_differ 55 = .ok (.iconst 4, 1) := by decide +kernel
theorem dX6_differ_56 : decode cX6_differ 56 = .ok (.if_icmp .ne 36, 3) := by decide +kernel
theorem dX6_differ_59 : decode cX6_differ 59 = .ok (.aload_n 0, 1) := by decide +kernel
theorem dX6_differ_60 : decode cX6_differ 60 = .ok (.iload 5, 2) := by decide +kernel
theorem dX6_differ_62 : decode cX6_differ 62 = .ok (.invokevirtual 130, 3) := by decide +kernel
theorem dX6_differ_65 : decode cX6_differ 65 = .ok (.ifCond .eq 23, 3) := by decide +kernel
theorem dX6_differ_68 : decode cX6_differ 68 = .ok (.aload_n 0, 1) := by decide +kernel
theorem dX6_differ_69 : decode cX6_differ 69 = .ok (.getfield 19, 3) := by decide +kernel
theorem dX6_differ_72 : decode cX6_differ 72 = .ok (.iload 5, 2) := by decide +kernel
theorem dX6_differ_74 : decode cX6_differ 74 = .ok (.iaload, 1) := by decide +kernel
theorem dX6_differ_75 : decode cX6_differ 75 = .ok (.aload_n 0, 1) := by decide +kernel
theorem dX6_differ_76 : decode cX6_differ 76 = .ok (.getfield 19, 3) := by decide +kernel
theorem dX6_differ_79 : decode cX6_differ 79 = .ok (.iload_n 3, 1) := by decide +kernel
theorem dX6_differ_80 : decode cX6_differ 80 = .ok (.iaload, 1) := by decide +kernel
theorem dX6_differ_81 : decode cX6_differ 81 = .ok (.if_icmp .ne 7, 3) := by decide +kernel
theorem dX6_differ_84 : decode cX6_differ 84 = .ok (.iconst 1, 1) := by decide +kernel
theorem dX6_differ_85 : decode cX6_differ 85 = .ok (.goto 37, 3) := by decide +kernel
theorem dX6_differ_88 : decode cX6_differ 88 = .ok (.iconst 0, 1) := by decide +kernel
theorem dX6_differ_89 : decode cX6_differ 89 = .ok (.goto 33, 3) := by decide +kernel
theorem dX6_differ_92 : decode cX6_differ 92 = .ok (.aload_n 0, 1) := by decide +kernel
theorem dX6_differ_93 : decode cX6_differ 93 = .ok (.iload 5, 2) := by decide +kernel
theorem dX6_differ_95 : decode cX6_differ 95 = .ok (.invokevirtual 139, 3) := by decide +kernel
theorem dX6_differ_98 : decode cX6_differ 98 = .ok (.ifCond .eq 23, 3) := by decide +kernel
theorem dX6_differ_101 : decode cX6_differ 101 = .ok (.aload_n 0, 1) := by decide +kernel
theorem dX6_differ_102 : decode cX6_differ 102 = .ok (.getfield 25, 3) := by decide +kernel
theorem dX6_differ_105 : decode cX6_differ 105 = .ok (.iload 5, 2) := by decide +kernel
theorem dX6_differ_107 : decode cX6_differ 107 = .ok (.iaload, 1) := by decide +kernel
theorem dX6_differ_108 : decode cX6_differ 108 = .ok (.aload_n 0, 1) := by decide +kernel
theorem dX6_differ_109 : decode cX6_differ 109 = .ok (.getfield 25, 3) := by decide +kernel
theorem dX6_differ_112 : decode cX6_differ 112 = .ok (.iload_n 3, 1) := by decide +kernel
theorem dX6_differ_113 : decode cX6_differ 113 = .ok (.iaload, 1) := by decide +kernel
theorem dX6_differ_114 : decode cX6_differ 114 = .ok (.if_icmp .ne 7, 3) := by decide +kernel
theorem dX6_differ_117 : decode cX6_differ 117 = .ok (.iconst 1, 1) := by decide +kernel
theorem dX6_differ_118 : decode cX6_differ 118 = .ok (.goto 4, 3) := by decide +kernel
theorem dX6_differ_121 : decode cX6_differ 121 = .ok (.iconst 0, 1) := by decide +kernel
theorem dX6_differ_122 : decode cX6_differ 122 = .ok (.istore 6, 2) := by decide +kernel
theorem dX6_differ_124 : decode cX6_differ 124 = .ok (.iload 6, 2) := by decide +kernel
theorem dX6_differ_126 : decode cX6_differ 126 = .ok (.ifCond .ne 7, 3) := by decide +kernel
theorem dX6_differ_129 : decode cX6_differ 129 = .ok (.iconst 1, 1) := by decide +kernel
theorem dX6_differ_130 : decode cX6_differ 130 = .ok (.goto 4, 3) := by decide +kernel
theorem dX6_differ_133 : decode cX6_differ 133 = .ok (.iconst 0, 1) := by decide +kernel
theorem dX6_differ_134 : decode cX6_differ 134 = .ok (.istore 4, 2) := by decide +kernel
theorem dX6_differ_136 : decode cX6_differ 136 = .ok (.iinc 5 1, 3) := by decide +kernel
theorem dX6_differ_139 : decode cX6_differ 139 = .ok (.goto (-99), 3) := by decide +kernel
theorem dX6_differ_142 : decode cX6_differ 142 = .ok (.iload_n 2, 1) := by decide +kernel
theorem dX6_differ_143 : decode cX6_differ 143 = .ok (.iload 4, 2) := by decide +kernel
theorem dX6_differ_145 : decode cX6_differ 145 = .ok (.ifCond .eq 7, 3) := by decide +kernel
theorem dX6_differ_148 : decode cX6_differ 148 = .ok (.iconst 1, 1) := by decide +kernel
theorem dX6_differ_149 : decode cX6_differ 149 = .ok (.goto 4, 3) := by decide +kernel
theorem dX6_differ_152 : decode cX6_differ 152 = .ok (.iconst 0, 1) := by decide +kernel
theorem dX6_differ_153 : decode cX6_differ 153 = .ok (.iadd, 1) := by decide +kernel
theorem dX6_differ_154 : decode cX6_differ 154 = .ok (.istore_n 2, 1) := by decide +kernel
theorem dX6_differ_155 : decode cX6_differ 155 = .ok (.iload_n 1, 1) := by decide +kernel
theorem dX6_differ_156 : decode cX6_differ 156 = .ok (.iload_n 2, 1) := by decide +kernel
theorem dX6_differ_157 : decode cX6_differ 157 = .ok (.if_icmp .le 7, 3) := by decide +kernel
theorem dX6_differ_160 : decode cX6_differ 160 = .ok (.iload_n 1, 1) := by decide +kernel
theorem dX6_differ_161 : decode cX6_differ 161 = .ok (.goto 4, 3) := by decide +kernel
theorem dX6_differ_164 : decode cX6_differ 164 = .ok (.iload_n 2, 1) := by decide +kernel
theorem dX6_differ_165 : decode cX6_differ 165 = .ok (.istore_n 1, 1) := by decide +kernel
theorem dX6_differ_166 : decode cX6_differ 166 = .ok (.iinc 3 1, 3) := by decide +kernel
theorem dX6_differ_169 : decode cX6_differ 169 = .ok (.goto (-163), 3) := by decide +kernel
theorem dX6_differ_172 : decode cX6_differ 172 = .ok (.iload_n 1, 1) := by decide +kernel
theorem dX6_differ_173 : decode cX6_differ 173 = .ok (.aload_n 0, 1) := by decide +kernel
theorem dX6_differ_174 : decode cX6_differ 174 = .ok (.getfield 73, 3) := by decide +kernel
theorem dX6_differ_177 : decode cX6_differ 177 = .ok (.iconst 3, 1) := by decide +kernel
theorem dX6_differ_178 : decode cX6_differ 178 = .ok (.if_icmp .ne 10, 3) := by decide +kernel
theorem dX6_differ_181 : decode cX6_differ 181 = .ok (.aload_n 0, 1) := by decide +kernel
theorem dX6_differ_182 : decode cX6_differ 182 = .ok (.getfield 83, 3) := by decide +kernel
theorem dX6_differ_185 : decode cX6_differ 185 = .ok (.goto 4, 3) := by decide +kernel
theorem dX6_differ_188 : decode cX6_differ 188 = .ok (.iconst 1, 1) := by decide +kernel
theorem dX6_differ_189 : decode cX6_differ 189 = .ok (.if_icmp .le 7, 3) := by decide +kernel
theorem dX6_differ_192 : decode cX6_differ 192 = .ok (.iconst 1, 1) := by decide +kernel
theorem dX6_differ_193 : decode cX6_differ 193 = .ok (.goto 4, 3) := by decide +kernel
theorem dX6_differ_196 : decode cX6_differ 196 = .ok (.iconst 0, 1) := by decide +kernel
theorem dX6_differ_197 : decode cX6_differ 197 = .ok (.ireturn, 1) := by decide +kernel
theorem dX6_isInput_0 : decode cX6_isInput 0 = .ok (.iconst 0, 1) := by decide +kernel
theorem dX6_isInput_1 : decode cX6_isInput 1 = .ok (.istore_n 2, 1) := by decide +kernel
theorem dX6_isInput_2 : decode cX6_isInput 2 = .ok (.iconst 0, 1) := by decide +kernel
theorem dX6_isInput_3 : decode cX6_isInput 3 = .ok (.istore_n 3, 1) := by decide +kernel
theorem dX6_isInput_4 : decode cX6_isInput 4 = .ok (.iload_n 3, 1) := by decide +kernel
theorem dX6_isInput_5 : decode cX6_isInput 5 = .ok (.aload_n 0, 1) := by decide +kernel
theorem dX6_isInput_6 : decode cX6_isInput 6 = .ok (.getfield 53, 3) := by decide +kernel
theorem dX6_isInput_9 : decode cX6_isInput 9 = .ok (.if_icmp .ge 29, 3) := by decide +kernel
theorem dX6_isInput_12 : decode cX6_isInput 12 = .ok (.iload_n 2, 1) := by decide +kernel
theorem dX6_isInput_13 : decode cX6_isInput 13 = .ok (.ifCond .ne 13, 3) := by decide +kernel
theorem dX6_isInput_16 : decode cX6_isInput 16 = .ok (.aload_n 0, 1) := by decide +kernel
theorem dX6_isInput_17 : decode cX6_isInput 17 = .ok (.getfield 7, 3) := by decide +kernel
theorem dX6_isInput_20 : decode cX6_isInput 20 = .ok (.iload_n 3, 1) := by decide +kernel
theorem dX6_isInput_21 : decode cX6_isInput 21 = .ok (.iaload, 1) := by decide +kernel
theorem dX6_isInput_22 : decode cX6_isInput 22 = .ok (.iload_n 1, 1) := by decide +kernel
theorem dX6_isInput_23 : decode cX6_isInput 23 = .ok (.if_icmp .ne 7, 3) := by decide +kernel
theorem dX6_isInput_26 : decode cX6_isInput 26 = .ok (.iconst 1, 1) := by decide +kernel
theorem dX6_isInput_27 : decode cX6_isInput 27 = .ok (.goto 4, 3) := by decide +kernel
theorem dX6_isInput_30 : decode cX6_isInput 30 = .ok (.iconst 0, 1) := by decide +kernel
theorem dX6_isInput_31 : decode cX6_isInput 31 = .ok (.istore_n 2, 1) := by decide +kernel
theorem dX6_isInput_32 : decode cX6_isInput 32 = .ok (.iinc 3 1, 3) := by decide +kernel
theorem dX6_isInput_35 : decode cX6_isInput 35 = .ok (.goto (-31), 3) := by decide +kernel
theorem dX6_isInput_38 : decode cX6_isInput 38 = .ok (.iload_n 2, 1) := by decide +kernel
theorem dX6_isInput_39 : decode cX6_isInput 39 = .ok (.ireturn, 1) := by decide +kernel
set_option maxRecDepth 20000 in
theorem ggX6_strays_X6_isSound : GoodIn wsX6_strays wsX6_isSound := goodIn_r _ [10, 11, 12, 22, 23, 24, 25, 26, 27, 28, 29, 30, 31, 32, 33, 34, 35, 36, 37, 38, 39, 40, 41, 42, 43, 44] (by decide +kernel) (by decide +kernel)
set_option maxRecDepth 20000 in
theorem gX6_strays_X6_isSound : GoodIn wsX6_strays (wsV RX6 130 RX6 yX6_isSound wsX6_isSound) := goodIn_app (goodIn_of _ (by decide +kernel)) ggX6_strays_X6_isSound
set_option maxRecDepth 20000 in
theorem ggX6_strays_X6_isInput : GoodIn wsX6_strays wsX6_isInput := goodIn_r _ [16, 2, 17, 22, 23, 24, 25, 26, 27, 28, 29, 30, 31, 32, 33, 34, 35, 36, 37, 38, 39, 40, 41, 42, 43, 44] (by decide +kernel) (by decide +kernel)
set_option maxRecDepth 20000 in
theorem gX6_strays_X6_isInput : GoodIn wsX6_strays (wsV RX6 142 RX6 yX6_isInput wsX6_isInput) := goodIn_app (goodIn_of _ (by decide +kernel)) ggX6_strays_X6_isInput
set_option maxRecDepth 20000 in
theorem ggX6_strays_X6_others : GoodIn wsX6_strays wsX6_others := goodIn_r _ [21, 2, 6, 7, 8, 9, 10, 11, 12, 22, 23, 24, 25, 26, 27, 28, 29, 30, 31, 32, 33, 34, 35, 36, 37, 38, 39, 40, 41, 42, 43, 44] (by decide +kernel) (by decide +kernel)
set_option maxRecDepth 20000 in
theorem gX6_strays_X6_others : GoodIn wsX6_strays (wsV RX6 133 RX6 yX6_others wsX6_others) := goodIn_app (goodIn_of _ (by decide +kernel)) ggX6_strays_X6_others
theorem dX6_strays_0 : decode cX6_strays 0 = .ok (.aload_n 0, 1) := by decide +kernel
theorem dX6_strays_1 : decode cX6_strays 1 = .ok (.getfield 73, 3) := by decide +kernel
theorem dX6_strays_4 : decode cX6_strays 4 = .ok (.lookupswitch 146 #[(4, 28), (5, 95)], 28) := by decide +kernel
theorem dX6_strays_32 : decode cX6_strays 32 = .ok (.iconst 0, 1) := by decide +kernel
theorem dX6_strays_33 : decode cX6_strays 33 = .ok (.istore_n 2, 1) := by decide +kernel
theorem dX6_strays_34 : decode cX6_strays 34 = .ok (.iconst 0, 1) := by decide +kernel
theorem dX6_strays_35 : decode cX6_strays 35 = .ok (.istore_n 3, 1) := by decide +kernel
theorem dX6_strays_36 : decode cX6_strays 36 = .ok (.iload_n 3, 1) := by decide +kernel
theorem dX6_strays_37 : decode cX6_strays 37 = .ok (.aload_n 0, 1) := by decide +kernel
theorem dX6_strays_38 : decode cX6_strays 38 = .ok (.getfield 53, 3) := by decide +kernel
theorem dX6_strays_41 : decode cX6_strays 41 = .ok (.if_icmp .ge 40, 3) := by decide +kernel
theorem dX6_strays_44 : decode cX6_strays 44 = .ok (.iload_n 2, 1) := by decide +kernel
theorem dX6_strays_45 : decode cX6_strays 45 = .ok (.ifCond .ne 24, 3) := by decide +kernel
theorem dX6_strays_48 : decode cX6_strays 48 = .ok (.aload_n 0, 1) := by decide +kernel
theorem dX6_strays_49 : decode cX6_strays 49 = .ok (.iload_n 3, 1) := by decide +kernel
theorem dX6_strays_50 : decode cX6_strays 50 = .ok (.invokevirtual 130, 3) := by decide +kernel
theorem dX6_strays_53 : decode cX6_strays 53 = .ok (.ifCond .eq 20, 3) := by decide +kernel
theorem dX6_strays_56 : decode cX6_strays 56 = .ok (.aload_n 0, 1) := by decide +kernel
theorem dX6_strays_57 : decode cX6_strays 57 = .ok (.getfield 19, 3) := by decide +kernel
theorem dX6_strays_60 : decode cX6_strays 60 = .ok (.iload_n 1, 1) := by decide +kernel
theorem dX6_strays_61 : decode cX6_strays 61 = .ok (.iaload, 1) := by decide +kernel
theorem dX6_strays_62 : decode cX6_strays 62 = .ok (.iload_n 3, 1) := by decide +kernel
theorem dX6_strays_63 : decode cX6_strays 63 = .ok (.ishr, 1) := by decide +kernel
theorem dX6_strays_64 : decode cX6_strays 64 = .ok (.iconst 1, 1) := by decide +kernel
theorem dX6_strays_65 : decode cX6_strays 65 = .ok (.iand, 1) := by decide +kernel
theorem dX6_strays_66 : decode cX6_strays 66 = .ok (.ifCond .ne 7, 3) := by decide +kernel
theorem dX6_strays_69 : decode cX6_strays 69 = .ok (.iconst 1, 1) := by decide +kernel
theorem dX6_strays_70 : decode cX6_strays 70 = .ok (.goto 4, 3) := by decide +kernel
theorem dX6_strays_73 : decode cX6_strays 73 = .ok (.iconst 0, 1) := by decide +kernel
theorem dX6_strays_74 : decode cX6_strays 74 = .ok (.istore_n 2, 1) := by decide +kernel
theorem dX6_strays_75 : decode cX6_strays 75 = .ok (.iinc 3 1, 3) := by decide +kernel
theorem dX6_strays_78 : decode cX6_strays 78 = .ok (.goto (-42), 3) := by decide +kernel
theorem dX6_strays_81 : decode cX6_strays 81 = .ok (.aload_n 0, 1) := by decide +kernel
theorem dX6_strays_82 : decode cX6_strays 82 = .ok (.iload_n 1, 1) := by decide +kernel
theorem dX6_strays_83 : decode cX6_strays 83 = .ok (.invokevirtual 130, 3) := by decide +kernel
theorem dX6_strays_86 : decode cX6_strays 86 = .ok (.ifCond .eq 11, 3) := by decide +kernel
theorem dX6_strays_89 : decode cX6_strays 89 = .ok (.iload_n 2, 1) := by decide +kernel
theorem dX6_strays_90 : decode cX6_strays 90 = .ok (.ifCond .eq 7, 3) := by decide +kernel
theorem dX6_strays_93 : decode cX6_strays 93 = .ok (.iconst 1, 1) := by decide +kernel
theorem dX6_strays_94 : decode cX6_strays 94 = .ok (.goto 4, 3) := by decide +kernel
theorem dX6_strays_97 : decode cX6_strays 97 = .ok (.iconst 0, 1) := by decide +kernel
theorem dX6_strays_98 : decode cX6_strays 98 = .ok (.ireturn, 1) := by decide +kernel
theorem dX6_strays_99 : decode cX6_strays 99 = .ok (.aload_n 0, 1) := by decide +kernel
theorem dX6_strays_100 : decode cX6_strays 100 = .ok (.getfield 28, 3) := by decide +kernel
theorem dX6_strays_103 : decode cX6_strays 103 = .ok (.iload_n 1, 1) := by decide +kernel
theorem dX6_strays_104 : decode cX6_strays 104 = .ok (.iaload, 1) := by decide +kernel
theorem dX6_strays_105 : decode cX6_strays 105 = .ok (.ifCond .le 43, 3) := by decide +kernel
theorem dX6_strays_108 : decode cX6_strays 108 = .ok (.aload_n 0, 1) := by decide +kernel
theorem dX6_strays_109 : decode cX6_strays 109 = .ok (.getfield 25, 3) := by decide +kernel
theorem dX6_strays_112 : decode cX6_strays 112 = .ok (.iload_n 1, 1) := by decide +kernel
theorem dX6_strays_113 : decode cX6_strays 113 = .ok (.iaload, 1) := by decide +kernel
theorem dX6_strays_114 : decode cX6_strays 114 = .ok (.iconst 1, 1) := by decide +kernel
theorem dX6_strays_115 : decode cX6_strays 115 = .ok (.if_icmp .ne 14, 3) := by decide +kernel
theorem dX6_strays_118 : decode cX6_strays 118 = .ok (.aload_n 0, 1) := by decide +kernel
theorem dX6_strays_119 : decode cX6_strays 119 = .ok (.iconst 0, 1) := by decide +kernel
theorem dX6_strays_120 : decode cX6_strays 120 = .ok (.invokevirtual 142, 3) := by decide +kernel
theorem dX6_strays_123 : decode cX6_strays 123 = .ok (.ifCond .eq 25, 3) := by decide +kernel
theorem dX6_strays_126 : decode cX6_strays 126 = .ok (.goto 18, 3) := by decide +kernel
theorem dX6_strays_129 : decode cX6_strays 129 = .ok (.aload_n 0, 1) := by decide +kernel
theorem dX6_strays_130 : decode cX6_strays 130 = .ok (.iconst 0, 1) := by decide +kernel
theorem dX6_strays_131 : decode cX6_strays 131 = .ok (.invokevirtual 142, 3) := by decide +kernel
theorem dX6_strays_134 : decode cX6_strays 134 = .ok (.ifCond .ne 14, 3) := by decide +kernel
theorem dX6_strays_137 : decode cX6_strays 137 = .ok (.aload_n 0, 1) := by decide +kernel
theorem dX6_strays_138 : decode cX6_strays 138 = .ok (.invokevirtual 133, 3) := by decide +kernel
theorem dX6_strays_141 : decode cX6_strays 141 = .ok (.ifCond .ne 7, 3) := by decide +kernel
theorem dX6_strays_144 : decode cX6_strays 144 = .ok (.iconst 1, 1) := by decide +kernel
theorem dX6_strays_145 : decode cX6_strays 145 = .ok (.goto 4, 3) := by decide +kernel
theorem dX6_strays_148 : decode cX6_strays 148 = .ok (.iconst 0, 1) := by decide +kernel
theorem dX6_strays_149 : decode cX6_strays 149 = .ok (.ireturn, 1) := by decide +kernel
theorem dX6_strays_150 : decode cX6_strays 150 = .ok (.aload_n 0, 1) := by decide +kernel
theorem dX6_strays_151 : decode cX6_strays 151 = .ok (.getfield 28, 3) := by decide +kernel
theorem dX6_strays_154 : decode cX6_strays 154 = .ok (.iload_n 1, 1) := by decide +kernel
theorem dX6_strays_155 : decode cX6_strays 155 = .ok (.iaload, 1) := by decide +kernel
theorem dX6_strays_156 : decode cX6_strays 156 = .ok (.ifCond .le 20, 3) := by decide +kernel
theorem dX6_strays_159 : decode cX6_strays 159 = .ok (.aload_n 0, 1) := by decide +kernel
theorem dX6_strays_160 : decode cX6_strays 160 = .ok (.aload_n 0, 1) := by decide +kernel
theorem dX6_strays_161 : decode cX6_strays 161 = .ok (.getfield 25, 3) := by decide +kernel
theorem dX6_strays_164 : decode cX6_strays 164 = .ok (.iload_n 1, 1) := by decide +kernel
theorem dX6_strays_165 : decode cX6_strays 165 = .ok (.iaload, 1) := by decide +kernel
theorem dX6_strays_166 : decode cX6_strays 166 = .ok (.invokevirtual 142, 3) := by decide +kernel
theorem dX6_strays_169 : decode cX6_strays 169 = .ok (.ifCond .ne 7, 3) := by decide +kernel
theorem dX6_strays_172 : decode cX6_strays 172 = .ok (.iconst 1, 1) := by decide +kernel
theorem dX6_strays_173 : decode cX6_strays 173 = .ok (.goto 4, 3) := by decide +kernel
theorem dX6_strays_176 : decode cX6_strays 176 = .ok (.iconst 0, 1) := by decide +kernel
theorem dX6_strays_177 : decode cX6_strays 177 = .ok (.ireturn, 1) := by decide +kernel
set_option maxRecDepth 20000 in
theorem ggX6_breachNow_X6_differ : GoodIn wsX6_breachNow wsX6_differ := goodIn_r _ [7, 1, 8, 9, 10, 11, 12, 13, 14, 6, 15, 16, 17, 18, 19, 20, 21, 2, 39, 40, 41, 42, 43, 44, 45, 46, 47, 48, 49, 50, 51, 52, 53, 54, 55, 56, 57, 58, 59, 60, 61] (by decide +kernel) (by decide +kernel)
set_option maxRecDepth 20000 in
theorem gX6_breachNow_X6_differ : GoodIn wsX6_breachNow (wsV RX6 145 RX6 yX6_differ wsX6_differ) := goodIn_app (goodIn_of _ (by decide +kernel)) ggX6_breachNow_X6_differ
set_option maxRecDepth 20000 in
theorem ggX6_breachNow_X6_strays : GoodIn wsX6_breachNow wsX6_strays := goodIn_r _ [25, 8, 1, 9, 2, 10, 12, 13, 14, 6, 15, 16, 17, 26, 27, 28, 29, 30, 31, 32, 33, 34, 39, 40, 41, 42, 43, 44, 45, 46, 47, 48, 49, 50, 51, 52, 53, 54, 55, 56, 57, 58, 59, 60, 61] (by decide +kernel) (by decide +kernel)
set_option maxRecDepth 20000 in
theorem gX6_breachNow_X6_strays : GoodIn wsX6_breachNow (wsV RX6 149 RX6 yX6_strays wsX6_strays) := goodIn_app (goodIn_of _ (by decide +kernel)) ggX6_breachNow_X6_strays
set_option maxRecDepth 20000 in
theorem ggX6_breachNow_X6_isSound : GoodIn wsX6_breachNow wsX6_isSound := goodIn_r _ [15, 16, 17, 39, 40, 41, 42, 43, 44, 45, 46, 47, 48, 49, 50, 51, 52, 53, 54, 55, 56, 57, 58, 59, 60, 61] (by decide +kernel) (by decide +kernel)
set_option maxRecDepth 20000 in
theorem gX6_breachNow_X6_isSound : GoodIn wsX6_breachNow (wsV RX6 130 RX6 yX6_isSound wsX6_isSound) := goodIn_app (goodIn_of _ (by decide +kernel)) ggX6_breachNow_X6_isSound
set_option maxRecDepth 20000 in
theorem ggX6_breachNow_X6_bound : GoodIn wsX6_breachNow wsX6_bound := goodIn_r _ [38, 8, 17, 31, 32, 33, 6, 34, 1, 12, 13, 14, 15, 16, 39, 40, 41, 42, 43, 44, 45, 46, 47, 48, 49, 50, 51, 52, 53, 54, 55, 56, 57, 58, 59, 60, 61] (by decide +kernel) (by decide +kernel)
set_option maxRecDepth 20000 in
theorem gX6_breachNow_X6_bound : GoodIn wsX6_breachNow (wsV RX6 136 RX6 yX6_bound wsX6_bound) := goodIn_app (goodIn_of _ (by decide +kernel)) ggX6_breachNow_X6_bound
theorem dX6_breachNow_0 : decode cX6_breachNow 0 = .ok (.aload_n 0, 1) := by decide +kernel
theorem dX6_breachNow_1 : decode cX6_breachNow 1 = .ok (.invokevirtual 145, 3) := by decide +kernel
theorem dX6_breachNow_4 : decode cX6_breachNow 4 = .ok (.ifCond .eq 5, 3) := by decide +kernel
theorem dX6_breachNow_7 : decode cX6_breachNow 7 = .ok (.iconst 1, 1) := by decide +kernel
theorem dX6_breachNow_8 : decode cX6_breachNow 8 = .ok (.ireturn, 1) := by decide +kernel
theorem dX6_breachNow_9 : decode cX6_breachNow 9 = .ok (.iconst 0, 1) := by decide +kernel
theorem dX6_breachNow_10 : decode cX6_breachNow 10 = .ok (.istore_n 1, 1) := by decide +kernel
theorem dX6_breachNow_11 : decode cX6_breachNow 11 = .ok (.iload_n 1, 1) := by decide +kernel
theorem dX6_breachNow_12 : decode cX6_breachNow 12 = .ok (.aload_n 0, 1) := by decide +kernel
theorem dX6_breachNow_13 : decode cX6_breachNow 13 = .ok (.getfield 53, 3) := by decide +kernel
theorem dX6_breachNow_16 : decode cX6_breachNow 16 = .ok (.if_icmp .ge 19, 3) := by decide +kernel
theorem dX6_breachNow_19 : decode cX6_breachNow 19 = .ok (.aload_n 0, 1) := by decide +kernel
theorem dX6_breachNow_20 : decode cX6_breachNow 20 = .ok (.iload_n 1, 1) := by decide +kernel
