theorem dX5_heard_11 : decode cX5_heard 11 = .ok (.aload_n 0, 1) := by decide +kernel
theorem dX5_heard_12 : decode cX5_heard 12 = .ok (.getfield 21, 3) := by decide +kernel
theorem dX5_heard_15 : decode cX5_heard 15 = .ok (.getfield 130, 3) := by decide +kernel
theorem dX5_heard_18 : decode cX5_heard 18 = .ok (.iload_n 1, 1) := by decide +kernel
theorem dX5_heard_19 : decode cX5_heard 19 = .ok (.iaload, 1) := by decide +kernel
theorem dX5_heard_20 : decode cX5_heard 20 = .ok (.goto 4, 3) := by decide +kernel
theorem dX5_heard_23 : decode cX5_heard 23 = .ok (.iconst (-1), 1) := by decide +kernel
theorem dX5_heard_24 : decode cX5_heard 24 = .ok (.ireturn, 1) := by decide +kernel
set_option maxRecDepth 20000 in
theorem ggX5_count_X3_sound : GoodIn wsX5_count wsX3_sound := goodIn_r _ [14, 15, 16, 17, 18, 19, 20, 21, 22, 23, 24, 25, 26, 27, 28, 29, 30, 31, 32, 33, 34, 35, 66, 67, 68, 69, 70, 71, 72, 73, 74, 75, 76, 77, 78, 79, 61, 62, 63, 64, 65, 80, 81, 82] (by decide +kernel) (by decide +kernel)
set_option maxRecDepth 20000 in
theorem gX5_count_X3_sound : GoodIn wsX5_count (wsV RX5 139 RX3 yX3_sound wsX3_sound) := goodIn_app (goodIn_of _ (by decide +kernel)) ggX5_count_X3_sound
set_option maxRecDepth 20000 in
theorem ggX5_count_X2_faultsBeside : GoodIn wsX5_count wsX2_faultsBeside := goodIn_r _ [39, 23, 40, 41, 42, 43, 44, 45, 46, 61, 62, 63, 64, 65] (by decide +kernel) (by decide +kernel)
set_option maxRecDepth 20000 in
theorem gX5_count_X2_faultsBeside : GoodIn wsX5_count (wsV RX5 142 RX2 yX2_faultsBeside wsX2_faultsBeside) := goodIn_app (goodIn_of _ (by decide +kernel)) ggX5_count_X2_faultsBeside
set_option maxRecDepth 20000 in
theorem ggX5_count_X2_boundFor : GoodIn wsX5_count wsX2_boundFor := goodIn_r _ [50, 51, 52, 53, 54, 55, 56, 57, 37, 38, 21, 39, 23, 40, 41, 42, 43, 44, 45, 46, 61, 62, 63, 64, 65] (by decide +kernel) (by decide +kernel)
set_option maxRecDepth 20000 in
theorem gX5_count_X2_boundFor : GoodIn wsX5_count (wsV RX5 145 RX2 yX2_boundFor wsX2_boundFor) := goodIn_app (goodIn_of _ (by decide +kernel)) ggX5_count_X2_boundFor
theorem dX5_count_0 : decode cX5_count 0 = .ok (.iload_n 1, 1) := by decide +kernel
theorem dX5_count_1 : decode cX5_count 1 = .ok (.tableswitch 137 0 8 #[51, 59, 67, 75, 83, 91, 106, 121, 129], 51) := by decide +kernel
theorem dX5_count_52 : decode cX5_count 52 = .ok (.aload_n 0, 1) := by decide +kernel
theorem dX5_count_53 : decode cX5_count 53 = .ok (.getfield 10, 3) := by decide +kernel
theorem dX5_count_56 : decode cX5_count 56 = .ok (.getfield 133, 3) := by decide +kernel
theorem dX5_count_59 : decode cX5_count 59 = .ok (.ireturn, 1) := by decide +kernel
theorem dX5_count_60 : decode cX5_count 60 = .ok (.aload_n 0, 1) := by decide +kernel
theorem dX5_count_61 : decode cX5_count 61 = .ok (.getfield 10, 3) := by decide +kernel
theorem dX5_count_64 : decode cX5_count 64 = .ok (.getfield 82, 3) := by decide +kernel
theorem dX5_count_67 : decode cX5_count 67 = .ok (.ireturn, 1) := by decide +kernel
theorem dX5_count_68 : decode cX5_count 68 = .ok (.aload_n 0, 1) := by decide +kernel
theorem dX5_count_69 : decode cX5_count 69 = .ok (.getfield 10, 3) := by decide +kernel
theorem dX5_count_72 : decode cX5_count 72 = .ok (.getfield 40, 3) := by decide +kernel
theorem dX5_count_75 : decode cX5_count 75 = .ok (.ireturn, 1) := by decide +kernel
theorem dX5_count_76 : decode cX5_count 76 = .ok (.aload_n 0, 1) := by decide +kernel
theorem dX5_count_77 : decode cX5_count 77 = .ok (.getfield 21, 3) := by decide +kernel
theorem dX5_count_80 : decode cX5_count 80 = .ok (.getfield 96, 3) := by decide +kernel
theorem dX5_count_83 : decode cX5_count 83 = .ok (.ireturn, 1) := by decide +kernel
theorem dX5_count_84 : decode cX5_count 84 = .ok (.aload_n 0, 1) := by decide +kernel
theorem dX5_count_85 : decode cX5_count 85 = .ok (.getfield 21, 3) := by decide +kernel
theorem dX5_count_88 : decode cX5_count 88 = .ok (.getfield 136, 3) := by decide +kernel
theorem dX5_count_91 : decode cX5_count 91 = .ok (.ireturn, 1) := by decide +kernel
theorem dX5_count_92 : decode cX5_count 92 = .ok (.aload_n 0, 1) := by decide +kernel
theorem dX5_count_93 : decode cX5_count 93 = .ok (.getfield 10, 3) := by decide +kernel
theorem dX5_count_96 : decode cX5_count 96 = .ok (.aload_n 0, 1) := by decide +kernel
theorem dX5_count_97 : decode cX5_count 97 = .ok (.getfield 21, 3) := by decide +kernel
theorem dX5_count_100 : decode cX5_count 100 = .ok (.invokevirtual 139, 3) := by decide +kernel
theorem dX5_count_103 : decode cX5_count 103 = .ok (.invokevirtual 142, 3) := by decide +kernel
theorem dX5_count_106 : decode cX5_count 106 = .ok (.ireturn, 1) := by decide +kernel
theorem dX5_count_107 : decode cX5_count 107 = .ok (.aload_n 0, 1) := by decide +kernel
theorem dX5_count_108 : decode cX5_count 108 = .ok (.getfield 10, 3) := by decide +kernel
theorem dX5_count_111 : decode cX5_count 111 = .ok (.aload_n 0, 1) := by decide +kernel
theorem dX5_count_112 : decode cX5_count 112 = .ok (.getfield 21, 3) := by decide +kernel
theorem dX5_count_115 : decode cX5_count 115 = .ok (.invokevirtual 139, 3) := by decide +kernel
theorem dX5_count_118 : decode cX5_count 118 = .ok (.invokevirtual 145, 3) := by decide +kernel
theorem dX5_count_121 : decode cX5_count 121 = .ok (.ireturn, 1) := by decide +kernel
theorem dX5_count_122 : decode cX5_count 122 = .ok (.aload_n 0, 1) := by decide +kernel
theorem dX5_count_123 : decode cX5_count 123 = .ok (.getfield 21, 3) := by decide +kernel
theorem dX5_count_126 : decode cX5_count 126 = .ok (.getfield 148, 3) := by decide +kernel
theorem dX5_count_129 : decode cX5_count 129 = .ok (.ireturn, 1) := by decide +kernel
theorem dX5_count_130 : decode cX5_count 130 = .ok (.aload_n 0, 1) := by decide +kernel
theorem dX5_count_131 : decode cX5_count 131 = .ok (.getfield 21, 3) := by decide +kernel
theorem dX5_count_134 : decode cX5_count 134 = .ok (.getfield 151, 3) := by decide +kernel
theorem dX5_count_137 : decode cX5_count 137 = .ok (.ireturn, 1) := by decide +kernel
theorem dX5_count_138 : decode cX5_count 138 = .ok (.iconst (-1), 1) := by decide +kernel
theorem dX5_count_139 : decode cX5_count 139 = .ok (.ireturn, 1) := by decide +kernel
set_option maxRecDepth 20000 in
theorem ggX5_breach_X3_isOver : GoodIn wsX5_breach wsX3_isOver := goodIn_r _ [6, 7, 8, 9, 112, 113, 114, 115, 116, 117, 118, 119, 120, 121, 122, 123, 124, 125, 126, 127, 128, 129, 130] (by decide +kernel) (by decide +kernel)
set_option maxRecDepth 20000 in
theorem gX5_breach_X3_isOver : GoodIn wsX5_breach (wsV RX5 89 RX3 yX3_isOver wsX3_isOver) := goodIn_app (goodIn_of _ (by decide +kernel)) ggX5_breach_X3_isOver
set_option maxRecDepth 20000 in
theorem ggX5_breach_X3_firstBreach : GoodIn wsX5_breach wsX3_firstBreach := goodIn_r _ [13, 8, 14, 15, 16, 17, 5, 18, 19, 9, 20, 21, 22, 23, 24, 25, 26, 27, 28, 29, 30, 31, 32, 33, 34, 35, 36, 37, 38, 39, 40, 41, 42, 43, 44, 45, 46, 47, 48, 49, 50, 51, 52, 53, 54, 55, 56, 57, 58, 59, 60, 61, 62, 63, 64, 65, 66, 67, 68, 69, 70, 71, 72, 73, 74, 75, 76, 77, 78, 79, 80, 81, 82, 83, 84, 85, 86, 87, 88, 89, 90, 91, 92, 93, 94, 95, 96, 97, 98, 99, 100, 101, 102, 103, 104, 105, 106, 107, 108, 112, 113, 114, 115, 116, 117, 118, 119, 120, 121, 122, 123, 124, 125, 126, 127, 128, 129, 130, 131, 132, 133, 134] (by decide +kernel) (by decide +kernel)
set_option maxRecDepth 20000 in
theorem gX5_breach_X3_firstBreach : GoodIn wsX5_breach (wsV RX5 154 RX3 yX3_firstBreach wsX3_firstBreach) := goodIn_app (goodIn_of _ (by decide +kernel)) ggX5_breach_X3_firstBreach
theorem dX5_breach_0 : decode cX5_breach 0 = .ok (.aload_n 0, 1) := by decide +kernel
theorem dX5_breach_1 : decode cX5_breach 1 = .ok (.getfield 21, 3) := by decide +kernel
theorem dX5_breach_4 : decode cX5_breach 4 = .ok (.invokevirtual 89, 3) := by decide +kernel
theorem dX5_breach_7 : decode cX5_breach 7 = .ok (.ifCond .eq 13, 3) := by decide +kernel
theorem dX5_breach_10 : decode cX5_breach 10 = .ok (.aload_n 0, 1) := by decide +kernel
theorem dX5_breach_11 : decode cX5_breach 11 = .ok (.getfield 21, 3) := by decide +kernel
theorem dX5_breach_14 : decode cX5_breach 14 = .ok (.invokevirtual 154, 3) := by decide +kernel
theorem dX5_breach_17 : decode cX5_breach 17 = .ok (.goto 4, 3) := by decide +kernel
theorem dX5_breach_20 : decode cX5_breach 20 = .ok (.iconst (-1), 1) := by decide +kernel
theorem dX5_breach_21 : decode cX5_breach 21 = .ok (.ireturn, 1) := by decide +kernel
set_option maxRecDepth 20000 in
theorem ggX5_search_X5_isWithin : GoodIn wsX5_search wsX5_isWithin := goodIn_r _ [6] (by decide +kernel) (by decide +kernel)
set_option maxRecDepth 20000 in
theorem gX5_search_X5_isWithin : GoodIn wsX5_search (va_wsS RX5 48 yX5_isWithin wsX5_isWithin) := goodIn_app (goodIn_of _ (by decide +kernel)) ggX5_search_X5_isWithin
set_option maxRecDepth 20000 in
theorem ggX5_search_X4_planCount : GoodIn wsX5_search wsX4_planCount := goodIn_r _ [11, 12, 13, 14, 15, 221, 222, 223, 224, 225, 226, 227, 228] (by decide +kernel) (by decide +kernel)
set_option maxRecDepth 20000 in
theorem gX5_search_X4_planCount : GoodIn wsX5_search (wsV RX5 157 RX4 yX4_planCount wsX4_planCount) := goodIn_app (goodIn_of _ (by decide +kernel)) ggX5_search_X4_planCount
set_option maxRecDepth 20000 in
theorem ggX5_search_X4_inputCount : GoodIn wsX5_search wsX4_inputCount := goodIn_r _ [19, 12, 14, 221, 222, 223, 224, 225, 226, 227, 228] (by decide +kernel) (by decide +kernel)
set_option maxRecDepth 20000 in
theorem gX5_search_X4_inputCount : GoodIn wsX5_search (wsV RX5 161 RX4 yX4_inputCount wsX4_inputCount) := goodIn_app (goodIn_of _ (by decide +kernel)) ggX5_search_X4_inputCount
set_option maxRecDepth 20000 in
theorem ggX5_search_X4_seek : GoodIn wsX5_search wsX4_seek := goodIn_r _ [23, 24, 25, 26, 27, 12, 14, 13, 28, 8, 9, 10, 11, 15, 29, 17, 18, 19, 30, 31, 32, 33, 34, 35, 36, 37, 38, 39, 40, 41, 42, 43, 44, 45, 46, 47, 48, 49, 50, 51, 52, 53, 54, 55, 56, 57, 58, 59, 60, 61, 62, 63, 64, 65, 66, 67, 68, 69, 70, 71, 72, 73, 74, 75, 76, 77, 78, 79, 80, 81, 5, 82, 4, 6, 83, 84, 85, 86, 87, 88, 89, 90, 91, 92, 93, 94, 95, 96, 97, 98, 99, 100, 101, 102, 103, 104, 105, 106, 107, 108, 109, 110, 111, 112, 113, 114, 115, 116, 117, 118, 119, 120, 121, 122, 123, 124, 125, 126, 127, 128, 129, 130, 131, 132, 133, 134, 135, 136, 137, 138, 139, 140, 141, 142, 143, 144, 145, 146, 147, 148, 149, 150, 151, 152, 153, 154, 155, 156, 157, 158, 159, 160, 161, 162, 163, 164, 165, 166, 167, 168, 169, 170, 171, 172, 173, 174, 175, 176, 177, 178, 179, 180, 181, 182, 183, 184, 185, 186, 187, 188, 189, 190, 191, 192, 193, 194, 195, 196, 197, 198, 199, 200, 201, 202, 203, 204, 205, 206, 207, 208, 209, 210, 211, 212, 213, 214, 215, 216, 217, 221, 222, 223, 229, 230, 231, 232, 233, 234, 235, 236, 237, 238, 239, 240, 241, 242, 224, 225, 226, 227, 228, 243, 244, 245, 246] (by decide +kernel) (by decide +kernel)
set_option maxRecDepth 20000 in
theorem gX5_search_X4_seek : GoodIn wsX5_search (wsV RX5 167 RX4 yX4_seek wsX4_seek) := goodIn_app (goodIn_of _ (by decide +kernel)) ggX5_search_X4_seek
theorem dX5_search_0 : decode cX5_search 0 = .ok (.iload_n 1, 1) := by decide +kernel
theorem dX5_search_1 : decode cX5_search 1 = .ok (.iconst 1, 1) := by decide +kernel
theorem dX5_search_2 : decode cX5_search 2 = .ok (.iconst 3, 1) := by decide +kernel
theorem dX5_search_3 : decode cX5_search 3 = .ok (.invokestatic 48, 3) := by decide +kernel
theorem dX5_search_6 : decode cX5_search 6 = .ok (.ifCond .ne 5, 3) := by decide +kernel
theorem dX5_search_9 : decode cX5_search 9 = .ok (.iconst (-1), 1) := by decide +kernel
theorem dX5_search_10 : decode cX5_search 10 = .ok (.ireturn, 1) := by decide +kernel
theorem dX5_search_11 : decode cX5_search 11 = .ok (.aload_n 0, 1) := by decide +kernel
theorem dX5_search_12 : decode cX5_search 12 = .ok (.getfield 28, 3) := by decide +kernel
theorem dX5_search_15 : decode cX5_search 15 = .ok (.invokevirtual 157, 3) := by decide +kernel
theorem dX5_search_18 : decode cX5_search 18 = .ok (.aload_n 0, 1) := by decide +kernel
theorem dX5_search_19 : decode cX5_search 19 = .ok (.getfield 28, 3) := by decide +kernel
theorem dX5_search_22 : decode cX5_search 22 = .ok (.iload_n 1, 1) := by decide +kernel
theorem dX5_search_23 : decode cX5_search 23 = .ok (.invokevirtual 161, 3) := by decide +kernel
theorem dX5_search_26 : decode cX5_search 26 = .ok (.lmul, 1) := by decide +kernel
theorem dX5_search_27 : decode cX5_search 27 = .ok (.ldc2_w 165, 3) := by decide +kernel
theorem dX5_search_30 : decode cX5_search 30 = .ok (.lcmp, 1) := by decide +kernel
theorem dX5_search_31 : decode cX5_search 31 = .ok (.ifCond .le 6, 3) := by decide +kernel
theorem dX5_search_34 : decode cX5_search 34 = .ok (.bipush (-3), 2) := by decide +kernel
theorem dX5_search_36 : decode cX5_search 36 = .ok (.ireturn, 1) := by decide +kernel
theorem dX5_search_37 : decode cX5_search 37 = .ok (.aload_n 0, 1) := by decide +kernel
theorem dX5_search_38 : decode cX5_search 38 = .ok (.getfield 28, 3) := by decide +kernel
theorem dX5_search_41 : decode cX5_search 41 = .ok (.iload_n 1, 1) := by decide +kernel
theorem dX5_search_42 : decode cX5_search 42 = .ok (.invokevirtual 167, 3) := by decide +kernel
theorem dX5_search_45 : decode cX5_search 45 = .ok (.ireturn, 1) := by decide +kernel
set_option maxRecDepth 20000 in
theorem ggX5_found_X1_size : GoodIn wsX5_found wsX1_size := goodIn_r _ [12, 13, 14, 15, 16, 17, 18, 19, 20, 61, 62, 63] (by decide +kernel) (by decide +kernel)
set_option maxRecDepth 20000 in
theorem gX5_found_X1_size : GoodIn wsX5_found (wsV RX5 79 RX1 yX1_size wsX1_size) := goodIn_app (goodIn_of _ (by decide +kernel)) ggX5_found_X1_size
set_option maxRecDepth 20000 in
theorem ggX5_found_X5_foundCrash : GoodIn wsX5_found wsX5_foundCrash := goodIn_r _ [25, 1, 3, 4, 5, 26, 27, 28, 29, 30, 11, 31, 13, 32, 24, 33, 34, 35, 36, 37, 38, 39, 40, 41, 42, 43, 44, 45, 46, 47, 48, 49, 50, 51, 52, 53, 54, 55, 56, 57, 58, 59, 61, 62, 63, 64, 65, 66, 67, 68] (by decide +kernel) (by decide +kernel)
set_option maxRecDepth 20000 in
theorem gX5_found_X5_foundCrash : GoodIn wsX5_found (wsV RX5 176 RX5 yX5_foundCrash wsX5_foundCrash) := goodIn_app (goodIn_of _ (by decide +kernel)) ggX5_found_X5_foundCrash
set_option maxRecDepth 20000 in
theorem ggX5_found_X2_isProcess : GoodIn wsX5_found wsX2_isProcess := goodIn_r _ [38, 39, 64, 65, 66, 67, 68] (by decide +kernel) (by decide +kernel)
set_option maxRecDepth 20000 in
theorem gX5_found_X2_isProcess : GoodIn wsX5_found (wsV RX5 105 RX2 yX2_isProcess wsX2_isProcess) := goodIn_app (goodIn_of _ (by decide +kernel)) ggX5_found_X2_isProcess
theorem dX5_found_0 : decode cX5_found 0 = .ok (.aload_n 0, 1) := by decide +kernel
theorem dX5_found_1 : decode cX5_found 1 = .ok (.getfield 28, 3) := by decide +kernel
theorem dX5_found_4 : decode cX5_found 4 = .ok (.getfield 170, 3) := by decide +kernel
theorem dX5_found_7 : decode cX5_found 7 = .ok (.ifCond .ne 5, 3) := by decide +kernel
theorem dX5_found_10 : decode cX5_found 10 = .ok (.iconst (-1), 1) := by decide +kernel
theorem dX5_found_11 : decode cX5_found 11 = .ok (.ireturn, 1) := by decide +kernel
theorem dX5_found_12 : decode cX5_found 12 = .ok (.iload_n 1, 1) := by decide +kernel
theorem dX5_found_13 : decode cX5_found 13 = .ok (.tableswitch 99 0 5 #[39, 47, 61, 61, 61, 68], 39) := by decide +kernel
theorem dX5_found_52 : decode cX5_found 52 = .ok (.aload_n 0, 1) := by decide +kernel
theorem dX5_found_53 : decode cX5_found 53 = .ok (.getfield 28, 3) := by decide +kernel
theorem dX5_found_56 : decode cX5_found 56 = .ok (.getfield 170, 3) := by decide +kernel
theorem dX5_found_59 : decode cX5_found 59 = .ok (.ireturn, 1) := by decide +kernel
theorem dX5_found_60 : decode cX5_found 60 = .ok (.aload_n 0, 1) := by decide +kernel
theorem dX5_found_61 : decode cX5_found 61 = .ok (.getfield 28, 3) := by decide +kernel
theorem dX5_found_64 : decode cX5_found 64 = .ok (.getfield 173, 3) := by decide +kernel
theorem dX5_found_67 : decode cX5_found 67 = .ok (.getfield 66, 3) := by decide +kernel
theorem dX5_found_70 : decode cX5_found 70 = .ok (.invokevirtual 79, 3) := by decide +kernel
theorem dX5_found_73 : decode cX5_found 73 = .ok (.ireturn, 1) := by decide +kernel
theorem dX5_found_74 : decode cX5_found 74 = .ok (.aload_n 0, 1) := by decide +kernel
theorem dX5_found_75 : decode cX5_found 75 = .ok (.iload_n 1, 1) := by decide +kernel
theorem dX5_found_76 : decode cX5_found 76 = .ok (.iload_n 2, 1) := by decide +kernel
theorem dX5_found_77 : decode cX5_found 77 = .ok (.invokevirtual 176, 3) := by decide +kernel
theorem dX5_found_80 : decode cX5_found 80 = .ok (.ireturn, 1) := by decide +kernel
theorem dX5_found_81 : decode cX5_found 81 = .ok (.aload_n 0, 1) := by decide +kernel
theorem dX5_found_82 : decode cX5_found 82 = .ok (.getfield 10, 3) := by decide +kernel
theorem dX5_found_85 : decode cX5_found 85 = .ok (.iload_n 2, 1) := by decide +kernel
theorem dX5_found_86 : decode cX5_found 86 = .ok (.invokevirtual 105, 3) := by decide +kernel
theorem dX5_found_89 : decode cX5_found 89 = .ok (.ifCond .eq 21, 3) := by decide +kernel
theorem dX5_found_92 : decode cX5_found 92 = .ok (.aload_n 0, 1) := by decide +kernel
theorem dX5_found_93 : decode cX5_found 93 = .ok (.getfield 28, 3) := by decide +kernel
theorem dX5_found_96 : decode cX5_found 96 = .ok (.getfield 173, 3) := by decide +kernel
theorem dX5_found_99 : decode cX5_found 99 = .ok (.getfield 52, 3) := by decide +kernel
theorem dX5_found_102 : decode cX5_found 102 = .ok (.getfield 56, 3) := by decide +kernel
theorem dX5_found_105 : decode cX5_found 105 = .ok (.iload_n 2, 1) := by decide +kernel
theorem dX5_found_106 : decode cX5_found 106 = .ok (.iaload, 1) := by decide +kernel
theorem dX5_found_107 : decode cX5_found 107 = .ok (.goto 4, 3) := by decide +kernel
theorem dX5_found_110 : decode cX5_found 110 = .ok (.iconst (-1), 1) := by decide +kernel
theorem dX5_found_111 : decode cX5_found 111 = .ok (.ireturn, 1) := by decide +kernel
theorem dX5_found_112 : decode cX5_found 112 = .ok (.iconst (-1), 1) := by decide +kernel
theorem dX5_found_113 : decode cX5_found 113 = .ok (.ireturn, 1) := by decide +kernel
set_option maxRecDepth 20000 in
theorem ggX5_replay_X0_copy : GoodIn wsX5_replay wsX0_copy := goodIn_r _ [11, 12, 13, 14, 15, 16, 67] (by decide +kernel) (by decide +kernel)
set_option maxRecDepth 20000 in
theorem gX5_replay_X0_copy : GoodIn wsX5_replay (wsV RX5 180 RX0 yX0_copy wsX0_copy) := goodIn_app (goodIn_of _ (by decide +kernel)) ggX5_replay_X0_copy
set_option maxRecDepth 20000 in
theorem ggX5_replay_X1_copy : GoodIn wsX5_replay wsX1_copy := goodIn_r _ [21, 22, 23, 24, 14, 15, 16, 25, 68, 69, 70] (by decide +kernel) (by decide +kernel)
set_option maxRecDepth 20000 in
theorem gX5_replay_X1_copy : GoodIn wsX5_replay (wsV RX5 184 RX1 yX1_copy wsX1_copy) := goodIn_app (goodIn_of _ (by decide +kernel)) ggX5_replay_X1_copy
set_option maxRecDepth 20000 in
theorem ggX5_replay_X3_begin : GoodIn wsX5_replay wsX3_begin := goodIn_r _ [30, 31, 32, 33, 34, 35, 36, 37, 38, 39, 40, 41, 42, 43, 44, 45, 46, 53, 54, 55, 56, 57, 58, 59, 60, 61, 62, 63, 64, 65, 66, 71, 72, 73, 74, 75] (by decide +kernel) (by decide +kernel)
set_option maxRecDepth 20000 in
theorem gX5_replay_X3_begin : GoodIn wsX5_replay (wsV RX5 102 RX3 yX3_begin wsX3_begin) := goodIn_app (goodIn_of _ (by decide +kernel)) ggX5_replay_X3_begin
theorem dX5_replay_0 : decode cX5_replay 0 = .ok (.aload_n 0, 1) := by decide +kernel
theorem dX5_replay_1 : decode cX5_replay 1 = .ok (.getfield 28, 3) := by decide +kernel
theorem dX5_replay_4 : decode cX5_replay 4 = .ok (.getfield 170, 3) := by decide +kernel
theorem dX5_replay_7 : decode cX5_replay 7 = .ok (.ifCond .ne 5, 3) := by decide +kernel
theorem dX5_replay_10 : decode cX5_replay 10 = .ok (.iconst (-1), 1) := by decide +kernel
theorem dX5_replay_11 : decode cX5_replay 11 = .ok (.ireturn, 1) := by decide +kernel
theorem dX5_replay_12 : decode cX5_replay 12 = .ok (.aload_n 0, 1) := by decide +kernel
theorem dX5_replay_13 : decode cX5_replay 13 = .ok (.getfield 21, 3) := by decide +kernel
theorem dX5_replay_16 : decode cX5_replay 16 = .ok (.getfield 52, 3) := by decide +kernel
theorem dX5_replay_19 : decode cX5_replay 19 = .ok (.aload_n 0, 1) := by decide +kernel
theorem dX5_replay_20 : decode cX5_replay 20 = .ok (.getfield 28, 3) := by decide +kernel
theorem dX5_replay_23 : decode cX5_replay 23 = .ok (.getfield 173, 3) := by decide +kernel
theorem dX5_replay_26 : decode cX5_replay 26 = .ok (.getfield 52, 3) := by decide +kernel
theorem dX5_replay_29 : decode cX5_replay 29 = .ok (.invokevirtual 180, 3) := by decide +kernel
theorem dX5_replay_32 : decode cX5_replay 32 = .ok (.aload_n 0, 1) := by decide +kernel
theorem dX5_replay_33 : decode cX5_replay 33 = .ok (.getfield 21, 3) := by decide +kernel
theorem dX5_replay_36 : decode cX5_replay 36 = .ok (.getfield 66, 3) := by decide +kernel
theorem dX5_replay_39 : decode cX5_replay 39 = .ok (.aload_n 0, 1) := by decide +kernel
theorem dX5_replay_40 : decode cX5_replay 40 = .ok (.getfield 28, 3) := by decide +kernel
theorem dX5_replay_43 : decode cX5_replay 43 = .ok (.getfield 173, 3) := by decide +kernel
theorem dX5_replay_46 : decode cX5_replay 46 = .ok (.getfield 66, 3) := by decide +kernel
theorem dX5_replay_49 : decode cX5_replay 49 = .ok (.invokevirtual 184, 3) := by decide +kernel
theorem dX5_replay_52 : decode cX5_replay 52 = .ok (.aload_n 0, 1) := by decide +kernel
theorem dX5_replay_53 : decode cX5_replay 53 = .ok (.getfield 21, 3) := by decide +kernel
theorem dX5_replay_56 : decode cX5_replay 56 = .ok (.invokevirtual 102, 3) := by decide +kernel
theorem dX5_replay_59 : decode cX5_replay 59 = .ok (.aload_n 0, 1) := by decide +kernel
theorem dX5_replay_60 : decode cX5_replay 60 = .ok (.getfield 28, 3) := by decide +kernel
theorem dX5_replay_63 : decode cX5_replay 63 = .ok (.getfield 170, 3) := by decide +kernel
theorem dX5_replay_66 : decode cX5_replay 66 = .ok (.ireturn, 1) := by decide +kernel
set_option maxRecDepth 20000 in
theorem ggX5_foundCrash_X1_crashingAt : GoodIn wsX5_foundCrash wsX1_crashingAt := goodIn_r _ [11, 12, 13, 14, 15, 42, 43, 44] (by decide +kernel) (by decide +kernel)
set_option maxRecDepth 20000 in
theorem gX5_foundCrash_X1_crashingAt : GoodIn wsX5_foundCrash (wsV RX5 187 RX1 yX1_crashingAt wsX1_crashingAt) := goodIn_app (goodIn_of _ (by decide +kernel)) ggX5_foundCrash_X1_crashingAt
set_option maxRecDepth 20000 in
theorem ggX5_foundCrash_X2_isProcess : GoodIn wsX5_foundCrash wsX2_isProcess := goodIn_r _ [20, 21, 45, 46, 47, 48, 49] (by decide +kernel) (by decide +kernel)
set_option maxRecDepth 20000 in
theorem gX5_foundCrash_X2_isProcess : GoodIn wsX5_foundCrash (wsV RX5 105 RX2 yX2_isProcess wsX2_isProcess) := goodIn_app (goodIn_of _ (by decide +kernel)) ggX5_foundCrash_X2_isProcess
theorem dX5_foundCrash_0 : decode cX5_foundCrash 0 = .ok (.aload_n 0, 1) := by decide +kernel
theorem dX5_foundCrash_1 : decode cX5_foundCrash 1 = .ok (.getfield 28, 3) := by decide +kernel
theorem dX5_foundCrash_4 : decode cX5_foundCrash 4 = .ok (.getfield 173, 3) := by decide +kernel
theorem dX5_foundCrash_7 : decode cX5_foundCrash 7 = .ok (.getfield 66, 3) := by decide +kernel
theorem dX5_foundCrash_10 : decode cX5_foundCrash 10 = .ok (.astore_n 3, 1) := by decide +kernel
theorem dX5_foundCrash_11 : decode cX5_foundCrash 11 = .ok (.aload_n 3, 1) := by decide +kernel
theorem dX5_foundCrash_12 : decode cX5_foundCrash 12 = .ok (.iload_n 2, 1) := by decide +kernel
theorem dX5_foundCrash_13 : decode cX5_foundCrash 13 = .ok (.invokevirtual 187, 3) := by decide +kernel
theorem dX5_foundCrash_16 : decode cX5_foundCrash 16 = .ok (.istore 4, 2) := by decide +kernel
theorem dX5_foundCrash_18 : decode cX5_foundCrash 18 = .ok (.aload_n 0, 1) := by decide +kernel
theorem dX5_foundCrash_19 : decode cX5_foundCrash 19 = .ok (.getfield 10, 3) := by decide +kernel
theorem dX5_foundCrash_22 : decode cX5_foundCrash 22 = .ok (.iload 4, 2) := by decide +kernel
theorem dX5_foundCrash_24 : decode cX5_foundCrash 24 = .ok (.invokevirtual 105, 3) := by decide +kernel
theorem dX5_foundCrash_27 : decode cX5_foundCrash 27 = .ok (.ifCond .ne 5, 3) := by decide +kernel
theorem dX5_foundCrash_30 : decode cX5_foundCrash 30 = .ok (.iconst (-1), 1) := by decide +kernel
theorem dX5_foundCrash_31 : decode cX5_foundCrash 31 = .ok (.ireturn, 1) := by decide +kernel
theorem dX5_foundCrash_32 : decode cX5_foundCrash 32 = .ok (.iload_n 1, 1) := by decide +kernel
theorem dX5_foundCrash_33 : decode cX5_foundCrash 33 = .ok (.iconst 2, 1) := by decide +kernel
theorem dX5_foundCrash_34 : decode cX5_foundCrash 34 = .ok (.if_icmp .ne 6, 3) := by decide +kernel
theorem dX5_foundCrash_37 : decode cX5_foundCrash 37 = .ok (.iload 4, 2) := by decide +kernel
theorem dX5_foundCrash_39 : decode cX5_foundCrash 39 = .ok (.ireturn, 1) := by decide +kernel
theorem dX5_foundCrash_40 : decode cX5_foundCrash 40 = .ok (.iload_n 1, 1) := by decide +kernel
theorem dX5_foundCrash_41 : decode cX5_foundCrash 41 = .ok (.iconst 3, 1) := by decide +kernel
theorem dX5_foundCrash_42 : decode cX5_foundCrash 42 = .ok (.if_icmp .ne 13, 3) := by decide +kernel
theorem dX5_foundCrash_45 : decode cX5_foundCrash 45 = .ok (.aload_n 3, 1) := by decide +kernel
theorem dX5_foundCrash_46 : decode cX5_foundCrash 46 = .ok (.getfield 190, 3) := by decide +kernel
theorem dX5_foundCrash_49 : decode cX5_foundCrash 49 = .ok (.iload 4, 2) := by decide +kernel
theorem dX5_foundCrash_51 : decode cX5_foundCrash 51 = .ok (.iaload, 1) := by decide +kernel
theorem dX5_foundCrash_52 : decode cX5_foundCrash 52 = .ok (.goto 10, 3) := by decide +kernel
theorem dX5_foundCrash_55 : decode cX5_foundCrash 55 = .ok (.aload_n 3, 1) := by decide +kernel
theorem dX5_foundCrash_56 : decode cX5_foundCrash 56 = .ok (.getfield 192, 3) := by decide +kernel
theorem dX5_foundCrash_59 : decode cX5_foundCrash 59 = .ok (.iload 4, 2) := by decide +kernel
theorem dX5_foundCrash_61 : decode cX5_foundCrash 61 = .ok (.iaload, 1) := by decide +kernel
theorem dX5_foundCrash_62 : decode cX5_foundCrash 62 = .ok (.ireturn, 1) := by decide +kernel
set_option maxRecDepth 20000 in
theorem ggX5_setUp_X2_put : GoodIn wsX5_setUp wsX2_put := goodIn_r _ [11, 12, 13, 14, 15, 16, 17, 18, 19, 20, 83, 84, 85, 86, 87] (by decide +kernel) (by decide +kernel)
set_option maxRecDepth 20000 in
theorem gX5_setUp_X2_put : GoodIn wsX5_setUp (wsV RX5 195 RX2 yX2_put wsX2_put) := goodIn_app (goodIn_of _ (by decide +kernel)) ggX5_setUp_X2_put
set_option maxRecDepth 20000 in
theorem ggX5_setUp_X0_clear : GoodIn wsX5_setUp wsX0_clear := goodIn_r _ [25, 26, 27, 28, 29, 30, 88] (by decide +kernel) (by decide +kernel)
set_option maxRecDepth 20000 in
theorem gX5_setUp_X0_clear : GoodIn wsX5_setUp (wsV RX5 197 RX0 yX0_clear wsX0_clear) := goodIn_app (goodIn_of _ (by decide +kernel)) ggX5_setUp_X0_clear
set_option maxRecDepth 20000 in
theorem ggX5_setUp_X1_clear : GoodIn wsX5_setUp wsX1_clear := goodIn_r _ [35, 36, 37, 38, 34, 39, 40, 41, 42, 43, 28, 29, 30, 89, 90, 91] (by decide +kernel) (by decide +kernel)
set_option maxRecDepth 20000 in
theorem gX5_setUp_X1_clear : GoodIn wsX5_setUp (wsV RX5 200 RX1 yX1_clear wsX1_clear) := goodIn_app (goodIn_of _ (by decide +kernel)) ggX5_setUp_X1_clear
set_option maxRecDepth 20000 in
theorem ggX5_setUp_X3_begin : GoodIn wsX5_setUp wsX3_begin := goodIn_r _ [48, 49, 50, 51, 52, 53, 54, 55, 56, 57, 58, 59, 60, 61, 10, 62, 13, 66, 67, 68, 69, 70, 71, 72, 73, 74, 75, 76, 77, 78, 79, 83, 84, 85, 86, 87] (by decide +kernel) (by decide +kernel)
set_option maxRecDepth 20000 in
theorem gX5_setUp_X3_begin : GoodIn wsX5_setUp (wsV RX5 102 RX3 yX3_begin wsX3_begin) := goodIn_app (goodIn_of _ (by decide +kernel)) ggX5_setUp_X3_begin
theorem dX5_setUp_0 : decode cX5_setUp 0 = .ok (.aload_n 0, 1) := by decide +kernel
theorem dX5_setUp_1 : decode cX5_setUp 1 = .ok (.getfield 10, 3) := by decide +kernel
theorem dX5_setUp_4 : decode cX5_setUp 4 = .ok (.iload_n 1, 1) := by decide +kernel
theorem dX5_setUp_5 : decode cX5_setUp 5 = .ok (.iload_n 2, 1) := by decide +kernel
theorem dX5_setUp_6 : decode cX5_setUp 6 = .ok (.iload_n 3, 1) := by decide +kernel
theorem dX5_setUp_7 : decode cX5_setUp 7 = .ok (.iload 4, 2) := by decide +kernel
theorem dX5_setUp_9 : decode cX5_setUp 9 = .ok (.iload 5, 2) := by decide +kernel
theorem dX5_setUp_11 : decode cX5_setUp 11 = .ok (.invokevirtual 195, 3) := by decide +kernel
theorem dX5_setUp_14 : decode cX5_setUp 14 = .ok (.aload_n 0, 1) := by decide +kernel
theorem dX5_setUp_15 : decode cX5_setUp 15 = .ok (.getfield 21, 3) := by decide +kernel
theorem dX5_setUp_18 : decode cX5_setUp 18 = .ok (.getfield 52, 3) := by decide +kernel
theorem dX5_setUp_21 : decode cX5_setUp 21 = .ok (.invokevirtual 197, 3) := by decide +kernel
theorem dX5_setUp_24 : decode cX5_setUp 24 = .ok (.aload_n 0, 1) := by decide +kernel
theorem dX5_setUp_25 : decode cX5_setUp 25 = .ok (.getfield 21, 3) := by decide +kernel
theorem dX5_setUp_28 : decode cX5_setUp 28 = .ok (.getfield 66, 3) := by decide +kernel
theorem dX5_setUp_31 : decode cX5_setUp 31 = .ok (.invokevirtual 200, 3) := by decide +kernel
theorem dX5_setUp_34 : decode cX5_setUp 34 = .ok (.aload_n 0, 1) := by decide +kernel
theorem dX5_setUp_35 : decode cX5_setUp 35 = .ok (.getfield 21, 3) := by decide +kernel
theorem dX5_setUp_38 : decode cX5_setUp 38 = .ok (.invokevirtual 102, 3) := by decide +kernel
theorem dX5_setUp_41 : decode cX5_setUp 41 = .ok (.aload_n 0, 1) := by decide +kernel
theorem dX5_setUp_42 : decode cX5_setUp 42 = .ok (.getfield 28, 3) := by decide +kernel
theorem dX5_setUp_45 : decode cX5_setUp 45 = .ok (.iconst 0, 1) := by decide +kernel
theorem dX5_setUp_46 : decode cX5_setUp 46 = .ok (.putfield 170, 3) := by decide +kernel
theorem dX5_setUp_49 : decode cX5_setUp 49 = .ok (.return_, 1) := by decide +kernel
set_option maxRecDepth 20000 in
theorem ggX5_isOpenTo_X2_isProcess : GoodIn wsX5_isOpenTo wsX2_isProcess := goodIn_r _ [8, 9, 27, 28, 29, 30, 31] (by decide +kernel) (by decide +kernel)
set_option maxRecDepth 20000 in
theorem gX5_isOpenTo_X2_isProcess : GoodIn wsX5_isOpenTo (wsV RX5 105 RX2 yX2_isProcess wsX2_isProcess) := goodIn_app (goodIn_of _ (by decide +kernel)) ggX5_isOpenTo_X2_isProcess
theorem dX5_isOpenTo_0 : decode cX5_isOpenTo 0 = .ok (.aload_n 0, 1) := by decide +kernel
theorem dX5_isOpenTo_1 : decode cX5_isOpenTo 1 = .ok (.getfield 10, 3) := by decide +kernel
theorem dX5_isOpenTo_4 : decode cX5_isOpenTo 4 = .ok (.iload_n 1, 1) := by decide +kernel
theorem dX5_isOpenTo_5 : decode cX5_isOpenTo 5 = .ok (.invokevirtual 105, 3) := by decide +kernel
theorem dX5_isOpenTo_8 : decode cX5_isOpenTo 8 = .ok (.ifCond .eq 17, 3) := by decide +kernel
theorem dX5_isOpenTo_11 : decode cX5_isOpenTo 11 = .ok (.aload_n 0, 1) := by decide +kernel
theorem dX5_isOpenTo_12 : decode cX5_isOpenTo 12 = .ok (.getfield 21, 3) := by decide +kernel
theorem dX5_isOpenTo_15 : decode cX5_isOpenTo 15 = .ok (.getfield 96, 3) := by decide +kernel
theorem dX5_isOpenTo_18 : decode cX5_isOpenTo 18 = .ok (.ifCond .ne 7, 3) := by decide +kernel
theorem dX5_isOpenTo_21 : decode cX5_isOpenTo 21 = .ok (.iconst 1, 1) := by decide +kernel
theorem dX5_isOpenTo_22 : decode cX5_isOpenTo 22 = .ok (.goto 4, 3) := by decide +kernel
theorem dX5_isOpenTo_25 : decode cX5_isOpenTo 25 = .ok (.iconst 0, 1) := by decide +kernel
theorem dX5_isOpenTo_26 : decode cX5_isOpenTo 26 = .ok (.ireturn, 1) := by decide +kernel
set_option maxRecDepth 20000 in
theorem ggX5_areRules_X5_isWithin : GoodIn wsX5_areRules wsX5_isWithin := goodIn_r _ [8] (by decide +kernel) (by decide +kernel)
set_option maxRecDepth 20000 in
theorem gX5_areRules_X5_isWithin : GoodIn wsX5_areRules (va_wsS RX5 48 yX5_isWithin wsX5_isWithin) := goodIn_app (goodIn_of _ (by decide +kernel)) ggX5_areRules_X5_isWithin
theorem dX5_areRules_0 : decode cX5_areRules 0 = .ok (.iload_n 0, 1) := by decide +kernel
theorem dX5_areRules_1 : decode cX5_areRules 1 = .ok (.iconst 0, 1) := by decide +kernel
theorem dX5_areRules_2 : decode cX5_areRules 2 = .ok (.bipush 6, 2) := by decide +kernel
theorem dX5_areRules_4 : decode cX5_areRules 4 = .ok (.invokestatic 48, 3) := by decide +kernel
theorem dX5_areRules_7 : decode cX5_areRules 7 = .ok (.ifCond .eq 51, 3) := by decide +kernel
theorem dX5_areRules_10 : decode cX5_areRules 10 = .ok (.iload_n 1, 1) := by decide +kernel
theorem dX5_areRules_11 : decode cX5_areRules 11 = .ok (.iconst 2, 1) := by decide +kernel
theorem dX5_areRules_12 : decode cX5_areRules 12 = .ok (.bipush 8, 2) := by decide +kernel
theorem dX5_areRules_14 : decode cX5_areRules 14 = .ok (.invokestatic 48, 3) := by decide +kernel
theorem dX5_areRules_17 : decode cX5_areRules 17 = .ok (.ifCond .eq 41, 3) := by decide +kernel
theorem dX5_areRules_20 : decode cX5_areRules 20 = .ok (.iload_n 2, 1) := by decide +kernel
theorem dX5_areRules_21 : decode cX5_areRules 21 = .ok (.iconst 0, 1) := by decide +kernel
theorem dX5_areRules_22 : decode cX5_areRules 22 = .ok (.iconst 3, 1) := by decide +kernel
theorem dX5_areRules_23 : decode cX5_areRules 23 = .ok (.iload_n 1, 1) := by decide +kernel
theorem dX5_areRules_24 : decode cX5_areRules 24 = .ok (.iconst 1, 1) := by decide +kernel
theorem dX5_areRules_25 : decode cX5_areRules 25 = .ok (.isub, 1) := by decide +kernel
theorem dX5_areRules_26 : decode cX5_areRules 26 = .ok (.invokestatic 201, 3) := by decide +kernel
theorem dX5_areRules_29 : decode cX5_areRules 29 = .ok (.invokestatic 48, 3) := by decide +kernel
theorem dX5_areRules_32 : decode cX5_areRules 32 = .ok (.ifCond .eq 26, 3) := by decide +kernel
theorem dX5_areRules_35 : decode cX5_areRules 35 = .ok (.iload_n 3, 1) := by decide +kernel
theorem dX5_areRules_36 : decode cX5_areRules 36 = .ok (.iconst 1, 1) := by decide +kernel
theorem dX5_areRules_37 : decode cX5_areRules 37 = .ok (.iconst 3, 1) := by decide +kernel
theorem dX5_areRules_38 : decode cX5_areRules 38 = .ok (.invokestatic 48, 3) := by decide +kernel
theorem dX5_areRules_41 : decode cX5_areRules 41 = .ok (.ifCond .eq 17, 3) := by decide +kernel
theorem dX5_areRules_44 : decode cX5_areRules 44 = .ok (.iload 4, 2) := by decide +kernel
theorem dX5_areRules_46 : decode cX5_areRules 46 = .ok (.iconst 0, 1) := by decide +kernel
theorem dX5_areRules_47 : decode cX5_areRules 47 = .ok (.iconst 2, 1) := by decide +kernel
theorem dX5_areRules_48 : decode cX5_areRules 48 = .ok (.invokestatic 48, 3) := by decide +kernel
theorem dX5_areRules_51 : decode cX5_areRules 51 = .ok (.ifCond .eq 7, 3) := by decide +kernel
theorem dX5_areRules_54 : decode cX5_areRules 54 = .ok (.iconst 1, 1) := by decide +kernel
theorem dX5_areRules_55 : decode cX5_areRules 55 = .ok (.goto 4, 3) := by decide +kernel
theorem dX5_areRules_58 : decode cX5_areRules 58 = .ok (.iconst 0, 1) := by decide +kernel
theorem dX5_areRules_59 : decode cX5_areRules 59 = .ok (.ireturn, 1) := by decide +kernel
theorem dX5_isWithin_0 : decode cX5_isWithin 0 = .ok (.iload_n 0, 1) := by decide +kernel
theorem dX5_isWithin_1 : decode cX5_isWithin 1 = .ok (.iload_n 1, 1) := by decide +kernel
theorem dX5_isWithin_2 : decode cX5_isWithin 2 = .ok (.if_icmp .lt 12, 3) := by decide +kernel
theorem dX5_isWithin_5 : decode cX5_isWithin 5 = .ok (.iload_n 0, 1) := by decide +kernel
theorem dX5_isWithin_6 : decode cX5_isWithin 6 = .ok (.iload_n 2, 1) := by decide +kernel
theorem dX5_isWithin_7 : decode cX5_isWithin 7 = .ok (.if_icmp .gt 7, 3) := by decide +kernel
theorem dX5_isWithin_10 : decode cX5_isWithin 10 = .ok (.iconst 1, 1) := by decide +kernel
theorem dX5_isWithin_11 : decode cX5_isWithin 11 = .ok (.goto 4, 3) := by decide +kernel
theorem dX5_isWithin_14 : decode cX5_isWithin 14 = .ok (.iconst 0, 1) := by decide +kernel
theorem dX5_isWithin_15 : decode cX5_isWithin 15 = .ok (.ireturn, 1) := by decide +kernel
theorem dX5_has_0 : decode cX5_has 0 = .ok (.iload_n 0, 1) := by decide +kernel
theorem dX5_has_1 : decode cX5_has 1 = .ok (.iload_n 1, 1) := by decide +kernel
theorem dX5_has_2 : decode cX5_has 2 = .ok (.ishr, 1) := by decide +kernel
theorem dX5_has_3 : decode cX5_has 3 = .ok (.iconst 1, 1) := by decide +kernel
theorem dX5_has_4 : decode cX5_has 4 = .ok (.iand, 1) := by decide +kernel
theorem dX5_has_5 : decode cX5_has 5 = .ok (.ifCond .eq 7, 3) := by decide +kernel
theorem dX5_has_8 : decode cX5_has 8 = .ok (.iconst 1, 1) := by decide +kernel
theorem dX5_has_9 : decode cX5_has 9 = .ok (.goto 4, 3) := by decide +kernel
theorem dX5_has_12 : decode cX5_has 12 = .ok (.iconst 0, 1) := by decide +kernel
theorem dX5_has_13 : decode cX5_has 13 = .ok (.ireturn, 1) := by decide +kernel
set_option maxRecDepth 20000 in
theorem ggX6_init_X6_start : GoodIn wsX6_init wsX6_start := goodIn_r _ [22, 23, 24, 25, 26, 27, 5, 6, 7, 28, 29, 30, 21, 31, 32, 33, 34, 35, 36, 37, 38, 39, 8, 9, 10, 11, 40, 41, 42, 43, 44, 45, 46, 47, 48, 49, 50, 51, 52, 53, 54, 55, 56, 57, 58, 59, 60, 61, 62, 63, 64, 65, 66] (by decide +kernel) (by decide +kernel)
set_option maxRecDepth 20000 in
theorem gX6_init_X6_start : GoodIn wsX6_init (wsV RX6 49 RX6 yX6_start wsX6_start) := goodIn_app (goodIn_of _ (by decide +kernel)) ggX6_init_X6_start
theorem dX6_init_0 : decode cX6_init 0 = .ok (.aload_n 0, 1) := by decide +kernel
theorem dX6_init_1 : decode cX6_init 1 = .ok (.invokespecial 1, 3) := by decide +kernel
theorem dX6_init_4 : decode cX6_init 4 = .ok (.aload_n 0, 1) := by decide +kernel
theorem dX6_init_5 : decode cX6_init 5 = .ok (.bipush 8, 2) := by decide +kernel
theorem dX6_init_7 : decode cX6_init 7 = .ok (.newarray .int, 2) := by decide +kernel
theorem dX6_init_9 : decode cX6_init 9 = .ok (.putfield 7, 3) := by decide +kernel
theorem dX6_init_12 : decode cX6_init 12 = .ok (.aload_n 0, 1) := by decide +kernel
theorem dX6_init_13 : decode cX6_init 13 = .ok (.bipush 8, 2) := by decide +kernel
theorem dX6_init_15 : decode cX6_init 15 = .ok (.newarray .int, 2) := by decide +kernel
theorem dX6_init_17 : decode cX6_init 17 = .ok (.putfield 13, 3) := by decide +kernel
theorem dX6_init_20 : decode cX6_init 20 = .ok (.aload_n 0, 1) := by decide +kernel
theorem dX6_init_21 : decode cX6_init 21 = .ok (.bipush 8, 2) := by decide +kernel
theorem dX6_init_23 : decode cX6_init 23 = .ok (.newarray .int, 2) := by decide +kernel
theorem dX6_init_25 : decode cX6_init 25 = .ok (.putfield 16, 3) := by decide +kernel
theorem dX6_init_28 : decode cX6_init 28 = .ok (.aload_n 0, 1) := by decide +kernel
theorem dX6_init_29 : decode cX6_init 29 = .ok (.bipush 8, 2) := by decide +kernel
theorem dX6_init_31 : decode cX6_init 31 = .ok (.newarray .int, 2) := by decide +kernel
theorem dX6_init_33 : decode cX6_init 33 = .ok (.putfield 19, 3) := by decide +kernel
theorem dX6_init_36 : decode cX6_init 36 = .ok (.aload_n 0, 1) := by decide +kernel
theorem dX6_init_37 : decode cX6_init 37 = .ok (.bipush 8, 2) := by decide +kernel
theorem dX6_init_39 : decode cX6_init 39 = .ok (.newarray .int, 2) := by decide +kernel
theorem dX6_init_41 : decode cX6_init 41 = .ok (.putfield 22, 3) := by decide +kernel
theorem dX6_init_44 : decode cX6_init 44 = .ok (.aload_n 0, 1) := by decide +kernel
theorem dX6_init_45 : decode cX6_init 45 = .ok (.bipush 8, 2) := by decide +kernel
theorem dX6_init_47 : decode cX6_init 47 = .ok (.newarray .int, 2) := by decide +kernel
theorem dX6_init_49 : decode cX6_init 49 = .ok (.putfield 25, 3) := by decide +kernel
theorem dX6_init_52 : decode cX6_init 52 = .ok (.aload_n 0, 1) := by decide +kernel
theorem dX6_init_53 : decode cX6_init 53 = .ok (.bipush 8, 2) := by decide +kernel
theorem dX6_init_55 : decode cX6_init 55 = .ok (.newarray .int, 2) := by decide +kernel
theorem dX6_init_57 : decode cX6_init 57 = .ok (.putfield 28, 3) := by decide +kernel
theorem dX6_init_60 : decode cX6_init 60 = .ok (.aload_n 0, 1) := by decide +kernel
theorem dX6_init_61 : decode cX6_init 61 = .ok (.bipush 8, 2) := by decide +kernel
theorem dX6_init_63 : decode cX6_init 63 = .ok (.newarray .int, 2) := by decide +kernel
theorem dX6_init_65 : decode cX6_init 65 = .ok (.putfield 31, 3) := by decide +kernel
theorem dX6_init_68 : decode cX6_init 68 = .ok (.aload_n 0, 1) := by decide +kernel
theorem dX6_init_69 : decode cX6_init 69 = .ok (.bipush 8, 2) := by decide +kernel
theorem dX6_init_71 : decode cX6_init 71 = .ok (.newarray .int, 2) := by decide +kernel
theorem dX6_init_73 : decode cX6_init 73 = .ok (.putfield 34, 3) := by decide +kernel
theorem dX6_init_76 : decode cX6_init 76 = .ok (.aload_n 0, 1) := by decide +kernel
theorem dX6_init_77 : decode cX6_init 77 = .ok (.bipush 60, 2) := by decide +kernel
theorem dX6_init_79 : decode cX6_init 79 = .ok (.newarray .int, 2) := by decide +kernel
theorem dX6_init_81 : decode cX6_init 81 = .ok (.putfield 37, 3) := by decide +kernel
theorem dX6_init_84 : decode cX6_init 84 = .ok (.aload_n 0, 1) := by decide +kernel
theorem dX6_init_85 : decode cX6_init 85 = .ok (.bipush 8, 2) := by decide +kernel
theorem dX6_init_87 : decode cX6_init 87 = .ok (.newarray .int, 2) := by decide +kernel
theorem dX6_init_89 : decode cX6_init 89 = .ok (.putfield 40, 3) := by decide +kernel
theorem dX6_init_92 : decode cX6_init 92 = .ok (.aload_n 0, 1) := by decide +kernel
theorem dX6_init_93 : decode cX6_init 93 = .ok (.bipush 8, 2) := by decide +kernel
theorem dX6_init_95 : decode cX6_init 95 = .ok (.newarray .int, 2) := by decide +kernel
theorem dX6_init_97 : decode cX6_init 97 = .ok (.putfield 43, 3) := by decide +kernel
theorem dX6_init_100 : decode cX6_init 100 = .ok (.aload_n 0, 1) := by decide +kernel
theorem dX6_init_101 : decode cX6_init 101 = .ok (.bipush 8, 2) := by decide +kernel
theorem dX6_init_103 : decode cX6_init 103 = .ok (.newarray .int, 2) := by decide +kernel
theorem dX6_init_105 : decode cX6_init 105 = .ok (.putfield 46, 3) := by decide +kernel
theorem dX6_init_108 : decode cX6_init 108 = .ok (.aload_n 0, 1) := by decide +kernel
theorem dX6_init_109 : decode cX6_init 109 = .ok (.iconst 0, 1) := by decide +kernel
theorem dX6_init_110 : decode cX6_init 110 = .ok (.iconst 4, 1) := by decide +kernel
theorem dX6_init_111 : decode cX6_init 111 = .ok (.iconst 1, 1) := by decide +kernel
theorem dX6_init_112 : decode cX6_init 112 = .ok (.iconst 1, 1) := by decide +kernel
theorem dX6_init_113 : decode cX6_init 113 = .ok (.iconst 0, 1) := by decide +kernel
theorem dX6_init_114 : decode cX6_init 114 = .ok (.invokevirtual 49, 3) := by decide +kernel
theorem dX6_init_117 : decode cX6_init 117 = .ok (.pop, 1) := by decide +kernel
theorem dX6_init_118 : decode cX6_init 118 = .ok (.return_, 1) := by decide +kernel
theorem dX6_isIn_0 : decode cX6_isIn 0 = .ok (.iload_n 0, 1) := by decide +kernel
theorem dX6_isIn_1 : decode cX6_isIn 1 = .ok (.iload_n 1, 1) := by decide +kernel
theorem dX6_isIn_2 : decode cX6_isIn 2 = .ok (.if_icmp .lt 12, 3) := by decide +kernel
theorem dX6_isIn_5 : decode cX6_isIn 5 = .ok (.iload_n 0, 1) := by decide +kernel
theorem dX6_isIn_6 : decode cX6_isIn 6 = .ok (.iload_n 2, 1) := by decide +kernel
theorem dX6_isIn_7 : decode cX6_isIn 7 = .ok (.if_icmp .gt 7, 3) := by decide +kernel
theorem dX6_isIn_10 : decode cX6_isIn 10 = .ok (.iconst 1, 1) := by decide +kernel
theorem dX6_isIn_11 : decode cX6_isIn 11 = .ok (.goto 4, 3) := by decide +kernel
theorem dX6_isIn_14 : decode cX6_isIn 14 = .ok (.iconst 0, 1) := by decide +kernel
theorem dX6_isIn_15 : decode cX6_isIn 15 = .ok (.ireturn, 1) := by decide +kernel
theorem dX6_isProcess_0 : decode cX6_isProcess 0 = .ok (.iload_n 1, 1) := by decide +kernel
theorem dX6_isProcess_1 : decode cX6_isProcess 1 = .ok (.ifCond .lt 15, 3) := by decide +kernel
theorem dX6_isProcess_4 : decode cX6_isProcess 4 = .ok (.iload_n 1, 1) := by decide +kernel
theorem dX6_isProcess_5 : decode cX6_isProcess 5 = .ok (.aload_n 0, 1) := by decide +kernel
theorem dX6_isProcess_6 : decode cX6_isProcess 6 = .ok (.getfield 53, 3) := by decide +kernel
theorem dX6_isProcess_9 : decode cX6_isProcess 9 = .ok (.if_icmp .ge 7, 3) := by decide +kernel
theorem dX6_isProcess_12 : decode cX6_isProcess 12 = .ok (.iconst 1, 1) := by decide +kernel
theorem dX6_isProcess_13 : decode cX6_isProcess 13 = .ok (.goto 4, 3) := by decide +kernel
theorem dX6_isProcess_16 : decode cX6_isProcess 16 = .ok (.iconst 0, 1) := by decide +kernel
theorem dX6_isProcess_17 : decode cX6_isProcess 17 = .ok (.ireturn, 1) := by decide +kernel
theorem dX6_bits_0 : decode cX6_bits 0 = .ok (.iconst 0, 1) := by decide +kernel
theorem dX6_bits_1 : decode cX6_bits 1 = .ok (.istore_n 1, 1) := by decide +kernel
theorem dX6_bits_2 : decode cX6_bits 2 = .ok (.iload_n 0, 1) := by decide +kernel
theorem dX6_bits_3 : decode cX6_bits 3 = .ok (.istore_n 2, 1) := by decide +kernel
theorem dX6_bits_4 : decode cX6_bits 4 = .ok (.iload_n 2, 1) := by decide +kernel
theorem dX6_bits_5 : decode cX6_bits 5 = .ok (.ifCond .eq 15, 3) := by decide +kernel
theorem dX6_bits_8 : decode cX6_bits 8 = .ok (.iinc 1 1, 3) := by decide +kernel
theorem dX6_bits_11 : decode cX6_bits 11 = .ok (.iload_n 2, 1) := by decide +kernel
theorem dX6_bits_12 : decode cX6_bits 12 = .ok (.iload_n 2, 1) := by decide +kernel
theorem dX6_bits_13 : decode cX6_bits 13 = .ok (.iconst 1, 1) := by decide +kernel
theorem dX6_bits_14 : decode cX6_bits 14 = .ok (.isub, 1) := by decide +kernel
theorem dX6_bits_15 : decode cX6_bits 15 = .ok (.iand, 1) := by decide +kernel
theorem dX6_bits_16 : decode cX6_bits 16 = .ok (.istore_n 2, 1) := by decide +kernel
theorem dX6_bits_17 : decode cX6_bits 17 = .ok (.goto (-13), 3) := by decide +kernel
theorem dX6_bits_20 : decode cX6_bits 20 = .ok (.iload_n 1, 1) := by decide +kernel
theorem dX6_bits_21 : decode cX6_bits 21 = .ok (.ireturn, 1) := by decide +kernel
theorem dX6_all_0 : decode cX6_all 0 = .ok (.iconst 1, 1) := by decide +kernel
theorem dX6_all_1 : decode cX6_all 1 = .ok (.aload_n 0, 1) := by decide +kernel
theorem dX6_all_2 : decode cX6_all 2 = .ok (.getfield 53, 3) := by decide +kernel
theorem dX6_all_5 : decode cX6_all 5 = .ok (.ishl, 1) := by decide +kernel
theorem dX6_all_6 : decode cX6_all 6 = .ok (.iconst 1, 1) := by decide +kernel
theorem dX6_all_7 : decode cX6_all 7 = .ok (.isub, 1) := by decide +kernel
theorem dX6_all_8 : decode cX6_all 8 = .ok (.ireturn, 1) := by decide +kernel
set_option maxRecDepth 20000 in
theorem ggX6_begin_X6_all : GoodIn wsX6_begin wsX6_all := goodIn_r _ [16, 9, 17, 18, 19, 20, 21, 22, 23, 24, 25, 26, 27, 28, 29, 30, 31, 32, 33, 34, 35, 36, 37, 38, 39] (by decide +kernel) (by decide +kernel)
set_option maxRecDepth 20000 in
theorem gX6_begin_X6_all : GoodIn wsX6_begin (wsV RX6 63 RX6 yX6_all wsX6_all) := goodIn_app (goodIn_of _ (by decide +kernel)) ggX6_begin_X6_all
theorem dX6_begin_0 : decode cX6_begin 0 = .ok (.aload_n 0, 1) := by decide +kernel
theorem dX6_begin_1 : decode cX6_begin 1 = .ok (.iconst 0, 1) := by decide +kernel
theorem dX6_begin_2 : decode cX6_begin 2 = .ok (.putfield 57, 3) := by decide +kernel
theorem dX6_begin_5 : decode cX6_begin 5 = .ok (.aload_n 0, 1) := by decide +kernel
theorem dX6_begin_6 : decode cX6_begin 6 = .ok (.iconst 0, 1) := by decide +kernel
theorem dX6_begin_7 : decode cX6_begin 7 = .ok (.putfield 60, 3) := by decide +kernel
theorem dX6_begin_10 : decode cX6_begin 10 = .ok (.aload_n 0, 1) := by decide +kernel
theorem dX6_begin_11 : decode cX6_begin 11 = .ok (.aload_n 0, 1) := by decide +kernel
theorem dX6_begin_12 : decode cX6_begin 12 = .ok (.invokevirtual 63, 3) := by decide +kernel
theorem dX6_begin_15 : decode cX6_begin 15 = .ok (.putfield 67, 3) := by decide +kernel
theorem dX6_begin_18 : decode cX6_begin 18 = .ok (.aload_n 0, 1) := by decide +kernel
theorem dX6_begin_19 : decode cX6_begin 19 = .ok (.iconst 0, 1) := by decide +kernel
theorem dX6_begin_20 : decode cX6_begin 20 = .ok (.putfield 70, 3) := by decide +kernel
theorem dX6_begin_23 : decode cX6_begin 23 = .ok (.iconst 0, 1) := by decide +kernel
theorem dX6_begin_24 : decode cX6_begin 24 = .ok (.istore_n 1, 1) := by decide +kernel
theorem dX6_begin_25 : decode cX6_begin 25 = .ok (.iload_n 1, 1) := by decide +kernel
theorem dX6_begin_26 : decode cX6_begin 26 = .ok (.bipush 8, 2) := by decide +kernel
theorem dX6_begin_28 : decode cX6_begin 28 = .ok (.if_icmp .ge 86, 3) := by decide +kernel
theorem dX6_begin_31 : decode cX6_begin 31 = .ok (.aload_n 0, 1) := by decide +kernel
theorem dX6_begin_32 : decode cX6_begin 32 = .ok (.getfield 19, 3) := by decide +kernel
theorem dX6_begin_35 : decode cX6_begin 35 = .ok (.iload_n 1, 1) := by decide +kernel
theorem dX6_begin_36 : decode cX6_begin 36 = .ok (.aload_n 0, 1) := by decide +kernel
theorem dX6_begin_37 : decode cX6_begin 37 = .ok (.getfield 73, 3) := by decide +kernel
theorem dX6_begin_40 : decode cX6_begin 40 = .ok (.ifCond .ne 14, 3) := by decide +kernel
theorem dX6_begin_43 : decode cX6_begin 43 = .ok (.iconst 1, 1) := by decide +kernel
theorem dX6_begin_44 : decode cX6_begin 44 = .ok (.aload_n 0, 1) := by decide +kernel
theorem dX6_begin_45 : decode cX6_begin 45 = .ok (.getfield 7, 3) := by decide +kernel
theorem dX6_begin_48 : decode cX6_begin 48 = .ok (.iload_n 1, 1) := by decide +kernel
theorem dX6_begin_49 : decode cX6_begin 49 = .ok (.iaload, 1) := by decide +kernel
theorem dX6_begin_50 : decode cX6_begin 50 = .ok (.ishl, 1) := by decide +kernel
theorem dX6_begin_51 : decode cX6_begin 51 = .ok (.goto 31, 3) := by decide +kernel
theorem dX6_begin_54 : decode cX6_begin 54 = .ok (.aload_n 0, 1) := by decide +kernel
theorem dX6_begin_55 : decode cX6_begin 55 = .ok (.getfield 73, 3) := by decide +kernel
theorem dX6_begin_58 : decode cX6_begin 58 = .ok (.iconst 4, 1) := by decide +kernel
theorem dX6_begin_59 : decode cX6_begin 59 = .ok (.if_icmp .eq 11, 3) := by decide +kernel
theorem dX6_begin_62 : decode cX6_begin 62 = .ok (.aload_n 0, 1) := by decide +kernel
theorem dX6_begin_63 : decode cX6_begin 63 = .ok (.getfield 73, 3) := by decide +kernel
theorem dX6_begin_66 : decode cX6_begin 66 = .ok (.iconst 5, 1) := by decide +kernel
theorem dX6_begin_67 : decode cX6_begin 67 = .ok (.if_icmp .ne 9, 3) := by decide +kernel
theorem dX6_begin_70 : decode cX6_begin 70 = .ok (.iconst 1, 1) := by decide +kernel
theorem dX6_begin_71 : decode cX6_begin 71 = .ok (.iload_n 1, 1) := by decide +kernel
theorem dX6_begin_72 : decode cX6_begin 72 = .ok (.ishl, 1) := by decide +kernel
theorem dX6_begin_73 : decode cX6_begin 73 = .ok (.goto 9, 3) := by decide +kernel
theorem dX6_begin_76 : decode cX6_begin 76 = .ok (.aload_n 0, 1) := by decide +kernel
theorem dX6_begin_77 : decode cX6_begin 77 = .ok (.getfield 7, 3) := by decide +kernel
theorem dX6_begin_80 : decode cX6_begin 80 = .ok (.iload_n 1, 1) := by decide +kernel
theorem dX6_begin_81 : decode cX6_begin 81 = .ok (.iaload, 1) := by decide +kernel
theorem dX6_begin_82 : decode cX6_begin 82 = .ok (.iastore, 1) := by decide +kernel
theorem dX6_begin_83 : decode cX6_begin 83 = .ok (.aload_n 0, 1) := by decide +kernel
theorem dX6_begin_84 : decode cX6_begin 84 = .ok (.getfield 22, 3) := by decide +kernel
theorem dX6_begin_87 : decode cX6_begin 87 = .ok (.iload_n 1, 1) := by decide +kernel
theorem dX6_begin_88 : decode cX6_begin 88 = .ok (.aload_n 0, 1) := by decide +kernel
theorem dX6_begin_89 : decode cX6_begin 89 = .ok (.getfield 53, 3) := by decide +kernel
theorem dX6_begin_92 : decode cX6_begin 92 = .ok (.iastore, 1) := by decide +kernel
theorem dX6_begin_93 : decode cX6_begin 93 = .ok (.aload_n 0, 1) := by decide +kernel
theorem dX6_begin_94 : decode cX6_begin 94 = .ok (.getfield 25, 3) := by decide +kernel
theorem dX6_begin_97 : decode cX6_begin 97 = .ok (.iload_n 1, 1) := by decide +kernel
theorem dX6_begin_98 : decode cX6_begin 98 = .ok (.bipush (-2), 2) := by decide +kernel
theorem dX6_begin_100 : decode cX6_begin 100 = .ok (.iastore, 1) := by decide +kernel
theorem dX6_begin_101 : decode cX6_begin 101 = .ok (.aload_n 0, 1) := by decide +kernel
theorem dX6_begin_102 : decode cX6_begin 102 = .ok (.getfield 28, 3) := by decide +kernel
theorem dX6_begin_105 : decode cX6_begin 105 = .ok (.iload_n 1, 1) := by decide +kernel
theorem dX6_begin_106 : decode cX6_begin 106 = .ok (.iconst 0, 1) := by decide +kernel
theorem dX6_begin_107 : decode cX6_begin 107 = .ok (.iastore, 1) := by decide +kernel
theorem dX6_begin_108 : decode cX6_begin 108 = .ok (.iinc 1 1, 3) := by decide +kernel
theorem dX6_begin_111 : decode cX6_begin 111 = .ok (.goto (-86), 3) := by decide +kernel
theorem dX6_begin_114 : decode cX6_begin 114 = .ok (.return_, 1) := by decide +kernel
set_option maxRecDepth 20000 in
theorem ggX6_start_X6_isIn : GoodIn wsX6_start wsX6_isIn := goodIn_r _ [13] (by decide +kernel) (by decide +kernel)
set_option maxRecDepth 20000 in
theorem gX6_start_X6_isIn : GoodIn wsX6_start (va_wsS RX6 76 yX6_isIn wsX6_isIn) := goodIn_app (goodIn_of _ (by decide +kernel)) ggX6_start_X6_isIn
set_option maxRecDepth 20000 in
theorem ggX6_start_X6_begin : GoodIn wsX6_start wsX6_begin := goodIn_r _ [17, 18, 19, 20, 21, 22, 1, 6, 23, 2, 24, 25, 26, 27, 28, 12, 29, 30, 31, 32, 33, 34, 35, 36, 37, 38, 39, 40, 41, 42, 43, 44, 45, 46, 47, 48, 49, 50, 51, 52] (by decide +kernel) (by decide +kernel)
set_option maxRecDepth 20000 in
theorem gX6_start_X6_begin : GoodIn wsX6_start (wsV RX6 92 RX6 yX6_begin wsX6_begin) := goodIn_app (goodIn_of _ (by decide +kernel)) ggX6_start_X6_begin
theorem dX6_start_0 : decode cX6_start 0 = .ok (.iload_n 1, 1) := by decide +kernel
theorem dX6_start_1 : decode cX6_start 1 = .ok (.iconst 0, 1) := by decide +kernel
theorem dX6_start_2 : decode cX6_start 2 = .ok (.bipush 6, 2) := by decide +kernel
theorem dX6_start_4 : decode cX6_start 4 = .ok (.invokestatic 76, 3) := by decide +kernel
theorem dX6_start_7 : decode cX6_start 7 = .ok (.ifCond .eq 47, 3) := by decide +kernel
theorem dX6_start_10 : decode cX6_start 10 = .ok (.iload_n 2, 1) := by decide +kernel
theorem dX6_start_11 : decode cX6_start 11 = .ok (.iconst 2, 1) := by decide +kernel
theorem dX6_start_12 : decode cX6_start 12 = .ok (.bipush 8, 2) := by decide +kernel
theorem dX6_start_14 : decode cX6_start 14 = .ok (.invokestatic 76, 3) := by decide +kernel
theorem dX6_start_17 : decode cX6_start 17 = .ok (.ifCond .eq 37, 3) := by decide +kernel
theorem dX6_start_20 : decode cX6_start 20 = .ok (.iload_n 3, 1) := by decide +kernel
theorem dX6_start_21 : decode cX6_start 21 = .ok (.iconst 0, 1) := by decide +kernel
theorem dX6_start_22 : decode cX6_start 22 = .ok (.iconst 3, 1) := by decide +kernel
theorem dX6_start_23 : decode cX6_start 23 = .ok (.invokestatic 76, 3) := by decide +kernel
theorem dX6_start_26 : decode cX6_start 26 = .ok (.ifCond .eq 28, 3) := by decide +kernel
theorem dX6_start_29 : decode cX6_start 29 = .ok (.iload_n 3, 1) := by decide +kernel
theorem dX6_start_30 : decode cX6_start 30 = .ok (.iload_n 2, 1) := by decide +kernel
theorem dX6_start_31 : decode cX6_start 31 = .ok (.if_icmp .ge 23, 3) := by decide +kernel
theorem dX6_start_34 : decode cX6_start 34 = .ok (.iload 4, 2) := by decide +kernel
theorem dX6_start_36 : decode cX6_start 36 = .ok (.iconst 1, 1) := by decide +kernel
theorem dX6_start_37 : decode cX6_start 37 = .ok (.iconst 3, 1) := by decide +kernel
theorem dX6_start_38 : decode cX6_start 38 = .ok (.invokestatic 76, 3) := by decide +kernel
theorem dX6_start_41 : decode cX6_start 41 = .ok (.ifCond .eq 13, 3) := by decide +kernel
theorem dX6_start_44 : decode cX6_start 44 = .ok (.iload 5, 2) := by decide +kernel
theorem dX6_start_46 : decode cX6_start 46 = .ok (.iconst 0, 1) := by decide +kernel
theorem dX6_start_47 : decode cX6_start 47 = .ok (.iconst 2, 1) := by decide +kernel
theorem dX6_start_48 : decode cX6_start 48 = .ok (.invokestatic 76, 3) := by decide +kernel
theorem dX6_start_51 : decode cX6_start 51 = .ok (.ifCond .ne 5, 3) := by decide +kernel
theorem dX6_start_54 : decode cX6_start 54 = .ok (.iconst (-1), 1) := by decide +kernel
theorem dX6_start_55 : decode cX6_start 55 = .ok (.ireturn, 1) := by decide +kernel
theorem dX6_start_56 : decode cX6_start 56 = .ok (.aload_n 0, 1) := by decide +kernel
theorem dX6_start_57 : decode cX6_start 57 = .ok (.iload_n 1, 1) := by decide +kernel
theorem dX6_start_58 : decode cX6_start 58 = .ok (.putfield 73, 3) := by decide +kernel
theorem dX6_start_61 : decode cX6_start 61 = .ok (.aload_n 0, 1) := by decide +kernel
theorem dX6_start_62 : decode cX6_start 62 = .ok (.iload_n 2, 1) := by decide +kernel
theorem dX6_start_63 : decode cX6_start 63 = .ok (.putfield 53, 3) := by decide +kernel
theorem dX6_start_66 : decode cX6_start 66 = .ok (.aload_n 0, 1) := by decide +kernel
theorem dX6_start_67 : decode cX6_start 67 = .ok (.iload_n 3, 1) := by decide +kernel
theorem dX6_start_68 : decode cX6_start 68 = .ok (.putfield 80, 3) := by decide +kernel
theorem dX6_start_71 : decode cX6_start 71 = .ok (.aload_n 0, 1) := by decide +kernel
theorem dX6_start_72 : decode cX6_start 72 = .ok (.iload 4, 2) := by decide +kernel
theorem dX6_start_74 : decode cX6_start 74 = .ok (.putfield 83, 3) := by decide +kernel
theorem dX6_start_77 : decode cX6_start 77 = .ok (.iload_n 1, 1) := by decide +kernel
theorem dX6_start_78 : decode cX6_start 78 = .ok (.iconst 3, 1) := by decide +kernel
theorem dX6_start_79 : decode cX6_start 79 = .ok (.if_icmp .ne 12, 3) := by decide +kernel
theorem dX6_start_82 : decode cX6_start 82 = .ok (.iload_n 3, 1) := by decide +kernel
theorem dX6_start_83 : decode cX6_start 83 = .ok (.iload 4, 2) := by decide +kernel
theorem dX6_start_85 : decode cX6_start 85 = .ok (.idiv, 1) := by decide +kernel
theorem dX6_start_86 : decode cX6_start 86 = .ok (.iconst 1, 1) := by decide +kernel
theorem dX6_start_87 : decode cX6_start 87 = .ok (.iadd, 1) := by decide +kernel
theorem dX6_start_88 : decode cX6_start 88 = .ok (.goto 6, 3) := by decide +kernel
theorem dX6_start_91 : decode cX6_start 91 = .ok (.iload_n 3, 1) := by decide +kernel
theorem dX6_start_92 : decode cX6_start 92 = .ok (.iconst 1, 1) := by decide +kernel
theorem dX6_start_93 : decode cX6_start 93 = .ok (.iadd, 1) := by decide +kernel
theorem dX6_start_94 : decode cX6_start 94 = .ok (.istore 6, 2) := by decide +kernel
theorem dX6_start_96 : decode cX6_start 96 = .ok (.aload_n 0, 1) := by decide +kernel
theorem dX6_start_97 : decode cX6_start 97 = .ok (.iload 6, 2) := by decide +kernel
theorem dX6_start_99 : decode cX6_start 99 = .ok (.iload 5, 2) := by decide +kernel
theorem dX6_start_101 : decode cX6_start 101 = .ok (.isub, 1) := by decide +kernel
theorem dX6_start_102 : decode cX6_start 102 = .ok (.iconst 1, 1) := by decide +kernel
theorem dX6_start_103 : decode cX6_start 103 = .ok (.if_icmp .ge 7, 3) := by decide +kernel
theorem dX6_start_106 : decode cX6_start 106 = .ok (.iconst 1, 1) := by decide +kernel
theorem dX6_start_107 : decode cX6_start 107 = .ok (.goto 8, 3) := by decide +kernel
theorem dX6_start_110 : decode cX6_start 110 = .ok (.iload 6, 2) := by decide +kernel
theorem dX6_start_112 : decode cX6_start 112 = .ok (.iload 5, 2) := by decide +kernel
theorem dX6_start_114 : decode cX6_start 114 = .ok (.isub, 1) := by decide +kernel
theorem dX6_start_115 : decode cX6_start 115 = .ok (.putfield 86, 3) := by decide +kernel
theorem dX6_start_118 : decode cX6_start 118 = .ok (.iconst 0, 1) := by decide +kernel
theorem dX6_start_119 : decode cX6_start 119 = .ok (.istore 7, 2) := by decide +kernel
theorem dX6_start_121 : decode cX6_start 121 = .ok (.iload 7, 2) := by decide +kernel
theorem dX6_start_123 : decode cX6_start 123 = .ok (.bipush 8, 2) := by decide +kernel
theorem dX6_start_125 : decode cX6_start 125 = .ok (.if_icmp .ge 33, 3) := by decide +kernel
theorem dX6_start_128 : decode cX6_start 128 = .ok (.aload_n 0, 1) := by decide +kernel
theorem dX6_start_129 : decode cX6_start 129 = .ok (.getfield 7, 3) := by decide +kernel
theorem dX6_start_132 : decode cX6_start 132 = .ok (.iload 7, 2) := by decide +kernel
theorem dX6_start_134 : decode cX6_start 134 = .ok (.iconst 0, 1) := by decide +kernel
theorem dX6_start_135 : decode cX6_start 135 = .ok (.iastore, 1) := by decide +kernel
theorem dX6_start_136 : decode cX6_start 136 = .ok (.aload_n 0, 1) := by decide +kernel
theorem dX6_start_137 : decode cX6_start 137 = .ok (.getfield 13, 3) := by decide +kernel
theorem dX6_start_140 : decode cX6_start 140 = .ok (.iload 7, 2) := by decide +kernel
theorem dX6_start_142 : decode cX6_start 142 = .ok (.iconst 0, 1) := by decide +kernel
theorem dX6_start_143 : decode cX6_start 143 = .ok (.iastore, 1) := by decide +kernel
theorem dX6_start_144 : decode cX6_start 144 = .ok (.aload_n 0, 1) := by decide +kernel
theorem dX6_start_145 : decode cX6_start 145 = .ok (.getfield 16, 3) := by decide +kernel
theorem dX6_start_148 : decode cX6_start 148 = .ok (.iload 7, 2) := by decide +kernel
theorem dX6_start_150 : decode cX6_start 150 = .ok (.iconst 0, 1) := by decide +kernel
theorem dX6_start_151 : decode cX6_start 151 = .ok (.iastore, 1) := by decide +kernel
theorem dX6_start_152 : decode cX6_start 152 = .ok (.iinc 7 1, 3) := by decide +kernel
theorem dX6_start_155 : decode cX6_start 155 = .ok (.goto (-34), 3) := by decide +kernel
theorem dX6_start_158 : decode cX6_start 158 = .ok (.aload_n 0, 1) := by decide +kernel
theorem dX6_start_159 : decode cX6_start 159 = .ok (.iconst 0, 1) := by decide +kernel
theorem dX6_start_160 : decode cX6_start 160 = .ok (.putfield 89, 3) := by decide +kernel
theorem dX6_start_163 : decode cX6_start 163 = .ok (.aload_n 0, 1) := by decide +kernel
theorem dX6_start_164 : decode cX6_start 164 = .ok (.invokevirtual 92, 3) := by decide +kernel
theorem dX6_start_167 : decode cX6_start 167 = .ok (.aload_n 0, 1) := by decide +kernel
theorem dX6_start_168 : decode cX6_start 168 = .ok (.getfield 86, 3) := by decide +kernel
theorem dX6_start_171 : decode cX6_start 171 = .ok (.ireturn, 1) := by decide +kernel
set_option maxRecDepth 20000 in
theorem ggX6_input_X6_isProcess : GoodIn wsX6_input wsX6_isProcess := goodIn_r _ [7, 8, 28, 29, 30, 31, 32, 33, 34, 35, 36, 37, 38, 39, 40, 41, 42, 43, 44, 45, 46, 47, 48, 49, 50] (by decide +kernel) (by decide +kernel)
set_option maxRecDepth 20000 in
theorem gX6_input_X6_isProcess : GoodIn wsX6_input (wsV RX6 95 RX6 yX6_isProcess wsX6_isProcess) := goodIn_app (goodIn_of _ (by decide +kernel)) ggX6_input_X6_isProcess
set_option maxRecDepth 20000 in
theorem ggX6_input_X6_isIn : GoodIn wsX6_input wsX6_isIn := goodIn_r _ [11] (by decide +kernel) (by decide +kernel)
set_option maxRecDepth 20000 in
theorem gX6_input_X6_isIn : GoodIn wsX6_input (va_wsS RX6 76 yX6_isIn wsX6_isIn) := goodIn_app (goodIn_of _ (by decide +kernel)) ggX6_input_X6_isIn
set_option maxRecDepth 20000 in
theorem ggX6_input_X6_begin : GoodIn wsX6_input wsX6_begin := goodIn_r _ [15, 1, 16, 17, 18, 19, 20, 2, 21, 8, 22, 23, 24, 25, 26, 6, 27, 28, 29, 30, 31, 32, 33, 34, 35, 36, 37, 38, 39, 40, 41, 42, 43, 44, 45, 46, 47, 48, 49, 50] (by decide +kernel) (by decide +kernel)
set_option maxRecDepth 20000 in
theorem gX6_input_X6_begin : GoodIn wsX6_input (wsV RX6 92 RX6 yX6_begin wsX6_begin) := goodIn_app (goodIn_of _ (by decide +kernel)) ggX6_input_X6_begin
theorem dX6_input_0 : decode cX6_input 0 = .ok (.aload_n 0, 1) := by decide +kernel
theorem dX6_input_1 : decode cX6_input 1 = .ok (.iload_n 1, 1) := by decide +kernel
theorem dX6_input_2 : decode cX6_input 2 = .ok (.invokevirtual 95, 3) := by decide +kernel
theorem dX6_input_5 : decode cX6_input 5 = .ok (.ifCond .eq 20, 3) := by decide +kernel
theorem dX6_input_8 : decode cX6_input 8 = .ok (.iload_n 2, 1) := by decide +kernel
theorem dX6_input_9 : decode cX6_input 9 = .ok (.iconst 0, 1) := by decide +kernel
theorem dX6_input_10 : decode cX6_input 10 = .ok (.bipush 15, 2) := by decide +kernel
theorem dX6_input_12 : decode cX6_input 12 = .ok (.invokestatic 76, 3) := by decide +kernel
theorem dX6_input_15 : decode cX6_input 15 = .ok (.ifCond .eq 10, 3) := by decide +kernel
theorem dX6_input_18 : decode cX6_input 18 = .ok (.aload_n 0, 1) := by decide +kernel
theorem dX6_input_19 : decode cX6_input 19 = .ok (.getfield 57, 3) := by decide +kernel
theorem dX6_input_22 : decode cX6_input 22 = .ok (.ifCond .le 5, 3) := by decide +kernel
theorem dX6_input_25 : decode cX6_input 25 = .ok (.iconst (-1), 1) := by decide +kernel
theorem dX6_input_26 : decode cX6_input 26 = .ok (.ireturn, 1) := by decide +kernel
theorem dX6_input_27 : decode cX6_input 27 = .ok (.aload_n 0, 1) := by decide +kernel
theorem dX6_input_28 : decode cX6_input 28 = .ok (.getfield 7, 3) := by decide +kernel
theorem dX6_input_31 : decode cX6_input 31 = .ok (.iload_n 1, 1) := by decide +kernel
theorem dX6_input_32 : decode cX6_input 32 = .ok (.iaload, 1) := by decide +kernel
theorem dX6_input_33 : decode cX6_input 33 = .ok (.istore_n 3, 1) := by decide +kernel
theorem dX6_input_34 : decode cX6_input 34 = .ok (.aload_n 0, 1) := by decide +kernel
theorem dX6_input_35 : decode cX6_input 35 = .ok (.getfield 7, 3) := by decide +kernel
theorem dX6_input_38 : decode cX6_input 38 = .ok (.iload_n 1, 1) := by decide +kernel
theorem dX6_input_39 : decode cX6_input 39 = .ok (.iload_n 2, 1) := by decide +kernel
theorem dX6_input_40 : decode cX6_input 40 = .ok (.iastore, 1) := by decide +kernel
theorem dX6_input_41 : decode cX6_input 41 = .ok (.aload_n 0, 1) := by decide +kernel
theorem dX6_input_42 : decode cX6_input 42 = .ok (.invokevirtual 92, 3) := by decide +kernel
theorem dX6_input_45 : decode cX6_input 45 = .ok (.iload_n 3, 1) := by decide +kernel
theorem dX6_input_46 : decode cX6_input 46 = .ok (.ireturn, 1) := by decide +kernel
theorem dX6_crashing_0 : decode cX6_crashing 0 = .ok (.iconst 0, 1) := by decide +kernel
theorem dX6_crashing_1 : decode cX6_crashing 1 = .ok (.istore_n 1, 1) := by decide +kernel
theorem dX6_crashing_2 : decode cX6_crashing 2 = .ok (.iconst 0, 1) := by decide +kernel
theorem dX6_crashing_3 : decode cX6_crashing 3 = .ok (.istore_n 2, 1) := by decide +kernel
theorem dX6_crashing_4 : decode cX6_crashing 4 = .ok (.iload_n 2, 1) := by decide +kernel
theorem dX6_crashing_5 : decode cX6_crashing 5 = .ok (.aload_n 0, 1) := by decide +kernel
theorem dX6_crashing_6 : decode cX6_crashing 6 = .ok (.getfield 53, 3) := by decide +kernel
theorem dX6_crashing_9 : decode cX6_crashing 9 = .ok (.if_icmp .ge 26, 3) := by decide +kernel
theorem dX6_crashing_12 : decode cX6_crashing 12 = .ok (.iload_n 1, 1) := by decide +kernel
theorem dX6_crashing_13 : decode cX6_crashing 13 = .ok (.aload_n 0, 1) := by decide +kernel
theorem dX6_crashing_14 : decode cX6_crashing 14 = .ok (.getfield 13, 3) := by decide +kernel
theorem dX6_crashing_17 : decode cX6_crashing 17 = .ok (.iload_n 2, 1) := by decide +kernel
theorem dX6_crashing_18 : decode cX6_crashing 18 = .ok (.iaload, 1) := by decide +kernel
theorem dX6_crashing_19 : decode cX6_crashing 19 = .ok (.ifCond .le 7, 3) := by decide +kernel
theorem dX6_crashing_22 : decode cX6_crashing 22 = .ok (.iconst 1, 1) := by decide +kernel
theorem dX6_crashing_23 : decode cX6_crashing 23 = .ok (.goto 4, 3) := by decide +kernel
theorem dX6_crashing_26 : decode cX6_crashing 26 = .ok (.iconst 0, 1) := by decide +kernel
theorem dX6_crashing_27 : decode cX6_crashing 27 = .ok (.iadd, 1) := by decide +kernel
theorem dX6_crashing_28 : decode cX6_crashing 28 = .ok (.istore_n 1, 1) := by decide +kernel
theorem dX6_crashing_29 : decode cX6_crashing 29 = .ok (.iinc 2 1, 3) := by decide +kernel
theorem dX6_crashing_32 : decode cX6_crashing 32 = .ok (.goto (-28), 3) := by decide +kernel
theorem dX6_crashing_35 : decode cX6_crashing 35 = .ok (.iload_n 1, 1) := by decide +kernel
theorem dX6_crashing_36 : decode cX6_crashing 36 = .ok (.ireturn, 1) := by decide +kernel
set_option maxRecDepth 20000 in
theorem ggX6_crash_X6_isProcess : GoodIn wsX6_crash wsX6_isProcess := goodIn_r _ [9, 10, 22, 23, 24, 25, 26, 27, 28, 29, 30, 31, 32, 33, 34, 35, 36, 37, 38, 39, 40, 41, 42, 43, 44] (by decide +kernel) (by decide +kernel)
set_option maxRecDepth 20000 in
theorem gX6_crash_X6_isProcess : GoodIn wsX6_crash (wsV RX6 95 RX6 yX6_isProcess wsX6_isProcess) := goodIn_app (goodIn_of _ (by decide +kernel)) ggX6_crash_X6_isProcess
set_option maxRecDepth 20000 in
theorem ggX6_crash_X6_isIn : GoodIn wsX6_crash wsX6_isIn := goodIn_r _ [13] (by decide +kernel) (by decide +kernel)
set_option maxRecDepth 20000 in
theorem gX6_crash_X6_isIn : GoodIn wsX6_crash (va_wsS RX6 76 yX6_isIn wsX6_isIn) := goodIn_app (goodIn_of _ (by decide +kernel)) ggX6_crash_X6_isIn
set_option maxRecDepth 20000 in
theorem ggX6_crash_X6_all : GoodIn wsX6_crash wsX6_all := goodIn_r _ [17, 10, 22, 23, 24, 25, 26, 27, 28, 29, 30, 31, 32, 33, 34, 35, 36, 37, 38, 39, 40, 41, 42, 43, 44] (by decide +kernel) (by decide +kernel)
set_option maxRecDepth 20000 in
theorem gX6_crash_X6_all : GoodIn wsX6_crash (wsV RX6 63 RX6 yX6_all wsX6_all) := goodIn_app (goodIn_of _ (by decide +kernel)) ggX6_crash_X6_all
set_option maxRecDepth 20000 in
theorem ggX6_crash_X6_crashing : GoodIn wsX6_crash wsX6_crashing := goodIn_r _ [21, 10, 2, 22, 23, 24, 25, 26, 27, 28, 29, 30, 31, 32, 33, 34, 35, 36, 37, 38, 39, 40, 41, 42, 43, 44] (by decide +kernel) (by decide +kernel)
set_option maxRecDepth 20000 in
theorem gX6_crash_X6_crashing : GoodIn wsX6_crash (wsV RX6 99 RX6 yX6_crashing wsX6_crashing) := goodIn_app (goodIn_of _ (by decide +kernel)) ggX6_crash_X6_crashing
theorem dX6_crash_0 : decode cX6_crash 0 = .ok (.aload_n 0, 1) := by decide +kernel
theorem dX6_crash_1 : decode cX6_crash 1 = .ok (.iload_n 1, 1) := by decide +kernel
theorem dX6_crash_2 : decode cX6_crash 2 = .ok (.invokevirtual 95, 3) := by decide +kernel
theorem dX6_crash_5 : decode cX6_crash 5 = .ok (.ifCond .eq 32, 3) := by decide +kernel
theorem dX6_crash_8 : decode cX6_crash 8 = .ok (.iload_n 2, 1) := by decide +kernel
theorem dX6_crash_9 : decode cX6_crash 9 = .ok (.iconst 1, 1) := by decide +kernel
theorem dX6_crash_10 : decode cX6_crash 10 = .ok (.bipush 20, 2) := by decide +kernel
theorem dX6_crash_12 : decode cX6_crash 12 = .ok (.invokestatic 76, 3) := by decide +kernel
theorem dX6_crash_15 : decode cX6_crash 15 = .ok (.ifCond .eq 22, 3) := by decide +kernel
theorem dX6_crash_18 : decode cX6_crash 18 = .ok (.iload_n 3, 1) := by decide +kernel
theorem dX6_crash_19 : decode cX6_crash 19 = .ok (.ifCond .lt 18, 3) := by decide +kernel
theorem dX6_crash_22 : decode cX6_crash 22 = .ok (.iload_n 3, 1) := by decide +kernel
theorem dX6_crash_23 : decode cX6_crash 23 = .ok (.aload_n 0, 1) := by decide +kernel
theorem dX6_crash_24 : decode cX6_crash 24 = .ok (.invokevirtual 63, 3) := by decide +kernel
theorem dX6_crash_27 : decode cX6_crash 27 = .ok (.if_icmp .gt 10, 3) := by decide +kernel
theorem dX6_crash_30 : decode cX6_crash 30 = .ok (.aload_n 0, 1) := by decide +kernel
theorem dX6_crash_31 : decode cX6_crash 31 = .ok (.getfield 57, 3) := by decide +kernel
theorem dX6_crash_34 : decode cX6_crash 34 = .ok (.ifCond .le 5, 3) := by decide +kernel
theorem dX6_crash_37 : decode cX6_crash 37 = .ok (.iconst (-1), 1) := by decide +kernel
theorem dX6_crash_38 : decode cX6_crash 38 = .ok (.ireturn, 1) := by decide +kernel
theorem dX6_crash_39 : decode cX6_crash 39 = .ok (.aload_n 0, 1) := by decide +kernel
theorem dX6_crash_40 : decode cX6_crash 40 = .ok (.getfield 13, 3) := by decide +kernel
theorem dX6_crash_43 : decode cX6_crash 43 = .ok (.iload_n 1, 1) := by decide +kernel
theorem dX6_crash_44 : decode cX6_crash 44 = .ok (.iaload, 1) := by decide +kernel
theorem dX6_crash_45 : decode cX6_crash 45 = .ok (.ifCond .ne 16, 3) := by decide +kernel
theorem dX6_crash_48 : decode cX6_crash 48 = .ok (.aload_n 0, 1) := by decide +kernel
theorem dX6_crash_49 : decode cX6_crash 49 = .ok (.invokevirtual 99, 3) := by decide +kernel
theorem dX6_crash_52 : decode cX6_crash 52 = .ok (.aload_n 0, 1) := by decide +kernel
theorem dX6_crash_53 : decode cX6_crash 53 = .ok (.getfield 80, 3) := by decide +kernel
theorem dX6_crash_56 : decode cX6_crash 56 = .ok (.if_icmp .ne 5, 3) := by decide +kernel
theorem dX6_crash_59 : decode cX6_crash 59 = .ok (.iconst (-1), 1) := by decide +kernel
theorem dX6_crash_60 : decode cX6_crash 60 = .ok (.ireturn, 1) := by decide +kernel
theorem dX6_crash_61 : decode cX6_crash 61 = .ok (.aload_n 0, 1) := by decide +kernel
theorem dX6_crash_62 : decode cX6_crash 62 = .ok (.getfield 13, 3) := by decide +kernel
theorem dX6_crash_65 : decode cX6_crash 65 = .ok (.iload_n 1, 1) := by decide +kernel
theorem dX6_crash_66 : decode cX6_crash 66 = .ok (.iload_n 2, 1) := by decide +kernel
theorem dX6_crash_67 : decode cX6_crash 67 = .ok (.iastore, 1) := by decide +kernel
theorem dX6_crash_68 : decode cX6_crash 68 = .ok (.aload_n 0, 1) := by decide +kernel
theorem dX6_crash_69 : decode cX6_crash 69 = .ok (.getfield 16, 3) := by decide +kernel
theorem dX6_crash_72 : decode cX6_crash 72 = .ok (.iload_n 1, 1) := by decide +kernel
theorem dX6_crash_73 : decode cX6_crash 73 = .ok (.iload_n 3, 1) := by decide +kernel
theorem dX6_crash_74 : decode cX6_crash 74 = .ok (.iconst 1, 1) := by decide +kernel
theorem dX6_crash_75 : decode cX6_crash 75 = .ok (.iload_n 1, 1) := by decide +kernel
theorem dX6_crash_76 : decode cX6_crash 76 = .ok (.ishl, 1) := by decide +kernel
theorem dX6_crash_77 : decode cX6_crash 77 = .ok (.iconst (-1), 1) := by decide +kernel
theorem dX6_crash_78 : decode cX6_crash 78 = .ok (.ixor, 1) := by decide +kernel
theorem dX6_crash_79 : decode cX6_crash 79 = .ok (.iand, 1) := by decide +kernel
theorem dX6_crash_80 : decode cX6_crash 80 = .ok (.iastore, 1) := by decide +kernel
theorem dX6_crash_81 : decode cX6_crash 81 = .ok (.aload_n 0, 1) := by decide +kernel
theorem dX6_crash_82 : decode cX6_crash 82 = .ok (.invokevirtual 99, 3) := by decide +kernel
theorem dX6_crash_85 : decode cX6_crash 85 = .ok (.ireturn, 1) := by decide +kernel
set_option maxRecDepth 20000 in
theorem ggX6_spare_X6_isProcess : GoodIn wsX6_spare wsX6_isProcess := goodIn_r _ [8, 9, 10, 11, 12, 13, 14, 15, 16, 17, 18, 19, 20, 21, 22, 23, 24, 25, 26, 27, 28, 29, 30, 31, 32] (by decide +kernel) (by decide +kernel)
set_option maxRecDepth 20000 in
theorem gX6_spare_X6_isProcess : GoodIn wsX6_spare (wsV RX6 95 RX6 yX6_isProcess wsX6_isProcess) := goodIn_app (goodIn_of _ (by decide +kernel)) ggX6_spare_X6_isProcess
theorem dX6_spare_0 : decode cX6_spare 0 = .ok (.aload_n 0, 1) := by decide +kernel
theorem dX6_spare_1 : decode cX6_spare 1 = .ok (.iload_n 1, 1) := by decide +kernel
theorem dX6_spare_2 : decode cX6_spare 2 = .ok (.invokevirtual 95, 3) := by decide +kernel
theorem dX6_spare_5 : decode cX6_spare 5 = .ok (.ifCond .eq 10, 3) := by decide +kernel
theorem dX6_spare_8 : decode cX6_spare 8 = .ok (.aload_n 0, 1) := by decide +kernel
theorem dX6_spare_9 : decode cX6_spare 9 = .ok (.getfield 57, 3) := by decide +kernel
theorem dX6_spare_12 : decode cX6_spare 12 = .ok (.ifCond .le 5, 3) := by decide +kernel
theorem dX6_spare_15 : decode cX6_spare 15 = .ok (.iconst (-1), 1) := by decide +kernel
theorem dX6_spare_16 : decode cX6_spare 16 = .ok (.ireturn, 1) := by decide +kernel
theorem dX6_spare_17 : decode cX6_spare 17 = .ok (.aload_n 0, 1) := by decide +kernel
theorem dX6_spare_18 : decode cX6_spare 18 = .ok (.getfield 13, 3) := by decide +kernel
theorem dX6_spare_21 : decode cX6_spare 21 = .ok (.iload_n 1, 1) := by decide +kernel
theorem dX6_spare_22 : decode cX6_spare 22 = .ok (.iaload, 1) := by decide +kernel
theorem dX6_spare_23 : decode cX6_spare 23 = .ok (.ifCond .le 7, 3) := by decide +kernel
theorem dX6_spare_26 : decode cX6_spare 26 = .ok (.iconst 1, 1) := by decide +kernel
theorem dX6_spare_27 : decode cX6_spare 27 = .ok (.goto 4, 3) := by decide +kernel
theorem dX6_spare_30 : decode cX6_spare 30 = .ok (.iconst 0, 1) := by decide +kernel
theorem dX6_spare_31 : decode cX6_spare 31 = .ok (.istore_n 2, 1) := by decide +kernel
theorem dX6_spare_32 : decode cX6_spare 32 = .ok (.aload_n 0, 1) := by decide +kernel
theorem dX6_spare_33 : decode cX6_spare 33 = .ok (.getfield 13, 3) := by decide +kernel
theorem dX6_spare_36 : decode cX6_spare 36 = .ok (.iload_n 1, 1) := by decide +kernel
theorem dX6_spare_37 : decode cX6_spare 37 = .ok (.iconst 0, 1) := by decide +kernel
theorem dX6_spare_38 : decode cX6_spare 38 = .ok (.iastore, 1) := by decide +kernel
theorem dX6_spare_39 : decode cX6_spare 39 = .ok (.aload_n 0, 1) := by decide +kernel
theorem dX6_spare_40 : decode cX6_spare 40 = .ok (.getfield 16, 3) := by decide +kernel
theorem dX6_spare_43 : decode cX6_spare 43 = .ok (.iload_n 1, 1) := by decide +kernel
theorem dX6_spare_44 : decode cX6_spare 44 = .ok (.iconst 0, 1) := by decide +kernel
theorem dX6_spare_45 : decode cX6_spare 45 = .ok (.iastore, 1) := by decide +kernel
theorem dX6_spare_46 : decode cX6_spare 46 = .ok (.iload_n 2, 1) := by decide +kernel
theorem dX6_spare_47 : decode cX6_spare 47 = .ok (.ireturn, 1) := by decide +kernel
theorem dX6_isUp_0 : decode cX6_isUp 0 = .ok (.aload_n 0, 1) := by decide +kernel
theorem dX6_isUp_1 : decode cX6_isUp 1 = .ok (.getfield 67, 3) := by decide +kernel
theorem dX6_isUp_4 : decode cX6_isUp 4 = .ok (.iload_n 1, 1) := by decide +kernel
theorem dX6_isUp_5 : decode cX6_isUp 5 = .ok (.ishr, 1) := by decide +kernel
theorem dX6_isUp_6 : decode cX6_isUp 6 = .ok (.iconst 1, 1) := by decide +kernel
theorem dX6_isUp_7 : decode cX6_isUp 7 = .ok (.iand, 1) := by decide +kernel
theorem dX6_isUp_8 : decode cX6_isUp 8 = .ok (.iconst 1, 1) := by decide +kernel
theorem dX6_isUp_9 : decode cX6_isUp 9 = .ok (.if_icmp .ne 7, 3) := by decide +kernel
theorem dX6_isUp_12 : decode cX6_isUp 12 = .ok (.iconst 1, 1) := by decide +kernel
theorem dX6_isUp_13 : decode cX6_isUp 13 = .ok (.goto 4, 3) := by decide +kernel
theorem dX6_isUp_16 : decode cX6_isUp 16 = .ok (.iconst 0, 1) := by decide +kernel
theorem dX6_isUp_17 : decode cX6_isUp 17 = .ok (.ireturn, 1) := by decide +kernel
set_option maxRecDepth 20000 in
theorem ggX6_sendLetters_X6_isUp : GoodIn wsX6_sendLetters wsX6_isUp := goodIn_r _ [13, 14, 22, 23, 24, 25, 26, 27, 28, 29, 30, 31, 32, 33, 34, 35, 36, 37, 38, 39, 40, 41, 42, 43, 44] (by decide +kernel) (by decide +kernel)
set_option maxRecDepth 20000 in
theorem gX6_sendLetters_X6_isUp : GoodIn wsX6_sendLetters (wsV RX6 102 RX6 yX6_isUp wsX6_isUp) := goodIn_app (goodIn_of _ (by decide +kernel)) ggX6_sendLetters_X6_isUp
set_option maxRecDepth 20000 in
theorem ggX6_sendLetters_X6_all : GoodIn wsX6_sendLetters wsX6_all := goodIn_r _ [18, 1, 22, 23, 24, 25, 26, 27, 28, 29, 30, 31, 32, 33, 34, 35, 36, 37, 38, 39, 40, 41, 42, 43, 44] (by decide +kernel) (by decide +kernel)
set_option maxRecDepth 20000 in
theorem gX6_sendLetters_X6_all : GoodIn wsX6_sendLetters (wsV RX6 63 RX6 yX6_all wsX6_all) := goodIn_app (goodIn_of _ (by decide +kernel)) ggX6_sendLetters_X6_all
set_option maxRecDepth 20000 in
theorem ggX6_sendLetters_X6_bits : GoodIn wsX6_sendLetters wsX6_bits := goodIn_r _ [21] (by decide +kernel) (by decide +kernel)
set_option maxRecDepth 20000 in
theorem gX6_sendLetters_X6_bits : GoodIn wsX6_sendLetters (va_wsS RX6 105 yX6_bits wsX6_bits) := goodIn_app (goodIn_of _ (by decide +kernel)) ggX6_sendLetters_X6_bits
theorem dX6_sendLetters_0 : decode cX6_sendLetters 0 = .ok (.iconst 0, 1) := by decide +kernel
theorem dX6_sendLetters_1 : decode cX6_sendLetters 1 = .ok (.istore_n 2, 1) := by decide +kernel
theorem dX6_sendLetters_2 : decode cX6_sendLetters 2 = .ok (.iload_n 2, 1) := by decide +kernel
theorem dX6_sendLetters_3 : decode cX6_sendLetters 3 = .ok (.aload_n 0, 1) := by decide +kernel
theorem dX6_sendLetters_4 : decode cX6_sendLetters 4 = .ok (.getfield 53, 3) := by decide +kernel
theorem dX6_sendLetters_7 : decode cX6_sendLetters 7 = .ok (.if_icmp .ge 117, 3) := by decide +kernel
theorem dX6_sendLetters_10 : decode cX6_sendLetters 10 = .ok (.aload_n 0, 1) := by decide +kernel
theorem dX6_sendLetters_11 : decode cX6_sendLetters 11 = .ok (.getfield 31, 3) := by decide +kernel
theorem dX6_sendLetters_14 : decode cX6_sendLetters 14 = .ok (.iload_n 2, 1) := by decide +kernel
theorem dX6_sendLetters_15 : decode cX6_sendLetters 15 = .ok (.aload_n 0, 1) := by decide +kernel
theorem dX6_sendLetters_16 : decode cX6_sendLetters 16 = .ok (.getfield 19, 3) := by decide +kernel
theorem dX6_sendLetters_19 : decode cX6_sendLetters 19 = .ok (.iload_n 2, 1) := by decide +kernel
theorem dX6_sendLetters_20 : decode cX6_sendLetters 20 = .ok (.iaload, 1) := by decide +kernel
theorem dX6_sendLetters_21 : decode cX6_sendLetters 21 = .ok (.iastore, 1) := by decide +kernel
theorem dX6_sendLetters_22 : decode cX6_sendLetters 22 = .ok (.aload_n 0, 1) := by decide +kernel
theorem dX6_sendLetters_23 : decode cX6_sendLetters 23 = .ok (.iload_n 2, 1) := by decide +kernel
theorem dX6_sendLetters_24 : decode cX6_sendLetters 24 = .ok (.invokevirtual 102, 3) := by decide +kernel
theorem dX6_sendLetters_27 : decode cX6_sendLetters 27 = .ok (.ifCond .eq 28, 3) := by decide +kernel
theorem dX6_sendLetters_30 : decode cX6_sendLetters 30 = .ok (.aload_n 0, 1) := by decide +kernel
theorem dX6_sendLetters_31 : decode cX6_sendLetters 31 = .ok (.getfield 73, 3) := by decide +kernel
theorem dX6_sendLetters_34 : decode cX6_sendLetters 34 = .ok (.bipush 6, 2) := by decide +kernel
theorem dX6_sendLetters_36 : decode cX6_sendLetters 36 = .ok (.if_icmp .ne 15, 3) := by decide +kernel
theorem dX6_sendLetters_39 : decode cX6_sendLetters 39 = .ok (.iload_n 1, 1) := by decide +kernel
theorem dX6_sendLetters_40 : decode cX6_sendLetters 40 = .ok (.iconst 1, 1) := by decide +kernel
theorem dX6_sendLetters_41 : decode cX6_sendLetters 41 = .ok (.isub, 1) := by decide +kernel
theorem dX6_sendLetters_42 : decode cX6_sendLetters 42 = .ok (.aload_n 0, 1) := by decide +kernel
theorem dX6_sendLetters_43 : decode cX6_sendLetters 43 = .ok (.getfield 53, 3) := by decide +kernel
theorem dX6_sendLetters_46 : decode cX6_sendLetters 46 = .ok (.irem, 1) := by decide +kernel
theorem dX6_sendLetters_47 : decode cX6_sendLetters 47 = .ok (.iload_n 2, 1) := by decide +kernel
theorem dX6_sendLetters_48 : decode cX6_sendLetters 48 = .ok (.if_icmp .ne 7, 3) := by decide +kernel
theorem dX6_sendLetters_51 : decode cX6_sendLetters 51 = .ok (.iconst 1, 1) := by decide +kernel
theorem dX6_sendLetters_52 : decode cX6_sendLetters 52 = .ok (.goto 4, 3) := by decide +kernel
theorem dX6_sendLetters_55 : decode cX6_sendLetters 55 = .ok (.iconst 0, 1) := by decide +kernel
theorem dX6_sendLetters_56 : decode cX6_sendLetters 56 = .ok (.istore_n 3, 1) := by decide +kernel
theorem dX6_sendLetters_57 : decode cX6_sendLetters 57 = .ok (.aload_n 0, 1) := by decide +kernel
theorem dX6_sendLetters_58 : decode cX6_sendLetters 58 = .ok (.getfield 34, 3) := by decide +kernel
theorem dX6_sendLetters_61 : decode cX6_sendLetters 61 = .ok (.iload_n 2, 1) := by decide +kernel
theorem dX6_sendLetters_62 : decode cX6_sendLetters 62 = .ok (.iload_n 3, 1) := by decide +kernel
theorem dX6_sendLetters_63 : decode cX6_sendLetters 63 = .ok (.ifCond .ne 7, 3) := by decide +kernel
theorem dX6_sendLetters_66 : decode cX6_sendLetters 66 = .ok (.iconst 0, 1) := by decide +kernel
theorem dX6_sendLetters_67 : decode cX6_sendLetters 67 = .ok (.goto 32, 3) := by decide +kernel
theorem dX6_sendLetters_70 : decode cX6_sendLetters 70 = .ok (.aload_n 0, 1) := by decide +kernel
theorem dX6_sendLetters_71 : decode cX6_sendLetters 71 = .ok (.getfield 13, 3) := by decide +kernel
theorem dX6_sendLetters_74 : decode cX6_sendLetters 74 = .ok (.iload_n 2, 1) := by decide +kernel
theorem dX6_sendLetters_75 : decode cX6_sendLetters 75 = .ok (.iaload, 1) := by decide +kernel
theorem dX6_sendLetters_76 : decode cX6_sendLetters 76 = .ok (.iload_n 1, 1) := by decide +kernel
theorem dX6_sendLetters_77 : decode cX6_sendLetters 77 = .ok (.if_icmp .ne 12, 3) := by decide +kernel
theorem dX6_sendLetters_80 : decode cX6_sendLetters 80 = .ok (.aload_n 0, 1) := by decide +kernel
theorem dX6_sendLetters_81 : decode cX6_sendLetters 81 = .ok (.getfield 16, 3) := by decide +kernel
theorem dX6_sendLetters_84 : decode cX6_sendLetters 84 = .ok (.iload_n 2, 1) := by decide +kernel
theorem dX6_sendLetters_85 : decode cX6_sendLetters 85 = .ok (.iaload, 1) := by decide +kernel
theorem dX6_sendLetters_86 : decode cX6_sendLetters 86 = .ok (.goto 13, 3) := by decide +kernel
