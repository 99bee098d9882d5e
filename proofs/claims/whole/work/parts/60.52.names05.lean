theorem dX6_breachNow_21 : decode cX6_breachNow 21 = .ok (.invokevirtual 149, 3) := by decide +kernel
theorem dX6_breachNow_24 : decode cX6_breachNow 24 = .ok (.ifCond .eq 5, 3) := by decide +kernel
theorem dX6_breachNow_27 : decode cX6_breachNow 27 = .ok (.iconst 2, 1) := by decide +kernel
theorem dX6_breachNow_28 : decode cX6_breachNow 28 = .ok (.ireturn, 1) := by decide +kernel
theorem dX6_breachNow_29 : decode cX6_breachNow 29 = .ok (.iinc 1 1, 3) := by decide +kernel
theorem dX6_breachNow_32 : decode cX6_breachNow 32 = .ok (.goto (-21), 3) := by decide +kernel
theorem dX6_breachNow_35 : decode cX6_breachNow 35 = .ok (.iconst 0, 1) := by decide +kernel
theorem dX6_breachNow_36 : decode cX6_breachNow 36 = .ok (.istore_n 1, 1) := by decide +kernel
theorem dX6_breachNow_37 : decode cX6_breachNow 37 = .ok (.iload_n 1, 1) := by decide +kernel
theorem dX6_breachNow_38 : decode cX6_breachNow 38 = .ok (.aload_n 0, 1) := by decide +kernel
theorem dX6_breachNow_39 : decode cX6_breachNow 39 = .ok (.getfield 53, 3) := by decide +kernel
theorem dX6_breachNow_42 : decode cX6_breachNow 42 = .ok (.if_icmp .ge 41, 3) := by decide +kernel
theorem dX6_breachNow_45 : decode cX6_breachNow 45 = .ok (.aload_n 0, 1) := by decide +kernel
theorem dX6_breachNow_46 : decode cX6_breachNow 46 = .ok (.iload_n 1, 1) := by decide +kernel
theorem dX6_breachNow_47 : decode cX6_breachNow 47 = .ok (.invokevirtual 130, 3) := by decide +kernel
theorem dX6_breachNow_50 : decode cX6_breachNow 50 = .ok (.ifCond .eq 27, 3) := by decide +kernel
theorem dX6_breachNow_53 : decode cX6_breachNow 53 = .ok (.aload_n 0, 1) := by decide +kernel
theorem dX6_breachNow_54 : decode cX6_breachNow 54 = .ok (.getfield 28, 3) := by decide +kernel
theorem dX6_breachNow_57 : decode cX6_breachNow 57 = .ok (.iload_n 1, 1) := by decide +kernel
theorem dX6_breachNow_58 : decode cX6_breachNow 58 = .ok (.iaload, 1) := by decide +kernel
theorem dX6_breachNow_59 : decode cX6_breachNow 59 = .ok (.ifCond .eq 16, 3) := by decide +kernel
theorem dX6_breachNow_62 : decode cX6_breachNow 62 = .ok (.aload_n 0, 1) := by decide +kernel
theorem dX6_breachNow_63 : decode cX6_breachNow 63 = .ok (.getfield 28, 3) := by decide +kernel
theorem dX6_breachNow_66 : decode cX6_breachNow 66 = .ok (.iload_n 1, 1) := by decide +kernel
theorem dX6_breachNow_67 : decode cX6_breachNow 67 = .ok (.iaload, 1) := by decide +kernel
theorem dX6_breachNow_68 : decode cX6_breachNow 68 = .ok (.aload_n 0, 1) := by decide +kernel
theorem dX6_breachNow_69 : decode cX6_breachNow 69 = .ok (.invokevirtual 136, 3) := by decide +kernel
theorem dX6_breachNow_72 : decode cX6_breachNow 72 = .ok (.if_icmp .le 5, 3) := by decide +kernel
theorem dX6_breachNow_75 : decode cX6_breachNow 75 = .ok (.iconst 3, 1) := by decide +kernel
theorem dX6_breachNow_76 : decode cX6_breachNow 76 = .ok (.ireturn, 1) := by decide +kernel
theorem dX6_breachNow_77 : decode cX6_breachNow 77 = .ok (.iinc 1 1, 3) := by decide +kernel
theorem dX6_breachNow_80 : decode cX6_breachNow 80 = .ok (.goto (-43), 3) := by decide +kernel
theorem dX6_breachNow_83 : decode cX6_breachNow 83 = .ok (.iconst 0, 1) := by decide +kernel
theorem dX6_breachNow_84 : decode cX6_breachNow 84 = .ok (.ireturn, 1) := by decide +kernel
set_option maxRecDepth 20000 in
theorem ggX6_breach_X6_breachNow : GoodIn wsX6_breach wsX6_breachNow := goodIn_r _ [7, 8, 9, 10, 11, 12, 6, 13, 14, 15, 16, 17, 18, 19, 20, 21, 22, 2, 23, 24, 25, 26, 27, 28, 29, 30, 31, 32, 33, 34, 35, 36, 37, 38, 39, 40, 41, 42, 43, 44, 45, 46, 47, 48, 49, 50, 51, 52, 53, 54, 55, 56, 57, 58, 59, 60, 61, 62, 63, 64, 65, 66] (by decide +kernel) (by decide +kernel)
set_option maxRecDepth 20000 in
theorem gX6_breach_X6_breachNow : GoodIn wsX6_breach (wsV RX6 152 RX6 yX6_breachNow wsX6_breachNow) := goodIn_app (goodIn_of _ (by decide +kernel)) ggX6_breach_X6_breachNow
theorem dX6_breach_0 : decode cX6_breach 0 = .ok (.aload_n 0, 1) := by decide +kernel
theorem dX6_breach_1 : decode cX6_breach 1 = .ok (.getfield 57, 3) := by decide +kernel
theorem dX6_breach_4 : decode cX6_breach 4 = .ok (.aload_n 0, 1) := by decide +kernel
theorem dX6_breach_5 : decode cX6_breach 5 = .ok (.getfield 86, 3) := by decide +kernel
theorem dX6_breach_8 : decode cX6_breach 8 = .ok (.if_icmp .ge 7, 3) := by decide +kernel
theorem dX6_breach_11 : decode cX6_breach 11 = .ok (.iconst (-1), 1) := by decide +kernel
theorem dX6_breach_12 : decode cX6_breach 12 = .ok (.goto 7, 3) := by decide +kernel
theorem dX6_breach_15 : decode cX6_breach 15 = .ok (.aload_n 0, 1) := by decide +kernel
theorem dX6_breach_16 : decode cX6_breach 16 = .ok (.invokevirtual 152, 3) := by decide +kernel
theorem dX6_breach_19 : decode cX6_breach 19 = .ok (.ireturn, 1) := by decide +kernel
theorem dX6_keep_0 : decode cX6_keep 0 = .ok (.iconst 0, 1) := by decide +kernel
theorem dX6_keep_1 : decode cX6_keep 1 = .ok (.istore_n 1, 1) := by decide +kernel
theorem dX6_keep_2 : decode cX6_keep 2 = .ok (.iload_n 1, 1) := by decide +kernel
theorem dX6_keep_3 : decode cX6_keep 3 = .ok (.bipush 8, 2) := by decide +kernel
theorem dX6_keep_5 : decode cX6_keep 5 = .ok (.if_icmp .ge 111, 3) := by decide +kernel
theorem dX6_keep_8 : decode cX6_keep 8 = .ok (.aload_n 0, 1) := by decide +kernel
theorem dX6_keep_9 : decode cX6_keep 9 = .ok (.getfield 37, 3) := by decide +kernel
theorem dX6_keep_12 : decode cX6_keep 12 = .ok (.iload_n 1, 1) := by decide +kernel
theorem dX6_keep_13 : decode cX6_keep 13 = .ok (.aload_n 0, 1) := by decide +kernel
theorem dX6_keep_14 : decode cX6_keep 14 = .ok (.getfield 7, 3) := by decide +kernel
theorem dX6_keep_17 : decode cX6_keep 17 = .ok (.iload_n 1, 1) := by decide +kernel
theorem dX6_keep_18 : decode cX6_keep 18 = .ok (.iaload, 1) := by decide +kernel
theorem dX6_keep_19 : decode cX6_keep 19 = .ok (.iastore, 1) := by decide +kernel
theorem dX6_keep_20 : decode cX6_keep 20 = .ok (.aload_n 0, 1) := by decide +kernel
theorem dX6_keep_21 : decode cX6_keep 21 = .ok (.getfield 37, 3) := by decide +kernel
theorem dX6_keep_24 : decode cX6_keep 24 = .ok (.bipush 8, 2) := by decide +kernel
theorem dX6_keep_26 : decode cX6_keep 26 = .ok (.iload_n 1, 1) := by decide +kernel
theorem dX6_keep_27 : decode cX6_keep 27 = .ok (.iadd, 1) := by decide +kernel
theorem dX6_keep_28 : decode cX6_keep 28 = .ok (.aload_n 0, 1) := by decide +kernel
theorem dX6_keep_29 : decode cX6_keep 29 = .ok (.getfield 13, 3) := by decide +kernel
theorem dX6_keep_32 : decode cX6_keep 32 = .ok (.iload_n 1, 1) := by decide +kernel
theorem dX6_keep_33 : decode cX6_keep 33 = .ok (.iaload, 1) := by decide +kernel
theorem dX6_keep_34 : decode cX6_keep 34 = .ok (.iastore, 1) := by decide +kernel
theorem dX6_keep_35 : decode cX6_keep 35 = .ok (.aload_n 0, 1) := by decide +kernel
theorem dX6_keep_36 : decode cX6_keep 36 = .ok (.getfield 37, 3) := by decide +kernel
theorem dX6_keep_39 : decode cX6_keep 39 = .ok (.bipush 16, 2) := by decide +kernel
theorem dX6_keep_41 : decode cX6_keep 41 = .ok (.iload_n 1, 1) := by decide +kernel
theorem dX6_keep_42 : decode cX6_keep 42 = .ok (.iadd, 1) := by decide +kernel
theorem dX6_keep_43 : decode cX6_keep 43 = .ok (.aload_n 0, 1) := by decide +kernel
theorem dX6_keep_44 : decode cX6_keep 44 = .ok (.getfield 16, 3) := by decide +kernel
theorem dX6_keep_47 : decode cX6_keep 47 = .ok (.iload_n 1, 1) := by decide +kernel
theorem dX6_keep_48 : decode cX6_keep 48 = .ok (.iaload, 1) := by decide +kernel
theorem dX6_keep_49 : decode cX6_keep 49 = .ok (.iastore, 1) := by decide +kernel
theorem dX6_keep_50 : decode cX6_keep 50 = .ok (.aload_n 0, 1) := by decide +kernel
theorem dX6_keep_51 : decode cX6_keep 51 = .ok (.getfield 37, 3) := by decide +kernel
theorem dX6_keep_54 : decode cX6_keep 54 = .ok (.bipush 24, 2) := by decide +kernel
theorem dX6_keep_56 : decode cX6_keep 56 = .ok (.iload_n 1, 1) := by decide +kernel
theorem dX6_keep_57 : decode cX6_keep 57 = .ok (.iadd, 1) := by decide +kernel
theorem dX6_keep_58 : decode cX6_keep 58 = .ok (.aload_n 0, 1) := by decide +kernel
theorem dX6_keep_59 : decode cX6_keep 59 = .ok (.getfield 19, 3) := by decide +kernel
theorem dX6_keep_62 : decode cX6_keep 62 = .ok (.iload_n 1, 1) := by decide +kernel
theorem dX6_keep_63 : decode cX6_keep 63 = .ok (.iaload, 1) := by decide +kernel
theorem dX6_keep_64 : decode cX6_keep 64 = .ok (.iastore, 1) := by decide +kernel
theorem dX6_keep_65 : decode cX6_keep 65 = .ok (.aload_n 0, 1) := by decide +kernel
theorem dX6_keep_66 : decode cX6_keep 66 = .ok (.getfield 37, 3) := by decide +kernel
theorem dX6_keep_69 : decode cX6_keep 69 = .ok (.bipush 32, 2) := by decide +kernel
theorem dX6_keep_71 : decode cX6_keep 71 = .ok (.iload_n 1, 1) := by decide +kernel
theorem dX6_keep_72 : decode cX6_keep 72 = .ok (.iadd, 1) := by decide +kernel
theorem dX6_keep_73 : decode cX6_keep 73 = .ok (.aload_n 0, 1) := by decide +kernel
theorem dX6_keep_74 : decode cX6_keep 74 = .ok (.getfield 22, 3) := by decide +kernel
theorem dX6_keep_77 : decode cX6_keep 77 = .ok (.iload_n 1, 1) := by decide +kernel
theorem dX6_keep_78 : decode cX6_keep 78 = .ok (.iaload, 1) := by decide +kernel
theorem dX6_keep_79 : decode cX6_keep 79 = .ok (.iastore, 1) := by decide +kernel
theorem dX6_keep_80 : decode cX6_keep 80 = .ok (.aload_n 0, 1) := by decide +kernel
theorem dX6_keep_81 : decode cX6_keep 81 = .ok (.getfield 37, 3) := by decide +kernel
theorem dX6_keep_84 : decode cX6_keep 84 = .ok (.bipush 40, 2) := by decide +kernel
theorem dX6_keep_86 : decode cX6_keep 86 = .ok (.iload_n 1, 1) := by decide +kernel
theorem dX6_keep_87 : decode cX6_keep 87 = .ok (.iadd, 1) := by decide +kernel
theorem dX6_keep_88 : decode cX6_keep 88 = .ok (.aload_n 0, 1) := by decide +kernel
theorem dX6_keep_89 : decode cX6_keep 89 = .ok (.getfield 25, 3) := by decide +kernel
theorem dX6_keep_92 : decode cX6_keep 92 = .ok (.iload_n 1, 1) := by decide +kernel
theorem dX6_keep_93 : decode cX6_keep 93 = .ok (.iaload, 1) := by decide +kernel
theorem dX6_keep_94 : decode cX6_keep 94 = .ok (.iastore, 1) := by decide +kernel
theorem dX6_keep_95 : decode cX6_keep 95 = .ok (.aload_n 0, 1) := by decide +kernel
theorem dX6_keep_96 : decode cX6_keep 96 = .ok (.getfield 37, 3) := by decide +kernel
theorem dX6_keep_99 : decode cX6_keep 99 = .ok (.bipush 48, 2) := by decide +kernel
theorem dX6_keep_101 : decode cX6_keep 101 = .ok (.iload_n 1, 1) := by decide +kernel
theorem dX6_keep_102 : decode cX6_keep 102 = .ok (.iadd, 1) := by decide +kernel
theorem dX6_keep_103 : decode cX6_keep 103 = .ok (.aload_n 0, 1) := by decide +kernel
theorem dX6_keep_104 : decode cX6_keep 104 = .ok (.getfield 28, 3) := by decide +kernel
theorem dX6_keep_107 : decode cX6_keep 107 = .ok (.iload_n 1, 1) := by decide +kernel
theorem dX6_keep_108 : decode cX6_keep 108 = .ok (.iaload, 1) := by decide +kernel
theorem dX6_keep_109 : decode cX6_keep 109 = .ok (.iastore, 1) := by decide +kernel
theorem dX6_keep_110 : decode cX6_keep 110 = .ok (.iinc 1 1, 3) := by decide +kernel
theorem dX6_keep_113 : decode cX6_keep 113 = .ok (.goto (-111), 3) := by decide +kernel
theorem dX6_keep_116 : decode cX6_keep 116 = .ok (.aload_n 0, 1) := by decide +kernel
theorem dX6_keep_117 : decode cX6_keep 117 = .ok (.getfield 37, 3) := by decide +kernel
theorem dX6_keep_120 : decode cX6_keep 120 = .ok (.bipush 56, 2) := by decide +kernel
theorem dX6_keep_122 : decode cX6_keep 122 = .ok (.aload_n 0, 1) := by decide +kernel
theorem dX6_keep_123 : decode cX6_keep 123 = .ok (.getfield 57, 3) := by decide +kernel
theorem dX6_keep_126 : decode cX6_keep 126 = .ok (.iastore, 1) := by decide +kernel
theorem dX6_keep_127 : decode cX6_keep 127 = .ok (.aload_n 0, 1) := by decide +kernel
theorem dX6_keep_128 : decode cX6_keep 128 = .ok (.getfield 37, 3) := by decide +kernel
theorem dX6_keep_131 : decode cX6_keep 131 = .ok (.bipush 57, 2) := by decide +kernel
theorem dX6_keep_133 : decode cX6_keep 133 = .ok (.aload_n 0, 1) := by decide +kernel
theorem dX6_keep_134 : decode cX6_keep 134 = .ok (.getfield 60, 3) := by decide +kernel
theorem dX6_keep_137 : decode cX6_keep 137 = .ok (.iastore, 1) := by decide +kernel
theorem dX6_keep_138 : decode cX6_keep 138 = .ok (.aload_n 0, 1) := by decide +kernel
theorem dX6_keep_139 : decode cX6_keep 139 = .ok (.getfield 37, 3) := by decide +kernel
theorem dX6_keep_142 : decode cX6_keep 142 = .ok (.bipush 58, 2) := by decide +kernel
theorem dX6_keep_144 : decode cX6_keep 144 = .ok (.aload_n 0, 1) := by decide +kernel
theorem dX6_keep_145 : decode cX6_keep 145 = .ok (.getfield 67, 3) := by decide +kernel
theorem dX6_keep_148 : decode cX6_keep 148 = .ok (.iastore, 1) := by decide +kernel
theorem dX6_keep_149 : decode cX6_keep 149 = .ok (.aload_n 0, 1) := by decide +kernel
theorem dX6_keep_150 : decode cX6_keep 150 = .ok (.getfield 37, 3) := by decide +kernel
theorem dX6_keep_153 : decode cX6_keep 153 = .ok (.bipush 59, 2) := by decide +kernel
theorem dX6_keep_155 : decode cX6_keep 155 = .ok (.aload_n 0, 1) := by decide +kernel
theorem dX6_keep_156 : decode cX6_keep 156 = .ok (.getfield 70, 3) := by decide +kernel
theorem dX6_keep_159 : decode cX6_keep 159 = .ok (.iastore, 1) := by decide +kernel
theorem dX6_keep_160 : decode cX6_keep 160 = .ok (.return_, 1) := by decide +kernel
theorem dX6_takeBack_0 : decode cX6_takeBack 0 = .ok (.iconst 0, 1) := by decide +kernel
theorem dX6_takeBack_1 : decode cX6_takeBack 1 = .ok (.istore_n 1, 1) := by decide +kernel
theorem dX6_takeBack_2 : decode cX6_takeBack 2 = .ok (.iload_n 1, 1) := by decide +kernel
theorem dX6_takeBack_3 : decode cX6_takeBack 3 = .ok (.bipush 8, 2) := by decide +kernel
theorem dX6_takeBack_5 : decode cX6_takeBack 5 = .ok (.if_icmp .ge 111, 3) := by decide +kernel
theorem dX6_takeBack_8 : decode cX6_takeBack 8 = .ok (.aload_n 0, 1) := by decide +kernel
theorem dX6_takeBack_9 : decode cX6_takeBack 9 = .ok (.getfield 7, 3) := by decide +kernel
theorem dX6_takeBack_12 : decode cX6_takeBack 12 = .ok (.iload_n 1, 1) := by decide +kernel
theorem dX6_takeBack_13 : decode cX6_takeBack 13 = .ok (.aload_n 0, 1) := by decide +kernel
theorem dX6_takeBack_14 : decode cX6_takeBack 14 = .ok (.getfield 37, 3) := by decide +kernel
theorem dX6_takeBack_17 : decode cX6_takeBack 17 = .ok (.iload_n 1, 1) := by decide +kernel
theorem dX6_takeBack_18 : decode cX6_takeBack 18 = .ok (.iaload, 1) := by decide +kernel
theorem dX6_takeBack_19 : decode cX6_takeBack 19 = .ok (.iastore, 1) := by decide +kernel
theorem dX6_takeBack_20 : decode cX6_takeBack 20 = .ok (.aload_n 0, 1) := by decide +kernel
theorem dX6_takeBack_21 : decode cX6_takeBack 21 = .ok (.getfield 13, 3) := by decide +kernel
theorem dX6_takeBack_24 : decode cX6_takeBack 24 = .ok (.iload_n 1, 1) := by decide +kernel
theorem dX6_takeBack_25 : decode cX6_takeBack 25 = .ok (.aload_n 0, 1) := by decide +kernel
theorem dX6_takeBack_26 : decode cX6_takeBack 26 = .ok (.getfield 37, 3) := by decide +kernel
theorem dX6_takeBack_29 : decode cX6_takeBack 29 = .ok (.bipush 8, 2) := by decide +kernel
theorem dX6_takeBack_31 : decode cX6_takeBack 31 = .ok (.iload_n 1, 1) := by decide +kernel
theorem dX6_takeBack_32 : decode cX6_takeBack 32 = .ok (.iadd, 1) := by decide +kernel
theorem dX6_takeBack_33 : decode cX6_takeBack 33 = .ok (.iaload, 1) := by decide +kernel
theorem dX6_takeBack_34 : decode cX6_takeBack 34 = .ok (.iastore, 1) := by decide +kernel
theorem dX6_takeBack_35 : decode cX6_takeBack 35 = .ok (.aload_n 0, 1) := by decide +kernel
theorem dX6_takeBack_36 : decode cX6_takeBack 36 = .ok (.getfield 16, 3) := by decide +kernel
theorem dX6_takeBack_39 : decode cX6_takeBack 39 = .ok (.iload_n 1, 1) := by decide +kernel
theorem dX6_takeBack_40 : decode cX6_takeBack 40 = .ok (.aload_n 0, 1) := by decide +kernel
theorem dX6_takeBack_41 : decode cX6_takeBack 41 = .ok (.getfield 37, 3) := by decide +kernel
theorem dX6_takeBack_44 : decode cX6_takeBack 44 = .ok (.bipush 16, 2) := by decide +kernel
theorem dX6_takeBack_46 : decode cX6_takeBack 46 = .ok (.iload_n 1, 1) := by decide +kernel
theorem dX6_takeBack_47 : decode cX6_takeBack 47 = .ok (.iadd, 1) := by decide +kernel
theorem dX6_takeBack_48 : decode cX6_takeBack 48 = .ok (.iaload, 1) := by decide +kernel
theorem dX6_takeBack_49 : decode cX6_takeBack 49 = .ok (.iastore, 1) := by decide +kernel
theorem dX6_takeBack_50 : decode cX6_takeBack 50 = .ok (.aload_n 0, 1) := by decide +kernel
theorem dX6_takeBack_51 : decode cX6_takeBack 51 = .ok (.getfield 19, 3) := by decide +kernel
theorem dX6_takeBack_54 : decode cX6_takeBack 54 = .ok (.iload_n 1, 1) := by decide +kernel
theorem dX6_takeBack_55 : decode cX6_takeBack 55 = .ok (.aload_n 0, 1) := by decide +kernel
theorem dX6_takeBack_56 : decode cX6_takeBack 56 = .ok (.getfield 37, 3) := by decide +kernel
theorem dX6_takeBack_59 : decode cX6_takeBack 59 = .ok (.bipush 24, 2) := by decide +kernel
theorem dX6_takeBack_61 : decode cX6_takeBack 61 = .ok (.iload_n 1, 1) := by decide +kernel
theorem dX6_takeBack_62 : decode cX6_takeBack 62 = .ok (.iadd, 1) := by decide +kernel
theorem dX6_takeBack_63 : decode cX6_takeBack 63 = .ok (.iaload, 1) := by decide +kernel
theorem dX6_takeBack_64 : decode cX6_takeBack 64 = .ok (.iastore, 1) := by decide +kernel
theorem dX6_takeBack_65 : decode cX6_takeBack 65 = .ok (.aload_n 0, 1) := by decide +kernel
theorem dX6_takeBack_66 : decode cX6_takeBack 66 = .ok (.getfield 22, 3) := by decide +kernel
theorem dX6_takeBack_69 : decode cX6_takeBack 69 = .ok (.iload_n 1, 1) := by decide +kernel
theorem dX6_takeBack_70 : decode cX6_takeBack 70 = .ok (.aload_n 0, 1) := by decide +kernel
theorem dX6_takeBack_71 : decode cX6_takeBack 71 = .ok (.getfield 37, 3) := by decide +kernel
theorem dX6_takeBack_74 : decode cX6_takeBack 74 = .ok (.bipush 32, 2) := by decide +kernel
theorem dX6_takeBack_76 : decode cX6_takeBack 76 = .ok (.iload_n 1, 1) := by decide +kernel
theorem dX6_takeBack_77 : decode cX6_takeBack 77 = .ok (.iadd, 1) := by decide +kernel
theorem dX6_takeBack_78 : decode cX6_takeBack 78 = .ok (.iaload, 1) := by decide +kernel
theorem dX6_takeBack_79 : decode cX6_takeBack 79 = .ok (.iastore, 1) := by decide +kernel
theorem dX6_takeBack_80 : decode cX6_takeBack 80 = .ok (.aload_n 0, 1) := by decide +kernel
theorem dX6_takeBack_81 : decode cX6_takeBack 81 = .ok (.getfield 25, 3) := by decide +kernel
theorem dX6_takeBack_84 : decode cX6_takeBack 84 = .ok (.iload_n 1, 1) := by decide +kernel
theorem dX6_takeBack_85 : decode cX6_takeBack 85 = .ok (.aload_n 0, 1) := by decide +kernel
theorem dX6_takeBack_86 : decode cX6_takeBack 86 = .ok (.getfield 37, 3) := by decide +kernel
theorem dX6_takeBack_89 : decode cX6_takeBack 89 = .ok (.bipush 40, 2) := by decide +kernel
theorem dX6_takeBack_91 : decode cX6_takeBack 91 = .ok (.iload_n 1, 1) := by decide +kernel
theorem dX6_takeBack_92 : decode cX6_takeBack 92 = .ok (.iadd, 1) := by decide +kernel
theorem dX6_takeBack_93 : decode cX6_takeBack 93 = .ok (.iaload, 1) := by decide +kernel
theorem dX6_takeBack_94 : decode cX6_takeBack 94 = .ok (.iastore, 1) := by decide +kernel
theorem dX6_takeBack_95 : decode cX6_takeBack 95 = .ok (.aload_n 0, 1) := by decide +kernel
theorem dX6_takeBack_96 : decode cX6_takeBack 96 = .ok (.getfield 28, 3) := by decide +kernel
theorem dX6_takeBack_99 : decode cX6_takeBack 99 = .ok (.iload_n 1, 1) := by decide +kernel
theorem dX6_takeBack_100 : decode cX6_takeBack 100 = .ok (.aload_n 0, 1) := by decide +kernel
theorem dX6_takeBack_101 : decode cX6_takeBack 101 = .ok (.getfield 37, 3) := by decide +kernel
theorem dX6_takeBack_104 : decode cX6_takeBack 104 = .ok (.bipush 48, 2) := by decide +kernel
theorem dX6_takeBack_106 : decode cX6_takeBack 106 = .ok (.iload_n 1, 1) := by decide +kernel
theorem dX6_takeBack_107 : decode cX6_takeBack 107 = .ok (.iadd, 1) := by decide +kernel
theorem dX6_takeBack_108 : decode cX6_takeBack 108 = .ok (.iaload, 1) := by decide +kernel
theorem dX6_takeBack_109 : decode cX6_takeBack 109 = .ok (.iastore, 1) := by decide +kernel
theorem dX6_takeBack_110 : decode cX6_takeBack 110 = .ok (.iinc 1 1, 3) := by decide +kernel
theorem dX6_takeBack_113 : decode cX6_takeBack 113 = .ok (.goto (-111), 3) := by decide +kernel
theorem dX6_takeBack_116 : decode cX6_takeBack 116 = .ok (.aload_n 0, 1) := by decide +kernel
theorem dX6_takeBack_117 : decode cX6_takeBack 117 = .ok (.aload_n 0, 1) := by decide +kernel
theorem dX6_takeBack_118 : decode cX6_takeBack 118 = .ok (.getfield 37, 3) := by decide +kernel
theorem dX6_takeBack_121 : decode cX6_takeBack 121 = .ok (.bipush 56, 2) := by decide +kernel
theorem dX6_takeBack_123 : decode cX6_takeBack 123 = .ok (.iaload, 1) := by decide +kernel
theorem dX6_takeBack_124 : decode cX6_takeBack 124 = .ok (.putfield 57, 3) := by decide +kernel
theorem dX6_takeBack_127 : decode cX6_takeBack 127 = .ok (.aload_n 0, 1) := by decide +kernel
theorem dX6_takeBack_128 : decode cX6_takeBack 128 = .ok (.aload_n 0, 1) := by decide +kernel
theorem dX6_takeBack_129 : decode cX6_takeBack 129 = .ok (.getfield 37, 3) := by decide +kernel
theorem dX6_takeBack_132 : decode cX6_takeBack 132 = .ok (.bipush 57, 2) := by decide +kernel
theorem dX6_takeBack_134 : decode cX6_takeBack 134 = .ok (.iaload, 1) := by decide +kernel
theorem dX6_takeBack_135 : decode cX6_takeBack 135 = .ok (.putfield 60, 3) := by decide +kernel
theorem dX6_takeBack_138 : decode cX6_takeBack 138 = .ok (.aload_n 0, 1) := by decide +kernel
theorem dX6_takeBack_139 : decode cX6_takeBack 139 = .ok (.aload_n 0, 1) := by decide +kernel
theorem dX6_takeBack_140 : decode cX6_takeBack 140 = .ok (.getfield 37, 3) := by decide +kernel
theorem dX6_takeBack_143 : decode cX6_takeBack 143 = .ok (.bipush 58, 2) := by decide +kernel
theorem dX6_takeBack_145 : decode cX6_takeBack 145 = .ok (.iaload, 1) := by decide +kernel
theorem dX6_takeBack_146 : decode cX6_takeBack 146 = .ok (.putfield 67, 3) := by decide +kernel
theorem dX6_takeBack_149 : decode cX6_takeBack 149 = .ok (.aload_n 0, 1) := by decide +kernel
theorem dX6_takeBack_150 : decode cX6_takeBack 150 = .ok (.aload_n 0, 1) := by decide +kernel
theorem dX6_takeBack_151 : decode cX6_takeBack 151 = .ok (.getfield 37, 3) := by decide +kernel
theorem dX6_takeBack_154 : decode cX6_takeBack 154 = .ok (.bipush 59, 2) := by decide +kernel
theorem dX6_takeBack_156 : decode cX6_takeBack 156 = .ok (.iaload, 1) := by decide +kernel
theorem dX6_takeBack_157 : decode cX6_takeBack 157 = .ok (.putfield 70, 3) := by decide +kernel
theorem dX6_takeBack_160 : decode cX6_takeBack 160 = .ok (.return_, 1) := by decide +kernel
set_option maxRecDepth 20000 in
theorem ggX6_runsOf_X6_all : GoodIn wsX6_runsOf wsX6_all := goodIn_r _ [8, 1, 12, 13, 14, 15, 16, 17, 18, 19, 20, 21, 22, 23, 24, 25, 26, 27, 28, 29, 30, 31, 32, 33, 34] (by decide +kernel) (by decide +kernel)
set_option maxRecDepth 20000 in
theorem gX6_runsOf_X6_all : GoodIn wsX6_runsOf (wsV RX6 63 RX6 yX6_all wsX6_all) := goodIn_app (goodIn_of _ (by decide +kernel)) ggX6_runsOf_X6_all
set_option maxRecDepth 20000 in
theorem ggX6_runsOf_X6_bits : GoodIn wsX6_runsOf wsX6_bits := goodIn_r _ [11] (by decide +kernel) (by decide +kernel)
set_option maxRecDepth 20000 in
theorem gX6_runsOf_X6_bits : GoodIn wsX6_runsOf (va_wsS RX6 105 yX6_bits wsX6_bits) := goodIn_app (goodIn_of _ (by decide +kernel)) ggX6_runsOf_X6_bits
theorem dX6_runsOf_0 : decode cX6_runsOf 0 = .ok (.lconst 1, 1) := by decide +kernel
theorem dX6_runsOf_1 : decode cX6_runsOf 1 = .ok (.lstore_n 2, 1) := by decide +kernel
theorem dX6_runsOf_2 : decode cX6_runsOf 2 = .ok (.iconst 0, 1) := by decide +kernel
theorem dX6_runsOf_3 : decode cX6_runsOf 3 = .ok (.istore 4, 2) := by decide +kernel
theorem dX6_runsOf_5 : decode cX6_runsOf 5 = .ok (.iload 4, 2) := by decide +kernel
theorem dX6_runsOf_7 : decode cX6_runsOf 7 = .ok (.aload_n 0, 1) := by decide +kernel
theorem dX6_runsOf_8 : decode cX6_runsOf 8 = .ok (.getfield 53, 3) := by decide +kernel
theorem dX6_runsOf_11 : decode cX6_runsOf 11 = .ok (.if_icmp .ge 14, 3) := by decide +kernel
theorem dX6_runsOf_14 : decode cX6_runsOf 14 = .ok (.lload_n 2, 1) := by decide +kernel
theorem dX6_runsOf_15 : decode cX6_runsOf 15 = .ok (.iload_n 1, 1) := by decide +kernel
theorem dX6_runsOf_16 : decode cX6_runsOf 16 = .ok (.i2l, 1) := by decide +kernel
theorem dX6_runsOf_17 : decode cX6_runsOf 17 = .ok (.lmul, 1) := by decide +kernel
theorem dX6_runsOf_18 : decode cX6_runsOf 18 = .ok (.lstore_n 2, 1) := by decide +kernel
theorem dX6_runsOf_19 : decode cX6_runsOf 19 = .ok (.iinc 4 1, 3) := by decide +kernel
theorem dX6_runsOf_22 : decode cX6_runsOf 22 = .ok (.goto (-17), 3) := by decide +kernel
theorem dX6_runsOf_25 : decode cX6_runsOf 25 = .ok (.lconst 0, 1) := by decide +kernel
theorem dX6_runsOf_26 : decode cX6_runsOf 26 = .ok (.lstore 4, 2) := by decide +kernel
theorem dX6_runsOf_28 : decode cX6_runsOf 28 = .ok (.iconst 0, 1) := by decide +kernel
theorem dX6_runsOf_29 : decode cX6_runsOf 29 = .ok (.istore 6, 2) := by decide +kernel
theorem dX6_runsOf_31 : decode cX6_runsOf 31 = .ok (.iload 6, 2) := by decide +kernel
theorem dX6_runsOf_33 : decode cX6_runsOf 33 = .ok (.aload_n 0, 1) := by decide +kernel
theorem dX6_runsOf_34 : decode cX6_runsOf 34 = .ok (.invokevirtual 63, 3) := by decide +kernel
theorem dX6_runsOf_37 : decode cX6_runsOf 37 = .ok (.if_icmp .gt 69, 3) := by decide +kernel
theorem dX6_runsOf_40 : decode cX6_runsOf 40 = .ok (.iload 6, 2) := by decide +kernel
theorem dX6_runsOf_42 : decode cX6_runsOf 42 = .ok (.invokestatic 105, 3) := by decide +kernel
theorem dX6_runsOf_45 : decode cX6_runsOf 45 = .ok (.aload_n 0, 1) := by decide +kernel
theorem dX6_runsOf_46 : decode cX6_runsOf 46 = .ok (.getfield 80, 3) := by decide +kernel
theorem dX6_runsOf_49 : decode cX6_runsOf 49 = .ok (.if_icmp .gt 51, 3) := by decide +kernel
theorem dX6_runsOf_52 : decode cX6_runsOf 52 = .ok (.lconst 1, 1) := by decide +kernel
theorem dX6_runsOf_53 : decode cX6_runsOf 53 = .ok (.lstore 7, 2) := by decide +kernel
theorem dX6_runsOf_55 : decode cX6_runsOf 55 = .ok (.iconst 0, 1) := by decide +kernel
theorem dX6_runsOf_56 : decode cX6_runsOf 56 = .ok (.istore 9, 2) := by decide +kernel
theorem dX6_runsOf_58 : decode cX6_runsOf 58 = .ok (.iload 9, 2) := by decide +kernel
theorem dX6_runsOf_60 : decode cX6_runsOf 60 = .ok (.iload 6, 2) := by decide +kernel
theorem dX6_runsOf_62 : decode cX6_runsOf 62 = .ok (.invokestatic 105, 3) := by decide +kernel
theorem dX6_runsOf_65 : decode cX6_runsOf 65 = .ok (.if_icmp .ge 28, 3) := by decide +kernel
theorem dX6_runsOf_68 : decode cX6_runsOf 68 = .ok (.lload 7, 2) := by decide +kernel
theorem dX6_runsOf_70 : decode cX6_runsOf 70 = .ok (.aload_n 0, 1) := by decide +kernel
theorem dX6_runsOf_71 : decode cX6_runsOf 71 = .ok (.getfield 86, 3) := by decide +kernel
theorem dX6_runsOf_74 : decode cX6_runsOf 74 = .ok (.i2l, 1) := by decide +kernel
theorem dX6_runsOf_75 : decode cX6_runsOf 75 = .ok (.lmul, 1) := by decide +kernel
theorem dX6_runsOf_76 : decode cX6_runsOf 76 = .ok (.lconst 1, 1) := by decide +kernel
theorem dX6_runsOf_77 : decode cX6_runsOf 77 = .ok (.aload_n 0, 1) := by decide +kernel
theorem dX6_runsOf_78 : decode cX6_runsOf 78 = .ok (.getfield 53, 3) := by decide +kernel
theorem dX6_runsOf_81 : decode cX6_runsOf 81 = .ok (.iconst 1, 1) := by decide +kernel
theorem dX6_runsOf_82 : decode cX6_runsOf 82 = .ok (.isub, 1) := by decide +kernel
theorem dX6_runsOf_83 : decode cX6_runsOf 83 = .ok (.lshl, 1) := by decide +kernel
theorem dX6_runsOf_84 : decode cX6_runsOf 84 = .ok (.lmul, 1) := by decide +kernel
theorem dX6_runsOf_85 : decode cX6_runsOf 85 = .ok (.lstore 7, 2) := by decide +kernel
theorem dX6_runsOf_87 : decode cX6_runsOf 87 = .ok (.iinc 9 1, 3) := by decide +kernel
theorem dX6_runsOf_90 : decode cX6_runsOf 90 = .ok (.goto (-32), 3) := by decide +kernel
theorem dX6_runsOf_93 : decode cX6_runsOf 93 = .ok (.lload 4, 2) := by decide +kernel
theorem dX6_runsOf_95 : decode cX6_runsOf 95 = .ok (.lload 7, 2) := by decide +kernel
theorem dX6_runsOf_97 : decode cX6_runsOf 97 = .ok (.ladd, 1) := by decide +kernel
theorem dX6_runsOf_98 : decode cX6_runsOf 98 = .ok (.lstore 4, 2) := by decide +kernel
theorem dX6_runsOf_100 : decode cX6_runsOf 100 = .ok (.iinc 6 1, 3) := by decide +kernel
theorem dX6_runsOf_103 : decode cX6_runsOf 103 = .ok (.goto (-72), 3) := by decide +kernel
theorem dX6_runsOf_106 : decode cX6_runsOf 106 = .ok (.lload 4, 2) := by decide +kernel
theorem dX6_runsOf_108 : decode cX6_runsOf 108 = .ok (.lload_n 2, 1) := by decide +kernel
theorem dX6_runsOf_109 : decode cX6_runsOf 109 = .ok (.lmul, 1) := by decide +kernel
theorem dX6_runsOf_110 : decode cX6_runsOf 110 = .ok (.lreturn, 1) := by decide +kernel
set_option maxRecDepth 20000 in
theorem ggX6_nextCrash_X6_all : GoodIn wsX6_nextCrash wsX6_all := goodIn_r _ [8, 9, 10, 11, 12, 13, 14, 15, 16, 17, 18, 19, 20, 21, 22, 23, 24, 25, 26, 27, 28, 29, 30, 31, 32] (by decide +kernel) (by decide +kernel)
set_option maxRecDepth 20000 in
theorem gX6_nextCrash_X6_all : GoodIn wsX6_nextCrash (wsV RX6 63 RX6 yX6_all wsX6_all) := goodIn_app (goodIn_of _ (by decide +kernel)) ggX6_nextCrash_X6_all
theorem dX6_nextCrash_0 : decode cX6_nextCrash 0 = .ok (.aload_n 0, 1) := by decide +kernel
theorem dX6_nextCrash_1 : decode cX6_nextCrash 1 = .ok (.getfield 16, 3) := by decide +kernel
theorem dX6_nextCrash_4 : decode cX6_nextCrash 4 = .ok (.iload_n 1, 1) := by decide +kernel
theorem dX6_nextCrash_5 : decode cX6_nextCrash 5 = .ok (.dup2, 1) := by decide +kernel
theorem dX6_nextCrash_6 : decode cX6_nextCrash 6 = .ok (.iaload, 1) := by decide +kernel
theorem dX6_nextCrash_7 : decode cX6_nextCrash 7 = .ok (.iconst 1, 1) := by decide +kernel
theorem dX6_nextCrash_8 : decode cX6_nextCrash 8 = .ok (.iadd, 1) := by decide +kernel
theorem dX6_nextCrash_9 : decode cX6_nextCrash 9 = .ok (.iastore, 1) := by decide +kernel
theorem dX6_nextCrash_10 : decode cX6_nextCrash 10 = .ok (.aload_n 0, 1) := by decide +kernel
theorem dX6_nextCrash_11 : decode cX6_nextCrash 11 = .ok (.getfield 16, 3) := by decide +kernel
theorem dX6_nextCrash_14 : decode cX6_nextCrash 14 = .ok (.iload_n 1, 1) := by decide +kernel
theorem dX6_nextCrash_15 : decode cX6_nextCrash 15 = .ok (.iaload, 1) := by decide +kernel
theorem dX6_nextCrash_16 : decode cX6_nextCrash 16 = .ok (.iload_n 1, 1) := by decide +kernel
theorem dX6_nextCrash_17 : decode cX6_nextCrash 17 = .ok (.ishr, 1) := by decide +kernel
theorem dX6_nextCrash_18 : decode cX6_nextCrash 18 = .ok (.iconst 1, 1) := by decide +kernel
theorem dX6_nextCrash_19 : decode cX6_nextCrash 19 = .ok (.iand, 1) := by decide +kernel
theorem dX6_nextCrash_20 : decode cX6_nextCrash 20 = .ok (.iconst 1, 1) := by decide +kernel
theorem dX6_nextCrash_21 : decode cX6_nextCrash 21 = .ok (.if_icmp .ne 15, 3) := by decide +kernel
theorem dX6_nextCrash_24 : decode cX6_nextCrash 24 = .ok (.aload_n 0, 1) := by decide +kernel
theorem dX6_nextCrash_25 : decode cX6_nextCrash 25 = .ok (.getfield 16, 3) := by decide +kernel
theorem dX6_nextCrash_28 : decode cX6_nextCrash 28 = .ok (.iload_n 1, 1) := by decide +kernel
theorem dX6_nextCrash_29 : decode cX6_nextCrash 29 = .ok (.dup2, 1) := by decide +kernel
theorem dX6_nextCrash_30 : decode cX6_nextCrash 30 = .ok (.iaload, 1) := by decide +kernel
theorem dX6_nextCrash_31 : decode cX6_nextCrash 31 = .ok (.iconst 1, 1) := by decide +kernel
theorem dX6_nextCrash_32 : decode cX6_nextCrash 32 = .ok (.iload_n 1, 1) := by decide +kernel
theorem dX6_nextCrash_33 : decode cX6_nextCrash 33 = .ok (.ishl, 1) := by decide +kernel
theorem dX6_nextCrash_34 : decode cX6_nextCrash 34 = .ok (.iadd, 1) := by decide +kernel
theorem dX6_nextCrash_35 : decode cX6_nextCrash 35 = .ok (.iastore, 1) := by decide +kernel
theorem dX6_nextCrash_36 : decode cX6_nextCrash 36 = .ok (.aload_n 0, 1) := by decide +kernel
theorem dX6_nextCrash_37 : decode cX6_nextCrash 37 = .ok (.getfield 16, 3) := by decide +kernel
theorem dX6_nextCrash_40 : decode cX6_nextCrash 40 = .ok (.iload_n 1, 1) := by decide +kernel
theorem dX6_nextCrash_41 : decode cX6_nextCrash 41 = .ok (.iaload, 1) := by decide +kernel
theorem dX6_nextCrash_42 : decode cX6_nextCrash 42 = .ok (.aload_n 0, 1) := by decide +kernel
theorem dX6_nextCrash_43 : decode cX6_nextCrash 43 = .ok (.invokevirtual 63, 3) := by decide +kernel
theorem dX6_nextCrash_46 : decode cX6_nextCrash 46 = .ok (.if_icmp .gt 5, 3) := by decide +kernel
theorem dX6_nextCrash_49 : decode cX6_nextCrash 49 = .ok (.iconst 1, 1) := by decide +kernel
theorem dX6_nextCrash_50 : decode cX6_nextCrash 50 = .ok (.ireturn, 1) := by decide +kernel
theorem dX6_nextCrash_51 : decode cX6_nextCrash 51 = .ok (.aload_n 0, 1) := by decide +kernel
theorem dX6_nextCrash_52 : decode cX6_nextCrash 52 = .ok (.getfield 16, 3) := by decide +kernel
theorem dX6_nextCrash_55 : decode cX6_nextCrash 55 = .ok (.iload_n 1, 1) := by decide +kernel
theorem dX6_nextCrash_56 : decode cX6_nextCrash 56 = .ok (.iconst 0, 1) := by decide +kernel
theorem dX6_nextCrash_57 : decode cX6_nextCrash 57 = .ok (.iastore, 1) := by decide +kernel
theorem dX6_nextCrash_58 : decode cX6_nextCrash 58 = .ok (.aload_n 0, 1) := by decide +kernel
theorem dX6_nextCrash_59 : decode cX6_nextCrash 59 = .ok (.getfield 13, 3) := by decide +kernel
theorem dX6_nextCrash_62 : decode cX6_nextCrash 62 = .ok (.iload_n 1, 1) := by decide +kernel
theorem dX6_nextCrash_63 : decode cX6_nextCrash 63 = .ok (.dup2, 1) := by decide +kernel
theorem dX6_nextCrash_64 : decode cX6_nextCrash 64 = .ok (.iaload, 1) := by decide +kernel
theorem dX6_nextCrash_65 : decode cX6_nextCrash 65 = .ok (.iconst 1, 1) := by decide +kernel
theorem dX6_nextCrash_66 : decode cX6_nextCrash 66 = .ok (.iadd, 1) := by decide +kernel
theorem dX6_nextCrash_67 : decode cX6_nextCrash 67 = .ok (.iastore, 1) := by decide +kernel
theorem dX6_nextCrash_68 : decode cX6_nextCrash 68 = .ok (.aload_n 0, 1) := by decide +kernel
theorem dX6_nextCrash_69 : decode cX6_nextCrash 69 = .ok (.getfield 13, 3) := by decide +kernel
theorem dX6_nextCrash_72 : decode cX6_nextCrash 72 = .ok (.iload_n 1, 1) := by decide +kernel
theorem dX6_nextCrash_73 : decode cX6_nextCrash 73 = .ok (.iaload, 1) := by decide +kernel
theorem dX6_nextCrash_74 : decode cX6_nextCrash 74 = .ok (.aload_n 0, 1) := by decide +kernel
theorem dX6_nextCrash_75 : decode cX6_nextCrash 75 = .ok (.getfield 86, 3) := by decide +kernel
theorem dX6_nextCrash_78 : decode cX6_nextCrash 78 = .ok (.if_icmp .gt 5, 3) := by decide +kernel
theorem dX6_nextCrash_81 : decode cX6_nextCrash 81 = .ok (.iconst 1, 1) := by decide +kernel
theorem dX6_nextCrash_82 : decode cX6_nextCrash 82 = .ok (.ireturn, 1) := by decide +kernel
theorem dX6_nextCrash_83 : decode cX6_nextCrash 83 = .ok (.aload_n 0, 1) := by decide +kernel
theorem dX6_nextCrash_84 : decode cX6_nextCrash 84 = .ok (.getfield 13, 3) := by decide +kernel
theorem dX6_nextCrash_87 : decode cX6_nextCrash 87 = .ok (.iload_n 1, 1) := by decide +kernel
theorem dX6_nextCrash_88 : decode cX6_nextCrash 88 = .ok (.iconst 1, 1) := by decide +kernel
theorem dX6_nextCrash_89 : decode cX6_nextCrash 89 = .ok (.iastore, 1) := by decide +kernel
theorem dX6_nextCrash_90 : decode cX6_nextCrash 90 = .ok (.iconst 0, 1) := by decide +kernel
theorem dX6_nextCrash_91 : decode cX6_nextCrash 91 = .ok (.ireturn, 1) := by decide +kernel
set_option maxRecDepth 20000 in
theorem ggX6_nextPlan_X6_nextCrash : GoodIn wsX6_nextPlan wsX6_nextCrash := goodIn_r _ [6, 7, 8, 9, 10, 11, 12, 5, 13, 1, 14, 15, 16, 17, 18, 19, 20, 21, 22, 23, 24, 25, 26, 27, 28, 29, 30, 31, 32, 33, 34, 35, 36] (by decide +kernel) (by decide +kernel)
set_option maxRecDepth 20000 in
theorem gX6_nextPlan_X6_nextCrash : GoodIn wsX6_nextPlan (wsV RX6 155 RX6 yX6_nextCrash wsX6_nextCrash) := goodIn_app (goodIn_of _ (by decide +kernel)) ggX6_nextPlan_X6_nextCrash
theorem dX6_nextPlan_0 : decode cX6_nextPlan 0 = .ok (.aload_n 0, 1) := by decide +kernel
theorem dX6_nextPlan_1 : decode cX6_nextPlan 1 = .ok (.getfield 53, 3) := by decide +kernel
theorem dX6_nextPlan_4 : decode cX6_nextPlan 4 = .ok (.iconst 1, 1) := by decide +kernel
theorem dX6_nextPlan_5 : decode cX6_nextPlan 5 = .ok (.isub, 1) := by decide +kernel
theorem dX6_nextPlan_6 : decode cX6_nextPlan 6 = .ok (.istore_n 2, 1) := by decide +kernel
theorem dX6_nextPlan_7 : decode cX6_nextPlan 7 = .ok (.iload_n 2, 1) := by decide +kernel
theorem dX6_nextPlan_8 : decode cX6_nextPlan 8 = .ok (.ifCond .lt 28, 3) := by decide +kernel
theorem dX6_nextPlan_11 : decode cX6_nextPlan 11 = .ok (.iload_n 1, 1) := by decide +kernel
theorem dX6_nextPlan_12 : decode cX6_nextPlan 12 = .ok (.iload_n 2, 1) := by decide +kernel
theorem dX6_nextPlan_13 : decode cX6_nextPlan 13 = .ok (.ishr, 1) := by decide +kernel
theorem dX6_nextPlan_14 : decode cX6_nextPlan 14 = .ok (.iconst 1, 1) := by decide +kernel
theorem dX6_nextPlan_15 : decode cX6_nextPlan 15 = .ok (.iand, 1) := by decide +kernel
theorem dX6_nextPlan_16 : decode cX6_nextPlan 16 = .ok (.iconst 1, 1) := by decide +kernel
theorem dX6_nextPlan_17 : decode cX6_nextPlan 17 = .ok (.if_icmp .ne 13, 3) := by decide +kernel
theorem dX6_nextPlan_20 : decode cX6_nextPlan 20 = .ok (.aload_n 0, 1) := by decide +kernel
theorem dX6_nextPlan_21 : decode cX6_nextPlan 21 = .ok (.iload_n 2, 1) := by decide +kernel
theorem dX6_nextPlan_22 : decode cX6_nextPlan 22 = .ok (.invokevirtual 155, 3) := by decide +kernel
theorem dX6_nextPlan_25 : decode cX6_nextPlan 25 = .ok (.ifCond .eq 5, 3) := by decide +kernel
theorem dX6_nextPlan_28 : decode cX6_nextPlan 28 = .ok (.iconst 1, 1) := by decide +kernel
theorem dX6_nextPlan_29 : decode cX6_nextPlan 29 = .ok (.ireturn, 1) := by decide +kernel
theorem dX6_nextPlan_30 : decode cX6_nextPlan 30 = .ok (.iinc 2 (-1), 3) := by decide +kernel
theorem dX6_nextPlan_33 : decode cX6_nextPlan 33 = .ok (.goto (-26), 3) := by decide +kernel
theorem dX6_nextPlan_36 : decode cX6_nextPlan 36 = .ok (.iconst 0, 1) := by decide +kernel
theorem dX6_nextPlan_37 : decode cX6_nextPlan 37 = .ok (.ireturn, 1) := by decide +kernel
theorem dX6_nextInputs_0 : decode cX6_nextInputs 0 = .ok (.iconst 0, 1) := by decide +kernel
theorem dX6_nextInputs_1 : decode cX6_nextInputs 1 = .ok (.istore_n 2, 1) := by decide +kernel
theorem dX6_nextInputs_2 : decode cX6_nextInputs 2 = .ok (.iload_n 2, 1) := by decide +kernel
theorem dX6_nextInputs_3 : decode cX6_nextInputs 3 = .ok (.aload_n 0, 1) := by decide +kernel
theorem dX6_nextInputs_4 : decode cX6_nextInputs 4 = .ok (.getfield 53, 3) := by decide +kernel
theorem dX6_nextInputs_7 : decode cX6_nextInputs 7 = .ok (.if_icmp .ge 38, 3) := by decide +kernel
theorem dX6_nextInputs_10 : decode cX6_nextInputs 10 = .ok (.aload_n 0, 1) := by decide +kernel
theorem dX6_nextInputs_11 : decode cX6_nextInputs 11 = .ok (.getfield 7, 3) := by decide +kernel
theorem dX6_nextInputs_14 : decode cX6_nextInputs 14 = .ok (.iload_n 2, 1) := by decide +kernel
theorem dX6_nextInputs_15 : decode cX6_nextInputs 15 = .ok (.dup2, 1) := by decide +kernel
theorem dX6_nextInputs_16 : decode cX6_nextInputs 16 = .ok (.iaload, 1) := by decide +kernel
theorem dX6_nextInputs_17 : decode cX6_nextInputs 17 = .ok (.iconst 1, 1) := by decide +kernel
theorem dX6_nextInputs_18 : decode cX6_nextInputs 18 = .ok (.iadd, 1) := by decide +kernel
theorem dX6_nextInputs_19 : decode cX6_nextInputs 19 = .ok (.iastore, 1) := by decide +kernel
theorem dX6_nextInputs_20 : decode cX6_nextInputs 20 = .ok (.aload_n 0, 1) := by decide +kernel
theorem dX6_nextInputs_21 : decode cX6_nextInputs 21 = .ok (.getfield 7, 3) := by decide +kernel
theorem dX6_nextInputs_24 : decode cX6_nextInputs 24 = .ok (.iload_n 2, 1) := by decide +kernel
theorem dX6_nextInputs_25 : decode cX6_nextInputs 25 = .ok (.iaload, 1) := by decide +kernel
theorem dX6_nextInputs_26 : decode cX6_nextInputs 26 = .ok (.iload_n 1, 1) := by decide +kernel
theorem dX6_nextInputs_27 : decode cX6_nextInputs 27 = .ok (.if_icmp .ge 5, 3) := by decide +kernel
theorem dX6_nextInputs_30 : decode cX6_nextInputs 30 = .ok (.iconst 1, 1) := by decide +kernel
theorem dX6_nextInputs_31 : decode cX6_nextInputs 31 = .ok (.ireturn, 1) := by decide +kernel
theorem dX6_nextInputs_32 : decode cX6_nextInputs 32 = .ok (.aload_n 0, 1) := by decide +kernel
theorem dX6_nextInputs_33 : decode cX6_nextInputs 33 = .ok (.getfield 7, 3) := by decide +kernel
theorem dX6_nextInputs_36 : decode cX6_nextInputs 36 = .ok (.iload_n 2, 1) := by decide +kernel
theorem dX6_nextInputs_37 : decode cX6_nextInputs 37 = .ok (.iconst 0, 1) := by decide +kernel
theorem dX6_nextInputs_38 : decode cX6_nextInputs 38 = .ok (.iastore, 1) := by decide +kernel
theorem dX6_nextInputs_39 : decode cX6_nextInputs 39 = .ok (.iinc 2 1, 3) := by decide +kernel
theorem dX6_nextInputs_42 : decode cX6_nextInputs 42 = .ok (.goto (-40), 3) := by decide +kernel
theorem dX6_nextInputs_45 : decode cX6_nextInputs 45 = .ok (.iconst 0, 1) := by decide +kernel
theorem dX6_nextInputs_46 : decode cX6_nextInputs 46 = .ok (.ireturn, 1) := by decide +kernel
set_option maxRecDepth 20000 in
theorem ggX6_searchSet_X6_begin : GoodIn wsX6_searchSet wsX6_begin := goodIn_r _ [8, 9, 10, 11, 12, 13, 14, 1, 15, 16, 17, 18, 19, 20, 21, 7, 22, 106, 107, 108, 109, 110, 111, 112, 113, 114, 115, 116, 117, 118, 119, 120, 121, 122, 123, 124, 125, 126, 127, 128] (by decide +kernel) (by decide +kernel)
set_option maxRecDepth 20000 in
theorem gX6_searchSet_X6_begin : GoodIn wsX6_searchSet (wsV RX6 92 RX6 yX6_begin wsX6_begin) := goodIn_app (goodIn_of _ (by decide +kernel)) ggX6_searchSet_X6_begin
set_option maxRecDepth 20000 in
theorem ggX6_searchSet_X6_run : GoodIn wsX6_searchSet wsX6_run := goodIn_r _ [26, 9, 27, 28, 29, 30, 7, 31, 12, 16, 2, 11, 32, 33, 34, 35, 36, 13, 14, 37, 3, 10, 38, 39, 40, 41, 19, 20, 21, 22, 42, 43, 44, 45, 46, 47, 48, 15, 49, 50, 51, 52, 53, 54, 55, 56, 18, 17, 57, 58, 59, 60, 1, 106, 107, 108, 109, 110, 111, 112, 113, 114, 115, 116, 117, 118, 119, 120, 121, 122, 123, 124, 125, 126, 127, 128] (by decide +kernel) (by decide +kernel)
set_option maxRecDepth 20000 in
theorem gX6_searchSet_X6_run : GoodIn wsX6_searchSet (wsV RX6 158 RX6 yX6_run wsX6_run) := goodIn_app (goodIn_of _ (by decide +kernel)) ggX6_searchSet_X6_run
set_option maxRecDepth 20000 in
theorem ggX6_searchSet_X6_breachNow : GoodIn wsX6_searchSet wsX6_breachNow := goodIn_r _ [64, 16, 18, 65, 66, 67, 7, 68, 14, 13, 17, 69, 70, 71, 72, 73, 2, 27, 74, 75, 76, 77, 78, 79, 80, 81, 82, 83, 84, 85, 1, 86, 87, 88, 89, 90, 91, 92, 93, 106, 107, 108, 109, 110, 111, 112, 113, 114, 115, 116, 117, 118, 119, 120, 121, 122, 123, 124, 125, 126, 127, 128] (by decide +kernel) (by decide +kernel)
set_option maxRecDepth 20000 in
theorem gX6_searchSet_X6_breachNow : GoodIn wsX6_searchSet (wsV RX6 152 RX6 yX6_breachNow wsX6_breachNow) := goodIn_app (goodIn_of _ (by decide +kernel)) ggX6_searchSet_X6_breachNow
set_option maxRecDepth 20000 in
theorem ggX6_searchSet_X6_nextInputs : GoodIn wsX6_searchSet wsX6_nextInputs := goodIn_r _ [97, 16, 1, 106, 107, 108, 109, 110, 111, 112, 113, 114, 115, 116, 117, 118, 119, 120, 121, 122, 123, 124, 125, 126, 127, 128] (by decide +kernel) (by decide +kernel)
set_option maxRecDepth 20000 in
theorem gX6_searchSet_X6_nextInputs : GoodIn wsX6_searchSet (wsV RX6 161 RX6 yX6_nextInputs wsX6_nextInputs) := goodIn_app (goodIn_of _ (by decide +kernel)) ggX6_searchSet_X6_nextInputs
set_option maxRecDepth 20000 in
theorem ggX6_searchSet_X6_nextPlan : GoodIn wsX6_searchSet wsX6_nextPlan := goodIn_r _ [101, 16, 102, 103, 104, 7, 105, 3, 2, 27, 19, 20, 21, 22, 106, 107, 108, 109, 110, 111, 112, 113, 114, 115, 116, 117, 118, 119, 120, 121, 122, 123, 124, 125, 126, 127, 128] (by decide +kernel) (by decide +kernel)
set_option maxRecDepth 20000 in
theorem gX6_searchSet_X6_nextPlan : GoodIn wsX6_searchSet (wsV RX6 164 RX6 yX6_nextPlan wsX6_nextPlan) := goodIn_app (goodIn_of _ (by decide +kernel)) ggX6_searchSet_X6_nextPlan
theorem dX6_searchSet_0 : decode cX6_searchSet 0 = .ok (.iconst 0, 1) := by decide +kernel
theorem dX6_searchSet_1 : decode cX6_searchSet 1 = .ok (.istore_n 3, 1) := by decide +kernel
theorem dX6_searchSet_2 : decode cX6_searchSet 2 = .ok (.iload_n 3, 1) := by decide +kernel
theorem dX6_searchSet_3 : decode cX6_searchSet 3 = .ok (.bipush 8, 2) := by decide +kernel
theorem dX6_searchSet_5 : decode cX6_searchSet 5 = .ok (.if_icmp .ge 34, 3) := by decide +kernel
theorem dX6_searchSet_8 : decode cX6_searchSet 8 = .ok (.aload_n 0, 1) := by decide +kernel
theorem dX6_searchSet_9 : decode cX6_searchSet 9 = .ok (.getfield 7, 3) := by decide +kernel
theorem dX6_searchSet_12 : decode cX6_searchSet 12 = .ok (.iload_n 3, 1) := by decide +kernel
theorem dX6_searchSet_13 : decode cX6_searchSet 13 = .ok (.iconst 0, 1) := by decide +kernel
theorem dX6_searchSet_14 : decode cX6_searchSet 14 = .ok (.iastore, 1) := by decide +kernel
theorem dX6_searchSet_15 : decode cX6_searchSet 15 = .ok (.aload_n 0, 1) := by decide +kernel
theorem dX6_searchSet_16 : decode cX6_searchSet 16 = .ok (.getfield 13, 3) := by decide +kernel
theorem dX6_searchSet_19 : decode cX6_searchSet 19 = .ok (.iload_n 3, 1) := by decide +kernel
theorem dX6_searchSet_20 : decode cX6_searchSet 20 = .ok (.iload_n 1, 1) := by decide +kernel
theorem dX6_searchSet_21 : decode cX6_searchSet 21 = .ok (.iload_n 3, 1) := by decide +kernel
theorem dX6_searchSet_22 : decode cX6_searchSet 22 = .ok (.ishr, 1) := by decide +kernel
theorem dX6_searchSet_23 : decode cX6_searchSet 23 = .ok (.iconst 1, 1) := by decide +kernel
theorem dX6_searchSet_24 : decode cX6_searchSet 24 = .ok (.iand, 1) := by decide +kernel
theorem dX6_searchSet_25 : decode cX6_searchSet 25 = .ok (.iastore, 1) := by decide +kernel
theorem dX6_searchSet_26 : decode cX6_searchSet 26 = .ok (.aload_n 0, 1) := by decide +kernel
theorem dX6_searchSet_27 : decode cX6_searchSet 27 = .ok (.getfield 16, 3) := by decide +kernel
theorem dX6_searchSet_30 : decode cX6_searchSet 30 = .ok (.iload_n 3, 1) := by decide +kernel
theorem dX6_searchSet_31 : decode cX6_searchSet 31 = .ok (.iconst 0, 1) := by decide +kernel
theorem dX6_searchSet_32 : decode cX6_searchSet 32 = .ok (.iastore, 1) := by decide +kernel
theorem dX6_searchSet_33 : decode cX6_searchSet 33 = .ok (.iinc 3 1, 3) := by decide +kernel
theorem dX6_searchSet_36 : decode cX6_searchSet 36 = .ok (.goto (-34), 3) := by decide +kernel
theorem dX6_searchSet_39 : decode cX6_searchSet 39 = .ok (.iconst 1, 1) := by decide +kernel
theorem dX6_searchSet_40 : decode cX6_searchSet 40 = .ok (.istore_n 3, 1) := by decide +kernel
theorem dX6_searchSet_41 : decode cX6_searchSet 41 = .ok (.iload_n 3, 1) := by decide +kernel
theorem dX6_searchSet_42 : decode cX6_searchSet 42 = .ok (.ifCond .eq 53, 3) := by decide +kernel
theorem dX6_searchSet_45 : decode cX6_searchSet 45 = .ok (.iconst 1, 1) := by decide +kernel
theorem dX6_searchSet_46 : decode cX6_searchSet 46 = .ok (.istore 4, 2) := by decide +kernel
theorem dX6_searchSet_48 : decode cX6_searchSet 48 = .ok (.iload 4, 2) := by decide +kernel
theorem dX6_searchSet_50 : decode cX6_searchSet 50 = .ok (.ifCond .eq 36, 3) := by decide +kernel
theorem dX6_searchSet_53 : decode cX6_searchSet 53 = .ok (.aload_n 0, 1) := by decide +kernel
theorem dX6_searchSet_54 : decode cX6_searchSet 54 = .ok (.invokevirtual 92, 3) := by decide +kernel
theorem dX6_searchSet_57 : decode cX6_searchSet 57 = .ok (.aload_n 0, 1) := by decide +kernel
theorem dX6_searchSet_58 : decode cX6_searchSet 58 = .ok (.invokevirtual 158, 3) := by decide +kernel
theorem dX6_searchSet_61 : decode cX6_searchSet 61 = .ok (.pop, 1) := by decide +kernel
theorem dX6_searchSet_62 : decode cX6_searchSet 62 = .ok (.aload_n 0, 1) := by decide +kernel
theorem dX6_searchSet_63 : decode cX6_searchSet 63 = .ok (.invokevirtual 152, 3) := by decide +kernel
theorem dX6_searchSet_66 : decode cX6_searchSet 66 = .ok (.istore 5, 2) := by decide +kernel
theorem dX6_searchSet_68 : decode cX6_searchSet 68 = .ok (.iload 5, 2) := by decide +kernel
theorem dX6_searchSet_70 : decode cX6_searchSet 70 = .ok (.ifCond .le 6, 3) := by decide +kernel
theorem dX6_searchSet_73 : decode cX6_searchSet 73 = .ok (.iload 5, 2) := by decide +kernel
theorem dX6_searchSet_75 : decode cX6_searchSet 75 = .ok (.ireturn, 1) := by decide +kernel
theorem dX6_searchSet_76 : decode cX6_searchSet 76 = .ok (.aload_n 0, 1) := by decide +kernel
theorem dX6_searchSet_77 : decode cX6_searchSet 77 = .ok (.iload_n 2, 1) := by decide +kernel
theorem dX6_searchSet_78 : decode cX6_searchSet 78 = .ok (.invokevirtual 161, 3) := by decide +kernel
theorem dX6_searchSet_81 : decode cX6_searchSet 81 = .ok (.istore 4, 2) := by decide +kernel
theorem dX6_searchSet_83 : decode cX6_searchSet 83 = .ok (.goto (-35), 3) := by decide +kernel
theorem dX6_searchSet_86 : decode cX6_searchSet 86 = .ok (.aload_n 0, 1) := by decide +kernel
theorem dX6_searchSet_87 : decode cX6_searchSet 87 = .ok (.iload_n 1, 1) := by decide +kernel
theorem dX6_searchSet_88 : decode cX6_searchSet 88 = .ok (.invokevirtual 164, 3) := by decide +kernel
theorem dX6_searchSet_91 : decode cX6_searchSet 91 = .ok (.istore_n 3, 1) := by decide +kernel
theorem dX6_searchSet_92 : decode cX6_searchSet 92 = .ok (.goto (-51), 3) := by decide +kernel
theorem dX6_searchSet_95 : decode cX6_searchSet 95 = .ok (.iconst 0, 1) := by decide +kernel
theorem dX6_searchSet_96 : decode cX6_searchSet 96 = .ok (.ireturn, 1) := by decide +kernel
set_option maxRecDepth 20000 in
theorem ggX6_search_X6_isIn : GoodIn wsX6_search wsX6_isIn := goodIn_r _ [13] (by decide +kernel) (by decide +kernel)
set_option maxRecDepth 20000 in
theorem gX6_search_X6_isIn : GoodIn wsX6_search (va_wsS RX6 76 yX6_isIn wsX6_isIn) := goodIn_app (goodIn_of _ (by decide +kernel)) ggX6_search_X6_isIn
set_option maxRecDepth 20000 in
theorem ggX6_search_X6_runsOf : GoodIn wsX6_search wsX6_runsOf := goodIn_r _ [17, 18, 3, 19, 20, 21, 22, 12, 23, 24, 25, 26, 132, 133, 134, 135, 136, 137, 138, 139, 140, 141, 142, 143, 144, 145, 146, 147, 148, 149, 150, 151, 152, 153, 154] (by decide +kernel) (by decide +kernel)
set_option maxRecDepth 20000 in
theorem gX6_search_X6_runsOf : GoodIn wsX6_search (wsV RX6 167 RX6 yX6_runsOf wsX6_runsOf) := goodIn_app (goodIn_of _ (by decide +kernel)) ggX6_search_X6_runsOf
set_option maxRecDepth 20000 in
theorem ggX6_search_X6_keep : GoodIn wsX6_search wsX6_keep := goodIn_r _ [30, 31, 5, 7, 9, 32, 33, 34, 35, 36, 37, 38, 39, 132, 133, 134, 135, 136, 137, 138, 139, 140, 141, 142, 143, 144, 145, 146, 147, 148, 149, 150, 151, 152, 153, 154] (by decide +kernel) (by decide +kernel)
set_option maxRecDepth 20000 in
theorem gX6_search_X6_keep : GoodIn wsX6_search (wsV RX6 173 RX6 yX6_keep wsX6_keep) := goodIn_app (goodIn_of _ (by decide +kernel)) ggX6_search_X6_keep
set_option maxRecDepth 20000 in
theorem ggX6_search_X6_all : GoodIn wsX6_search wsX6_all := goodIn_r _ [23, 18, 132, 133, 134, 135, 136, 137, 138, 139, 140, 141, 142, 143, 144, 145, 146, 147, 148, 149, 150, 151, 152, 153, 154] (by decide +kernel) (by decide +kernel)
set_option maxRecDepth 20000 in
theorem gX6_search_X6_all : GoodIn wsX6_search (wsV RX6 63 RX6 yX6_all wsX6_all) := goodIn_app (goodIn_of _ (by decide +kernel)) ggX6_search_X6_all
set_option maxRecDepth 20000 in
theorem ggX6_search_X6_bits : GoodIn wsX6_search wsX6_bits := goodIn_r _ [26] (by decide +kernel) (by decide +kernel)
set_option maxRecDepth 20000 in
theorem gX6_search_X6_bits : GoodIn wsX6_search (va_wsS RX6 105 yX6_bits wsX6_bits) := goodIn_app (goodIn_of _ (by decide +kernel)) ggX6_search_X6_bits
set_option maxRecDepth 20000 in
theorem ggX6_search_X6_searchSet : GoodIn wsX6_search wsX6_searchSet := goodIn_r _ [43, 5, 7, 9, 44, 45, 46, 12, 47, 36, 37, 38, 39, 32, 48, 33, 18, 34, 35, 20, 21, 22, 23, 49, 50, 51, 52, 19, 53, 54, 55, 56, 57, 58, 59, 60, 61, 62, 63, 64, 65, 66, 24, 25, 26, 67, 68, 69, 70, 71, 72, 73, 74, 75, 76, 77, 78, 79, 80, 81, 82, 83, 84, 85, 86, 87, 88, 89, 90, 91, 92, 93, 94, 95, 96, 97, 98, 99, 100, 101, 102, 103, 104, 105, 106, 107, 108, 109, 110, 111, 112, 113, 114, 115, 116, 117, 118, 119, 120, 121, 122, 123, 124, 125, 126, 127, 132, 133, 134, 135, 136, 137, 138, 139, 140, 141, 142, 143, 144, 145, 146, 147, 148, 149, 150, 151, 152, 153, 154] (by decide +kernel) (by decide +kernel)
set_option maxRecDepth 20000 in
theorem gX6_search_X6_searchSet : GoodIn wsX6_search (wsV RX6 176 RX6 yX6_searchSet wsX6_searchSet) := goodIn_app (goodIn_of _ (by decide +kernel)) ggX6_search_X6_searchSet
set_option maxRecDepth 20000 in
theorem ggX6_search_X6_takeBack : GoodIn wsX6_search wsX6_takeBack := goodIn_r _ [131, 5, 31, 7, 9, 32, 33, 34, 35, 36, 37, 38, 39, 132, 133, 134, 135, 136, 137, 138, 139, 140, 141, 142, 143, 144, 145, 146, 147, 148, 149, 150, 151, 152, 153, 154] (by decide +kernel) (by decide +kernel)
set_option maxRecDepth 20000 in
theorem gX6_search_X6_takeBack : GoodIn wsX6_search (wsV RX6 179 RX6 yX6_takeBack wsX6_takeBack) := goodIn_app (goodIn_of _ (by decide +kernel)) ggX6_search_X6_takeBack
theorem dX6_search_0 : decode cX6_search 0 = .ok (.iload_n 1, 1) := by decide +kernel
theorem dX6_search_1 : decode cX6_search 1 = .ok (.iconst 1, 1) := by decide +kernel
theorem dX6_search_2 : decode cX6_search 2 = .ok (.iconst 3, 1) := by decide +kernel
theorem dX6_search_3 : decode cX6_search 3 = .ok (.invokestatic 76, 3) := by decide +kernel
theorem dX6_search_6 : decode cX6_search 6 = .ok (.ifCond .ne 5, 3) := by decide +kernel
theorem dX6_search_9 : decode cX6_search 9 = .ok (.iconst (-1), 1) := by decide +kernel
theorem dX6_search_10 : decode cX6_search 10 = .ok (.ireturn, 1) := by decide +kernel
theorem dX6_search_11 : decode cX6_search 11 = .ok (.aload_n 0, 1) := by decide +kernel
theorem dX6_search_12 : decode cX6_search 12 = .ok (.iload_n 1, 1) := by decide +kernel
theorem dX6_search_13 : decode cX6_search 13 = .ok (.invokevirtual 167, 3) := by decide +kernel
theorem dX6_search_16 : decode cX6_search 16 = .ok (.ldc2_w 171, 3) := by decide +kernel
theorem dX6_search_19 : decode cX6_search 19 = .ok (.lcmp, 1) := by decide +kernel
theorem dX6_search_20 : decode cX6_search 20 = .ok (.ifCond .le 6, 3) := by decide +kernel
theorem dX6_search_23 : decode cX6_search 23 = .ok (.bipush (-3), 2) := by decide +kernel
theorem dX6_search_25 : decode cX6_search 25 = .ok (.ireturn, 1) := by decide +kernel
theorem dX6_search_26 : decode cX6_search 26 = .ok (.aload_n 0, 1) := by decide +kernel
theorem dX6_search_27 : decode cX6_search 27 = .ok (.invokevirtual 173, 3) := by decide +kernel
theorem dX6_search_30 : decode cX6_search 30 = .ok (.aload_n 0, 1) := by decide +kernel
theorem dX6_search_31 : decode cX6_search 31 = .ok (.iconst 0, 1) := by decide +kernel
theorem dX6_search_32 : decode cX6_search 32 = .ok (.putfield 89, 3) := by decide +kernel
theorem dX6_search_35 : decode cX6_search 35 = .ok (.iconst 0, 1) := by decide +kernel
theorem dX6_search_36 : decode cX6_search 36 = .ok (.istore_n 2, 1) := by decide +kernel
theorem dX6_search_37 : decode cX6_search 37 = .ok (.iload_n 2, 1) := by decide +kernel
theorem dX6_search_38 : decode cX6_search 38 = .ok (.aload_n 0, 1) := by decide +kernel
theorem dX6_search_39 : decode cX6_search 39 = .ok (.getfield 80, 3) := by decide +kernel
theorem dX6_search_42 : decode cX6_search 42 = .ok (.if_icmp .gt 57, 3) := by decide +kernel
theorem dX6_search_45 : decode cX6_search 45 = .ok (.aload_n 0, 1) := by decide +kernel
theorem dX6_search_46 : decode cX6_search 46 = .ok (.getfield 89, 3) := by decide +kernel
theorem dX6_search_49 : decode cX6_search 49 = .ok (.ifCond .ne 50, 3) := by decide +kernel
theorem dX6_search_52 : decode cX6_search 52 = .ok (.iconst 0, 1) := by decide +kernel
theorem dX6_search_53 : decode cX6_search 53 = .ok (.istore_n 3, 1) := by decide +kernel
theorem dX6_search_54 : decode cX6_search 54 = .ok (.iload_n 3, 1) := by decide +kernel
theorem dX6_search_55 : decode cX6_search 55 = .ok (.aload_n 0, 1) := by decide +kernel
theorem dX6_search_56 : decode cX6_search 56 = .ok (.invokevirtual 63, 3) := by decide +kernel
theorem dX6_search_59 : decode cX6_search 59 = .ok (.if_icmp .gt 34, 3) := by decide +kernel
theorem dX6_search_62 : decode cX6_search 62 = .ok (.aload_n 0, 1) := by decide +kernel
theorem dX6_search_63 : decode cX6_search 63 = .ok (.getfield 89, 3) := by decide +kernel
theorem dX6_search_66 : decode cX6_search 66 = .ok (.ifCond .ne 27, 3) := by decide +kernel
theorem dX6_search_69 : decode cX6_search 69 = .ok (.iload_n 3, 1) := by decide +kernel
theorem dX6_search_70 : decode cX6_search 70 = .ok (.invokestatic 105, 3) := by decide +kernel
theorem dX6_search_73 : decode cX6_search 73 = .ok (.iload_n 2, 1) := by decide +kernel
theorem dX6_search_74 : decode cX6_search 74 = .ok (.if_icmp .ne 13, 3) := by decide +kernel
theorem dX6_search_77 : decode cX6_search 77 = .ok (.aload_n 0, 1) := by decide +kernel
theorem dX6_search_78 : decode cX6_search 78 = .ok (.aload_n 0, 1) := by decide +kernel
theorem dX6_search_79 : decode cX6_search 79 = .ok (.iload_n 3, 1) := by decide +kernel
theorem dX6_search_80 : decode cX6_search 80 = .ok (.iload_n 1, 1) := by decide +kernel
theorem dX6_search_81 : decode cX6_search 81 = .ok (.invokevirtual 176, 3) := by decide +kernel
theorem dX6_search_84 : decode cX6_search 84 = .ok (.putfield 89, 3) := by decide +kernel
theorem dX6_search_87 : decode cX6_search 87 = .ok (.iinc 3 1, 3) := by decide +kernel
theorem dX6_search_90 : decode cX6_search 90 = .ok (.goto (-36), 3) := by decide +kernel
theorem dX6_search_93 : decode cX6_search 93 = .ok (.iinc 2 1, 3) := by decide +kernel
theorem dX6_search_96 : decode cX6_search 96 = .ok (.goto (-59), 3) := by decide +kernel
theorem dX6_search_99 : decode cX6_search 99 = .ok (.iconst 0, 1) := by decide +kernel
theorem dX6_search_100 : decode cX6_search 100 = .ok (.istore_n 2, 1) := by decide +kernel
theorem dX6_search_101 : decode cX6_search 101 = .ok (.iload_n 2, 1) := by decide +kernel
theorem dX6_search_102 : decode cX6_search 102 = .ok (.bipush 8, 2) := by decide +kernel
theorem dX6_search_104 : decode cX6_search 104 = .ok (.if_icmp .ge 45, 3) := by decide +kernel
theorem dX6_search_107 : decode cX6_search 107 = .ok (.aload_n 0, 1) := by decide +kernel
theorem dX6_search_108 : decode cX6_search 108 = .ok (.getfield 40, 3) := by decide +kernel
theorem dX6_search_111 : decode cX6_search 111 = .ok (.iload_n 2, 1) := by decide +kernel
theorem dX6_search_112 : decode cX6_search 112 = .ok (.aload_n 0, 1) := by decide +kernel
theorem dX6_search_113 : decode cX6_search 113 = .ok (.getfield 7, 3) := by decide +kernel
theorem dX6_search_116 : decode cX6_search 116 = .ok (.iload_n 2, 1) := by decide +kernel
theorem dX6_search_117 : decode cX6_search 117 = .ok (.iaload, 1) := by decide +kernel
theorem dX6_search_118 : decode cX6_search 118 = .ok (.iastore, 1) := by decide +kernel
theorem dX6_search_119 : decode cX6_search 119 = .ok (.aload_n 0, 1) := by decide +kernel
theorem dX6_search_120 : decode cX6_search 120 = .ok (.getfield 43, 3) := by decide +kernel
theorem dX6_search_123 : decode cX6_search 123 = .ok (.iload_n 2, 1) := by decide +kernel
theorem dX6_search_124 : decode cX6_search 124 = .ok (.aload_n 0, 1) := by decide +kernel
theorem dX6_search_125 : decode cX6_search 125 = .ok (.getfield 13, 3) := by decide +kernel
theorem dX6_search_128 : decode cX6_search 128 = .ok (.iload_n 2, 1) := by decide +kernel
theorem dX6_search_129 : decode cX6_search 129 = .ok (.iaload, 1) := by decide +kernel
theorem dX6_search_130 : decode cX6_search 130 = .ok (.iastore, 1) := by decide +kernel
theorem dX6_search_131 : decode cX6_search 131 = .ok (.aload_n 0, 1) := by decide +kernel
theorem dX6_search_132 : decode cX6_search 132 = .ok (.getfield 46, 3) := by decide +kernel
theorem dX6_search_135 : decode cX6_search 135 = .ok (.iload_n 2, 1) := by decide +kernel
theorem dX6_search_136 : decode cX6_search 136 = .ok (.aload_n 0, 1) := by decide +kernel
theorem dX6_search_137 : decode cX6_search 137 = .ok (.getfield 16, 3) := by decide +kernel
theorem dX6_search_140 : decode cX6_search 140 = .ok (.iload_n 2, 1) := by decide +kernel
theorem dX6_search_141 : decode cX6_search 141 = .ok (.iaload, 1) := by decide +kernel
theorem dX6_search_142 : decode cX6_search 142 = .ok (.iastore, 1) := by decide +kernel
theorem dX6_search_143 : decode cX6_search 143 = .ok (.iinc 2 1, 3) := by decide +kernel
theorem dX6_search_146 : decode cX6_search 146 = .ok (.goto (-45), 3) := by decide +kernel
theorem dX6_search_149 : decode cX6_search 149 = .ok (.aload_n 0, 1) := by decide +kernel
theorem dX6_search_150 : decode cX6_search 150 = .ok (.invokevirtual 179, 3) := by decide +kernel
theorem dX6_search_153 : decode cX6_search 153 = .ok (.aload_n 0, 1) := by decide +kernel
theorem dX6_search_154 : decode cX6_search 154 = .ok (.getfield 89, 3) := by decide +kernel
theorem dX6_search_157 : decode cX6_search 157 = .ok (.ireturn, 1) := by decide +kernel
theorem dX6_foundCrash_0 : decode cX6_foundCrash 0 = .ok (.iconst 0, 1) := by decide +kernel
theorem dX6_foundCrash_1 : decode cX6_foundCrash 1 = .ok (.istore_n 2, 1) := by decide +kernel
theorem dX6_foundCrash_2 : decode cX6_foundCrash 2 = .ok (.iconst 0, 1) := by decide +kernel
theorem dX6_foundCrash_3 : decode cX6_foundCrash 3 = .ok (.istore_n 3, 1) := by decide +kernel
theorem dX6_foundCrash_4 : decode cX6_foundCrash 4 = .ok (.iload_n 3, 1) := by decide +kernel
theorem dX6_foundCrash_5 : decode cX6_foundCrash 5 = .ok (.aload_n 0, 1) := by decide +kernel
theorem dX6_foundCrash_6 : decode cX6_foundCrash 6 = .ok (.getfield 53, 3) := by decide +kernel
theorem dX6_foundCrash_9 : decode cX6_foundCrash 9 = .ok (.if_icmp .ge 28, 3) := by decide +kernel
theorem dX6_foundCrash_12 : decode cX6_foundCrash 12 = .ok (.aload_n 0, 1) := by decide +kernel
theorem dX6_foundCrash_13 : decode cX6_foundCrash 13 = .ok (.getfield 43, 3) := by decide +kernel
theorem dX6_foundCrash_16 : decode cX6_foundCrash 16 = .ok (.iload_n 3, 1) := by decide +kernel
theorem dX6_foundCrash_17 : decode cX6_foundCrash 17 = .ok (.iaload, 1) := by decide +kernel
theorem dX6_foundCrash_18 : decode cX6_foundCrash 18 = .ok (.ifCond .le 13, 3) := by decide +kernel
theorem dX6_foundCrash_21 : decode cX6_foundCrash 21 = .ok (.iload_n 2, 1) := by decide +kernel
theorem dX6_foundCrash_22 : decode cX6_foundCrash 22 = .ok (.iload_n 1, 1) := by decide +kernel
theorem dX6_foundCrash_23 : decode cX6_foundCrash 23 = .ok (.if_icmp .ne 5, 3) := by decide +kernel
theorem dX6_foundCrash_26 : decode cX6_foundCrash 26 = .ok (.iload_n 3, 1) := by decide +kernel
theorem dX6_foundCrash_27 : decode cX6_foundCrash 27 = .ok (.ireturn, 1) := by decide +kernel
theorem dX6_foundCrash_28 : decode cX6_foundCrash 28 = .ok (.iinc 2 1, 3) := by decide +kernel
theorem dX6_foundCrash_31 : decode cX6_foundCrash 31 = .ok (.iinc 3 1, 3) := by decide +kernel
theorem dX6_foundCrash_34 : decode cX6_foundCrash 34 = .ok (.goto (-30), 3) := by decide +kernel
theorem dX6_foundCrash_37 : decode cX6_foundCrash 37 = .ok (.iconst (-1), 1) := by decide +kernel
theorem dX6_foundCrash_38 : decode cX6_foundCrash 38 = .ok (.ireturn, 1) := by decide +kernel
set_option maxRecDepth 20000 in
theorem ggX6_found_X6_foundCrash : GoodIn wsX6_found wsX6_foundCrash := goodIn_r _ [10, 2, 3, 15, 16, 17, 18, 19, 20, 21, 22, 23, 24, 25, 26, 27, 28, 29, 30, 31, 32, 33, 34, 35, 36, 37] (by decide +kernel) (by decide +kernel)
set_option maxRecDepth 20000 in
theorem gX6_found_X6_foundCrash : GoodIn wsX6_found (wsV RX6 182 RX6 yX6_foundCrash wsX6_foundCrash) := goodIn_app (goodIn_of _ (by decide +kernel)) ggX6_found_X6_foundCrash
set_option maxRecDepth 20000 in
theorem ggX6_found_X6_isProcess : GoodIn wsX6_found wsX6_isProcess := goodIn_r _ [14, 2, 15, 16, 17, 18, 19, 20, 21, 22, 23, 24, 25, 26, 27, 28, 29, 30, 31, 32, 33, 34, 35, 36, 37] (by decide +kernel) (by decide +kernel)
set_option maxRecDepth 20000 in
theorem gX6_found_X6_isProcess : GoodIn wsX6_found (wsV RX6 95 RX6 yX6_isProcess wsX6_isProcess) := goodIn_app (goodIn_of _ (by decide +kernel)) ggX6_found_X6_isProcess
theorem dX6_found_0 : decode cX6_found 0 = .ok (.aload_n 0, 1) := by decide +kernel
theorem dX6_found_1 : decode cX6_found 1 = .ok (.getfield 89, 3) := by decide +kernel
theorem dX6_found_4 : decode cX6_found 4 = .ok (.ifCond .ne 5, 3) := by decide +kernel
theorem dX6_found_7 : decode cX6_found 7 = .ok (.iconst (-1), 1) := by decide +kernel
theorem dX6_found_8 : decode cX6_found 8 = .ok (.ireturn, 1) := by decide +kernel
theorem dX6_found_9 : decode cX6_found 9 = .ok (.aload_n 0, 1) := by decide +kernel
theorem dX6_found_10 : decode cX6_found 10 = .ok (.iload_n 2, 1) := by decide +kernel
theorem dX6_found_11 : decode cX6_found 11 = .ok (.invokevirtual 182, 3) := by decide +kernel
theorem dX6_found_14 : decode cX6_found 14 = .ok (.istore_n 3, 1) := by decide +kernel
theorem dX6_found_15 : decode cX6_found 15 = .ok (.iload_n 1, 1) := by decide +kernel
theorem dX6_found_16 : decode cX6_found 16 = .ok (.tableswitch 140 0 5 #[40, 45, 89, 91, 106, 121], 40) := by decide +kernel
theorem dX6_found_56 : decode cX6_found 56 = .ok (.aload_n 0, 1) := by decide +kernel
theorem dX6_found_57 : decode cX6_found 57 = .ok (.getfield 89, 3) := by decide +kernel
theorem dX6_found_60 : decode cX6_found 60 = .ok (.ireturn, 1) := by decide +kernel
theorem dX6_found_61 : decode cX6_found 61 = .ok (.iconst 0, 1) := by decide +kernel
theorem dX6_found_62 : decode cX6_found 62 = .ok (.istore 4, 2) := by decide +kernel
theorem dX6_found_64 : decode cX6_found 64 = .ok (.iconst 0, 1) := by decide +kernel
theorem dX6_found_65 : decode cX6_found 65 = .ok (.istore 5, 2) := by decide +kernel
theorem dX6_found_67 : decode cX6_found 67 = .ok (.iload 5, 2) := by decide +kernel
theorem dX6_found_69 : decode cX6_found 69 = .ok (.aload_n 0, 1) := by decide +kernel
theorem dX6_found_70 : decode cX6_found 70 = .ok (.getfield 53, 3) := by decide +kernel
theorem dX6_found_73 : decode cX6_found 73 = .ok (.if_icmp .ge 29, 3) := by decide +kernel
theorem dX6_found_76 : decode cX6_found 76 = .ok (.iload 4, 2) := by decide +kernel
theorem dX6_found_78 : decode cX6_found 78 = .ok (.aload_n 0, 1) := by decide +kernel
theorem dX6_found_79 : decode cX6_found 79 = .ok (.getfield 43, 3) := by decide +kernel
theorem dX6_found_82 : decode cX6_found 82 = .ok (.iload 5, 2) := by decide +kernel
theorem dX6_found_84 : decode cX6_found 84 = .ok (.iaload, 1) := by decide +kernel
theorem dX6_found_85 : decode cX6_found 85 = .ok (.ifCond .le 7, 3) := by decide +kernel
theorem dX6_found_88 : decode cX6_found 88 = .ok (.iconst 1, 1) := by decide +kernel
theorem dX6_found_89 : decode cX6_found 89 = .ok (.goto 4, 3) := by decide +kernel
theorem dX6_found_92 : decode cX6_found 92 = .ok (.iconst 0, 1) := by decide +kernel
theorem dX6_found_93 : decode cX6_found 93 = .ok (.iadd, 1) := by decide +kernel
theorem dX6_found_94 : decode cX6_found 94 = .ok (.istore 4, 2) := by decide +kernel
theorem dX6_found_96 : decode cX6_found 96 = .ok (.iinc 5 1, 3) := by decide +kernel
theorem dX6_found_99 : decode cX6_found 99 = .ok (.goto (-32), 3) := by decide +kernel
theorem dX6_found_102 : decode cX6_found 102 = .ok (.iload 4, 2) := by decide +kernel
theorem dX6_found_104 : decode cX6_found 104 = .ok (.ireturn, 1) := by decide +kernel
theorem dX6_found_105 : decode cX6_found 105 = .ok (.iload_n 3, 1) := by decide +kernel
theorem dX6_found_106 : decode cX6_found 106 = .ok (.ireturn, 1) := by decide +kernel
theorem dX6_found_107 : decode cX6_found 107 = .ok (.iload_n 3, 1) := by decide +kernel
theorem dX6_found_108 : decode cX6_found 108 = .ok (.ifCond .ge 7, 3) := by decide +kernel
theorem dX6_found_111 : decode cX6_found 111 = .ok (.iconst (-1), 1) := by decide +kernel
theorem dX6_found_112 : decode cX6_found 112 = .ok (.goto 9, 3) := by decide +kernel
theorem dX6_found_115 : decode cX6_found 115 = .ok (.aload_n 0, 1) := by decide +kernel
theorem dX6_found_116 : decode cX6_found 116 = .ok (.getfield 43, 3) := by decide +kernel
theorem dX6_found_119 : decode cX6_found 119 = .ok (.iload_n 3, 1) := by decide +kernel
theorem dX6_found_120 : decode cX6_found 120 = .ok (.iaload, 1) := by decide +kernel
theorem dX6_found_121 : decode cX6_found 121 = .ok (.ireturn, 1) := by decide +kernel
theorem dX6_found_122 : decode cX6_found 122 = .ok (.iload_n 3, 1) := by decide +kernel
theorem dX6_found_123 : decode cX6_found 123 = .ok (.ifCond .ge 7, 3) := by decide +kernel
theorem dX6_found_126 : decode cX6_found 126 = .ok (.iconst (-1), 1) := by decide +kernel
theorem dX6_found_127 : decode cX6_found 127 = .ok (.goto 9, 3) := by decide +kernel
theorem dX6_found_130 : decode cX6_found 130 = .ok (.aload_n 0, 1) := by decide +kernel
theorem dX6_found_131 : decode cX6_found 131 = .ok (.getfield 46, 3) := by decide +kernel
theorem dX6_found_134 : decode cX6_found 134 = .ok (.iload_n 3, 1) := by decide +kernel
theorem dX6_found_135 : decode cX6_found 135 = .ok (.iaload, 1) := by decide +kernel
theorem dX6_found_136 : decode cX6_found 136 = .ok (.ireturn, 1) := by decide +kernel
theorem dX6_found_137 : decode cX6_found 137 = .ok (.aload_n 0, 1) := by decide +kernel
theorem dX6_found_138 : decode cX6_found 138 = .ok (.iload_n 2, 1) := by decide +kernel
theorem dX6_found_139 : decode cX6_found 139 = .ok (.invokevirtual 95, 3) := by decide +kernel
theorem dX6_found_142 : decode cX6_found 142 = .ok (.ifCond .eq 12, 3) := by decide +kernel
theorem dX6_found_145 : decode cX6_found 145 = .ok (.aload_n 0, 1) := by decide +kernel
theorem dX6_found_146 : decode cX6_found 146 = .ok (.getfield 40, 3) := by decide +kernel
theorem dX6_found_149 : decode cX6_found 149 = .ok (.iload_n 2, 1) := by decide +kernel
theorem dX6_found_150 : decode cX6_found 150 = .ok (.iaload, 1) := by decide +kernel
theorem dX6_found_151 : decode cX6_found 151 = .ok (.goto 4, 3) := by decide +kernel
theorem dX6_found_154 : decode cX6_found 154 = .ok (.iconst (-1), 1) := by decide +kernel
theorem dX6_found_155 : decode cX6_found 155 = .ok (.ireturn, 1) := by decide +kernel
theorem dX6_found_156 : decode cX6_found 156 = .ok (.iconst (-1), 1) := by decide +kernel
theorem dX6_found_157 : decode cX6_found 157 = .ok (.ireturn, 1) := by decide +kernel
set_option maxRecDepth 20000 in
theorem ggX6_replay_X6_begin : GoodIn wsX6_replay wsX6_begin := goodIn_r _ [12, 13, 14, 15, 16, 17, 18, 2, 19, 20, 21, 22, 23, 24, 25, 11, 26, 27, 28, 29, 30, 31, 32, 33, 34, 35, 36, 37, 38, 39, 40, 41, 42, 43, 44, 45, 46, 47, 48, 49] (by decide +kernel) (by decide +kernel)
set_option maxRecDepth 20000 in
theorem gX6_replay_X6_begin : GoodIn wsX6_replay (wsV RX6 92 RX6 yX6_begin wsX6_begin) := goodIn_app (goodIn_of _ (by decide +kernel)) ggX6_replay_X6_begin
theorem dX6_replay_0 : decode cX6_replay 0 = .ok (.aload_n 0, 1) := by decide +kernel
theorem dX6_replay_1 : decode cX6_replay 1 = .ok (.getfield 89, 3) := by decide +kernel
theorem dX6_replay_4 : decode cX6_replay 4 = .ok (.ifCond .ne 5, 3) := by decide +kernel
theorem dX6_replay_7 : decode cX6_replay 7 = .ok (.iconst (-1), 1) := by decide +kernel
theorem dX6_replay_8 : decode cX6_replay 8 = .ok (.ireturn, 1) := by decide +kernel
theorem dX6_replay_9 : decode cX6_replay 9 = .ok (.iconst 0, 1) := by decide +kernel
theorem dX6_replay_10 : decode cX6_replay 10 = .ok (.istore_n 1, 1) := by decide +kernel
theorem dX6_replay_11 : decode cX6_replay 11 = .ok (.iload_n 1, 1) := by decide +kernel
theorem dX6_replay_12 : decode cX6_replay 12 = .ok (.bipush 8, 2) := by decide +kernel
theorem dX6_replay_14 : decode cX6_replay 14 = .ok (.if_icmp .ge 45, 3) := by decide +kernel
theorem dX6_replay_17 : decode cX6_replay 17 = .ok (.aload_n 0, 1) := by decide +kernel
theorem dX6_replay_18 : decode cX6_replay 18 = .ok (.getfield 7, 3) := by decide +kernel
theorem dX6_replay_21 : decode cX6_replay 21 = .ok (.iload_n 1, 1) := by decide +kernel
theorem dX6_replay_22 : decode cX6_replay 22 = .ok (.aload_n 0, 1) := by decide +kernel
theorem dX6_replay_23 : decode cX6_replay 23 = .ok (.getfield 40, 3) := by decide +kernel
theorem dX6_replay_26 : decode cX6_replay 26 = .ok (.iload_n 1, 1) := by decide +kernel
theorem dX6_replay_27 : decode cX6_replay 27 = .ok (.iaload, 1) := by decide +kernel
theorem dX6_replay_28 : decode cX6_replay 28 = .ok (.iastore, 1) := by decide +kernel
theorem dX6_replay_29 : decode cX6_replay 29 = .ok (.aload_n 0, 1) := by decide +kernel
theorem dX6_replay_30 : decode cX6_replay 30 = .ok (.getfield 13, 3) := by decide +kernel
theorem dX6_replay_33 : decode cX6_replay 33 = .ok (.iload_n 1, 1) := by decide +kernel
theorem dX6_replay_34 : decode cX6_replay 34 = .ok (.aload_n 0, 1) := by decide +kernel
theorem dX6_replay_35 : decode cX6_replay 35 = .ok (.getfield 43, 3) := by decide +kernel
theorem dX6_replay_38 : decode cX6_replay 38 = .ok (.iload_n 1, 1) := by decide +kernel
theorem dX6_replay_39 : decode cX6_replay 39 = .ok (.iaload, 1) := by decide +kernel
theorem dX6_replay_40 : decode cX6_replay 40 = .ok (.iastore, 1) := by decide +kernel
theorem dX6_replay_41 : decode cX6_replay 41 = .ok (.aload_n 0, 1) := by decide +kernel
theorem dX6_replay_42 : decode cX6_replay 42 = .ok (.getfield 16, 3) := by decide +kernel
theorem dX6_replay_45 : decode cX6_replay 45 = .ok (.iload_n 1, 1) := by decide +kernel
theorem dX6_replay_46 : decode cX6_replay 46 = .ok (.aload_n 0, 1) := by decide +kernel
theorem dX6_replay_47 : decode cX6_replay 47 = .ok (.getfield 46, 3) := by decide +kernel
theorem dX6_replay_50 : decode cX6_replay 50 = .ok (.iload_n 1, 1) := by decide +kernel
theorem dX6_replay_51 : decode cX6_replay 51 = .ok (.iaload, 1) := by decide +kernel
theorem dX6_replay_52 : decode cX6_replay 52 = .ok (.iastore, 1) := by decide +kernel
theorem dX6_replay_53 : decode cX6_replay 53 = .ok (.iinc 1 1, 3) := by decide +kernel
theorem dX6_replay_56 : decode cX6_replay 56 = .ok (.goto (-45), 3) := by decide +kernel
theorem dX6_replay_59 : decode cX6_replay 59 = .ok (.aload_n 0, 1) := by decide +kernel
theorem dX6_replay_60 : decode cX6_replay 60 = .ok (.invokevirtual 92, 3) := by decide +kernel
theorem dX6_replay_63 : decode cX6_replay 63 = .ok (.aload_n 0, 1) := by decide +kernel
theorem dX6_replay_64 : decode cX6_replay 64 = .ok (.getfield 89, 3) := by decide +kernel
theorem dX6_replay_67 : decode cX6_replay 67 = .ok (.ireturn, 1) := by decide +kernel
theorem dJ6_bitCount_0f7a4_0 : decode cJ6_bitCount_0f7a4 0 = .ok (.iload_n 0, 1) := by decide +kernel
theorem dJ6_bitCount_0f7a4_1 : decode cJ6_bitCount_0f7a4 1 = .ok (.iload_n 0, 1) := by decide +kernel
theorem dJ6_bitCount_0f7a4_2 : decode cJ6_bitCount_0f7a4 2 = .ok (.iconst 1, 1) := by decide +kernel
theorem dJ6_bitCount_0f7a4_3 : decode cJ6_bitCount_0f7a4 3 = .ok (.iushr, 1) := by decide +kernel
theorem dJ6_bitCount_0f7a4_4 : decode cJ6_bitCount_0f7a4 4 = .ok (.ldc_w 265, 3) := by decide +kernel
theorem dJ6_bitCount_0f7a4_7 : decode cJ6_bitCount_0f7a4 7 = .ok (.iand, 1) := by decide +kernel
theorem dJ6_bitCount_0f7a4_8 : decode cJ6_bitCount_0f7a4 8 = .ok (.isub, 1) := by decide +kernel
theorem dJ6_bitCount_0f7a4_9 : decode cJ6_bitCount_0f7a4 9 = .ok (.istore_n 0, 1) := by decide +kernel
theorem dJ6_bitCount_0f7a4_10 : decode cJ6_bitCount_0f7a4 10 = .ok (.iload_n 0, 1) := by decide +kernel
theorem dJ6_bitCount_0f7a4_11 : decode cJ6_bitCount_0f7a4 11 = .ok (.ldc_w 266, 3) := by decide +kernel
theorem dJ6_bitCount_0f7a4_14 : decode cJ6_bitCount_0f7a4 14 = .ok (.iand, 1) := by decide +kernel
theorem dJ6_bitCount_0f7a4_15 : decode cJ6_bitCount_0f7a4 15 = .ok (.iload_n 0, 1) := by decide +kernel
theorem dJ6_bitCount_0f7a4_16 : decode cJ6_bitCount_0f7a4 16 = .ok (.iconst 2, 1) := by decide +kernel
theorem dJ6_bitCount_0f7a4_17 : decode cJ6_bitCount_0f7a4 17 = .ok (.iushr, 1) := by decide +kernel
theorem dJ6_bitCount_0f7a4_18 : decode cJ6_bitCount_0f7a4 18 = .ok (.ldc_w 266, 3) := by decide +kernel
theorem dJ6_bitCount_0f7a4_21 : decode cJ6_bitCount_0f7a4 21 = .ok (.iand, 1) := by decide +kernel
theorem dJ6_bitCount_0f7a4_22 : decode cJ6_bitCount_0f7a4 22 = .ok (.iadd, 1) := by decide +kernel
theorem dJ6_bitCount_0f7a4_23 : decode cJ6_bitCount_0f7a4 23 = .ok (.istore_n 0, 1) := by decide +kernel
theorem dJ6_bitCount_0f7a4_24 : decode cJ6_bitCount_0f7a4 24 = .ok (.iload_n 0, 1) := by decide +kernel
theorem dJ6_bitCount_0f7a4_25 : decode cJ6_bitCount_0f7a4 25 = .ok (.iload_n 0, 1) := by decide +kernel
theorem dJ6_bitCount_0f7a4_26 : decode cJ6_bitCount_0f7a4 26 = .ok (.iconst 4, 1) := by decide +kernel
theorem dJ6_bitCount_0f7a4_27 : decode cJ6_bitCount_0f7a4 27 = .ok (.iushr, 1) := by decide +kernel
theorem dJ6_bitCount_0f7a4_28 : decode cJ6_bitCount_0f7a4 28 = .ok (.iadd, 1) := by decide +kernel
theorem dJ6_bitCount_0f7a4_29 : decode cJ6_bitCount_0f7a4 29 = .ok (.ldc_w 267, 3) := by decide +kernel
theorem dJ6_bitCount_0f7a4_32 : decode cJ6_bitCount_0f7a4 32 = .ok (.iand, 1) := by decide +kernel
theorem dJ6_bitCount_0f7a4_33 : decode cJ6_bitCount_0f7a4 33 = .ok (.istore_n 0, 1) := by decide +kernel
theorem dJ6_bitCount_0f7a4_34 : decode cJ6_bitCount_0f7a4 34 = .ok (.iload_n 0, 1) := by decide +kernel
theorem dJ6_bitCount_0f7a4_35 : decode cJ6_bitCount_0f7a4 35 = .ok (.iload_n 0, 1) := by decide +kernel
theorem dJ6_bitCount_0f7a4_36 : decode cJ6_bitCount_0f7a4 36 = .ok (.bipush 8, 2) := by decide +kernel
theorem dJ6_bitCount_0f7a4_38 : decode cJ6_bitCount_0f7a4 38 = .ok (.iushr, 1) := by decide +kernel
theorem dJ6_bitCount_0f7a4_39 : decode cJ6_bitCount_0f7a4 39 = .ok (.iadd, 1) := by decide +kernel
theorem dJ6_bitCount_0f7a4_40 : decode cJ6_bitCount_0f7a4 40 = .ok (.istore_n 0, 1) := by decide +kernel
theorem dJ6_bitCount_0f7a4_41 : decode cJ6_bitCount_0f7a4 41 = .ok (.iload_n 0, 1) := by decide +kernel
theorem dJ6_bitCount_0f7a4_42 : decode cJ6_bitCount_0f7a4 42 = .ok (.iload_n 0, 1) := by decide +kernel
theorem dJ6_bitCount_0f7a4_43 : decode cJ6_bitCount_0f7a4 43 = .ok (.bipush 16, 2) := by decide +kernel
theorem dJ6_bitCount_0f7a4_45 : decode cJ6_bitCount_0f7a4 45 = .ok (.iushr, 1) := by decide +kernel
theorem dJ6_bitCount_0f7a4_46 : decode cJ6_bitCount_0f7a4 46 = .ok (.iadd, 1) := by decide +kernel
theorem dJ6_bitCount_0f7a4_47 : decode cJ6_bitCount_0f7a4 47 = .ok (.istore_n 0, 1) := by decide +kernel
theorem dJ6_bitCount_0f7a4_48 : decode cJ6_bitCount_0f7a4 48 = .ok (.iload_n 0, 1) := by decide +kernel
theorem dJ6_bitCount_0f7a4_49 : decode cJ6_bitCount_0f7a4 49 = .ok (.bipush 63, 2) := by decide +kernel
theorem dJ6_bitCount_0f7a4_51 : decode cJ6_bitCount_0f7a4 51 = .ok (.iand, 1) := by decide +kernel
theorem dJ6_bitCount_0f7a4_52 : decode cJ6_bitCount_0f7a4 52 = .ok (.ireturn, 1) := by decide +kernel
theorem dJ9_max_7cf53_0 : decode cJ9_max_7cf53 0 = .ok (.iload_n 0, 1) := by decide +kernel
theorem dJ9_max_7cf53_1 : decode cJ9_max_7cf53 1 = .ok (.iload_n 1, 1) := by decide +kernel
theorem dJ9_max_7cf53_2 : decode cJ9_max_7cf53 2 = .ok (.if_icmp .lt 7, 3) := by decide +kernel
theorem dJ9_max_7cf53_5 : decode cJ9_max_7cf53 5 = .ok (.iload_n 0, 1) := by decide +kernel
theorem dJ9_max_7cf53_6 : decode cJ9_max_7cf53 6 = .ok (.goto 4, 3) := by decide +kernel
theorem dJ9_max_7cf53_9 : decode cJ9_max_7cf53 9 = .ok (.iload_n 1, 1) := by decide +kernel
theorem dJ9_max_7cf53_10 : decode cJ9_max_7cf53 10 = .ok (.ireturn, 1) := by decide +kernel
theorem dJ9_min_7cf53_0 : decode cJ9_min_7cf53 0 = .ok (.iload_n 0, 1) := by decide +kernel
theorem dJ9_min_7cf53_1 : decode cJ9_min_7cf53 1 = .ok (.iload_n 1, 1) := by decide +kernel
theorem dJ9_min_7cf53_2 : decode cJ9_min_7cf53 2 = .ok (.if_icmp .gt 7, 3) := by decide +kernel
theorem dJ9_min_7cf53_5 : decode cJ9_min_7cf53 5 = .ok (.iload_n 0, 1) := by decide +kernel
theorem dJ9_min_7cf53_6 : decode cJ9_min_7cf53 6 = .ok (.goto 4, 3) := by decide +kernel
theorem dJ9_min_7cf53_9 : decode cJ9_min_7cf53 9 = .ok (.iload_n 1, 1) := by decide +kernel
theorem dJ9_min_7cf53_10 : decode cJ9_min_7cf53 10 = .ok (.ireturn, 1) := by decide +kernel
theorem dJ7_fill_53178_0 : decode cJ7_fill_53178 0 = .ok (.iconst 0, 1) := by decide +kernel
theorem dJ7_fill_53178_1 : decode cJ7_fill_53178 1 = .ok (.istore_n 2, 1) := by decide +kernel
theorem dJ7_fill_53178_2 : decode cJ7_fill_53178 2 = .ok (.aload_n 0, 1) := by decide +kernel
theorem dJ7_fill_53178_3 : decode cJ7_fill_53178 3 = .ok (.arraylength, 1) := by decide +kernel
theorem dJ7_fill_53178_4 : decode cJ7_fill_53178 4 = .ok (.istore_n 3, 1) := by decide +kernel
theorem dJ7_fill_53178_5 : decode cJ7_fill_53178 5 = .ok (.iload_n 2, 1) := by decide +kernel
theorem dJ7_fill_53178_6 : decode cJ7_fill_53178 6 = .ok (.iload_n 3, 1) := by decide +kernel
theorem dJ7_fill_53178_7 : decode cJ7_fill_53178 7 = .ok (.if_icmp .ge 13, 3) := by decide +kernel
theorem dJ7_fill_53178_10 : decode cJ7_fill_53178 10 = .ok (.aload_n 0, 1) := by decide +kernel
theorem dJ7_fill_53178_11 : decode cJ7_fill_53178 11 = .ok (.iload_n 2, 1) := by decide +kernel
theorem dJ7_fill_53178_12 : decode cJ7_fill_53178 12 = .ok (.iload_n 1, 1) := by decide +kernel
theorem dJ7_fill_53178_13 : decode cJ7_fill_53178 13 = .ok (.iastore, 1) := by decide +kernel
theorem dJ7_fill_53178_14 : decode cJ7_fill_53178 14 = .ok (.iinc 2 1, 3) := by decide +kernel
theorem dJ7_fill_53178_17 : decode cJ7_fill_53178 17 = .ok (.goto (-12), 3) := by decide +kernel
theorem dJ7_fill_53178_20 : decode cJ7_fill_53178 20 = .ok (.return_, 1) := by decide +kernel
abbrev vwCl : List vw_C := [(RX0, TX0, 1), (RX1, TX1, 3), (RX2, TX2, 5), (RX3, TX3, 14), (RX4, TX4, 3), (RX5, TX5, 3), (RX6, TX6, 23)]
