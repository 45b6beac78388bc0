theorem dX9_joined_43 : decode cX9_joined 43 = .ok (.aload_n 0, 1) := by decide +kernel
theorem dX9_joined_44 : decode cX9_joined 44 = .ok (.getfield 43, 3) := by decide +kernel
theorem dX9_joined_47 : decode cX9_joined 47 = .ok (.iload 6, 2) := by decide +kernel
theorem dX9_joined_49 : decode cX9_joined 49 = .ok (.iaload, 1) := by decide +kernel
theorem dX9_joined_50 : decode cX9_joined 50 = .ok (.i2l, 1) := by decide +kernel
theorem dX9_joined_51 : decode cX9_joined 51 = .ok (.lrem, 1) := by decide +kernel
theorem dX9_joined_52 : decode cX9_joined 52 = .ok (.aload_n 0, 1) := by decide +kernel
theorem dX9_joined_53 : decode cX9_joined 53 = .ok (.getfield 46, 3) := by decide +kernel
theorem dX9_joined_56 : decode cX9_joined 56 = .ok (.iload 6, 2) := by decide +kernel
theorem dX9_joined_58 : decode cX9_joined 58 = .ok (.iaload, 1) := by decide +kernel
theorem dX9_joined_59 : decode cX9_joined 59 = .ok (.i2l, 1) := by decide +kernel
theorem dX9_joined_60 : decode cX9_joined 60 = .ok (.lcmp, 1) := by decide +kernel
theorem dX9_joined_61 : decode cX9_joined 61 = .ok (.ifCond .eq 11, 3) := by decide +kernel
theorem dX9_joined_64 : decode cX9_joined 64 = .ok (.lload_n 2, 1) := by decide +kernel
theorem dX9_joined_65 : decode cX9_joined 65 = .ok (.lload 4, 2) := by decide +kernel
theorem dX9_joined_67 : decode cX9_joined 67 = .ok (.ladd, 1) := by decide +kernel
theorem dX9_joined_68 : decode cX9_joined 68 = .ok (.lstore_n 2, 1) := by decide +kernel
theorem dX9_joined_69 : decode cX9_joined 69 = .ok (.goto (-27), 3) := by decide +kernel
theorem dX9_joined_72 : decode cX9_joined 72 = .ok (.lload 4, 2) := by decide +kernel
theorem dX9_joined_74 : decode cX9_joined 74 = .ok (.lload 4, 2) := by decide +kernel
theorem dX9_joined_76 : decode cX9_joined 76 = .ok (.aload_n 0, 1) := by decide +kernel
theorem dX9_joined_77 : decode cX9_joined 77 = .ok (.getfield 43, 3) := by decide +kernel
theorem dX9_joined_80 : decode cX9_joined 80 = .ok (.iload 6, 2) := by decide +kernel
theorem dX9_joined_82 : decode cX9_joined 82 = .ok (.iaload, 1) := by decide +kernel
theorem dX9_joined_83 : decode cX9_joined 83 = .ok (.i2l, 1) := by decide +kernel
theorem dX9_joined_84 : decode cX9_joined 84 = .ok (.invokestatic 203, 3) := by decide +kernel
theorem dX9_joined_87 : decode cX9_joined 87 = .ok (.ldiv, 1) := by decide +kernel
theorem dX9_joined_88 : decode cX9_joined 88 = .ok (.aload_n 0, 1) := by decide +kernel
theorem dX9_joined_89 : decode cX9_joined 89 = .ok (.getfield 43, 3) := by decide +kernel
theorem dX9_joined_92 : decode cX9_joined 92 = .ok (.iload 6, 2) := by decide +kernel
theorem dX9_joined_94 : decode cX9_joined 94 = .ok (.iaload, 1) := by decide +kernel
theorem dX9_joined_95 : decode cX9_joined 95 = .ok (.i2l, 1) := by decide +kernel
theorem dX9_joined_96 : decode cX9_joined 96 = .ok (.lmul, 1) := by decide +kernel
theorem dX9_joined_97 : decode cX9_joined 97 = .ok (.lstore 4, 2) := by decide +kernel
theorem dX9_joined_99 : decode cX9_joined 99 = .ok (.iinc 6 1, 3) := by decide +kernel
theorem dX9_joined_102 : decode cX9_joined 102 = .ok (.goto (-69), 3) := by decide +kernel
theorem dX9_joined_105 : decode cX9_joined 105 = .ok (.iload_n 1, 1) := by decide +kernel
theorem dX9_joined_106 : decode cX9_joined 106 = .ok (.ifCond .ne 7, 3) := by decide +kernel
theorem dX9_joined_109 : decode cX9_joined 109 = .ok (.lload_n 2, 1) := by decide +kernel
theorem dX9_joined_110 : decode cX9_joined 110 = .ok (.goto 5, 3) := by decide +kernel
theorem dX9_joined_113 : decode cX9_joined 113 = .ok (.lload 4, 2) := by decide +kernel
theorem dX9_joined_115 : decode cX9_joined 115 = .ok (.lreturn, 1) := by decide +kernel
set_option maxRecDepth 20000 in
theorem ggX9_clash_X9_clashing : GoodIn wsX9_clash wsX9_clashing := goodIn_r _ [5, 6, 7, 8, 9, 10, 4, 11, 12, 13, 14, 15, 16, 17, 18, 19, 20, 21, 22, 23, 24, 25, 26, 27, 28, 29, 30, 31, 32, 33, 34, 35, 36, 37, 38, 39, 40, 41] (by decide +kernel) (by decide +kernel)
set_option maxRecDepth 20000 in
theorem gX9_clash_X9_clashing : GoodIn wsX9_clash (wsV RX9 240 RX9 yX9_clashing wsX9_clashing) := goodIn_app (goodIn_of _ (by decide +kernel)) ggX9_clash_X9_clashing
theorem dX9_clash_0 : decode cX9_clash 0 = .ok (.aload_n 0, 1) := by decide +kernel
theorem dX9_clash_1 : decode cX9_clash 1 = .ok (.invokevirtual 240, 3) := by decide +kernel
theorem dX9_clash_4 : decode cX9_clash 4 = .ok (.ireturn, 1) := by decide +kernel
set_option maxRecDepth 20000 in
theorem ggX9_seek_X9_in : GoodIn wsX9_seek wsX9_in := goodIn_r _ [6] (by decide +kernel) (by decide +kernel)
set_option maxRecDepth 20000 in
theorem gX9_seek_X9_in : GoodIn wsX9_seek (va_wsS RX9 69 yX9_in wsX9_in) := goodIn_app (goodIn_of _ (by decide +kernel)) ggX9_seek_X9_in
theorem dX9_seek_0 : decode cX9_seek 0 = .ok (.iload_n 2, 1) := by decide +kernel
theorem dX9_seek_1 : decode cX9_seek 1 = .ok (.i2l, 1) := by decide +kernel
theorem dX9_seek_2 : decode cX9_seek 2 = .ok (.ldc2_w 155, 3) := by decide +kernel
theorem dX9_seek_5 : decode cX9_seek 5 = .ok (.ldc2_w 235, 3) := by decide +kernel
theorem dX9_seek_8 : decode cX9_seek 8 = .ok (.invokestatic 69, 3) := by decide +kernel
theorem dX9_seek_11 : decode cX9_seek 11 = .ok (.ifCond .eq 28, 3) := by decide +kernel
theorem dX9_seek_14 : decode cX9_seek 14 = .ok (.iload_n 1, 1) := by decide +kernel
theorem dX9_seek_15 : decode cX9_seek 15 = .ok (.i2l, 1) := by decide +kernel
theorem dX9_seek_16 : decode cX9_seek 16 = .ok (.lconst 1, 1) := by decide +kernel
theorem dX9_seek_17 : decode cX9_seek 17 = .ok (.iload_n 2, 1) := by decide +kernel
theorem dX9_seek_18 : decode cX9_seek 18 = .ok (.iconst 1, 1) := by decide +kernel
theorem dX9_seek_19 : decode cX9_seek 19 = .ok (.isub, 1) := by decide +kernel
theorem dX9_seek_20 : decode cX9_seek 20 = .ok (.i2l, 1) := by decide +kernel
theorem dX9_seek_21 : decode cX9_seek 21 = .ok (.invokestatic 69, 3) := by decide +kernel
theorem dX9_seek_24 : decode cX9_seek 24 = .ok (.ifCond .eq 15, 3) := by decide +kernel
theorem dX9_seek_27 : decode cX9_seek 27 = .ok (.iload_n 3, 1) := by decide +kernel
theorem dX9_seek_28 : decode cX9_seek 28 = .ok (.i2l, 1) := by decide +kernel
theorem dX9_seek_29 : decode cX9_seek 29 = .ok (.lconst 0, 1) := by decide +kernel
theorem dX9_seek_30 : decode cX9_seek 30 = .ok (.ldc2_w 155, 3) := by decide +kernel
theorem dX9_seek_33 : decode cX9_seek 33 = .ok (.invokestatic 69, 3) := by decide +kernel
theorem dX9_seek_36 : decode cX9_seek 36 = .ok (.ifCond .ne 6, 3) := by decide +kernel
theorem dX9_seek_39 : decode cX9_seek 39 = .ok (.bipush (-2), 2) := by decide +kernel
theorem dX9_seek_41 : decode cX9_seek 41 = .ok (.ireturn, 1) := by decide +kernel
theorem dX9_seek_42 : decode cX9_seek 42 = .ok (.iload_n 2, 1) := by decide +kernel
theorem dX9_seek_43 : decode cX9_seek 43 = .ok (.istore 4, 2) := by decide +kernel
theorem dX9_seek_45 : decode cX9_seek 45 = .ok (.iconst 0, 1) := by decide +kernel
theorem dX9_seek_46 : decode cX9_seek 46 = .ok (.istore 5, 2) := by decide +kernel
theorem dX9_seek_48 : decode cX9_seek 48 = .ok (.iload_n 1, 1) := by decide +kernel
theorem dX9_seek_49 : decode cX9_seek 49 = .ok (.istore 6, 2) := by decide +kernel
theorem dX9_seek_51 : decode cX9_seek 51 = .ok (.iconst 1, 1) := by decide +kernel
theorem dX9_seek_52 : decode cX9_seek 52 = .ok (.istore 7, 2) := by decide +kernel
theorem dX9_seek_54 : decode cX9_seek 54 = .ok (.iconst 0, 1) := by decide +kernel
theorem dX9_seek_55 : decode cX9_seek 55 = .ok (.istore 8, 2) := by decide +kernel
theorem dX9_seek_57 : decode cX9_seek 57 = .ok (.iload 6, 2) := by decide +kernel
theorem dX9_seek_59 : decode cX9_seek 59 = .ok (.ifCond .eq 52, 3) := by decide +kernel
theorem dX9_seek_62 : decode cX9_seek 62 = .ok (.iload 4, 2) := by decide +kernel
theorem dX9_seek_64 : decode cX9_seek 64 = .ok (.iload 6, 2) := by decide +kernel
theorem dX9_seek_66 : decode cX9_seek 66 = .ok (.idiv, 1) := by decide +kernel
theorem dX9_seek_67 : decode cX9_seek 67 = .ok (.istore 9, 2) := by decide +kernel
theorem dX9_seek_69 : decode cX9_seek 69 = .ok (.iload 4, 2) := by decide +kernel
theorem dX9_seek_71 : decode cX9_seek 71 = .ok (.iload 9, 2) := by decide +kernel
theorem dX9_seek_73 : decode cX9_seek 73 = .ok (.iload 6, 2) := by decide +kernel
theorem dX9_seek_75 : decode cX9_seek 75 = .ok (.imul, 1) := by decide +kernel
theorem dX9_seek_76 : decode cX9_seek 76 = .ok (.isub, 1) := by decide +kernel
theorem dX9_seek_77 : decode cX9_seek 77 = .ok (.istore 10, 2) := by decide +kernel
theorem dX9_seek_79 : decode cX9_seek 79 = .ok (.iload 5, 2) := by decide +kernel
theorem dX9_seek_81 : decode cX9_seek 81 = .ok (.iload 9, 2) := by decide +kernel
theorem dX9_seek_83 : decode cX9_seek 83 = .ok (.iload 7, 2) := by decide +kernel
theorem dX9_seek_85 : decode cX9_seek 85 = .ok (.imul, 1) := by decide +kernel
theorem dX9_seek_86 : decode cX9_seek 86 = .ok (.isub, 1) := by decide +kernel
theorem dX9_seek_87 : decode cX9_seek 87 = .ok (.istore 11, 2) := by decide +kernel
theorem dX9_seek_89 : decode cX9_seek 89 = .ok (.iload 6, 2) := by decide +kernel
theorem dX9_seek_91 : decode cX9_seek 91 = .ok (.istore 4, 2) := by decide +kernel
theorem dX9_seek_93 : decode cX9_seek 93 = .ok (.iload 7, 2) := by decide +kernel
theorem dX9_seek_95 : decode cX9_seek 95 = .ok (.istore 5, 2) := by decide +kernel
theorem dX9_seek_97 : decode cX9_seek 97 = .ok (.iload 10, 2) := by decide +kernel
theorem dX9_seek_99 : decode cX9_seek 99 = .ok (.istore 6, 2) := by decide +kernel
theorem dX9_seek_101 : decode cX9_seek 101 = .ok (.iload 11, 2) := by decide +kernel
theorem dX9_seek_103 : decode cX9_seek 103 = .ok (.istore 7, 2) := by decide +kernel
theorem dX9_seek_105 : decode cX9_seek 105 = .ok (.iinc 8 1, 3) := by decide +kernel
theorem dX9_seek_108 : decode cX9_seek 108 = .ok (.goto (-51), 3) := by decide +kernel
theorem dX9_seek_111 : decode cX9_seek 111 = .ok (.iload 5, 2) := by decide +kernel
theorem dX9_seek_113 : decode cX9_seek 113 = .ok (.ifCond .ge 10, 3) := by decide +kernel
theorem dX9_seek_116 : decode cX9_seek 116 = .ok (.iload 5, 2) := by decide +kernel
theorem dX9_seek_118 : decode cX9_seek 118 = .ok (.iload_n 2, 1) := by decide +kernel
theorem dX9_seek_119 : decode cX9_seek 119 = .ok (.iadd, 1) := by decide +kernel
theorem dX9_seek_120 : decode cX9_seek 120 = .ok (.goto 5, 3) := by decide +kernel
theorem dX9_seek_123 : decode cX9_seek 123 = .ok (.iload 5, 2) := by decide +kernel
theorem dX9_seek_125 : decode cX9_seek 125 = .ok (.istore 9, 2) := by decide +kernel
theorem dX9_seek_127 : decode cX9_seek 127 = .ok (.iload_n 3, 1) := by decide +kernel
theorem dX9_seek_128 : decode cX9_seek 128 = .ok (.ifCond .ne 8, 3) := by decide +kernel
theorem dX9_seek_131 : decode cX9_seek 131 = .ok (.iload 8, 2) := by decide +kernel
theorem dX9_seek_133 : decode cX9_seek 133 = .ok (.goto 26, 3) := by decide +kernel
theorem dX9_seek_136 : decode cX9_seek 136 = .ok (.iload_n 3, 1) := by decide +kernel
theorem dX9_seek_137 : decode cX9_seek 137 = .ok (.iconst 2, 1) := by decide +kernel
theorem dX9_seek_138 : decode cX9_seek 138 = .ok (.if_icmp .ne 8, 3) := by decide +kernel
theorem dX9_seek_141 : decode cX9_seek 141 = .ok (.iload 4, 2) := by decide +kernel
theorem dX9_seek_143 : decode cX9_seek 143 = .ok (.goto 16, 3) := by decide +kernel
theorem dX9_seek_146 : decode cX9_seek 146 = .ok (.iload 4, 2) := by decide +kernel
theorem dX9_seek_148 : decode cX9_seek 148 = .ok (.iconst 1, 1) := by decide +kernel
theorem dX9_seek_149 : decode cX9_seek 149 = .ok (.if_icmp .ne 8, 3) := by decide +kernel
theorem dX9_seek_152 : decode cX9_seek 152 = .ok (.iload 9, 2) := by decide +kernel
theorem dX9_seek_154 : decode cX9_seek 154 = .ok (.goto 5, 3) := by decide +kernel
theorem dX9_seek_157 : decode cX9_seek 157 = .ok (.bipush (-6), 2) := by decide +kernel
theorem dX9_seek_159 : decode cX9_seek 159 = .ok (.ireturn, 1) := by decide +kernel
set_option maxRecDepth 20000 in
theorem ggX9_isGiven_X9_in : GoodIn wsX9_isGiven wsX9_in := goodIn_r _ [5] (by decide +kernel) (by decide +kernel)
set_option maxRecDepth 20000 in
theorem gX9_isGiven_X9_in : GoodIn wsX9_isGiven (va_wsS RX9 69 yX9_in wsX9_in) := goodIn_app (goodIn_of _ (by decide +kernel)) ggX9_isGiven_X9_in
theorem dX9_isGiven_0 : decode cX9_isGiven 0 = .ok (.iload_n 0, 1) := by decide +kernel
theorem dX9_isGiven_1 : decode cX9_isGiven 1 = .ok (.i2l, 1) := by decide +kernel
theorem dX9_isGiven_2 : decode cX9_isGiven 2 = .ok (.lconst 0, 1) := by decide +kernel
theorem dX9_isGiven_3 : decode cX9_isGiven 3 = .ok (.ldc2_w 171, 3) := by decide +kernel
theorem dX9_isGiven_6 : decode cX9_isGiven 6 = .ok (.invokestatic 69, 3) := by decide +kernel
theorem dX9_isGiven_9 : decode cX9_isGiven 9 = .ok (.ireturn, 1) := by decide +kernel
set_option maxRecDepth 20000 in
theorem ggX9_problem_X9_isGiven : GoodIn wsX9_problem wsX9_isGiven := goodIn_r _ [10, 11, 12, 13, 9, 14] (by decide +kernel) (by decide +kernel)
set_option maxRecDepth 20000 in
theorem gX9_problem_X9_isGiven : GoodIn wsX9_problem (va_wsS RX9 245 yX9_isGiven wsX9_isGiven) := goodIn_app (goodIn_of _ (by decide +kernel)) ggX9_problem_X9_isGiven
set_option maxRecDepth 20000 in
theorem ggX9_problem_X9_in : GoodIn wsX9_problem wsX9_in := goodIn_r _ [14] (by decide +kernel) (by decide +kernel)
set_option maxRecDepth 20000 in
theorem gX9_problem_X9_in : GoodIn wsX9_problem (va_wsS RX9 69 yX9_in wsX9_in) := goodIn_app (goodIn_of _ (by decide +kernel)) ggX9_problem_X9_in
theorem dX9_problem_0 : decode cX9_problem 0 = .ok (.iload_n 2, 1) := by decide +kernel
theorem dX9_problem_1 : decode cX9_problem 1 = .ok (.invokestatic 245, 3) := by decide +kernel
theorem dX9_problem_4 : decode cX9_problem 4 = .ok (.ifCond .eq 30, 3) := by decide +kernel
theorem dX9_problem_7 : decode cX9_problem 7 = .ok (.iload_n 3, 1) := by decide +kernel
theorem dX9_problem_8 : decode cX9_problem 8 = .ok (.invokestatic 245, 3) := by decide +kernel
theorem dX9_problem_11 : decode cX9_problem 11 = .ok (.ifCond .eq 23, 3) := by decide +kernel
theorem dX9_problem_14 : decode cX9_problem 14 = .ok (.iload 4, 2) := by decide +kernel
theorem dX9_problem_16 : decode cX9_problem 16 = .ok (.invokestatic 245, 3) := by decide +kernel
theorem dX9_problem_19 : decode cX9_problem 19 = .ok (.ifCond .eq 15, 3) := by decide +kernel
theorem dX9_problem_22 : decode cX9_problem 22 = .ok (.iload 5, 2) := by decide +kernel
theorem dX9_problem_24 : decode cX9_problem 24 = .ok (.invokestatic 245, 3) := by decide +kernel
theorem dX9_problem_27 : decode cX9_problem 27 = .ok (.ifCond .eq 7, 3) := by decide +kernel
theorem dX9_problem_30 : decode cX9_problem 30 = .ok (.iconst 1, 1) := by decide +kernel
theorem dX9_problem_31 : decode cX9_problem 31 = .ok (.goto 4, 3) := by decide +kernel
theorem dX9_problem_34 : decode cX9_problem 34 = .ok (.iconst 0, 1) := by decide +kernel
theorem dX9_problem_35 : decode cX9_problem 35 = .ok (.istore 7, 2) := by decide +kernel
theorem dX9_problem_37 : decode cX9_problem 37 = .ok (.iload_n 1, 1) := by decide +kernel
theorem dX9_problem_38 : decode cX9_problem 38 = .ok (.i2l, 1) := by decide +kernel
theorem dX9_problem_39 : decode cX9_problem 39 = .ok (.lconst 0, 1) := by decide +kernel
theorem dX9_problem_40 : decode cX9_problem 40 = .ok (.ldc2_w 167, 3) := by decide +kernel
theorem dX9_problem_43 : decode cX9_problem 43 = .ok (.invokestatic 69, 3) := by decide +kernel
theorem dX9_problem_46 : decode cX9_problem 46 = .ok (.ifCond .eq 19, 3) := by decide +kernel
theorem dX9_problem_49 : decode cX9_problem 49 = .ok (.iload 7, 2) := by decide +kernel
theorem dX9_problem_51 : decode cX9_problem 51 = .ok (.ifCond .eq 14, 3) := by decide +kernel
theorem dX9_problem_54 : decode cX9_problem 54 = .ok (.iload 6, 2) := by decide +kernel
theorem dX9_problem_56 : decode cX9_problem 56 = .ok (.i2l, 1) := by decide +kernel
theorem dX9_problem_57 : decode cX9_problem 57 = .ok (.lconst 0, 1) := by decide +kernel
theorem dX9_problem_58 : decode cX9_problem 58 = .ok (.lconst 1, 1) := by decide +kernel
theorem dX9_problem_59 : decode cX9_problem 59 = .ok (.invokestatic 69, 3) := by decide +kernel
theorem dX9_problem_62 : decode cX9_problem 62 = .ok (.ifCond .ne 7, 3) := by decide +kernel
theorem dX9_problem_65 : decode cX9_problem 65 = .ok (.ldc2_w 230, 3) := by decide +kernel
theorem dX9_problem_68 : decode cX9_problem 68 = .ok (.lreturn, 1) := by decide +kernel
theorem dX9_problem_69 : decode cX9_problem 69 = .ok (.ldc2_w 243, 3) := by decide +kernel
theorem dX9_problem_72 : decode cX9_problem 72 = .ok (.lstore 8, 2) := by decide +kernel
theorem dX9_problem_74 : decode cX9_problem 74 = .ok (.lconst 0, 1) := by decide +kernel
theorem dX9_problem_75 : decode cX9_problem 75 = .ok (.lstore 10, 2) := by decide +kernel
theorem dX9_problem_77 : decode cX9_problem 77 = .ok (.iload_n 1, 1) := by decide +kernel
theorem dX9_problem_78 : decode cX9_problem 78 = .ok (.ifCond .ne 13, 3) := by decide +kernel
theorem dX9_problem_81 : decode cX9_problem 81 = .ok (.iload_n 2, 1) := by decide +kernel
theorem dX9_problem_82 : decode cX9_problem 82 = .ok (.i2l, 1) := by decide +kernel
theorem dX9_problem_83 : decode cX9_problem 83 = .ok (.iload_n 3, 1) := by decide +kernel
theorem dX9_problem_84 : decode cX9_problem 84 = .ok (.i2l, 1) := by decide +kernel
theorem dX9_problem_85 : decode cX9_problem 85 = .ok (.lmul, 1) := by decide +kernel
theorem dX9_problem_86 : decode cX9_problem 86 = .ok (.lstore 8, 2) := by decide +kernel
theorem dX9_problem_88 : decode cX9_problem 88 = .ok (.goto 284, 3) := by decide +kernel
theorem dX9_problem_91 : decode cX9_problem 91 = .ok (.iload_n 1, 1) := by decide +kernel
theorem dX9_problem_92 : decode cX9_problem 92 = .ok (.iconst 1, 1) := by decide +kernel
theorem dX9_problem_93 : decode cX9_problem 93 = .ok (.if_icmp .ne 22, 3) := by decide +kernel
theorem dX9_problem_96 : decode cX9_problem 96 = .ok (.iload_n 3, 1) := by decide +kernel
theorem dX9_problem_97 : decode cX9_problem 97 = .ok (.ifCond .le 18, 3) := by decide +kernel
theorem dX9_problem_100 : decode cX9_problem 100 = .ok (.iload_n 2, 1) := by decide +kernel
theorem dX9_problem_101 : decode cX9_problem 101 = .ok (.iload_n 3, 1) := by decide +kernel
theorem dX9_problem_102 : decode cX9_problem 102 = .ok (.idiv, 1) := by decide +kernel
theorem dX9_problem_103 : decode cX9_problem 103 = .ok (.i2l, 1) := by decide +kernel
theorem dX9_problem_104 : decode cX9_problem 104 = .ok (.lstore 8, 2) := by decide +kernel
theorem dX9_problem_106 : decode cX9_problem 106 = .ok (.iload_n 2, 1) := by decide +kernel
theorem dX9_problem_107 : decode cX9_problem 107 = .ok (.iload_n 3, 1) := by decide +kernel
theorem dX9_problem_108 : decode cX9_problem 108 = .ok (.irem, 1) := by decide +kernel
theorem dX9_problem_109 : decode cX9_problem 109 = .ok (.i2l, 1) := by decide +kernel
theorem dX9_problem_110 : decode cX9_problem 110 = .ok (.lstore 10, 2) := by decide +kernel
theorem dX9_problem_112 : decode cX9_problem 112 = .ok (.goto 260, 3) := by decide +kernel
theorem dX9_problem_115 : decode cX9_problem 115 = .ok (.iload_n 1, 1) := by decide +kernel
theorem dX9_problem_116 : decode cX9_problem 116 = .ok (.iconst 2, 1) := by decide +kernel
theorem dX9_problem_117 : decode cX9_problem 117 = .ok (.if_icmp .ne 43, 3) := by decide +kernel
theorem dX9_problem_120 : decode cX9_problem 120 = .ok (.lconst 0, 1) := by decide +kernel
theorem dX9_problem_121 : decode cX9_problem 121 = .ok (.lstore 8, 2) := by decide +kernel
theorem dX9_problem_123 : decode cX9_problem 123 = .ok (.lload 8, 2) := by decide +kernel
theorem dX9_problem_125 : decode cX9_problem 125 = .ok (.lconst 1, 1) := by decide +kernel
theorem dX9_problem_126 : decode cX9_problem 126 = .ok (.ladd, 1) := by decide +kernel
theorem dX9_problem_127 : decode cX9_problem 127 = .ok (.lload 8, 2) := by decide +kernel
theorem dX9_problem_129 : decode cX9_problem 129 = .ok (.lconst 1, 1) := by decide +kernel
theorem dX9_problem_130 : decode cX9_problem 130 = .ok (.ladd, 1) := by decide +kernel
theorem dX9_problem_131 : decode cX9_problem 131 = .ok (.lmul, 1) := by decide +kernel
theorem dX9_problem_132 : decode cX9_problem 132 = .ok (.iload_n 2, 1) := by decide +kernel
theorem dX9_problem_133 : decode cX9_problem 133 = .ok (.i2l, 1) := by decide +kernel
theorem dX9_problem_134 : decode cX9_problem 134 = .ok (.lcmp, 1) := by decide +kernel
theorem dX9_problem_135 : decode cX9_problem 135 = .ok (.ifCond .gt 12, 3) := by decide +kernel
theorem dX9_problem_138 : decode cX9_problem 138 = .ok (.lload 8, 2) := by decide +kernel
theorem dX9_problem_140 : decode cX9_problem 140 = .ok (.lconst 1, 1) := by decide +kernel
theorem dX9_problem_141 : decode cX9_problem 141 = .ok (.ladd, 1) := by decide +kernel
theorem dX9_problem_142 : decode cX9_problem 142 = .ok (.lstore 8, 2) := by decide +kernel
theorem dX9_problem_144 : decode cX9_problem 144 = .ok (.goto (-21), 3) := by decide +kernel
theorem dX9_problem_147 : decode cX9_problem 147 = .ok (.iload_n 2, 1) := by decide +kernel
theorem dX9_problem_148 : decode cX9_problem 148 = .ok (.i2l, 1) := by decide +kernel
theorem dX9_problem_149 : decode cX9_problem 149 = .ok (.lload 8, 2) := by decide +kernel
theorem dX9_problem_151 : decode cX9_problem 151 = .ok (.lload 8, 2) := by decide +kernel
theorem dX9_problem_153 : decode cX9_problem 153 = .ok (.lmul, 1) := by decide +kernel
theorem dX9_problem_154 : decode cX9_problem 154 = .ok (.lsub, 1) := by decide +kernel
theorem dX9_problem_155 : decode cX9_problem 155 = .ok (.lstore 10, 2) := by decide +kernel
theorem dX9_problem_157 : decode cX9_problem 157 = .ok (.goto 215, 3) := by decide +kernel
theorem dX9_problem_160 : decode cX9_problem 160 = .ok (.iload_n 1, 1) := by decide +kernel
theorem dX9_problem_161 : decode cX9_problem 161 = .ok (.iconst 3, 1) := by decide +kernel
theorem dX9_problem_162 : decode cX9_problem 162 = .ok (.if_icmp .ne 72, 3) := by decide +kernel
theorem dX9_problem_165 : decode cX9_problem 165 = .ok (.iload 4, 2) := by decide +kernel
theorem dX9_problem_167 : decode cX9_problem 167 = .ok (.iconst 2, 1) := by decide +kernel
theorem dX9_problem_168 : decode cX9_problem 168 = .ok (.if_icmp .le 66, 3) := by decide +kernel
theorem dX9_problem_171 : decode cX9_problem 171 = .ok (.iload_n 3, 1) := by decide +kernel
theorem dX9_problem_172 : decode cX9_problem 172 = .ok (.i2l, 1) := by decide +kernel
theorem dX9_problem_173 : decode cX9_problem 173 = .ok (.ldc2_w 155, 3) := by decide +kernel
theorem dX9_problem_176 : decode cX9_problem 176 = .ok (.iload_n 2, 1) := by decide +kernel
theorem dX9_problem_177 : decode cX9_problem 177 = .ok (.i2l, 1) := by decide +kernel
theorem dX9_problem_178 : decode cX9_problem 178 = .ok (.lmul, 1) := by decide +kernel
theorem dX9_problem_179 : decode cX9_problem 179 = .ok (.lsub, 1) := by decide +kernel
theorem dX9_problem_180 : decode cX9_problem 180 = .ok (.lstore 12, 2) := by decide +kernel
theorem dX9_problem_182 : decode cX9_problem 182 = .ok (.lload 12, 2) := by decide +kernel
theorem dX9_problem_184 : decode cX9_problem 184 = .ok (.iload 4, 2) := by decide +kernel
theorem dX9_problem_186 : decode cX9_problem 186 = .ok (.iconst 2, 1) := by decide +kernel
theorem dX9_problem_187 : decode cX9_problem 187 = .ok (.isub, 1) := by decide +kernel
theorem dX9_problem_188 : decode cX9_problem 188 = .ok (.i2l, 1) := by decide +kernel
theorem dX9_problem_189 : decode cX9_problem 189 = .ok (.ldiv, 1) := by decide +kernel
theorem dX9_problem_190 : decode cX9_problem 190 = .ok (.lstore 14, 2) := by decide +kernel
theorem dX9_problem_192 : decode cX9_problem 192 = .ok (.lload 12, 2) := by decide +kernel
theorem dX9_problem_194 : decode cX9_problem 194 = .ok (.lconst 0, 1) := by decide +kernel
theorem dX9_problem_195 : decode cX9_problem 195 = .ok (.lcmp, 1) := by decide +kernel
theorem dX9_problem_196 : decode cX9_problem 196 = .ok (.ifCond .lt 35, 3) := by decide +kernel
theorem dX9_problem_199 : decode cX9_problem 199 = .ok (.lload 12, 2) := by decide +kernel
theorem dX9_problem_201 : decode cX9_problem 201 = .ok (.iload 4, 2) := by decide +kernel
theorem dX9_problem_203 : decode cX9_problem 203 = .ok (.iconst 2, 1) := by decide +kernel
theorem dX9_problem_204 : decode cX9_problem 204 = .ok (.isub, 1) := by decide +kernel
theorem dX9_problem_205 : decode cX9_problem 205 = .ok (.i2l, 1) := by decide +kernel
theorem dX9_problem_206 : decode cX9_problem 206 = .ok (.lrem, 1) := by decide +kernel
theorem dX9_problem_207 : decode cX9_problem 207 = .ok (.lconst 0, 1) := by decide +kernel
theorem dX9_problem_208 : decode cX9_problem 208 = .ok (.lcmp, 1) := by decide +kernel
theorem dX9_problem_209 : decode cX9_problem 209 = .ok (.ifCond .ne 22, 3) := by decide +kernel
theorem dX9_problem_212 : decode cX9_problem 212 = .ok (.lload 14, 2) := by decide +kernel
theorem dX9_problem_214 : decode cX9_problem 214 = .ok (.iload_n 2, 1) := by decide +kernel
theorem dX9_problem_215 : decode cX9_problem 215 = .ok (.i2l, 1) := by decide +kernel
theorem dX9_problem_216 : decode cX9_problem 216 = .ok (.lcmp, 1) := by decide +kernel
theorem dX9_problem_217 : decode cX9_problem 217 = .ok (.ifCond .gt 14, 3) := by decide +kernel
theorem dX9_problem_220 : decode cX9_problem 220 = .ok (.iload_n 2, 1) := by decide +kernel
theorem dX9_problem_221 : decode cX9_problem 221 = .ok (.i2l, 1) := by decide +kernel
theorem dX9_problem_222 : decode cX9_problem 222 = .ok (.lload 14, 2) := by decide +kernel
theorem dX9_problem_224 : decode cX9_problem 224 = .ok (.lsub, 1) := by decide +kernel
theorem dX9_problem_225 : decode cX9_problem 225 = .ok (.lstore 8, 2) := by decide +kernel
theorem dX9_problem_227 : decode cX9_problem 227 = .ok (.lload 14, 2) := by decide +kernel
theorem dX9_problem_229 : decode cX9_problem 229 = .ok (.lstore 10, 2) := by decide +kernel
theorem dX9_problem_231 : decode cX9_problem 231 = .ok (.goto 141, 3) := by decide +kernel
theorem dX9_problem_234 : decode cX9_problem 234 = .ok (.iload_n 1, 1) := by decide +kernel
theorem dX9_problem_235 : decode cX9_problem 235 = .ok (.iconst 4, 1) := by decide +kernel
theorem dX9_problem_236 : decode cX9_problem 236 = .ok (.if_icmp .ne 69, 3) := by decide +kernel
theorem dX9_problem_239 : decode cX9_problem 239 = .ok (.iload_n 2, 1) := by decide +kernel
theorem dX9_problem_240 : decode cX9_problem 240 = .ok (.iconst 3, 1) := by decide +kernel
theorem dX9_problem_241 : decode cX9_problem 241 = .ok (.if_icmp .ge 64, 3) := by decide +kernel
theorem dX9_problem_244 : decode cX9_problem 244 = .ok (.iload_n 3, 1) := by decide +kernel
theorem dX9_problem_245 : decode cX9_problem 245 = .ok (.iconst 5, 1) := by decide +kernel
theorem dX9_problem_246 : decode cX9_problem 246 = .ok (.if_icmp .ge 59, 3) := by decide +kernel
theorem dX9_problem_249 : decode cX9_problem 249 = .ok (.iload 4, 2) := by decide +kernel
theorem dX9_problem_251 : decode cX9_problem 251 = .ok (.bipush 7, 2) := by decide +kernel
theorem dX9_problem_253 : decode cX9_problem 253 = .ok (.if_icmp .ge 52, 3) := by decide +kernel
theorem dX9_problem_256 : decode cX9_problem 256 = .ok (.lconst 0, 1) := by decide +kernel
theorem dX9_problem_257 : decode cX9_problem 257 = .ok (.lstore 8, 2) := by decide +kernel
theorem dX9_problem_259 : decode cX9_problem 259 = .ok (.lload 8, 2) := by decide +kernel
theorem dX9_problem_261 : decode cX9_problem 261 = .ok (.ldc2_w 157, 3) := by decide +kernel
theorem dX9_problem_264 : decode cX9_problem 264 = .ok (.lrem, 1) := by decide +kernel
theorem dX9_problem_265 : decode cX9_problem 265 = .ok (.iload_n 2, 1) := by decide +kernel
theorem dX9_problem_266 : decode cX9_problem 266 = .ok (.i2l, 1) := by decide +kernel
theorem dX9_problem_267 : decode cX9_problem 267 = .ok (.lcmp, 1) := by decide +kernel
theorem dX9_problem_268 : decode cX9_problem 268 = .ok (.ifCond .ne 28, 3) := by decide +kernel
theorem dX9_problem_271 : decode cX9_problem 271 = .ok (.lload 8, 2) := by decide +kernel
theorem dX9_problem_273 : decode cX9_problem 273 = .ok (.ldc2_w 167, 3) := by decide +kernel
theorem dX9_problem_276 : decode cX9_problem 276 = .ok (.lrem, 1) := by decide +kernel
theorem dX9_problem_277 : decode cX9_problem 277 = .ok (.iload_n 3, 1) := by decide +kernel
theorem dX9_problem_278 : decode cX9_problem 278 = .ok (.i2l, 1) := by decide +kernel
theorem dX9_problem_279 : decode cX9_problem 279 = .ok (.lcmp, 1) := by decide +kernel
theorem dX9_problem_280 : decode cX9_problem 280 = .ok (.ifCond .ne 16, 3) := by decide +kernel
theorem dX9_problem_283 : decode cX9_problem 283 = .ok (.lload 8, 2) := by decide +kernel
theorem dX9_problem_285 : decode cX9_problem 285 = .ok (.ldc2_w 67, 3) := by decide +kernel
theorem dX9_problem_288 : decode cX9_problem 288 = .ok (.lrem, 1) := by decide +kernel
theorem dX9_problem_289 : decode cX9_problem 289 = .ok (.iload 4, 2) := by decide +kernel
theorem dX9_problem_291 : decode cX9_problem 291 = .ok (.i2l, 1) := by decide +kernel
theorem dX9_problem_292 : decode cX9_problem 292 = .ok (.lcmp, 1) := by decide +kernel
theorem dX9_problem_293 : decode cX9_problem 293 = .ok (.ifCond .eq 79, 3) := by decide +kernel
theorem dX9_problem_296 : decode cX9_problem 296 = .ok (.lload 8, 2) := by decide +kernel
theorem dX9_problem_298 : decode cX9_problem 298 = .ok (.lconst 1, 1) := by decide +kernel
theorem dX9_problem_299 : decode cX9_problem 299 = .ok (.ladd, 1) := by decide +kernel
theorem dX9_problem_300 : decode cX9_problem 300 = .ok (.lstore 8, 2) := by decide +kernel
theorem dX9_problem_302 : decode cX9_problem 302 = .ok (.goto (-43), 3) := by decide +kernel
theorem dX9_problem_305 : decode cX9_problem 305 = .ok (.iload_n 1, 1) := by decide +kernel
theorem dX9_problem_306 : decode cX9_problem 306 = .ok (.iconst 5, 1) := by decide +kernel
theorem dX9_problem_307 : decode cX9_problem 307 = .ok (.if_icmp .ne 65, 3) := by decide +kernel
theorem dX9_problem_310 : decode cX9_problem 310 = .ok (.iload_n 2, 1) := by decide +kernel
theorem dX9_problem_311 : decode cX9_problem 311 = .ok (.iload 4, 2) := by decide +kernel
theorem dX9_problem_313 : decode cX9_problem 313 = .ok (.if_icmp .le 59, 3) := by decide +kernel
theorem dX9_problem_316 : decode cX9_problem 316 = .ok (.iload_n 3, 1) := by decide +kernel
theorem dX9_problem_317 : decode cX9_problem 317 = .ok (.i2l, 1) := by decide +kernel
theorem dX9_problem_318 : decode cX9_problem 318 = .ok (.iload 5, 2) := by decide +kernel
theorem dX9_problem_320 : decode cX9_problem 320 = .ok (.i2l, 1) := by decide +kernel
theorem dX9_problem_321 : decode cX9_problem 321 = .ok (.ladd, 1) := by decide +kernel
theorem dX9_problem_322 : decode cX9_problem 322 = .ok (.lstore 12, 2) := by decide +kernel
theorem dX9_problem_324 : decode cX9_problem 324 = .ok (.lload 12, 2) := by decide +kernel
theorem dX9_problem_326 : decode cX9_problem 326 = .ok (.iload_n 2, 1) := by decide +kernel
theorem dX9_problem_327 : decode cX9_problem 327 = .ok (.iload 4, 2) := by decide +kernel
theorem dX9_problem_329 : decode cX9_problem 329 = .ok (.isub, 1) := by decide +kernel
theorem dX9_problem_330 : decode cX9_problem 330 = .ok (.i2l, 1) := by decide +kernel
theorem dX9_problem_331 : decode cX9_problem 331 = .ok (.ldiv, 1) := by decide +kernel
theorem dX9_problem_332 : decode cX9_problem 332 = .ok (.lstore 14, 2) := by decide +kernel
theorem dX9_problem_334 : decode cX9_problem 334 = .ok (.lload 12, 2) := by decide +kernel
theorem dX9_problem_336 : decode cX9_problem 336 = .ok (.iload_n 2, 1) := by decide +kernel
theorem dX9_problem_337 : decode cX9_problem 337 = .ok (.iload 4, 2) := by decide +kernel
theorem dX9_problem_339 : decode cX9_problem 339 = .ok (.isub, 1) := by decide +kernel
theorem dX9_problem_340 : decode cX9_problem 340 = .ok (.i2l, 1) := by decide +kernel
theorem dX9_problem_341 : decode cX9_problem 341 = .ok (.lrem, 1) := by decide +kernel
theorem dX9_problem_342 : decode cX9_problem 342 = .ok (.lconst 0, 1) := by decide +kernel
theorem dX9_problem_343 : decode cX9_problem 343 = .ok (.lcmp, 1) := by decide +kernel
theorem dX9_problem_344 : decode cX9_problem 344 = .ok (.ifCond .ne 28, 3) := by decide +kernel
theorem dX9_problem_347 : decode cX9_problem 347 = .ok (.lload 14, 2) := by decide +kernel
theorem dX9_problem_349 : decode cX9_problem 349 = .ok (.iload_n 2, 1) := by decide +kernel
theorem dX9_problem_350 : decode cX9_problem 350 = .ok (.i2l, 1) := by decide +kernel
theorem dX9_problem_351 : decode cX9_problem 351 = .ok (.lmul, 1) := by decide +kernel
theorem dX9_problem_352 : decode cX9_problem 352 = .ok (.iload_n 3, 1) := by decide +kernel
theorem dX9_problem_353 : decode cX9_problem 353 = .ok (.i2l, 1) := by decide +kernel
theorem dX9_problem_354 : decode cX9_problem 354 = .ok (.lcmp, 1) := by decide +kernel
theorem dX9_problem_355 : decode cX9_problem 355 = .ok (.ifCond .lt 17, 3) := by decide +kernel
theorem dX9_problem_358 : decode cX9_problem 358 = .ok (.lload 14, 2) := by decide +kernel
theorem dX9_problem_360 : decode cX9_problem 360 = .ok (.lstore 8, 2) := by decide +kernel
theorem dX9_problem_362 : decode cX9_problem 362 = .ok (.lload 14, 2) := by decide +kernel
theorem dX9_problem_364 : decode cX9_problem 364 = .ok (.iload_n 2, 1) := by decide +kernel
theorem dX9_problem_365 : decode cX9_problem 365 = .ok (.i2l, 1) := by decide +kernel
theorem dX9_problem_366 : decode cX9_problem 366 = .ok (.lmul, 1) := by decide +kernel
theorem dX9_problem_367 : decode cX9_problem 367 = .ok (.iload_n 3, 1) := by decide +kernel
theorem dX9_problem_368 : decode cX9_problem 368 = .ok (.i2l, 1) := by decide +kernel
theorem dX9_problem_369 : decode cX9_problem 369 = .ok (.lsub, 1) := by decide +kernel
theorem dX9_problem_370 : decode cX9_problem 370 = .ok (.lstore 10, 2) := by decide +kernel
theorem dX9_problem_372 : decode cX9_problem 372 = .ok (.lload 8, 2) := by decide +kernel
theorem dX9_problem_374 : decode cX9_problem 374 = .ok (.lconst 0, 1) := by decide +kernel
theorem dX9_problem_375 : decode cX9_problem 375 = .ok (.lcmp, 1) := by decide +kernel
theorem dX9_problem_376 : decode cX9_problem 376 = .ok (.ifCond .ge 8, 3) := by decide +kernel
theorem dX9_problem_379 : decode cX9_problem 379 = .ok (.lload 8, 2) := by decide +kernel
theorem dX9_problem_381 : decode cX9_problem 381 = .ok (.goto 15, 3) := by decide +kernel
theorem dX9_problem_384 : decode cX9_problem 384 = .ok (.iload 6, 2) := by decide +kernel
theorem dX9_problem_386 : decode cX9_problem 386 = .ok (.ifCond .ne 8, 3) := by decide +kernel
theorem dX9_problem_389 : decode cX9_problem 389 = .ok (.lload 8, 2) := by decide +kernel
theorem dX9_problem_391 : decode cX9_problem 391 = .ok (.goto 5, 3) := by decide +kernel
theorem dX9_problem_394 : decode cX9_problem 394 = .ok (.lload 10, 2) := by decide +kernel
theorem dX9_problem_396 : decode cX9_problem 396 = .ok (.lreturn, 1) := by decide +kernel
set_option maxRecDepth 20000 in
theorem ggX9_told_X9_allSticks : GoodIn wsX9_told wsX9_allSticks := goodIn_r _ [12, 13, 14, 11, 15, 16, 17, 18, 19, 20, 21, 22] (by decide +kernel) (by decide +kernel)
set_option maxRecDepth 20000 in
theorem gX9_told_X9_allSticks : GoodIn wsX9_told (va_wsS RX9 105 yX9_allSticks wsX9_allSticks) := goodIn_app (goodIn_of _ (by decide +kernel)) ggX9_told_X9_allSticks
theorem dX9_told_0 : decode cX9_told 0 = .ok (.iload_n 1, 1) := by decide +kernel
theorem dX9_told_1 : decode cX9_told 1 = .ok (.tableswitch 197 0 7 #[47, 52, 70, 83, 88, 93, 98, 164], 47) := by decide +kernel
theorem dX9_told_48 : decode cX9_told 48 = .ok (.aload_n 0, 1) := by decide +kernel
theorem dX9_told_49 : decode cX9_told 49 = .ok (.getfield 113, 3) := by decide +kernel
theorem dX9_told_52 : decode cX9_told 52 = .ok (.ireturn, 1) := by decide +kernel
theorem dX9_told_53 : decode cX9_told 53 = .ok (.aload_n 0, 1) := by decide +kernel
theorem dX9_told_54 : decode cX9_told 54 = .ok (.getfield 134, 3) := by decide +kernel
theorem dX9_told_57 : decode cX9_told 57 = .ok (.ifCond .ne 7, 3) := by decide +kernel
theorem dX9_told_60 : decode cX9_told 60 = .ok (.iconst 0, 1) := by decide +kernel
theorem dX9_told_61 : decode cX9_told 61 = .ok (.goto 9, 3) := by decide +kernel
theorem dX9_told_64 : decode cX9_told 64 = .ok (.aload_n 0, 1) := by decide +kernel
theorem dX9_told_65 : decode cX9_told 65 = .ok (.getfield 134, 3) := by decide +kernel
theorem dX9_told_68 : decode cX9_told 68 = .ok (.iconst 1, 1) := by decide +kernel
theorem dX9_told_69 : decode cX9_told 69 = .ok (.isub, 1) := by decide +kernel
theorem dX9_told_70 : decode cX9_told 70 = .ok (.ireturn, 1) := by decide +kernel
theorem dX9_told_71 : decode cX9_told 71 = .ok (.aload_n 0, 1) := by decide +kernel
theorem dX9_told_72 : decode cX9_told 72 = .ok (.getfield 137, 3) := by decide +kernel
theorem dX9_told_75 : decode cX9_told 75 = .ok (.ifCond .eq 7, 3) := by decide +kernel
theorem dX9_told_78 : decode cX9_told 78 = .ok (.iconst 1, 1) := by decide +kernel
theorem dX9_told_79 : decode cX9_told 79 = .ok (.goto 4, 3) := by decide +kernel
theorem dX9_told_82 : decode cX9_told 82 = .ok (.iconst 0, 1) := by decide +kernel
theorem dX9_told_83 : decode cX9_told 83 = .ok (.ireturn, 1) := by decide +kernel
theorem dX9_told_84 : decode cX9_told 84 = .ok (.aload_n 0, 1) := by decide +kernel
theorem dX9_told_85 : decode cX9_told 85 = .ok (.getfield 33, 3) := by decide +kernel
theorem dX9_told_88 : decode cX9_told 88 = .ok (.ireturn, 1) := by decide +kernel
theorem dX9_told_89 : decode cX9_told 89 = .ok (.aload_n 0, 1) := by decide +kernel
theorem dX9_told_90 : decode cX9_told 90 = .ok (.getfield 37, 3) := by decide +kernel
theorem dX9_told_93 : decode cX9_told 93 = .ok (.ireturn, 1) := by decide +kernel
theorem dX9_told_94 : decode cX9_told 94 = .ok (.aload_n 0, 1) := by decide +kernel
theorem dX9_told_95 : decode cX9_told 95 = .ok (.getfield 237, 3) := by decide +kernel
theorem dX9_told_98 : decode cX9_told 98 = .ok (.ireturn, 1) := by decide +kernel
theorem dX9_told_99 : decode cX9_told 99 = .ok (.iconst 0, 1) := by decide +kernel
theorem dX9_told_100 : decode cX9_told 100 = .ok (.istore_n 2, 1) := by decide +kernel
theorem dX9_told_101 : decode cX9_told 101 = .ok (.iconst 0, 1) := by decide +kernel
theorem dX9_told_102 : decode cX9_told 102 = .ok (.istore_n 3, 1) := by decide +kernel
theorem dX9_told_103 : decode cX9_told 103 = .ok (.iload_n 3, 1) := by decide +kernel
theorem dX9_told_104 : decode cX9_told 104 = .ok (.aload_n 0, 1) := by decide +kernel
theorem dX9_told_105 : decode cX9_told 105 = .ok (.getfield 134, 3) := by decide +kernel
theorem dX9_told_108 : decode cX9_told 108 = .ok (.if_icmp .ge 55, 3) := by decide +kernel
theorem dX9_told_111 : decode cX9_told 111 = .ok (.aload_n 0, 1) := by decide +kernel
theorem dX9_told_112 : decode cX9_told 112 = .ok (.getfield 137, 3) := by decide +kernel
theorem dX9_told_115 : decode cX9_told 115 = .ok (.ifCond .eq 48, 3) := by decide +kernel
theorem dX9_told_118 : decode cX9_told 118 = .ok (.iconst 0, 1) := by decide +kernel
theorem dX9_told_119 : decode cX9_told 119 = .ok (.istore 4, 2) := by decide +kernel
theorem dX9_told_121 : decode cX9_told 121 = .ok (.iload 4, 2) := by decide +kernel
theorem dX9_told_123 : decode cX9_told 123 = .ok (.bipush 8, 2) := by decide +kernel
theorem dX9_told_125 : decode cX9_told 125 = .ok (.if_icmp .ge 32, 3) := by decide +kernel
theorem dX9_told_128 : decode cX9_told 128 = .ok (.iload_n 2, 1) := by decide +kernel
theorem dX9_told_129 : decode cX9_told 129 = .ok (.aload_n 0, 1) := by decide +kernel
theorem dX9_told_130 : decode cX9_told 130 = .ok (.getfield 29, 3) := by decide +kernel
theorem dX9_told_133 : decode cX9_told 133 = .ok (.bipush 8, 2) := by decide +kernel
theorem dX9_told_135 : decode cX9_told 135 = .ok (.iload_n 3, 1) := by decide +kernel
theorem dX9_told_136 : decode cX9_told 136 = .ok (.imul, 1) := by decide +kernel
theorem dX9_told_137 : decode cX9_told 137 = .ok (.iload 4, 2) := by decide +kernel
theorem dX9_told_139 : decode cX9_told 139 = .ok (.iadd, 1) := by decide +kernel
theorem dX9_told_140 : decode cX9_told 140 = .ok (.baload, 1) := by decide +kernel
theorem dX9_told_141 : decode cX9_told 141 = .ok (.ifCond .eq 7, 3) := by decide +kernel
theorem dX9_told_144 : decode cX9_told 144 = .ok (.iconst 1, 1) := by decide +kernel
theorem dX9_told_145 : decode cX9_told 145 = .ok (.goto 4, 3) := by decide +kernel
theorem dX9_told_148 : decode cX9_told 148 = .ok (.iconst 0, 1) := by decide +kernel
theorem dX9_told_149 : decode cX9_told 149 = .ok (.iadd, 1) := by decide +kernel
theorem dX9_told_150 : decode cX9_told 150 = .ok (.istore_n 2, 1) := by decide +kernel
theorem dX9_told_151 : decode cX9_told 151 = .ok (.iinc 4 1, 3) := by decide +kernel
theorem dX9_told_154 : decode cX9_told 154 = .ok (.goto (-33), 3) := by decide +kernel
theorem dX9_told_157 : decode cX9_told 157 = .ok (.iinc 3 1, 3) := by decide +kernel
theorem dX9_told_160 : decode cX9_told 160 = .ok (.goto (-57), 3) := by decide +kernel
theorem dX9_told_163 : decode cX9_told 163 = .ok (.iload_n 2, 1) := by decide +kernel
theorem dX9_told_164 : decode cX9_told 164 = .ok (.ireturn, 1) := by decide +kernel
theorem dX9_told_165 : decode cX9_told 165 = .ok (.iconst 0, 1) := by decide +kernel
theorem dX9_told_166 : decode cX9_told 166 = .ok (.istore_n 3, 1) := by decide +kernel
theorem dX9_told_167 : decode cX9_told 167 = .ok (.iconst 0, 1) := by decide +kernel
theorem dX9_told_168 : decode cX9_told 168 = .ok (.istore 4, 2) := by decide +kernel
theorem dX9_told_170 : decode cX9_told 170 = .ok (.iload 4, 2) := by decide +kernel
theorem dX9_told_172 : decode cX9_told 172 = .ok (.bipush 8, 2) := by decide +kernel
theorem dX9_told_174 : decode cX9_told 174 = .ok (.if_icmp .ge 22, 3) := by decide +kernel
theorem dX9_told_177 : decode cX9_told 177 = .ok (.iload_n 3, 1) := by decide +kernel
theorem dX9_told_178 : decode cX9_told 178 = .ok (.aload_n 0, 1) := by decide +kernel
theorem dX9_told_179 : decode cX9_told 179 = .ok (.getfield 7, 3) := by decide +kernel
theorem dX9_told_182 : decode cX9_told 182 = .ok (.iload 4, 2) := by decide +kernel
theorem dX9_told_184 : decode cX9_told 184 = .ok (.laload, 1) := by decide +kernel
theorem dX9_told_185 : decode cX9_told 185 = .ok (.invokestatic 105, 3) := by decide +kernel
theorem dX9_told_188 : decode cX9_told 188 = .ok (.iadd, 1) := by decide +kernel
theorem dX9_told_189 : decode cX9_told 189 = .ok (.istore_n 3, 1) := by decide +kernel
theorem dX9_told_190 : decode cX9_told 190 = .ok (.iinc 4 1, 3) := by decide +kernel
theorem dX9_told_193 : decode cX9_told 193 = .ok (.goto (-23), 3) := by decide +kernel
theorem dX9_told_196 : decode cX9_told 196 = .ok (.iload_n 3, 1) := by decide +kernel
theorem dX9_told_197 : decode cX9_told 197 = .ok (.ireturn, 1) := by decide +kernel
theorem dX9_told_198 : decode cX9_told 198 = .ok (.bipush (-2), 2) := by decide +kernel
theorem dX9_told_200 : decode cX9_told 200 = .ok (.ireturn, 1) := by decide +kernel
theorem dJ9_abs_067f4_0 : decode cJ9_abs_067f4 0 = .ok (.lload_n 0, 1) := by decide +kernel
theorem dJ9_abs_067f4_1 : decode cJ9_abs_067f4 1 = .ok (.lconst 0, 1) := by decide +kernel
theorem dJ9_abs_067f4_2 : decode cJ9_abs_067f4 2 = .ok (.lcmp, 1) := by decide +kernel
theorem dJ9_abs_067f4_3 : decode cJ9_abs_067f4 3 = .ok (.ifCond .ge 8, 3) := by decide +kernel
theorem dJ9_abs_067f4_6 : decode cJ9_abs_067f4 6 = .ok (.lload_n 0, 1) := by decide +kernel
theorem dJ9_abs_067f4_7 : decode cJ9_abs_067f4 7 = .ok (.lneg, 1) := by decide +kernel
theorem dJ9_abs_067f4_8 : decode cJ9_abs_067f4 8 = .ok (.goto 4, 3) := by decide +kernel
theorem dJ9_abs_067f4_11 : decode cJ9_abs_067f4 11 = .ok (.lload_n 0, 1) := by decide +kernel
theorem dJ9_abs_067f4_12 : decode cJ9_abs_067f4 12 = .ok (.lreturn, 1) := by decide +kernel
set_option maxRecDepth 20000 in
theorem ggL_law_X8_init : GoodIn wsL_law wsX8_init := goodIn_r _ [9, 10, 11, 12, 13, 14, 15, 16, 17, 18, 19, 20, 21, 22, 23, 24, 25, 26, 27, 28, 29, 30, 31, 32, 33, 34, 35, 36, 37, 38, 39, 40, 41, 42, 43, 44, 45, 46, 47, 48, 49, 50, 51, 52, 53, 54, 55, 56, 57, 58, 59, 60, 61, 62, 63, 64, 65, 66, 67, 68, 69, 70, 71, 72, 73, 74, 75, 76, 77, 1013, 1014, 981, 982, 983, 984, 985, 1015, 1016, 1017, 1018, 1019, 1020, 1021, 1022, 1023, 1024, 1025, 1026, 1027, 1028, 1029, 1030, 1031, 1032, 1033] (by decide +kernel) (by decide +kernel)
set_option maxRecDepth 20000 in
theorem gL_law_X8_init : GoodIn wsL_law (wsX8_init) := ggL_law_X8_init
set_option maxRecDepth 20000 in
theorem ggL_law_X9_init : GoodIn wsL_law wsX9_init := goodIn_r _ [80, 81, 11, 12, 36, 82, 46, 83, 84, 85, 86, 87, 64, 88, 89, 90, 91, 92, 93, 94, 95, 96, 97, 98, 99, 986, 987, 988, 989, 990, 991, 992, 993, 994, 995, 996, 997, 998, 999, 1000, 1001, 1002, 1003, 1004, 1005, 1006, 1007, 1008, 1009, 1010, 1011, 1012] (by decide +kernel) (by decide +kernel)
set_option maxRecDepth 20000 in
theorem gL_law_X9_init : GoodIn wsL_law (wsX9_init) := ggL_law_X9_init
set_option maxRecDepth 20000 in
theorem ggL_law_X8_lay : GoodIn wsL_law wsX8_lay := goodIn_r _ [103, 16, 104, 105, 2, 106, 107, 108, 109, 110, 111, 112, 113, 114, 115, 15, 116, 37, 117, 118, 119, 981, 982, 983, 984, 985, 1013, 1014] (by decide +kernel) (by decide +kernel)
set_option maxRecDepth 20000 in
theorem gL_law_X8_lay : GoodIn wsL_law (wsV RL 15 RX8 yX8_lay wsX8_lay) := goodIn_app (goodIn_of _ (by decide +kernel)) ggL_law_X8_lay
set_option maxRecDepth 20000 in
theorem ggL_law_X9_lay : GoodIn wsL_law wsX9_lay := goodIn_r _ [123, 124, 125, 82, 126, 127, 5, 128, 129, 130, 131, 132, 133, 134, 135, 986, 987, 988, 989, 990, 991, 992, 993, 994, 995, 996, 997, 998, 999, 1000, 1001, 1002, 1003, 1004, 1005, 1006, 1007, 1008, 1009, 1010, 1011, 1012] (by decide +kernel) (by decide +kernel)
set_option maxRecDepth 20000 in
theorem gL_law_X9_lay : GoodIn wsL_law (wsV RL 19 RX9 yX9_lay wsX9_lay) := goodIn_app (goodIn_of _ (by decide +kernel)) ggL_law_X9_lay
set_option maxRecDepth 20000 in
theorem ggL_law_X8_number : GoodIn wsL_law wsX8_number := goodIn_r _ [139, 16, 140, 104, 105, 2, 106, 141, 142, 143, 15, 144, 37, 981, 982, 983, 984, 985, 1013, 1014] (by decide +kernel) (by decide +kernel)
set_option maxRecDepth 20000 in
theorem gL_law_X8_number : GoodIn wsL_law (wsV RL 20 RX8 yX8_number wsX8_number) := goodIn_app (goodIn_of _ (by decide +kernel)) ggL_law_X8_number
set_option maxRecDepth 20000 in
theorem ggL_law_X9_number : GoodIn wsL_law wsX9_number := goodIn_r _ [148, 82, 149, 126, 127, 5, 128, 129, 130, 131, 132, 986, 987, 988, 989, 990, 991, 992, 993, 994, 995, 996, 997, 998, 999, 1000, 1001, 1002, 1003, 1004, 1005, 1006, 1007, 1008, 1009, 1010, 1011, 1012] (by decide +kernel) (by decide +kernel)
set_option maxRecDepth 20000 in
theorem gL_law_X9_number : GoodIn wsL_law (wsV RL 24 RX9 yX9_number wsX9_number) := goodIn_app (goodIn_of _ (by decide +kernel)) ggL_law_X9_number
set_option maxRecDepth 20000 in
theorem ggL_law_X8_sticks : GoodIn wsL_law wsX8_sticks := goodIn_r _ [153, 16, 104, 105, 2, 106, 141, 142, 143, 15, 144, 37, 154, 155, 109, 156, 157, 158, 159, 160, 161, 162, 163, 164, 165, 166, 167, 168, 981, 982, 983, 984, 985, 1013, 1014] (by decide +kernel) (by decide +kernel)
set_option maxRecDepth 20000 in
theorem gL_law_X8_sticks : GoodIn wsL_law (wsV RL 25 RX8 yX8_sticks wsX8_sticks) := goodIn_app (goodIn_of _ (by decide +kernel)) ggL_law_X8_sticks
set_option maxRecDepth 20000 in
theorem ggL_law_X9_sticks : GoodIn wsL_law wsX9_sticks := goodIn_r _ [172, 173, 82, 126, 127, 5, 128, 129, 130, 131, 132, 174, 175, 176, 177, 178, 179, 180, 181, 182, 183, 986, 987, 988, 989, 990, 991, 992, 993, 994, 995, 996, 997, 998, 999, 1000, 1001, 1002, 1003, 1004, 1005, 1006, 1007, 1008, 1009, 1010, 1011, 1012] (by decide +kernel) (by decide +kernel)
set_option maxRecDepth 20000 in
theorem gL_law_X9_sticks : GoodIn wsL_law (wsV RL 29 RX9 yX9_sticks wsX9_sticks) := goodIn_app (goodIn_of _ (by decide +kernel)) ggL_law_X9_sticks
set_option maxRecDepth 20000 in
theorem ggL_law_X8_about : GoodIn wsL_law wsX8_about := goodIn_r _ [187, 16, 104, 105, 2, 106, 141, 142, 143, 15, 144, 37, 117, 118, 109, 119, 188, 189, 190, 191, 155, 156, 157, 158, 159, 160, 161, 162, 163, 164, 165, 192, 193, 194, 195, 196, 197, 198, 981, 982, 983, 984, 985, 1013, 1014] (by decide +kernel) (by decide +kernel)
set_option maxRecDepth 20000 in
theorem gL_law_X8_about : GoodIn wsL_law (wsV RL 30 RX8 yX8_about wsX8_about) := goodIn_app (goodIn_of _ (by decide +kernel)) ggL_law_X8_about
set_option maxRecDepth 20000 in
theorem ggL_law_X9_about : GoodIn wsL_law wsX9_about := goodIn_r _ [202, 82, 126, 127, 5, 128, 129, 130, 131, 132, 133, 134, 135, 203, 204, 205, 174, 175, 176, 177, 178, 179, 180, 181, 182, 183, 206, 207, 208, 986, 987, 988, 989, 990, 991, 992, 993, 994, 995, 996, 997, 998, 999, 1000, 1001, 1002, 1003, 1004, 1005, 1006, 1007, 1008, 1009, 1010, 1011, 1012] (by decide +kernel) (by decide +kernel)
set_option maxRecDepth 20000 in
theorem gL_law_X9_about : GoodIn wsL_law (wsV RL 33 RX9 yX9_about wsX9_about) := goodIn_app (goodIn_of _ (by decide +kernel)) ggL_law_X9_about
set_option maxRecDepth 20000 in
theorem ggL_law_X8_group : GoodIn wsL_law wsX8_group := goodIn_r _ [212, 20, 213, 214, 215, 19, 216, 217, 218, 219, 220, 221, 51, 52, 981, 982, 983, 984, 985, 1015, 1016, 1017, 1018] (by decide +kernel) (by decide +kernel)
set_option maxRecDepth 20000 in
theorem gL_law_X8_group : GoodIn wsL_law (wsV RL 34 RX8 yX8_group wsX8_group) := goodIn_app (goodIn_of _ (by decide +kernel)) ggL_law_X8_group
set_option maxRecDepth 20000 in
theorem ggL_law_X9_group : GoodIn wsL_law wsX9_group := goodIn_r _ [225, 226, 227, 83, 84, 130, 131, 5, 132, 986, 987, 988, 989, 990, 991, 992, 993, 994, 995, 996, 997, 998, 999, 1000, 1001, 1002, 1003, 1004, 1005, 1006, 1007, 1008, 1009, 1010, 1011, 1012] (by decide +kernel) (by decide +kernel)
set_option maxRecDepth 20000 in
theorem gL_law_X9_group : GoodIn wsL_law (wsV RL 37 RX9 yX9_group wsX9_group) := goodIn_app (goodIn_of _ (by decide +kernel)) ggL_law_X9_group
set_option maxRecDepth 20000 in
theorem ggL_law_X8_strip : GoodIn wsL_law wsX8_strip := goodIn_r _ [231, 20, 16, 104, 105, 2, 106, 141, 142, 143, 15, 144, 37, 232, 233, 234, 19, 235, 236, 237, 238, 239, 217, 240, 155, 109, 156, 157, 158, 159, 160, 161, 162, 163, 164, 165, 241, 167, 168, 242, 219, 220, 221, 51, 52, 213, 214, 215, 216, 981, 982, 983, 984, 985, 1013, 1014, 1015, 1016, 1017, 1018] (by decide +kernel) (by decide +kernel)
set_option maxRecDepth 20000 in
theorem gL_law_X8_strip : GoodIn wsL_law (wsV RL 38 RX8 yX8_strip wsX8_strip) := goodIn_app (goodIn_of _ (by decide +kernel)) ggL_law_X8_strip
set_option maxRecDepth 20000 in
theorem ggL_law_X9_strip : GoodIn wsL_law wsX9_strip := goodIn_r _ [246, 227, 82, 83, 84, 126, 127, 5, 128, 129, 130, 131, 132, 174, 175, 176, 177, 178, 179, 180, 181, 182, 183, 986, 987, 988, 989, 990, 991, 992, 993, 994, 995, 996, 997, 998, 999, 1000, 1001, 1002, 1003, 1004, 1005, 1006, 1007, 1008, 1009, 1010, 1011, 1012] (by decide +kernel) (by decide +kernel)
set_option maxRecDepth 20000 in
theorem gL_law_X9_strip : GoodIn wsL_law (wsV RL 42 RX9 yX9_strip wsX9_strip) := goodIn_app (goodIn_of _ (by decide +kernel)) ggL_law_X9_strip
set_option maxRecDepth 20000 in
theorem ggL_law_X8_wipe : GoodIn wsL_law wsX8_wipe := goodIn_r _ [250, 20, 213, 214, 215, 19, 216, 217, 251, 237, 238, 239, 981, 982, 983, 984, 985, 1015, 1016, 1017, 1018] (by decide +kernel) (by decide +kernel)
set_option maxRecDepth 20000 in
theorem gL_law_X8_wipe : GoodIn wsL_law (wsV RL 43 RX8 yX8_wipe wsX8_wipe) := goodIn_app (goodIn_of _ (by decide +kernel)) ggL_law_X8_wipe
set_option maxRecDepth 20000 in
theorem ggL_law_X9_wipe : GoodIn wsL_law wsX9_wipe := goodIn_r _ [255, 227, 986, 987, 988, 989, 990, 991, 992, 993, 994, 995, 996, 997, 998, 999, 1000, 1001, 1002, 1003, 1004, 1005, 1006, 1007, 1008, 1009, 1010, 1011, 1012] (by decide +kernel) (by decide +kernel)
set_option maxRecDepth 20000 in
theorem gL_law_X9_wipe : GoodIn wsL_law (wsV RL 47 RX9 yX9_wipe wsX9_wipe) := goodIn_app (goodIn_of _ (by decide +kernel)) ggL_law_X9_wipe
set_option maxRecDepth 20000 in
theorem ggL_law_X8_readings : GoodIn wsL_law wsX8_readings := goodIn_r _ [259, 20, 260, 261, 262, 19, 263, 217, 264, 265, 266, 267, 53, 268, 269, 270, 271, 272, 273, 274, 275, 52, 241, 167, 109, 168, 981, 982, 983, 984, 985, 1015, 1016, 1017, 1018] (by decide +kernel) (by decide +kernel)
set_option maxRecDepth 20000 in
theorem gL_law_X8_readings : GoodIn wsL_law (wsV RL 48 RX8 yX8_readings wsX8_readings) := goodIn_app (goodIn_of _ (by decide +kernel)) ggL_law_X8_readings
set_option maxRecDepth 20000 in
theorem ggL_law_X9_readings : GoodIn wsL_law wsX9_readings := goodIn_r _ [279, 280, 281, 282, 5, 283, 227, 84, 284, 83, 181, 182, 183, 177, 986, 987, 988, 989, 990, 991, 992, 993, 994, 995, 996, 997, 998, 999, 1000, 1001, 1002, 1003, 1004, 1005, 1006, 1007, 1008, 1009, 1010, 1011, 1012] (by decide +kernel) (by decide +kernel)
set_option maxRecDepth 20000 in
theorem gL_law_X9_readings : GoodIn wsL_law (wsV RL 51 RX9 yX9_readings wsX9_readings) := goodIn_app (goodIn_of _ (by decide +kernel)) ggL_law_X9_readings
set_option maxRecDepth 20000 in
theorem ggL_law_X8_reading : GoodIn wsL_law wsX8_reading := goodIn_r _ [288, 20, 289, 290, 291, 19, 292, 293, 217, 51, 294, 261, 262, 263, 264, 265, 266, 267, 53, 268, 269, 270, 271, 272, 273, 274, 275, 52, 241, 167, 109, 168, 295, 163, 164, 165, 981, 982, 983, 984, 985, 1015, 1016, 1017, 1018] (by decide +kernel) (by decide +kernel)
set_option maxRecDepth 20000 in
theorem gL_law_X8_reading : GoodIn wsL_law (wsV RL 52 RX8 yX8_reading wsX8_reading) := goodIn_app (goodIn_of _ (by decide +kernel)) ggL_law_X8_reading
set_option maxRecDepth 20000 in
theorem ggL_law_X9_reading : GoodIn wsL_law wsX9_reading := goodIn_r _ [299, 300, 280, 281, 282, 5, 283, 227, 84, 284, 83, 181, 182, 183, 177, 986, 987, 988, 989, 990, 991, 992, 993, 994, 995, 996, 997, 998, 999, 1000, 1001, 1002, 1003, 1004, 1005, 1006, 1007, 1008, 1009, 1010, 1011, 1012] (by decide +kernel) (by decide +kernel)
set_option maxRecDepth 20000 in
theorem gL_law_X9_reading : GoodIn wsL_law (wsV RL 55 RX9 yX9_reading wsX9_reading) := goodIn_app (goodIn_of _ (by decide +kernel)) ggL_law_X9_reading
set_option maxRecDepth 20000 in
theorem ggL_law_X8_add : GoodIn wsL_law wsX8_add := goodIn_r _ [304, 16, 24, 104, 105, 2, 106, 141, 142, 143, 15, 144, 37, 107, 108, 109, 110, 111, 112, 305, 306, 307, 23, 308, 58, 309, 310, 311, 40, 312, 313, 314, 315, 316, 317, 41, 318, 319, 320, 321, 322, 323, 324, 325, 45, 326, 327, 155, 156, 157, 158, 159, 160, 161, 162, 163, 164, 165, 328, 329, 330, 331, 332, 333, 334, 335, 47, 336, 337, 338, 339, 340, 341, 342, 343, 344, 345, 346, 347, 348, 349, 350, 351, 352, 353, 354, 355, 356, 357, 358, 359, 360, 361, 362, 363, 364, 365, 366, 367, 368, 369, 370, 371, 372, 373, 374, 375, 376, 377, 378, 379, 380, 381, 981, 982, 983, 984, 985, 1013, 1014, 1019, 1031, 1032, 1033] (by decide +kernel) (by decide +kernel)
set_option maxRecDepth 20000 in
theorem gL_law_X8_add : GoodIn wsL_law (wsV RL 56 RX8 yX8_add wsX8_add) := goodIn_app (goodIn_of _ (by decide +kernel)) ggL_law_X8_add
set_option maxRecDepth 20000 in
theorem ggL_law_X9_add : GoodIn wsL_law wsX9_add := goodIn_r _ [385, 82, 94, 126, 127, 5, 128, 129, 130, 131, 132, 386, 387, 388, 389, 95, 390, 391, 174, 175, 176, 177, 178, 179, 180, 181, 182, 183, 392, 393, 394, 395, 96, 396, 397, 398, 399, 400, 401, 402, 403, 404, 85, 86, 405, 986, 987, 988, 989, 990, 991, 992, 993, 994, 995, 996, 997, 998, 999, 1000, 1001, 1002, 1003, 1004, 1005, 1006, 1007, 1008, 1009, 1010, 1011, 1012] (by decide +kernel) (by decide +kernel)
set_option maxRecDepth 20000 in
theorem gL_law_X9_add : GoodIn wsL_law (wsV RL 59 RX9 yX9_add wsX9_add) := goodIn_app (goodIn_of _ (by decide +kernel)) ggL_law_X9_add
set_option maxRecDepth 20000 in
theorem ggL_law_X8_times : GoodIn wsL_law wsX8_times := goodIn_r _ [409, 16, 410, 24, 104, 105, 2, 106, 141, 142, 143, 15, 144, 37, 411, 359, 109, 360, 157, 158, 159, 160, 361, 362, 305, 306, 307, 23, 308, 58, 309, 310, 311, 40, 312, 313, 412, 413, 414, 415, 41, 416, 417, 418, 419, 318, 319, 320, 321, 322, 323, 324, 325, 45, 326, 328, 329, 330, 331, 332, 333, 334, 335, 47, 336, 337, 338, 339, 340, 341, 342, 343, 344, 345, 346, 347, 348, 349, 163, 164, 165, 350, 351, 352, 353, 354, 355, 356, 357, 358, 363, 364, 365, 366, 367, 368, 108, 110, 111, 112, 327, 155, 156, 161, 162, 369, 370, 371, 372, 373, 374, 375, 376, 377, 378, 379, 380, 381, 981, 982, 983, 984, 985, 1013, 1014, 1019, 1031, 1032, 1033] (by decide +kernel) (by decide +kernel)
set_option maxRecDepth 20000 in
theorem gL_law_X8_times : GoodIn wsL_law (wsV RL 60 RX8 yX8_times wsX8_times) := goodIn_app (goodIn_of _ (by decide +kernel)) ggL_law_X8_times
set_option maxRecDepth 20000 in
theorem ggL_law_X9_times : GoodIn wsL_law wsX9_times := goodIn_r _ [423, 82, 391, 94, 399, 126, 127, 5, 128, 129, 130, 131, 132, 386, 387, 388, 389, 95, 390, 424, 425, 426, 427, 392, 393, 394, 395, 96, 396, 397, 398, 178, 179, 180, 174, 175, 176, 177, 181, 182, 183, 400, 401, 402, 403, 404, 85, 86, 405, 986, 987, 988, 989, 990, 991, 992, 993, 994, 995, 996, 997, 998, 999, 1000, 1001, 1002, 1003, 1004, 1005, 1006, 1007, 1008, 1009, 1010, 1011, 1012] (by decide +kernel) (by decide +kernel)
set_option maxRecDepth 20000 in
theorem gL_law_X9_times : GoodIn wsL_law (wsV RL 64 RX9 yX9_times wsX9_times) := goodIn_app (goodIn_of _ (by decide +kernel)) ggL_law_X9_times
set_option maxRecDepth 20000 in
theorem ggL_law_X8_part : GoodIn wsL_law wsX8_part := goodIn_r _ [431, 16, 24, 104, 105, 2, 106, 141, 142, 143, 15, 144, 37, 305, 306, 307, 23, 308, 58, 309, 310, 311, 40, 312, 313, 432, 433, 434, 435, 41, 416, 417, 418, 419, 318, 319, 320, 321, 322, 323, 324, 325, 45, 326, 328, 329, 330, 331, 332, 333, 334, 335, 47, 336, 337, 338, 339, 340, 341, 342, 343, 344, 345, 346, 347, 348, 349, 163, 109, 164, 165, 350, 351, 352, 353, 354, 355, 356, 357, 358, 359, 360, 157, 158, 159, 160, 361, 362, 363, 364, 365, 366, 367, 368, 108, 110, 111, 112, 373, 374, 375, 376, 377, 378, 379, 380, 381, 436, 437, 438, 439, 369, 370, 371, 372, 981, 982, 983, 984, 985, 1013, 1014, 1019, 1031, 1032, 1033] (by decide +kernel) (by decide +kernel)
set_option maxRecDepth 20000 in
theorem gL_law_X8_part : GoodIn wsL_law (wsV RL 65 RX8 yX8_part wsX8_part) := goodIn_app (goodIn_of _ (by decide +kernel)) ggL_law_X8_part
set_option maxRecDepth 20000 in
theorem ggL_law_X9_part : GoodIn wsL_law wsX9_part := goodIn_r _ [443, 82, 94, 126, 127, 5, 128, 129, 130, 131, 132, 386, 387, 388, 389, 95, 390, 391, 424, 425, 426, 427, 392, 393, 394, 395, 96, 396, 397, 398, 399, 178, 179, 180, 181, 182, 183, 177, 400, 401, 402, 403, 404, 85, 86, 405, 986, 987, 988, 989, 990, 991, 992, 993, 994, 995, 996, 997, 998, 999, 1000, 1001, 1002, 1003, 1004, 1005, 1006, 1007, 1008, 1009, 1010, 1011, 1012] (by decide +kernel) (by decide +kernel)
set_option maxRecDepth 20000 in
theorem gL_law_X9_part : GoodIn wsL_law (wsV RL 68 RX9 yX9_part wsX9_part) := goodIn_app (goodIn_of _ (by decide +kernel)) ggL_law_X9_part
set_option maxRecDepth 20000 in
theorem ggL_law_X8_root : GoodIn wsL_law wsX8_root := goodIn_r _ [447, 16, 24, 104, 105, 2, 106, 141, 142, 143, 15, 144, 37, 305, 306, 307, 23, 308, 58, 309, 310, 311, 40, 312, 313, 448, 449, 450, 451, 41, 416, 417, 418, 419, 318, 319, 320, 321, 322, 323, 324, 325, 45, 326, 328, 329, 330, 331, 332, 333, 334, 335, 47, 336, 337, 338, 339, 340, 341, 342, 343, 344, 345, 346, 347, 348, 349, 163, 109, 164, 165, 350, 351, 352, 353, 354, 355, 356, 357, 358, 359, 360, 157, 158, 159, 160, 361, 362, 363, 364, 365, 366, 367, 368, 108, 110, 111, 112, 373, 374, 375, 376, 377, 378, 379, 380, 381, 452, 453, 454, 455, 439, 456, 369, 370, 371, 372, 981, 982, 983, 984, 985, 1013, 1014, 1019, 1031, 1032, 1033] (by decide +kernel) (by decide +kernel)
set_option maxRecDepth 20000 in
theorem gL_law_X8_root : GoodIn wsL_law (wsV RL 69 RX8 yX8_root wsX8_root) := goodIn_app (goodIn_of _ (by decide +kernel)) ggL_law_X8_root
set_option maxRecDepth 20000 in
theorem ggL_law_X9_root : GoodIn wsL_law wsX9_root := goodIn_r _ [460, 461, 462, 82, 94, 126, 127, 5, 128, 129, 130, 131, 132, 386, 387, 388, 389, 95, 390, 391, 424, 425, 426, 427, 392, 393, 394, 395, 96, 396, 397, 398, 399, 178, 179, 180, 181, 182, 183, 177, 463, 464, 465, 400, 401, 402, 403, 404, 85, 86, 405, 986, 987, 988, 989, 990, 991, 992, 993, 994, 995, 996, 997, 998, 999, 1000, 1001, 1002, 1003, 1004, 1005, 1006, 1007, 1008, 1009, 1010, 1011, 1012] (by decide +kernel) (by decide +kernel)
set_option maxRecDepth 20000 in
theorem gL_law_X9_root : GoodIn wsL_law (wsV RL 72 RX9 yX9_root wsX9_root) := goodIn_app (goodIn_of _ (by decide +kernel)) ggL_law_X9_root
set_option maxRecDepth 20000 in
theorem ggL_law_X8_boards : GoodIn wsL_law wsX8_boards := goodIn_r _ [469, 16, 470, 471, 472, 40, 473, 313, 981, 982, 983, 984, 985, 1013, 1014, 1031, 1032, 1033] (by decide +kernel) (by decide +kernel)
set_option maxRecDepth 20000 in
theorem gL_law_X8_boards : GoodIn wsL_law (wsV RL 73 RX8 yX8_boards wsX8_boards) := goodIn_app (goodIn_of _ (by decide +kernel)) ggL_law_X8_boards
set_option maxRecDepth 20000 in
theorem ggL_law_X9_boards : GoodIn wsL_law wsX9_boards := goodIn_r _ [477, 404, 986, 987, 988, 989, 990, 991, 992, 993, 994, 995, 996, 997, 998, 999, 1000, 1001, 1002, 1003, 1004, 1005, 1006, 1007, 1008, 1009, 1010, 1011, 1012] (by decide +kernel) (by decide +kernel)
set_option maxRecDepth 20000 in
theorem gL_law_X9_boards : GoodIn wsL_law (wsV RL 76 RX9 yX9_boards wsX9_boards) := goodIn_app (goodIn_of _ (by decide +kernel)) ggL_law_X9_boards
set_option maxRecDepth 20000 in
theorem ggL_law_X8_board : GoodIn wsL_law wsX8_board := goodIn_r _ [481, 16, 140, 482, 483, 484, 40, 485, 313, 105, 2, 106, 486, 342, 343, 344, 45, 981, 982, 983, 984, 985, 1013, 1014, 1031, 1032, 1033] (by decide +kernel) (by decide +kernel)
set_option maxRecDepth 20000 in
theorem gL_law_X8_board : GoodIn wsL_law (wsV RL 77 RX8 yX8_board wsX8_board) := goodIn_app (goodIn_of _ (by decide +kernel)) ggL_law_X8_board
set_option maxRecDepth 20000 in
theorem ggL_law_X9_board : GoodIn wsL_law wsX9_board := goodIn_r _ [490, 85, 149, 491, 492, 493, 5, 494, 404, 130, 131, 132, 126, 127, 128, 129, 986, 987, 988, 989, 990, 991, 992, 993, 994, 995, 996, 997, 998, 999, 1000, 1001, 1002, 1003, 1004, 1005, 1006, 1007, 1008, 1009, 1010, 1011, 1012] (by decide +kernel) (by decide +kernel)
set_option maxRecDepth 20000 in
theorem gL_law_X9_board : GoodIn wsL_law (wsV RL 81 RX9 yX9_board wsX9_board) := goodIn_app (goodIn_of _ (by decide +kernel)) ggL_law_X9_board
set_option maxRecDepth 20000 in
theorem ggL_law_X8_note : GoodIn wsL_law wsX8_note := goodIn_r _ [498, 16, 499, 378, 379, 40, 380, 313, 500, 346, 347, 348, 47, 981, 982, 983, 984, 985, 1013, 1014, 1031, 1032, 1033] (by decide +kernel) (by decide +kernel)
set_option maxRecDepth 20000 in
theorem gL_law_X8_note : GoodIn wsL_law (wsV RL 82 RX8 yX8_note wsX8_note) := goodIn_app (goodIn_of _ (by decide +kernel)) ggL_law_X8_note
set_option maxRecDepth 20000 in
theorem ggL_law_X9_note : GoodIn wsL_law wsX9_note := goodIn_r _ [504, 404, 505, 86, 130, 131, 5, 132, 986, 987, 988, 989, 990, 991, 992, 993, 994, 995, 996, 997, 998, 999, 1000, 1001, 1002, 1003, 1004, 1005, 1006, 1007, 1008, 1009, 1010, 1011, 1012] (by decide +kernel) (by decide +kernel)
set_option maxRecDepth 20000 in
theorem gL_law_X9_note : GoodIn wsL_law (wsV RL 85 RX9 yX9_note wsX9_note) := goodIn_app (goodIn_of _ (by decide +kernel)) ggL_law_X9_note
set_option maxRecDepth 20000 in
theorem ggL_law_X8_copy : GoodIn wsL_law wsX8_copy := goodIn_r _ [509, 16, 24, 470, 471, 472, 40, 473, 313, 510, 511, 512, 23, 513, 58, 514, 515, 516, 517, 45, 47, 981, 982, 983, 984, 985, 1013, 1014, 1019, 1031, 1032, 1033] (by decide +kernel) (by decide +kernel)
set_option maxRecDepth 20000 in
theorem gL_law_X8_copy : GoodIn wsL_law (wsV RL 86 RX8 yX8_copy wsX8_copy) := goodIn_app (goodIn_of _ (by decide +kernel)) ggL_law_X8_copy
set_option maxRecDepth 20000 in
theorem ggL_law_X9_copy : GoodIn wsL_law wsX9_copy := goodIn_r _ [521, 404, 405, 87, 85, 88, 986, 987, 988, 989, 990, 991, 992, 993, 994, 995, 996, 997, 998, 999, 1000, 1001, 1002, 1003, 1004, 1005, 1006, 1007, 1008, 1009, 1010, 1011, 1012] (by decide +kernel) (by decide +kernel)
set_option maxRecDepth 20000 in
theorem gL_law_X9_copy : GoodIn wsL_law (wsV RL 89 RX9 yX9_copy wsX9_copy) := goodIn_app (goodIn_of _ (by decide +kernel)) ggL_law_X9_copy
set_option maxRecDepth 20000 in
theorem ggL_law_X8_write : GoodIn wsL_law wsX8_write := goodIn_r _ [525, 24, 526, 527, 528, 23, 529, 58, 530, 471, 472, 40, 473, 313, 482, 483, 484, 485, 105, 2, 106, 107, 108, 109, 110, 111, 112, 531, 532, 533, 534, 535, 342, 343, 344, 45, 536, 323, 324, 325, 981, 982, 983, 984, 985, 1019, 1031, 1032, 1033] (by decide +kernel) (by decide +kernel)
set_option maxRecDepth 20000 in
theorem gL_law_X8_write : GoodIn wsL_law (wsV RL 90 RX8 yX8_write wsX8_write) := goodIn_app (goodIn_of _ (by decide +kernel)) ggL_law_X8_write
set_option maxRecDepth 20000 in
theorem ggL_law_X9_write : GoodIn wsL_law wsX9_write := goodIn_r _ [540, 405, 124, 125, 88, 87, 491, 492, 493, 5, 494, 404, 130, 131, 132, 126, 127, 128, 129, 986, 987, 988, 989, 990, 991, 992, 993, 994, 995, 996, 997, 998, 999, 1000, 1001, 1002, 1003, 1004, 1005, 1006, 1007, 1008, 1009, 1010, 1011, 1012] (by decide +kernel) (by decide +kernel)
set_option maxRecDepth 20000 in
theorem gL_law_X9_write : GoodIn wsL_law (wsV RL 94 RX9 yX9_write wsX9_write) := goodIn_app (goodIn_of _ (by decide +kernel)) ggL_law_X9_write
set_option maxRecDepth 20000 in
theorem ggL_law_X8_gap : GoodIn wsL_law wsX8_gap := goodIn_r _ [544, 24, 410, 526, 527, 528, 23, 529, 58, 530, 471, 472, 40, 473, 313, 482, 483, 484, 485, 105, 2, 106, 531, 532, 533, 534, 535, 342, 343, 344, 45, 536, 323, 324, 325, 981, 982, 983, 984, 985, 1019, 1031, 1032, 1033] (by decide +kernel) (by decide +kernel)
set_option maxRecDepth 20000 in
theorem gL_law_X8_gap : GoodIn wsL_law (wsV RL 95 RX8 yX8_gap wsX8_gap) := goodIn_app (goodIn_of _ (by decide +kernel)) ggL_law_X8_gap
set_option maxRecDepth 20000 in
theorem ggL_law_X9_gap : GoodIn wsL_law wsX9_gap := goodIn_r _ [548, 405, 88, 491, 492, 493, 5, 494, 404, 130, 131, 132, 126, 127, 128, 129, 986, 987, 988, 989, 990, 991, 992, 993, 994, 995, 996, 997, 998, 999, 1000, 1001, 1002, 1003, 1004, 1005, 1006, 1007, 1008, 1009, 1010, 1011, 1012] (by decide +kernel) (by decide +kernel)
set_option maxRecDepth 20000 in
theorem gL_law_X9_gap : GoodIn wsL_law (wsV RL 98 RX9 yX9_gap wsX9_gap) := goodIn_app (goodIn_of _ (by decide +kernel)) ggL_law_X9_gap
set_option maxRecDepth 20000 in
theorem ggL_law_X8_read : GoodIn wsL_law wsX8_read := goodIn_r _ [552, 24, 553, 140, 410, 554, 526, 527, 528, 23, 529, 58, 530, 471, 472, 40, 473, 313, 482, 483, 484, 485, 105, 2, 106, 486, 342, 343, 344, 45, 981, 982, 983, 984, 985, 1019, 1031, 1032, 1033] (by decide +kernel) (by decide +kernel)
set_option maxRecDepth 20000 in
theorem gL_law_X8_read : GoodIn wsL_law (wsV RL 99 RX8 yX8_read wsX8_read) := goodIn_app (goodIn_of _ (by decide +kernel)) ggL_law_X8_read
set_option maxRecDepth 20000 in
theorem ggL_law_X9_read : GoodIn wsL_law wsX9_read := goodIn_r _ [558, 405, 559, 149, 88, 300, 87, 491, 492, 493, 5, 494, 404, 130, 131, 132, 126, 127, 128, 129, 986, 987, 988, 989, 990, 991, 992, 993, 994, 995, 996, 997, 998, 999, 1000, 1001, 1002, 1003, 1004, 1005, 1006, 1007, 1008, 1009, 1010, 1011, 1012] (by decide +kernel) (by decide +kernel)
set_option maxRecDepth 20000 in
theorem gL_law_X9_read : GoodIn wsL_law (wsV RL 102 RX9 yX9_read wsX9_read) := goodIn_app (goodIn_of _ (by decide +kernel)) ggL_law_X9_read
set_option maxRecDepth 20000 in
theorem ggL_law_X8_right : GoodIn wsL_law wsX8_right := goodIn_r _ [563, 24, 526, 527, 528, 23, 529, 58, 530, 471, 472, 40, 473, 313, 499, 378, 379, 380, 564, 565, 566, 567, 568, 569, 570, 571, 572, 535, 342, 343, 344, 45, 573, 574, 575, 576, 577, 578, 579, 580, 581, 582, 583, 337, 338, 339, 340, 341, 345, 346, 347, 348, 47, 349, 163, 109, 164, 165, 350, 351, 352, 353, 354, 355, 356, 357, 358, 359, 360, 157, 158, 159, 160, 361, 362, 363, 364, 365, 366, 367, 368, 108, 110, 111, 112, 981, 982, 983, 984, 985, 1019, 1031, 1032, 1033] (by decide +kernel) (by decide +kernel)
set_option maxRecDepth 20000 in
theorem gL_law_X8_right : GoodIn wsL_law (wsV RL 103 RX8 yX8_right wsX8_right) := goodIn_app (goodIn_of _ (by decide +kernel)) ggL_law_X8_right
set_option maxRecDepth 20000 in
theorem ggL_law_X9_right : GoodIn wsL_law wsX9_right := goodIn_r _ [587, 405, 588, 589, 590, 5, 591, 404, 130, 131, 132, 592, 593, 594, 595, 94, 87, 596, 597, 598, 599, 88, 600, 601, 602, 603, 86, 125, 399, 181, 182, 183, 177, 178, 179, 180, 604, 605, 606, 607, 608, 463, 464, 465, 396, 397, 398, 986, 987, 988, 989, 990, 991, 992, 993, 994, 995, 996, 997, 998, 999, 1000, 1001, 1002, 1003, 1004, 1005, 1006, 1007, 1008, 1009, 1010, 1011, 1012] (by decide +kernel) (by decide +kernel)
set_option maxRecDepth 20000 in
theorem gL_law_X9_right : GoodIn wsL_law (wsV RL 106 RX9 yX9_right wsX9_right) := goodIn_app (goodIn_of _ (by decide +kernel)) ggL_law_X9_right
set_option maxRecDepth 20000 in
theorem ggL_law_X8_blame : GoodIn wsL_law wsX8_blame := goodIn_r _ [612, 24, 526, 527, 528, 23, 529, 58, 530, 471, 472, 40, 473, 313, 613, 614, 615, 616, 577, 378, 379, 380, 578, 565, 566, 567, 568, 569, 570, 571, 572, 535, 342, 343, 344, 45, 617, 574, 575, 576, 579, 580, 581, 582, 583, 337, 338, 339, 340, 341, 345, 346, 347, 348, 47, 349, 163, 109, 164, 165, 350, 351, 352, 353, 354, 355, 356, 357, 358, 359, 360, 157, 158, 159, 160, 361, 362, 363, 364, 365, 366, 367, 368, 108, 110, 111, 112, 981, 982, 983, 984, 985, 1019, 1031, 1032, 1033] (by decide +kernel) (by decide +kernel)
set_option maxRecDepth 20000 in
theorem gL_law_X8_blame : GoodIn wsL_law (wsV RL 107 RX8 yX8_blame wsX8_blame) := goodIn_app (goodIn_of _ (by decide +kernel)) ggL_law_X8_blame
set_option maxRecDepth 20000 in
theorem ggL_law_X9_blame : GoodIn wsL_law wsX9_blame := goodIn_r _ [621, 405, 622, 623, 624, 5, 625, 404, 592, 593, 594, 595, 94, 87, 596, 597, 598, 599, 88, 600, 601, 602, 603, 86, 125, 399, 181, 182, 183, 177, 178, 179, 180, 604, 605, 606, 607, 608, 463, 464, 465, 396, 397, 398, 986, 987, 988, 989, 990, 991, 992, 993, 994, 995, 996, 997, 998, 999, 1000, 1001, 1002, 1003, 1004, 1005, 1006, 1007, 1008, 1009, 1010, 1011, 1012] (by decide +kernel) (by decide +kernel)
set_option maxRecDepth 20000 in
theorem gL_law_X9_blame : GoodIn wsL_law (wsV RL 110 RX9 yX9_blame wsX9_blame) := goodIn_app (goodIn_of _ (by decide +kernel)) ggL_law_X9_blame
set_option maxRecDepth 20000 in
theorem ggL_law_X8_mend : GoodIn wsL_law wsX8_mend := goodIn_r _ [629, 24, 526, 527, 528, 23, 529, 58, 530, 471, 472, 40, 473, 313, 630, 631, 632, 633, 634, 635, 614, 615, 616, 577, 378, 379, 380, 578, 565, 566, 567, 568, 569, 570, 571, 572, 535, 342, 343, 344, 45, 617, 574, 575, 576, 579, 580, 581, 582, 583, 337, 338, 339, 340, 341, 345, 346, 347, 348, 47, 349, 163, 109, 164, 165, 350, 351, 352, 353, 354, 355, 356, 357, 358, 359, 360, 157, 158, 159, 160, 361, 362, 363, 364, 365, 366, 367, 368, 108, 110, 111, 112, 636, 637, 638, 639, 640, 641, 642, 643, 644, 645, 646, 647, 648, 649, 155, 156, 161, 162, 650, 651, 652, 191, 536, 323, 324, 325, 981, 982, 983, 984, 985, 1019, 1031, 1032, 1033] (by decide +kernel) (by decide +kernel)
set_option maxRecDepth 20000 in
theorem gL_law_X8_mend : GoodIn wsL_law (wsV RL 111 RX8 yX8_mend wsX8_mend) := goodIn_app (goodIn_of _ (by decide +kernel)) ggL_law_X8_mend
set_option maxRecDepth 20000 in
theorem ggL_law_X9_mend : GoodIn wsL_law wsX9_mend := goodIn_r _ [656, 405, 87, 657, 622, 623, 624, 5, 625, 404, 592, 593, 594, 595, 94, 596, 597, 598, 599, 88, 600, 601, 602, 603, 86, 125, 399, 181, 182, 183, 177, 178, 179, 180, 604, 605, 606, 607, 608, 463, 464, 465, 396, 397, 398, 588, 589, 590, 591, 130, 131, 132, 174, 175, 176, 658, 659, 660, 661, 986, 987, 988, 989, 990, 991, 992, 993, 994, 995, 996, 997, 998, 999, 1000, 1001, 1002, 1003, 1004, 1005, 1006, 1007, 1008, 1009, 1010, 1011, 1012] (by decide +kernel) (by decide +kernel)
set_option maxRecDepth 20000 in
theorem gL_law_X9_mend : GoodIn wsL_law (wsV RL 114 RX9 yX9_mend wsX9_mend) := goodIn_app (goodIn_of _ (by decide +kernel)) ggL_law_X9_mend
set_option maxRecDepth 20000 in
theorem ggL_law_X8_fill : GoodIn wsL_law wsX8_fill := goodIn_r _ [665, 24, 526, 527, 528, 23, 529, 58, 530, 471, 472, 40, 473, 313, 666, 667, 668, 669, 568, 569, 570, 571, 572, 535, 342, 343, 344, 45, 670, 671, 672, 673, 583, 337, 338, 339, 340, 341, 345, 346, 347, 348, 47, 349, 163, 109, 164, 165, 350, 351, 352, 353, 354, 355, 356, 357, 358, 359, 360, 157, 158, 159, 160, 361, 362, 363, 364, 365, 366, 367, 368, 108, 110, 111, 112, 674, 675, 676, 677, 678, 532, 533, 534, 536, 323, 324, 325, 981, 982, 983, 984, 985, 1019, 1031, 1032, 1033] (by decide +kernel) (by decide +kernel)
set_option maxRecDepth 20000 in
theorem gL_law_X8_fill : GoodIn wsL_law (wsV RL 115 RX8 yX8_fill wsX8_fill) := goodIn_app (goodIn_of _ (by decide +kernel)) ggL_law_X8_fill
set_option maxRecDepth 20000 in
theorem ggL_law_X9_fill : GoodIn wsL_law wsX9_fill := goodIn_r _ [682, 405, 404, 88, 87, 94, 596, 597, 598, 5, 599, 600, 601, 602, 603, 86, 125, 399, 181, 182, 183, 177, 178, 179, 180, 604, 605, 606, 607, 608, 463, 464, 465, 396, 397, 398, 986, 987, 988, 989, 990, 991, 992, 993, 994, 995, 996, 997, 998, 999, 1000, 1001, 1002, 1003, 1004, 1005, 1006, 1007, 1008, 1009, 1010, 1011, 1012] (by decide +kernel) (by decide +kernel)
set_option maxRecDepth 20000 in
theorem gL_law_X9_fill : GoodIn wsL_law (wsV RL 118 RX9 yX9_fill wsX9_fill) := goodIn_app (goodIn_of _ (by decide +kernel)) ggL_law_X9_fill
set_option maxRecDepth 20000 in
theorem ggL_law_X8_unknowns : GoodIn wsL_law wsX8_unknowns := goodIn_r _ [686, 28, 72, 73, 74, 27, 75, 76, 77, 62, 981, 982, 983, 984, 985, 1020, 1021, 1022, 1023, 1024, 1025, 1026, 1027] (by decide +kernel) (by decide +kernel)
set_option maxRecDepth 20000 in
theorem gL_law_X8_unknowns : GoodIn wsL_law (wsV RL 119 RX8 yX8_unknowns wsX8_unknowns) := goodIn_app (goodIn_of _ (by decide +kernel)) ggL_law_X8_unknowns
set_option maxRecDepth 20000 in
theorem ggL_law_X9_unknowns : GoodIn wsL_law wsX9_unknowns := goodIn_r _ [690, 691, 505, 89, 90, 91, 130, 131, 5, 132, 986, 987, 988, 989, 990, 991, 992, 993, 994, 995, 996, 997, 998, 999, 1000, 1001, 1002, 1003, 1004, 1005, 1006, 1007, 1008, 1009, 1010, 1011, 1012] (by decide +kernel) (by decide +kernel)
set_option maxRecDepth 20000 in
theorem gL_law_X9_unknowns : GoodIn wsL_law (wsV RL 122 RX9 yX9_unknowns wsX9_unknowns) := goodIn_app (goodIn_of _ (by decide +kernel)) ggL_law_X9_unknowns
set_option maxRecDepth 20000 in
theorem ggL_law_X8_set : GoodIn wsL_law wsX8_set := goodIn_r _ [695, 28, 696, 697, 698, 699, 700, 27, 701, 77, 76, 702, 703, 704, 705, 62, 981, 982, 983, 984, 985, 1020, 1021, 1022, 1023, 1024, 1025, 1026, 1027] (by decide +kernel) (by decide +kernel)
set_option maxRecDepth 20000 in
theorem gL_law_X8_set : GoodIn wsL_law (wsV RL 123 RX8 yX8_set wsX8_set) := goodIn_app (goodIn_of _ (by decide +kernel)) ggL_law_X8_set
set_option maxRecDepth 20000 in
theorem ggL_law_X9_set : GoodIn wsL_law wsX9_set := goodIn_r _ [709, 90, 89, 710, 711, 91, 130, 131, 5, 132, 986, 987, 988, 989, 990, 991, 992, 993, 994, 995, 996, 997, 998, 999, 1000, 1001, 1002, 1003, 1004, 1005, 1006, 1007, 1008, 1009, 1010, 1011, 1012] (by decide +kernel) (by decide +kernel)
set_option maxRecDepth 20000 in
theorem gL_law_X9_set : GoodIn wsL_law (wsV RL 126 RX9 yX9_set wsX9_set) := goodIn_app (goodIn_of _ (by decide +kernel)) ggL_law_X9_set
set_option maxRecDepth 20000 in
theorem ggL_law_X8_kind : GoodIn wsL_law wsX8_kind := goodIn_r _ [715, 28, 716, 717, 718, 27, 719, 63, 62, 720, 721, 76, 65, 722, 723, 724, 725, 77, 726, 727, 728, 729, 730, 731, 732, 733, 734, 735, 736, 737, 738, 739, 740, 741, 742, 743, 744, 745, 746, 747, 109, 748, 157, 158, 159, 160, 749, 750, 751, 752, 981, 982, 983, 984, 985, 1020, 1021, 1022, 1023, 1024, 1025, 1026, 1027] (by decide +kernel) (by decide +kernel)
set_option maxRecDepth 20000 in
theorem gL_law_X8_kind : GoodIn wsL_law (wsV RL 127 RX8 yX8_kind wsX8_kind) := goodIn_app (goodIn_of _ (by decide +kernel)) ggL_law_X8_kind
set_option maxRecDepth 20000 in
theorem ggL_law_X9_kind : GoodIn wsL_law wsX9_kind := goodIn_r _ [756, 757, 758, 759, 5, 760, 761, 90, 97, 89, 762, 763, 764, 765, 766, 91, 98, 767, 768, 769, 770, 771, 772, 773, 774, 775, 776, 777, 778, 178, 179, 180, 986, 987, 988, 989, 990, 991, 992, 993, 994, 995, 996, 997, 998, 999, 1000, 1001, 1002, 1003, 1004, 1005, 1006, 1007, 1008, 1009, 1010, 1011, 1012] (by decide +kernel) (by decide +kernel)
set_option maxRecDepth 20000 in
theorem gL_law_X9_kind : GoodIn wsL_law (wsV RL 130 RX9 yX9_kind wsX9_kind) := goodIn_app (goodIn_of _ (by decide +kernel)) ggL_law_X9_kind
set_option maxRecDepth 20000 in
theorem ggL_law_X8_turns : GoodIn wsL_law wsX8_turns := goodIn_r _ [782, 28, 716, 717, 718, 27, 719, 63, 62, 720, 721, 76, 65, 722, 723, 724, 725, 77, 726, 727, 728, 729, 730, 731, 732, 733, 734, 735, 736, 737, 738, 739, 740, 741, 742, 743, 744, 745, 746, 747, 109, 748, 157, 158, 159, 160, 981, 982, 983, 984, 985, 1020, 1021, 1022, 1023, 1024, 1025, 1026, 1027] (by decide +kernel) (by decide +kernel)
set_option maxRecDepth 20000 in
theorem gL_law_X8_turns : GoodIn wsL_law (wsV RL 131 RX8 yX8_turns wsX8_turns) := goodIn_app (goodIn_of _ (by decide +kernel)) ggL_law_X8_turns
set_option maxRecDepth 20000 in
theorem ggL_law_X9_turns : GoodIn wsL_law wsX9_turns := goodIn_r _ [786, 767, 763, 764, 765, 5, 766, 97, 91, 98, 762, 89, 90, 761, 768, 769, 770, 771, 772, 773, 774, 775, 776, 777, 778, 178, 179, 180, 986, 987, 988, 989, 990, 991, 992, 993, 994, 995, 996, 997, 998, 999, 1000, 1001, 1002, 1003, 1004, 1005, 1006, 1007, 1008, 1009, 1010, 1011, 1012] (by decide +kernel) (by decide +kernel)
set_option maxRecDepth 20000 in
theorem gL_law_X9_turns : GoodIn wsL_law (wsV RL 134 RX9 yX9_turns wsX9_turns) := goodIn_app (goodIn_of _ (by decide +kernel)) ggL_law_X9_turns
set_option maxRecDepth 20000 in
theorem ggL_law_X8_cleared : GoodIn wsL_law wsX8_cleared := goodIn_r _ [790, 28, 140, 698, 699, 700, 27, 701, 77, 76, 716, 717, 718, 719, 63, 62, 720, 721, 65, 722, 723, 724, 725, 726, 727, 728, 729, 730, 731, 732, 733, 734, 735, 736, 737, 738, 739, 740, 741, 742, 743, 744, 745, 746, 747, 109, 748, 157, 158, 159, 160, 791, 981, 982, 983, 984, 985, 1020, 1021, 1022, 1023, 1024, 1025, 1026, 1027] (by decide +kernel) (by decide +kernel)
set_option maxRecDepth 20000 in
theorem gL_law_X8_cleared : GoodIn wsL_law (wsV RL 135 RX8 yX8_cleared wsX8_cleared) := goodIn_app (goodIn_of _ (by decide +kernel)) ggL_law_X8_cleared
set_option maxRecDepth 20000 in
theorem ggL_law_X9_cleared : GoodIn wsL_law wsX9_cleared := goodIn_r _ [795, 90, 89, 149, 97, 130, 131, 5, 132, 763, 764, 765, 766, 91, 98, 767, 762, 761, 768, 769, 770, 771, 772, 773, 774, 775, 776, 777, 778, 178, 179, 180, 986, 987, 988, 989, 990, 991, 992, 993, 994, 995, 996, 997, 998, 999, 1000, 1001, 1002, 1003, 1004, 1005, 1006, 1007, 1008, 1009, 1010, 1011, 1012] (by decide +kernel) (by decide +kernel)
set_option maxRecDepth 20000 in
theorem gL_law_X9_cleared : GoodIn wsL_law (wsV RL 138 RX9 yX9_cleared wsX9_cleared) := goodIn_app (goodIn_of _ (by decide +kernel)) ggL_law_X9_cleared
set_option maxRecDepth 20000 in
theorem ggL_law_X8_answer : GoodIn wsL_law wsX8_answer := goodIn_r _ [799, 28, 140, 800, 553, 801, 802, 803, 27, 804, 76, 716, 717, 718, 719, 63, 62, 720, 721, 65, 722, 723, 724, 725, 77, 726, 727, 728, 729, 730, 731, 732, 733, 734, 735, 736, 737, 738, 739, 740, 741, 742, 743, 744, 745, 746, 747, 109, 748, 157, 158, 159, 160, 749, 750, 751, 752, 805, 806, 807, 808, 809, 810, 811, 812, 66, 813, 814, 815, 816, 817, 981, 982, 983, 984, 985, 1020, 1021, 1022, 1023, 1024, 1025, 1026, 1027] (by decide +kernel) (by decide +kernel)
set_option maxRecDepth 20000 in
theorem gL_law_X8_answer : GoodIn wsL_law (wsV RL 139 RX8 yX8_answer wsX8_answer) := goodIn_app (goodIn_of _ (by decide +kernel)) ggL_law_X8_answer
set_option maxRecDepth 20000 in
theorem ggL_law_X9_answer : GoodIn wsL_law wsX9_answer := goodIn_r _ [821, 89, 149, 822, 559, 130, 131, 5, 132, 757, 758, 759, 760, 761, 90, 97, 762, 763, 764, 765, 766, 91, 98, 767, 768, 769, 770, 771, 772, 773, 774, 775, 776, 777, 778, 178, 179, 180, 823, 824, 825, 826, 99, 986, 987, 988, 989, 990, 991, 992, 993, 994, 995, 996, 997, 998, 999, 1000, 1001, 1002, 1003, 1004, 1005, 1006, 1007, 1008, 1009, 1010, 1011, 1012] (by decide +kernel) (by decide +kernel)
set_option maxRecDepth 20000 in
theorem gL_law_X9_answer : GoodIn wsL_law (wsV RL 142 RX9 yX9_answer wsX9_answer) := goodIn_app (goodIn_of _ (by decide +kernel)) ggL_law_X9_answer
set_option maxRecDepth 20000 in
theorem ggL_law_X8_free : GoodIn wsL_law wsX8_free := goodIn_r _ [830, 28, 801, 802, 803, 27, 804, 76, 716, 717, 718, 719, 63, 62, 720, 721, 65, 722, 723, 724, 725, 77, 726, 727, 728, 729, 730, 731, 732, 733, 734, 735, 736, 737, 738, 739, 740, 741, 742, 743, 744, 745, 746, 747, 109, 748, 157, 158, 159, 160, 831, 832, 833, 834, 981, 982, 983, 984, 985, 1020, 1021, 1022, 1023, 1024, 1025, 1026, 1027] (by decide +kernel) (by decide +kernel)
set_option maxRecDepth 20000 in
theorem gL_law_X8_free : GoodIn wsL_law (wsV RL 143 RX8 yX8_free wsX8_free) := goodIn_app (goodIn_of _ (by decide +kernel)) ggL_law_X8_free
set_option maxRecDepth 20000 in
theorem ggL_law_X9_free : GoodIn wsL_law wsX9_free := goodIn_r _ [838, 89, 762, 130, 131, 5, 132, 763, 764, 765, 766, 97, 91, 98, 767, 90, 761, 768, 769, 770, 771, 772, 773, 774, 775, 776, 777, 778, 178, 179, 180, 986, 987, 988, 989, 990, 991, 992, 993, 994, 995, 996, 997, 998, 999, 1000, 1001, 1002, 1003, 1004, 1005, 1006, 1007, 1008, 1009, 1010, 1011, 1012] (by decide +kernel) (by decide +kernel)
set_option maxRecDepth 20000 in
theorem gL_law_X9_free : GoodIn wsL_law (wsV RL 146 RX9 yX9_free wsX9_free) := goodIn_app (goodIn_of _ (by decide +kernel)) ggL_law_X9_free
set_option maxRecDepth 20000 in
theorem ggL_law_X8_count : GoodIn wsL_law wsX8_count := goodIn_r _ [842, 32, 843, 844, 845, 31, 846, 847, 848, 849, 850, 851, 70, 71, 852, 853, 854, 855, 981, 982, 983, 984, 985, 1028, 1029, 1030] (by decide +kernel) (by decide +kernel)
set_option maxRecDepth 20000 in
theorem gL_law_X8_count : GoodIn wsL_law (wsV RL 147 RX8 yX8_count wsX8_count) := goodIn_app (goodIn_of _ (by decide +kernel)) ggL_law_X8_count
set_option maxRecDepth 20000 in
theorem ggL_law_X9_count : GoodIn wsL_law wsX9_count := goodIn_r _ [859, 461, 860, 861, 92, 93, 130, 131, 5, 132, 986, 987, 988, 989, 990, 991, 992, 993, 994, 995, 996, 997, 998, 999, 1000, 1001, 1002, 1003, 1004, 1005, 1006, 1007, 1008, 1009, 1010, 1011, 1012] (by decide +kernel) (by decide +kernel)
set_option maxRecDepth 20000 in
theorem gL_law_X9_count : GoodIn wsL_law (wsV RL 150 RX9 yX9_count wsX9_count) := goodIn_app (goodIn_of _ (by decide +kernel)) ggL_law_X9_count
set_option maxRecDepth 20000 in
theorem ggL_law_X8_drop : GoodIn wsL_law wsX8_drop := goodIn_r _ [865, 32, 852, 853, 854, 31, 855, 847, 866, 867, 868, 869, 981, 982, 983, 984, 985, 1028, 1029, 1030] (by decide +kernel) (by decide +kernel)
set_option maxRecDepth 20000 in
theorem gL_law_X8_drop : GoodIn wsL_law (wsV RL 151 RX8 yX8_drop wsX8_drop) := goodIn_app (goodIn_of _ (by decide +kernel)) ggL_law_X8_drop
set_option maxRecDepth 20000 in
theorem ggL_law_X9_drop : GoodIn wsL_law wsX9_drop := goodIn_r _ [873, 861, 986, 987, 988, 989, 990, 991, 992, 993, 994, 995, 996, 997, 998, 999, 1000, 1001, 1002, 1003, 1004, 1005, 1006, 1007, 1008, 1009, 1010, 1011, 1012] (by decide +kernel) (by decide +kernel)
set_option maxRecDepth 20000 in
theorem gL_law_X9_drop : GoodIn wsL_law (wsV RL 154 RX9 yX9_drop wsX9_drop) := goodIn_app (goodIn_of _ (by decide +kernel)) ggL_law_X9_drop
set_option maxRecDepth 20000 in
theorem ggL_law_X8_joined : GoodIn wsL_law wsX8_joined := goodIn_r _ [877, 800, 32, 878, 879, 880, 881, 31, 882, 847, 883, 884, 885, 886, 70, 887, 747, 109, 748, 157, 158, 159, 160, 888, 889, 890, 891, 71, 892, 893, 894, 895, 896, 897, 898, 899, 900, 901, 902, 981, 982, 983, 984, 985, 1028, 1029, 1030] (by decide +kernel) (by decide +kernel)
set_option maxRecDepth 20000 in
theorem gL_law_X8_joined : GoodIn wsL_law (wsV RL 155 RX8 yX8_joined wsX8_joined) := goodIn_app (goodIn_of _ (by decide +kernel)) ggL_law_X8_joined
set_option maxRecDepth 20000 in
theorem ggL_law_X9_joined : GoodIn wsL_law wsX9_joined := goodIn_r _ [906, 822, 907, 861, 92, 93, 130, 131, 5, 132, 908, 909, 910, 911, 776, 777, 778, 178, 179, 180, 986, 987, 988, 989, 990, 991, 992, 993, 994, 995, 996, 997, 998, 999, 1000, 1001, 1002, 1003, 1004, 1005, 1006, 1007, 1008, 1009, 1010, 1011, 1012] (by decide +kernel) (by decide +kernel)
set_option maxRecDepth 20000 in
theorem gL_law_X9_joined : GoodIn wsL_law (wsV RL 158 RX9 yX9_joined wsX9_joined) := goodIn_app (goodIn_of _ (by decide +kernel)) ggL_law_X9_joined
set_option maxRecDepth 20000 in
theorem ggL_law_X8_clash : GoodIn wsL_law wsX8_clash := goodIn_r _ [915, 32, 879, 880, 881, 31, 882, 847, 883, 884, 885, 886, 70, 887, 747, 109, 748, 157, 158, 159, 160, 888, 889, 890, 891, 71, 981, 982, 983, 984, 985, 1028, 1029, 1030] (by decide +kernel) (by decide +kernel)
set_option maxRecDepth 20000 in
theorem gL_law_X8_clash : GoodIn wsL_law (wsV RL 159 RX8 yX8_clash wsX8_clash) := goodIn_app (goodIn_of _ (by decide +kernel)) ggL_law_X8_clash
set_option maxRecDepth 20000 in
theorem ggL_law_X9_clash : GoodIn wsL_law wsX9_clash := goodIn_r _ [919, 908, 909, 910, 5, 911, 861, 93, 92, 776, 777, 778, 178, 179, 180, 986, 987, 988, 989, 990, 991, 992, 993, 994, 995, 996, 997, 998, 999, 1000, 1001, 1002, 1003, 1004, 1005, 1006, 1007, 1008, 1009, 1010, 1011, 1012] (by decide +kernel) (by decide +kernel)
set_option maxRecDepth 20000 in
theorem gL_law_X9_clash : GoodIn wsL_law (wsV RL 162 RX9 yX9_clash wsX9_clash) := goodIn_app (goodIn_of _ (by decide +kernel)) ggL_law_X9_clash
set_option maxRecDepth 20000 in
theorem ggL_law_X8_seek : GoodIn wsL_law wsX8_seek := goodIn_r _ [923, 924, 925, 31, 926] (by decide +kernel) (by decide +kernel)
set_option maxRecDepth 20000 in
theorem gL_law_X8_seek : GoodIn wsL_law (wsV RL 163 RX8 yX8_seek wsX8_seek) := goodIn_app (goodIn_of _ (by decide +kernel)) ggL_law_X8_seek
set_option maxRecDepth 20000 in
theorem ggL_law_X9_seek : GoodIn wsL_law wsX9_seek := goodIn_r _ [930, 461, 860, 130, 131, 5, 132] (by decide +kernel) (by decide +kernel)
set_option maxRecDepth 20000 in
theorem gL_law_X9_seek : GoodIn wsL_law (wsV RL 166 RX9 yX9_seek wsX9_seek) := goodIn_app (goodIn_of _ (by decide +kernel)) ggL_law_X9_seek
set_option maxRecDepth 20000 in
theorem ggL_law_X8_problem : GoodIn wsL_law wsX8_problem := goodIn_r _ [934, 800, 935, 936, 937, 938, 939, 940, 941, 942, 943, 944, 945, 946, 947, 948, 949, 950, 951, 952, 953, 954, 955, 956] (by decide +kernel) (by decide +kernel)
set_option maxRecDepth 20000 in
theorem gL_law_X8_problem : GoodIn wsL_law (wsV RL 167 RX8 yX8_problem wsX8_problem) := goodIn_app (goodIn_of _ (by decide +kernel)) ggL_law_X8_problem
set_option maxRecDepth 20000 in
theorem ggL_law_X9_problem : GoodIn wsL_law wsX9_problem := goodIn_r _ [960, 505, 822, 907, 461, 462, 129, 961, 962, 5, 963, 607, 130, 131, 132] (by decide +kernel) (by decide +kernel)
set_option maxRecDepth 20000 in
theorem gL_law_X9_problem : GoodIn wsL_law (wsV RL 171 RX9 yX9_problem wsX9_problem) := goodIn_app (goodIn_of _ (by decide +kernel)) ggL_law_X9_problem
set_option maxRecDepth 20000 in
theorem ggL_law_X8_told : GoodIn wsL_law wsX8_told := goodIn_r _ [967, 20, 16, 24, 28, 32, 213, 214, 215, 19, 216, 217, 499, 378, 379, 40, 380, 313, 526, 527, 528, 23, 529, 58, 530, 471, 472, 473, 852, 853, 854, 31, 855, 847, 968, 969, 970, 971, 568, 569, 570, 571, 572, 535, 342, 343, 344, 45, 972, 973, 974, 15, 975, 37, 976, 189, 109, 190, 191, 155, 156, 157, 158, 159, 160, 161, 162, 163, 164, 165, 981, 982, 983, 984, 985, 1013, 1014, 1020, 1021, 1022, 1023, 1024, 1025, 1026, 1027, 1015, 1016, 1017, 1018, 1031, 1032, 1033, 1019, 1028, 1029, 1030] (by decide +kernel) (by decide +kernel)
set_option maxRecDepth 20000 in
theorem gL_law_X8_told : GoodIn wsL_law (wsV RL 172 RX8 yX8_told wsX8_told) := goodIn_app (goodIn_of _ (by decide +kernel)) ggL_law_X8_told
set_option maxRecDepth 20000 in
theorem ggL_law_X9_told : GoodIn wsL_law wsX9_told := goodIn_r _ [980, 227, 404, 405, 89, 90, 861, 88, 82, 203, 204, 5, 205, 174, 175, 176, 177, 178, 179, 180, 181, 182, 183, 986, 987, 988, 989, 990, 991, 992, 993, 994, 995, 996, 997, 998, 999, 1000, 1001, 1002, 1003, 1004, 1005, 1006, 1007, 1008, 1009, 1010, 1011, 1012] (by decide +kernel) (by decide +kernel)
set_option maxRecDepth 20000 in
theorem gL_law_X9_told : GoodIn wsL_law (wsV RL 175 RX9 yX9_told wsX9_told) := goodIn_app (goodIn_of _ (by decide +kernel)) ggL_law_X9_told
theorem dL_law_0 : decode cL_law 0 = .ok (.new 7, 3) := by decide +kernel
theorem dL_law_3 : decode cL_law 3 = .ok (.dup, 1) := by decide +kernel
theorem dL_law_4 : decode cL_law 4 = .ok (.invokespecial 9, 3) := by decide +kernel
theorem dL_law_7 : decode cL_law 7 = .ok (.astore_n 1, 1) := by decide +kernel
theorem dL_law_8 : decode cL_law 8 = .ok (.new 10, 3) := by decide +kernel
theorem dL_law_11 : decode cL_law 11 = .ok (.dup, 1) := by decide +kernel
theorem dL_law_12 : decode cL_law 12 = .ok (.invokespecial 12, 3) := by decide +kernel
theorem dL_law_15 : decode cL_law 15 = .ok (.astore_n 2, 1) := by decide +kernel
theorem dL_law_16 : decode cL_law 16 = .ok (.iconst 0, 1) := by decide +kernel
theorem dL_law_17 : decode cL_law 17 = .ok (.istore_n 3, 1) := by decide +kernel
theorem dL_law_18 : decode cL_law 18 = .ok (.iload_n 3, 1) := by decide +kernel
theorem dL_law_19 : decode cL_law 19 = .ok (.aload_n 0, 1) := by decide +kernel
theorem dL_law_20 : decode cL_law 20 = .ok (.arraylength, 1) := by decide +kernel
theorem dL_law_21 : decode cL_law 21 = .ok (.bipush 7, 2) := by decide +kernel
theorem dL_law_23 : decode cL_law 23 = .ok (.isub, 1) := by decide +kernel
theorem dL_law_24 : decode cL_law 24 = .ok (.if_icmp .gt 1326, 3) := by decide +kernel
theorem dL_law_27 : decode cL_law 27 = .ok (.aload_n 0, 1) := by decide +kernel
theorem dL_law_28 : decode cL_law 28 = .ok (.iload_n 3, 1) := by decide +kernel
theorem dL_law_29 : decode cL_law 29 = .ok (.iaload, 1) := by decide +kernel
theorem dL_law_30 : decode cL_law 30 = .ok (.bipush 63, 2) := by decide +kernel
theorem dL_law_32 : decode cL_law 32 = .ok (.iand, 1) := by decide +kernel
theorem dL_law_33 : decode cL_law 33 = .ok (.tableswitch 1311 0 37 #[167, 230, 254, 287, 320, 353, 376, 389, 402, 426, 459, 502, 545, 588, 601, 635, 668, 681, 754, 787, 821, 844, 857, 880, 893, 926, 969, 982, 995, 1029, 1063, 1086, 1119, 1132, 1156, 1169, 1212, 1288], 167) := by decide +kernel
theorem dL_law_200 : decode cL_law 200 = .ok (.aload_n 1, 1) := by decide +kernel
theorem dL_law_201 : decode cL_law 201 = .ok (.aload_n 0, 1) := by decide +kernel
theorem dL_law_202 : decode cL_law 202 = .ok (.iload_n 3, 1) := by decide +kernel
theorem dL_law_203 : decode cL_law 203 = .ok (.iconst 1, 1) := by decide +kernel
theorem dL_law_204 : decode cL_law 204 = .ok (.iadd, 1) := by decide +kernel
theorem dL_law_205 : decode cL_law 205 = .ok (.iaload, 1) := by decide +kernel
theorem dL_law_206 : decode cL_law 206 = .ok (.aload_n 0, 1) := by decide +kernel
theorem dL_law_207 : decode cL_law 207 = .ok (.iload_n 3, 1) := by decide +kernel
theorem dL_law_208 : decode cL_law 208 = .ok (.iconst 2, 1) := by decide +kernel
theorem dL_law_209 : decode cL_law 209 = .ok (.iadd, 1) := by decide +kernel
theorem dL_law_210 : decode cL_law 210 = .ok (.iaload, 1) := by decide +kernel
theorem dL_law_211 : decode cL_law 211 = .ok (.i2l, 1) := by decide +kernel
theorem dL_law_212 : decode cL_law 212 = .ok (.bipush 32, 2) := by decide +kernel
theorem dL_law_214 : decode cL_law 214 = .ok (.lshl, 1) := by decide +kernel
theorem dL_law_215 : decode cL_law 215 = .ok (.aload_n 0, 1) := by decide +kernel
theorem dL_law_216 : decode cL_law 216 = .ok (.iload_n 3, 1) := by decide +kernel
theorem dL_law_217 : decode cL_law 217 = .ok (.iconst 3, 1) := by decide +kernel
theorem dL_law_218 : decode cL_law 218 = .ok (.iadd, 1) := by decide +kernel
theorem dL_law_219 : decode cL_law 219 = .ok (.iaload, 1) := by decide +kernel
theorem dL_law_220 : decode cL_law 220 = .ok (.i2l, 1) := by decide +kernel
theorem dL_law_221 : decode cL_law 221 = .ok (.ldc2_w 13, 3) := by decide +kernel
theorem dL_law_224 : decode cL_law 224 = .ok (.land, 1) := by decide +kernel
theorem dL_law_225 : decode cL_law 225 = .ok (.lor, 1) := by decide +kernel
theorem dL_law_226 : decode cL_law 226 = .ok (.invokevirtual 15, 3) := by decide +kernel
theorem dL_law_229 : decode cL_law 229 = .ok (.aload_n 2, 1) := by decide +kernel
theorem dL_law_230 : decode cL_law 230 = .ok (.aload_n 0, 1) := by decide +kernel
theorem dL_law_231 : decode cL_law 231 = .ok (.iload_n 3, 1) := by decide +kernel
theorem dL_law_232 : decode cL_law 232 = .ok (.iconst 1, 1) := by decide +kernel
theorem dL_law_233 : decode cL_law 233 = .ok (.iadd, 1) := by decide +kernel
theorem dL_law_234 : decode cL_law 234 = .ok (.iaload, 1) := by decide +kernel
theorem dL_law_235 : decode cL_law 235 = .ok (.aload_n 0, 1) := by decide +kernel
theorem dL_law_236 : decode cL_law 236 = .ok (.iload_n 3, 1) := by decide +kernel
theorem dL_law_237 : decode cL_law 237 = .ok (.iconst 2, 1) := by decide +kernel
theorem dL_law_238 : decode cL_law 238 = .ok (.iadd, 1) := by decide +kernel
theorem dL_law_239 : decode cL_law 239 = .ok (.iaload, 1) := by decide +kernel
theorem dL_law_240 : decode cL_law 240 = .ok (.i2l, 1) := by decide +kernel
theorem dL_law_241 : decode cL_law 241 = .ok (.bipush 32, 2) := by decide +kernel
theorem dL_law_243 : decode cL_law 243 = .ok (.lshl, 1) := by decide +kernel
theorem dL_law_244 : decode cL_law 244 = .ok (.aload_n 0, 1) := by decide +kernel
theorem dL_law_245 : decode cL_law 245 = .ok (.iload_n 3, 1) := by decide +kernel
theorem dL_law_246 : decode cL_law 246 = .ok (.iconst 3, 1) := by decide +kernel
theorem dL_law_247 : decode cL_law 247 = .ok (.iadd, 1) := by decide +kernel
theorem dL_law_248 : decode cL_law 248 = .ok (.iaload, 1) := by decide +kernel
theorem dL_law_249 : decode cL_law 249 = .ok (.i2l, 1) := by decide +kernel
theorem dL_law_250 : decode cL_law 250 = .ok (.ldc2_w 13, 3) := by decide +kernel
theorem dL_law_253 : decode cL_law 253 = .ok (.land, 1) := by decide +kernel
theorem dL_law_254 : decode cL_law 254 = .ok (.lor, 1) := by decide +kernel
theorem dL_law_255 : decode cL_law 255 = .ok (.invokevirtual 19, 3) := by decide +kernel
theorem dL_law_258 : decode cL_law 258 = .ok (.if_icmp .eq 1086, 3) := by decide +kernel
theorem dL_law_261 : decode cL_law 261 = .ok (.iconst 0, 1) := by decide +kernel
theorem dL_law_262 : decode cL_law 262 = .ok (.ireturn, 1) := by decide +kernel
theorem dL_law_263 : decode cL_law 263 = .ok (.aload_n 1, 1) := by decide +kernel
theorem dL_law_264 : decode cL_law 264 = .ok (.aload_n 0, 1) := by decide +kernel
theorem dL_law_265 : decode cL_law 265 = .ok (.iload_n 3, 1) := by decide +kernel
theorem dL_law_266 : decode cL_law 266 = .ok (.iconst 1, 1) := by decide +kernel
theorem dL_law_267 : decode cL_law 267 = .ok (.iadd, 1) := by decide +kernel
theorem dL_law_268 : decode cL_law 268 = .ok (.iaload, 1) := by decide +kernel
theorem dL_law_269 : decode cL_law 269 = .ok (.invokevirtual 20, 3) := by decide +kernel
theorem dL_law_272 : decode cL_law 272 = .ok (.aload_n 2, 1) := by decide +kernel
theorem dL_law_273 : decode cL_law 273 = .ok (.aload_n 0, 1) := by decide +kernel
theorem dL_law_274 : decode cL_law 274 = .ok (.iload_n 3, 1) := by decide +kernel
theorem dL_law_275 : decode cL_law 275 = .ok (.iconst 1, 1) := by decide +kernel
theorem dL_law_276 : decode cL_law 276 = .ok (.iadd, 1) := by decide +kernel
theorem dL_law_277 : decode cL_law 277 = .ok (.iaload, 1) := by decide +kernel
theorem dL_law_278 : decode cL_law 278 = .ok (.invokevirtual 24, 3) := by decide +kernel
theorem dL_law_281 : decode cL_law 281 = .ok (.lcmp, 1) := by decide +kernel
theorem dL_law_282 : decode cL_law 282 = .ok (.ifCond .eq 1062, 3) := by decide +kernel
theorem dL_law_285 : decode cL_law 285 = .ok (.iconst 0, 1) := by decide +kernel
theorem dL_law_286 : decode cL_law 286 = .ok (.ireturn, 1) := by decide +kernel
theorem dL_law_287 : decode cL_law 287 = .ok (.aload_n 1, 1) := by decide +kernel
theorem dL_law_288 : decode cL_law 288 = .ok (.aload_n 0, 1) := by decide +kernel
theorem dL_law_289 : decode cL_law 289 = .ok (.iload_n 3, 1) := by decide +kernel
theorem dL_law_290 : decode cL_law 290 = .ok (.iconst 1, 1) := by decide +kernel
theorem dL_law_291 : decode cL_law 291 = .ok (.iadd, 1) := by decide +kernel
theorem dL_law_292 : decode cL_law 292 = .ok (.iaload, 1) := by decide +kernel
theorem dL_law_293 : decode cL_law 293 = .ok (.aload_n 0, 1) := by decide +kernel
theorem dL_law_294 : decode cL_law 294 = .ok (.iload_n 3, 1) := by decide +kernel
theorem dL_law_295 : decode cL_law 295 = .ok (.iconst 2, 1) := by decide +kernel
theorem dL_law_296 : decode cL_law 296 = .ok (.iadd, 1) := by decide +kernel
theorem dL_law_297 : decode cL_law 297 = .ok (.iaload, 1) := by decide +kernel
theorem dL_law_298 : decode cL_law 298 = .ok (.invokevirtual 25, 3) := by decide +kernel
theorem dL_law_301 : decode cL_law 301 = .ok (.aload_n 2, 1) := by decide +kernel
theorem dL_law_302 : decode cL_law 302 = .ok (.aload_n 0, 1) := by decide +kernel
theorem dL_law_303 : decode cL_law 303 = .ok (.iload_n 3, 1) := by decide +kernel
theorem dL_law_304 : decode cL_law 304 = .ok (.iconst 1, 1) := by decide +kernel
theorem dL_law_305 : decode cL_law 305 = .ok (.iadd, 1) := by decide +kernel
theorem dL_law_306 : decode cL_law 306 = .ok (.iaload, 1) := by decide +kernel
theorem dL_law_307 : decode cL_law 307 = .ok (.aload_n 0, 1) := by decide +kernel
theorem dL_law_308 : decode cL_law 308 = .ok (.iload_n 3, 1) := by decide +kernel
theorem dL_law_309 : decode cL_law 309 = .ok (.iconst 2, 1) := by decide +kernel
theorem dL_law_310 : decode cL_law 310 = .ok (.iadd, 1) := by decide +kernel
theorem dL_law_311 : decode cL_law 311 = .ok (.iaload, 1) := by decide +kernel
theorem dL_law_312 : decode cL_law 312 = .ok (.invokevirtual 29, 3) := by decide +kernel
theorem dL_law_315 : decode cL_law 315 = .ok (.if_icmp .eq 1029, 3) := by decide +kernel
theorem dL_law_318 : decode cL_law 318 = .ok (.iconst 0, 1) := by decide +kernel
theorem dL_law_319 : decode cL_law 319 = .ok (.ireturn, 1) := by decide +kernel
theorem dL_law_320 : decode cL_law 320 = .ok (.aload_n 1, 1) := by decide +kernel
theorem dL_law_321 : decode cL_law 321 = .ok (.aload_n 0, 1) := by decide +kernel
theorem dL_law_322 : decode cL_law 322 = .ok (.iload_n 3, 1) := by decide +kernel
theorem dL_law_323 : decode cL_law 323 = .ok (.iconst 1, 1) := by decide +kernel
theorem dL_law_324 : decode cL_law 324 = .ok (.iadd, 1) := by decide +kernel
theorem dL_law_325 : decode cL_law 325 = .ok (.iaload, 1) := by decide +kernel
theorem dL_law_326 : decode cL_law 326 = .ok (.aload_n 0, 1) := by decide +kernel
theorem dL_law_327 : decode cL_law 327 = .ok (.iload_n 3, 1) := by decide +kernel
theorem dL_law_328 : decode cL_law 328 = .ok (.iconst 2, 1) := by decide +kernel
theorem dL_law_329 : decode cL_law 329 = .ok (.iadd, 1) := by decide +kernel
theorem dL_law_330 : decode cL_law 330 = .ok (.iaload, 1) := by decide +kernel
theorem dL_law_331 : decode cL_law 331 = .ok (.invokevirtual 30, 3) := by decide +kernel
theorem dL_law_334 : decode cL_law 334 = .ok (.aload_n 2, 1) := by decide +kernel
theorem dL_law_335 : decode cL_law 335 = .ok (.aload_n 0, 1) := by decide +kernel
theorem dL_law_336 : decode cL_law 336 = .ok (.iload_n 3, 1) := by decide +kernel
theorem dL_law_337 : decode cL_law 337 = .ok (.iconst 1, 1) := by decide +kernel
theorem dL_law_338 : decode cL_law 338 = .ok (.iadd, 1) := by decide +kernel
theorem dL_law_339 : decode cL_law 339 = .ok (.iaload, 1) := by decide +kernel
theorem dL_law_340 : decode cL_law 340 = .ok (.aload_n 0, 1) := by decide +kernel
theorem dL_law_341 : decode cL_law 341 = .ok (.iload_n 3, 1) := by decide +kernel
theorem dL_law_342 : decode cL_law 342 = .ok (.iconst 2, 1) := by decide +kernel
theorem dL_law_343 : decode cL_law 343 = .ok (.iadd, 1) := by decide +kernel
theorem dL_law_344 : decode cL_law 344 = .ok (.iaload, 1) := by decide +kernel
theorem dL_law_345 : decode cL_law 345 = .ok (.invokevirtual 33, 3) := by decide +kernel
theorem dL_law_348 : decode cL_law 348 = .ok (.if_icmp .eq 996, 3) := by decide +kernel
theorem dL_law_351 : decode cL_law 351 = .ok (.iconst 0, 1) := by decide +kernel
theorem dL_law_352 : decode cL_law 352 = .ok (.ireturn, 1) := by decide +kernel
theorem dL_law_353 : decode cL_law 353 = .ok (.aload_n 1, 1) := by decide +kernel
theorem dL_law_354 : decode cL_law 354 = .ok (.aload_n 0, 1) := by decide +kernel
theorem dL_law_355 : decode cL_law 355 = .ok (.iload_n 3, 1) := by decide +kernel
theorem dL_law_356 : decode cL_law 356 = .ok (.iconst 1, 1) := by decide +kernel
theorem dL_law_357 : decode cL_law 357 = .ok (.iadd, 1) := by decide +kernel
theorem dL_law_358 : decode cL_law 358 = .ok (.iaload, 1) := by decide +kernel
theorem dL_law_359 : decode cL_law 359 = .ok (.aload_n 0, 1) := by decide +kernel
theorem dL_law_360 : decode cL_law 360 = .ok (.iload_n 3, 1) := by decide +kernel
theorem dL_law_361 : decode cL_law 361 = .ok (.iconst 2, 1) := by decide +kernel
theorem dL_law_362 : decode cL_law 362 = .ok (.iadd, 1) := by decide +kernel
theorem dL_law_363 : decode cL_law 363 = .ok (.iaload, 1) := by decide +kernel
theorem dL_law_364 : decode cL_law 364 = .ok (.invokevirtual 34, 3) := by decide +kernel
theorem dL_law_367 : decode cL_law 367 = .ok (.aload_n 2, 1) := by decide +kernel
theorem dL_law_368 : decode cL_law 368 = .ok (.aload_n 0, 1) := by decide +kernel
theorem dL_law_369 : decode cL_law 369 = .ok (.iload_n 3, 1) := by decide +kernel
theorem dL_law_370 : decode cL_law 370 = .ok (.iconst 1, 1) := by decide +kernel
theorem dL_law_371 : decode cL_law 371 = .ok (.iadd, 1) := by decide +kernel
theorem dL_law_372 : decode cL_law 372 = .ok (.iaload, 1) := by decide +kernel
theorem dL_law_373 : decode cL_law 373 = .ok (.aload_n 0, 1) := by decide +kernel
theorem dL_law_374 : decode cL_law 374 = .ok (.iload_n 3, 1) := by decide +kernel
theorem dL_law_375 : decode cL_law 375 = .ok (.iconst 2, 1) := by decide +kernel
theorem dL_law_376 : decode cL_law 376 = .ok (.iadd, 1) := by decide +kernel
theorem dL_law_377 : decode cL_law 377 = .ok (.iaload, 1) := by decide +kernel
theorem dL_law_378 : decode cL_law 378 = .ok (.invokevirtual 37, 3) := by decide +kernel
theorem dL_law_381 : decode cL_law 381 = .ok (.if_icmp .eq 963, 3) := by decide +kernel
theorem dL_law_384 : decode cL_law 384 = .ok (.iconst 0, 1) := by decide +kernel
theorem dL_law_385 : decode cL_law 385 = .ok (.ireturn, 1) := by decide +kernel
theorem dL_law_386 : decode cL_law 386 = .ok (.aload_n 1, 1) := by decide +kernel
theorem dL_law_387 : decode cL_law 387 = .ok (.aload_n 0, 1) := by decide +kernel
theorem dL_law_388 : decode cL_law 388 = .ok (.iload_n 3, 1) := by decide +kernel
theorem dL_law_389 : decode cL_law 389 = .ok (.iconst 1, 1) := by decide +kernel
theorem dL_law_390 : decode cL_law 390 = .ok (.iadd, 1) := by decide +kernel
theorem dL_law_391 : decode cL_law 391 = .ok (.iaload, 1) := by decide +kernel
theorem dL_law_392 : decode cL_law 392 = .ok (.invokevirtual 38, 3) := by decide +kernel
theorem dL_law_395 : decode cL_law 395 = .ok (.aload_n 2, 1) := by decide +kernel
theorem dL_law_396 : decode cL_law 396 = .ok (.aload_n 0, 1) := by decide +kernel
theorem dL_law_397 : decode cL_law 397 = .ok (.iload_n 3, 1) := by decide +kernel
theorem dL_law_398 : decode cL_law 398 = .ok (.iconst 1, 1) := by decide +kernel
theorem dL_law_399 : decode cL_law 399 = .ok (.iadd, 1) := by decide +kernel
theorem dL_law_400 : decode cL_law 400 = .ok (.iaload, 1) := by decide +kernel
theorem dL_law_401 : decode cL_law 401 = .ok (.invokevirtual 42, 3) := by decide +kernel
theorem dL_law_404 : decode cL_law 404 = .ok (.if_icmp .eq 940, 3) := by decide +kernel
theorem dL_law_407 : decode cL_law 407 = .ok (.iconst 0, 1) := by decide +kernel
theorem dL_law_408 : decode cL_law 408 = .ok (.ireturn, 1) := by decide +kernel
theorem dL_law_409 : decode cL_law 409 = .ok (.aload_n 1, 1) := by decide +kernel
theorem dL_law_410 : decode cL_law 410 = .ok (.invokevirtual 43, 3) := by decide +kernel
theorem dL_law_413 : decode cL_law 413 = .ok (.aload_n 2, 1) := by decide +kernel
theorem dL_law_414 : decode cL_law 414 = .ok (.invokevirtual 47, 3) := by decide +kernel
theorem dL_law_417 : decode cL_law 417 = .ok (.if_icmp .eq 927, 3) := by decide +kernel
theorem dL_law_420 : decode cL_law 420 = .ok (.iconst 0, 1) := by decide +kernel
theorem dL_law_421 : decode cL_law 421 = .ok (.ireturn, 1) := by decide +kernel
theorem dL_law_422 : decode cL_law 422 = .ok (.aload_n 1, 1) := by decide +kernel
theorem dL_law_423 : decode cL_law 423 = .ok (.invokevirtual 48, 3) := by decide +kernel
theorem dL_law_426 : decode cL_law 426 = .ok (.aload_n 2, 1) := by decide +kernel
theorem dL_law_427 : decode cL_law 427 = .ok (.invokevirtual 51, 3) := by decide +kernel
theorem dL_law_430 : decode cL_law 430 = .ok (.if_icmp .eq 914, 3) := by decide +kernel
theorem dL_law_433 : decode cL_law 433 = .ok (.iconst 0, 1) := by decide +kernel
theorem dL_law_434 : decode cL_law 434 = .ok (.ireturn, 1) := by decide +kernel
theorem dL_law_435 : decode cL_law 435 = .ok (.aload_n 1, 1) := by decide +kernel
theorem dL_law_436 : decode cL_law 436 = .ok (.aload_n 0, 1) := by decide +kernel
theorem dL_law_437 : decode cL_law 437 = .ok (.iload_n 3, 1) := by decide +kernel
theorem dL_law_438 : decode cL_law 438 = .ok (.iconst 1, 1) := by decide +kernel
theorem dL_law_439 : decode cL_law 439 = .ok (.iadd, 1) := by decide +kernel
theorem dL_law_440 : decode cL_law 440 = .ok (.iaload, 1) := by decide +kernel
theorem dL_law_441 : decode cL_law 441 = .ok (.invokevirtual 52, 3) := by decide +kernel
theorem dL_law_444 : decode cL_law 444 = .ok (.aload_n 2, 1) := by decide +kernel
theorem dL_law_445 : decode cL_law 445 = .ok (.aload_n 0, 1) := by decide +kernel
theorem dL_law_446 : decode cL_law 446 = .ok (.iload_n 3, 1) := by decide +kernel
theorem dL_law_447 : decode cL_law 447 = .ok (.iconst 1, 1) := by decide +kernel
theorem dL_law_448 : decode cL_law 448 = .ok (.iadd, 1) := by decide +kernel
theorem dL_law_449 : decode cL_law 449 = .ok (.iaload, 1) := by decide +kernel
theorem dL_law_450 : decode cL_law 450 = .ok (.invokevirtual 55, 3) := by decide +kernel
theorem dL_law_453 : decode cL_law 453 = .ok (.lcmp, 1) := by decide +kernel
theorem dL_law_454 : decode cL_law 454 = .ok (.ifCond .eq 890, 3) := by decide +kernel
theorem dL_law_457 : decode cL_law 457 = .ok (.iconst 0, 1) := by decide +kernel
theorem dL_law_458 : decode cL_law 458 = .ok (.ireturn, 1) := by decide +kernel
theorem dL_law_459 : decode cL_law 459 = .ok (.aload_n 1, 1) := by decide +kernel
theorem dL_law_460 : decode cL_law 460 = .ok (.aload_n 0, 1) := by decide +kernel
theorem dL_law_461 : decode cL_law 461 = .ok (.iload_n 3, 1) := by decide +kernel
theorem dL_law_462 : decode cL_law 462 = .ok (.iconst 1, 1) := by decide +kernel
theorem dL_law_463 : decode cL_law 463 = .ok (.iadd, 1) := by decide +kernel
theorem dL_law_464 : decode cL_law 464 = .ok (.iaload, 1) := by decide +kernel
theorem dL_law_465 : decode cL_law 465 = .ok (.aload_n 0, 1) := by decide +kernel
theorem dL_law_466 : decode cL_law 466 = .ok (.iload_n 3, 1) := by decide +kernel
theorem dL_law_467 : decode cL_law 467 = .ok (.iconst 2, 1) := by decide +kernel
theorem dL_law_468 : decode cL_law 468 = .ok (.iadd, 1) := by decide +kernel
theorem dL_law_469 : decode cL_law 469 = .ok (.iaload, 1) := by decide +kernel
theorem dL_law_470 : decode cL_law 470 = .ok (.invokevirtual 56, 3) := by decide +kernel
theorem dL_law_473 : decode cL_law 473 = .ok (.aload_n 2, 1) := by decide +kernel
theorem dL_law_474 : decode cL_law 474 = .ok (.aload_n 0, 1) := by decide +kernel
theorem dL_law_475 : decode cL_law 475 = .ok (.iload_n 3, 1) := by decide +kernel
theorem dL_law_476 : decode cL_law 476 = .ok (.iconst 1, 1) := by decide +kernel
theorem dL_law_477 : decode cL_law 477 = .ok (.iadd, 1) := by decide +kernel
theorem dL_law_478 : decode cL_law 478 = .ok (.iaload, 1) := by decide +kernel
theorem dL_law_479 : decode cL_law 479 = .ok (.aload_n 0, 1) := by decide +kernel
theorem dL_law_480 : decode cL_law 480 = .ok (.iload_n 3, 1) := by decide +kernel
theorem dL_law_481 : decode cL_law 481 = .ok (.iconst 2, 1) := by decide +kernel
theorem dL_law_482 : decode cL_law 482 = .ok (.iadd, 1) := by decide +kernel
theorem dL_law_483 : decode cL_law 483 = .ok (.iaload, 1) := by decide +kernel
theorem dL_law_484 : decode cL_law 484 = .ok (.invokevirtual 59, 3) := by decide +kernel
theorem dL_law_487 : decode cL_law 487 = .ok (.if_icmp .eq 857, 3) := by decide +kernel
theorem dL_law_490 : decode cL_law 490 = .ok (.iconst 0, 1) := by decide +kernel
theorem dL_law_491 : decode cL_law 491 = .ok (.ireturn, 1) := by decide +kernel
theorem dL_law_492 : decode cL_law 492 = .ok (.aload_n 1, 1) := by decide +kernel
theorem dL_law_493 : decode cL_law 493 = .ok (.aload_n 0, 1) := by decide +kernel
theorem dL_law_494 : decode cL_law 494 = .ok (.iload_n 3, 1) := by decide +kernel
theorem dL_law_495 : decode cL_law 495 = .ok (.iconst 1, 1) := by decide +kernel
theorem dL_law_496 : decode cL_law 496 = .ok (.iadd, 1) := by decide +kernel
theorem dL_law_497 : decode cL_law 497 = .ok (.iaload, 1) := by decide +kernel
theorem dL_law_498 : decode cL_law 498 = .ok (.aload_n 0, 1) := by decide +kernel
theorem dL_law_499 : decode cL_law 499 = .ok (.iload_n 3, 1) := by decide +kernel
theorem dL_law_500 : decode cL_law 500 = .ok (.iconst 2, 1) := by decide +kernel
theorem dL_law_501 : decode cL_law 501 = .ok (.iadd, 1) := by decide +kernel
theorem dL_law_502 : decode cL_law 502 = .ok (.iaload, 1) := by decide +kernel
theorem dL_law_503 : decode cL_law 503 = .ok (.aload_n 0, 1) := by decide +kernel
theorem dL_law_504 : decode cL_law 504 = .ok (.iload_n 3, 1) := by decide +kernel
theorem dL_law_505 : decode cL_law 505 = .ok (.iconst 3, 1) := by decide +kernel
theorem dL_law_506 : decode cL_law 506 = .ok (.iadd, 1) := by decide +kernel
theorem dL_law_507 : decode cL_law 507 = .ok (.iaload, 1) := by decide +kernel
theorem dL_law_508 : decode cL_law 508 = .ok (.invokevirtual 60, 3) := by decide +kernel
theorem dL_law_511 : decode cL_law 511 = .ok (.aload_n 2, 1) := by decide +kernel
theorem dL_law_512 : decode cL_law 512 = .ok (.aload_n 0, 1) := by decide +kernel
theorem dL_law_513 : decode cL_law 513 = .ok (.iload_n 3, 1) := by decide +kernel
theorem dL_law_514 : decode cL_law 514 = .ok (.iconst 1, 1) := by decide +kernel
theorem dL_law_515 : decode cL_law 515 = .ok (.iadd, 1) := by decide +kernel
theorem dL_law_516 : decode cL_law 516 = .ok (.iaload, 1) := by decide +kernel
theorem dL_law_517 : decode cL_law 517 = .ok (.aload_n 0, 1) := by decide +kernel
theorem dL_law_518 : decode cL_law 518 = .ok (.iload_n 3, 1) := by decide +kernel
theorem dL_law_519 : decode cL_law 519 = .ok (.iconst 2, 1) := by decide +kernel
theorem dL_law_520 : decode cL_law 520 = .ok (.iadd, 1) := by decide +kernel
theorem dL_law_521 : decode cL_law 521 = .ok (.iaload, 1) := by decide +kernel
theorem dL_law_522 : decode cL_law 522 = .ok (.aload_n 0, 1) := by decide +kernel
theorem dL_law_523 : decode cL_law 523 = .ok (.iload_n 3, 1) := by decide +kernel
theorem dL_law_524 : decode cL_law 524 = .ok (.iconst 3, 1) := by decide +kernel
theorem dL_law_525 : decode cL_law 525 = .ok (.iadd, 1) := by decide +kernel
theorem dL_law_526 : decode cL_law 526 = .ok (.iaload, 1) := by decide +kernel
theorem dL_law_527 : decode cL_law 527 = .ok (.invokevirtual 64, 3) := by decide +kernel
theorem dL_law_530 : decode cL_law 530 = .ok (.if_icmp .eq 814, 3) := by decide +kernel
theorem dL_law_533 : decode cL_law 533 = .ok (.iconst 0, 1) := by decide +kernel
theorem dL_law_534 : decode cL_law 534 = .ok (.ireturn, 1) := by decide +kernel
theorem dL_law_535 : decode cL_law 535 = .ok (.aload_n 1, 1) := by decide +kernel
theorem dL_law_536 : decode cL_law 536 = .ok (.aload_n 0, 1) := by decide +kernel
theorem dL_law_537 : decode cL_law 537 = .ok (.iload_n 3, 1) := by decide +kernel
theorem dL_law_538 : decode cL_law 538 = .ok (.iconst 1, 1) := by decide +kernel
theorem dL_law_539 : decode cL_law 539 = .ok (.iadd, 1) := by decide +kernel
theorem dL_law_540 : decode cL_law 540 = .ok (.iaload, 1) := by decide +kernel
theorem dL_law_541 : decode cL_law 541 = .ok (.aload_n 0, 1) := by decide +kernel
theorem dL_law_542 : decode cL_law 542 = .ok (.iload_n 3, 1) := by decide +kernel
theorem dL_law_543 : decode cL_law 543 = .ok (.iconst 2, 1) := by decide +kernel
theorem dL_law_544 : decode cL_law 544 = .ok (.iadd, 1) := by decide +kernel
theorem dL_law_545 : decode cL_law 545 = .ok (.iaload, 1) := by decide +kernel
theorem dL_law_546 : decode cL_law 546 = .ok (.aload_n 0, 1) := by decide +kernel
theorem dL_law_547 : decode cL_law 547 = .ok (.iload_n 3, 1) := by decide +kernel
theorem dL_law_548 : decode cL_law 548 = .ok (.iconst 3, 1) := by decide +kernel
theorem dL_law_549 : decode cL_law 549 = .ok (.iadd, 1) := by decide +kernel
theorem dL_law_550 : decode cL_law 550 = .ok (.iaload, 1) := by decide +kernel
theorem dL_law_551 : decode cL_law 551 = .ok (.invokevirtual 65, 3) := by decide +kernel
theorem dL_law_554 : decode cL_law 554 = .ok (.aload_n 2, 1) := by decide +kernel
theorem dL_law_555 : decode cL_law 555 = .ok (.aload_n 0, 1) := by decide +kernel
theorem dL_law_556 : decode cL_law 556 = .ok (.iload_n 3, 1) := by decide +kernel
theorem dL_law_557 : decode cL_law 557 = .ok (.iconst 1, 1) := by decide +kernel
theorem dL_law_558 : decode cL_law 558 = .ok (.iadd, 1) := by decide +kernel
theorem dL_law_559 : decode cL_law 559 = .ok (.iaload, 1) := by decide +kernel
theorem dL_law_560 : decode cL_law 560 = .ok (.aload_n 0, 1) := by decide +kernel
theorem dL_law_561 : decode cL_law 561 = .ok (.iload_n 3, 1) := by decide +kernel
theorem dL_law_562 : decode cL_law 562 = .ok (.iconst 2, 1) := by decide +kernel
theorem dL_law_563 : decode cL_law 563 = .ok (.iadd, 1) := by decide +kernel
theorem dL_law_564 : decode cL_law 564 = .ok (.iaload, 1) := by decide +kernel
theorem dL_law_565 : decode cL_law 565 = .ok (.aload_n 0, 1) := by decide +kernel
theorem dL_law_566 : decode cL_law 566 = .ok (.iload_n 3, 1) := by decide +kernel
theorem dL_law_567 : decode cL_law 567 = .ok (.iconst 3, 1) := by decide +kernel
theorem dL_law_568 : decode cL_law 568 = .ok (.iadd, 1) := by decide +kernel
theorem dL_law_569 : decode cL_law 569 = .ok (.iaload, 1) := by decide +kernel
theorem dL_law_570 : decode cL_law 570 = .ok (.invokevirtual 68, 3) := by decide +kernel
theorem dL_law_573 : decode cL_law 573 = .ok (.if_icmp .eq 771, 3) := by decide +kernel
theorem dL_law_576 : decode cL_law 576 = .ok (.iconst 0, 1) := by decide +kernel
theorem dL_law_577 : decode cL_law 577 = .ok (.ireturn, 1) := by decide +kernel
theorem dL_law_578 : decode cL_law 578 = .ok (.aload_n 1, 1) := by decide +kernel
theorem dL_law_579 : decode cL_law 579 = .ok (.aload_n 0, 1) := by decide +kernel
theorem dL_law_580 : decode cL_law 580 = .ok (.iload_n 3, 1) := by decide +kernel
theorem dL_law_581 : decode cL_law 581 = .ok (.iconst 1, 1) := by decide +kernel
theorem dL_law_582 : decode cL_law 582 = .ok (.iadd, 1) := by decide +kernel
theorem dL_law_583 : decode cL_law 583 = .ok (.iaload, 1) := by decide +kernel
theorem dL_law_584 : decode cL_law 584 = .ok (.aload_n 0, 1) := by decide +kernel
theorem dL_law_585 : decode cL_law 585 = .ok (.iload_n 3, 1) := by decide +kernel
theorem dL_law_586 : decode cL_law 586 = .ok (.iconst 2, 1) := by decide +kernel
theorem dL_law_587 : decode cL_law 587 = .ok (.iadd, 1) := by decide +kernel
theorem dL_law_588 : decode cL_law 588 = .ok (.iaload, 1) := by decide +kernel
theorem dL_law_589 : decode cL_law 589 = .ok (.aload_n 0, 1) := by decide +kernel
theorem dL_law_590 : decode cL_law 590 = .ok (.iload_n 3, 1) := by decide +kernel
theorem dL_law_591 : decode cL_law 591 = .ok (.iconst 3, 1) := by decide +kernel
theorem dL_law_592 : decode cL_law 592 = .ok (.iadd, 1) := by decide +kernel
theorem dL_law_593 : decode cL_law 593 = .ok (.iaload, 1) := by decide +kernel
theorem dL_law_594 : decode cL_law 594 = .ok (.invokevirtual 69, 3) := by decide +kernel
theorem dL_law_597 : decode cL_law 597 = .ok (.aload_n 2, 1) := by decide +kernel
theorem dL_law_598 : decode cL_law 598 = .ok (.aload_n 0, 1) := by decide +kernel
theorem dL_law_599 : decode cL_law 599 = .ok (.iload_n 3, 1) := by decide +kernel
theorem dL_law_600 : decode cL_law 600 = .ok (.iconst 1, 1) := by decide +kernel
theorem dL_law_601 : decode cL_law 601 = .ok (.iadd, 1) := by decide +kernel
theorem dL_law_602 : decode cL_law 602 = .ok (.iaload, 1) := by decide +kernel
theorem dL_law_603 : decode cL_law 603 = .ok (.aload_n 0, 1) := by decide +kernel
theorem dL_law_604 : decode cL_law 604 = .ok (.iload_n 3, 1) := by decide +kernel
theorem dL_law_605 : decode cL_law 605 = .ok (.iconst 2, 1) := by decide +kernel
theorem dL_law_606 : decode cL_law 606 = .ok (.iadd, 1) := by decide +kernel
theorem dL_law_607 : decode cL_law 607 = .ok (.iaload, 1) := by decide +kernel
theorem dL_law_608 : decode cL_law 608 = .ok (.aload_n 0, 1) := by decide +kernel
theorem dL_law_609 : decode cL_law 609 = .ok (.iload_n 3, 1) := by decide +kernel
theorem dL_law_610 : decode cL_law 610 = .ok (.iconst 3, 1) := by decide +kernel
theorem dL_law_611 : decode cL_law 611 = .ok (.iadd, 1) := by decide +kernel
theorem dL_law_612 : decode cL_law 612 = .ok (.iaload, 1) := by decide +kernel
theorem dL_law_613 : decode cL_law 613 = .ok (.invokevirtual 72, 3) := by decide +kernel
theorem dL_law_616 : decode cL_law 616 = .ok (.if_icmp .eq 728, 3) := by decide +kernel
theorem dL_law_619 : decode cL_law 619 = .ok (.iconst 0, 1) := by decide +kernel
theorem dL_law_620 : decode cL_law 620 = .ok (.ireturn, 1) := by decide +kernel
theorem dL_law_621 : decode cL_law 621 = .ok (.aload_n 1, 1) := by decide +kernel
theorem dL_law_622 : decode cL_law 622 = .ok (.invokevirtual 73, 3) := by decide +kernel
theorem dL_law_625 : decode cL_law 625 = .ok (.aload_n 2, 1) := by decide +kernel
theorem dL_law_626 : decode cL_law 626 = .ok (.invokevirtual 76, 3) := by decide +kernel
theorem dL_law_629 : decode cL_law 629 = .ok (.if_icmp .eq 715, 3) := by decide +kernel
theorem dL_law_632 : decode cL_law 632 = .ok (.iconst 0, 1) := by decide +kernel
theorem dL_law_633 : decode cL_law 633 = .ok (.ireturn, 1) := by decide +kernel
theorem dL_law_634 : decode cL_law 634 = .ok (.aload_n 1, 1) := by decide +kernel
theorem dL_law_635 : decode cL_law 635 = .ok (.aload_n 0, 1) := by decide +kernel
theorem dL_law_636 : decode cL_law 636 = .ok (.iload_n 3, 1) := by decide +kernel
theorem dL_law_637 : decode cL_law 637 = .ok (.iconst 1, 1) := by decide +kernel
theorem dL_law_638 : decode cL_law 638 = .ok (.iadd, 1) := by decide +kernel
theorem dL_law_639 : decode cL_law 639 = .ok (.iaload, 1) := by decide +kernel
theorem dL_law_640 : decode cL_law 640 = .ok (.aload_n 0, 1) := by decide +kernel
theorem dL_law_641 : decode cL_law 641 = .ok (.iload_n 3, 1) := by decide +kernel
theorem dL_law_642 : decode cL_law 642 = .ok (.iconst 2, 1) := by decide +kernel
theorem dL_law_643 : decode cL_law 643 = .ok (.iadd, 1) := by decide +kernel
theorem dL_law_644 : decode cL_law 644 = .ok (.iaload, 1) := by decide +kernel
theorem dL_law_645 : decode cL_law 645 = .ok (.invokevirtual 77, 3) := by decide +kernel
theorem dL_law_648 : decode cL_law 648 = .ok (.aload_n 2, 1) := by decide +kernel
theorem dL_law_649 : decode cL_law 649 = .ok (.aload_n 0, 1) := by decide +kernel
theorem dL_law_650 : decode cL_law 650 = .ok (.iload_n 3, 1) := by decide +kernel
theorem dL_law_651 : decode cL_law 651 = .ok (.iconst 1, 1) := by decide +kernel
theorem dL_law_652 : decode cL_law 652 = .ok (.iadd, 1) := by decide +kernel
theorem dL_law_653 : decode cL_law 653 = .ok (.iaload, 1) := by decide +kernel
theorem dL_law_654 : decode cL_law 654 = .ok (.aload_n 0, 1) := by decide +kernel
theorem dL_law_655 : decode cL_law 655 = .ok (.iload_n 3, 1) := by decide +kernel
theorem dL_law_656 : decode cL_law 656 = .ok (.iconst 2, 1) := by decide +kernel
theorem dL_law_657 : decode cL_law 657 = .ok (.iadd, 1) := by decide +kernel
theorem dL_law_658 : decode cL_law 658 = .ok (.iaload, 1) := by decide +kernel
theorem dL_law_659 : decode cL_law 659 = .ok (.invokevirtual 81, 3) := by decide +kernel
theorem dL_law_662 : decode cL_law 662 = .ok (.lcmp, 1) := by decide +kernel
theorem dL_law_663 : decode cL_law 663 = .ok (.ifCond .eq 681, 3) := by decide +kernel
theorem dL_law_666 : decode cL_law 666 = .ok (.iconst 0, 1) := by decide +kernel
theorem dL_law_667 : decode cL_law 667 = .ok (.ireturn, 1) := by decide +kernel
theorem dL_law_668 : decode cL_law 668 = .ok (.aload_n 1, 1) := by decide +kernel
theorem dL_law_669 : decode cL_law 669 = .ok (.aload_n 0, 1) := by decide +kernel
theorem dL_law_670 : decode cL_law 670 = .ok (.iload_n 3, 1) := by decide +kernel
theorem dL_law_671 : decode cL_law 671 = .ok (.iconst 1, 1) := by decide +kernel
theorem dL_law_672 : decode cL_law 672 = .ok (.iadd, 1) := by decide +kernel
theorem dL_law_673 : decode cL_law 673 = .ok (.iaload, 1) := by decide +kernel
theorem dL_law_674 : decode cL_law 674 = .ok (.aload_n 0, 1) := by decide +kernel
theorem dL_law_675 : decode cL_law 675 = .ok (.iload_n 3, 1) := by decide +kernel
theorem dL_law_676 : decode cL_law 676 = .ok (.iconst 2, 1) := by decide +kernel
theorem dL_law_677 : decode cL_law 677 = .ok (.iadd, 1) := by decide +kernel
theorem dL_law_678 : decode cL_law 678 = .ok (.iaload, 1) := by decide +kernel
theorem dL_law_679 : decode cL_law 679 = .ok (.invokevirtual 82, 3) := by decide +kernel
theorem dL_law_682 : decode cL_law 682 = .ok (.aload_n 2, 1) := by decide +kernel
theorem dL_law_683 : decode cL_law 683 = .ok (.aload_n 0, 1) := by decide +kernel
theorem dL_law_684 : decode cL_law 684 = .ok (.iload_n 3, 1) := by decide +kernel
theorem dL_law_685 : decode cL_law 685 = .ok (.iconst 1, 1) := by decide +kernel
theorem dL_law_686 : decode cL_law 686 = .ok (.iadd, 1) := by decide +kernel
theorem dL_law_687 : decode cL_law 687 = .ok (.iaload, 1) := by decide +kernel
theorem dL_law_688 : decode cL_law 688 = .ok (.aload_n 0, 1) := by decide +kernel
theorem dL_law_689 : decode cL_law 689 = .ok (.iload_n 3, 1) := by decide +kernel
theorem dL_law_690 : decode cL_law 690 = .ok (.iconst 2, 1) := by decide +kernel
theorem dL_law_691 : decode cL_law 691 = .ok (.iadd, 1) := by decide +kernel
theorem dL_law_692 : decode cL_law 692 = .ok (.iaload, 1) := by decide +kernel
theorem dL_law_693 : decode cL_law 693 = .ok (.invokevirtual 85, 3) := by decide +kernel
theorem dL_law_696 : decode cL_law 696 = .ok (.if_icmp .eq 648, 3) := by decide +kernel
theorem dL_law_699 : decode cL_law 699 = .ok (.iconst 0, 1) := by decide +kernel
theorem dL_law_700 : decode cL_law 700 = .ok (.ireturn, 1) := by decide +kernel
theorem dL_law_701 : decode cL_law 701 = .ok (.aload_n 1, 1) := by decide +kernel
theorem dL_law_702 : decode cL_law 702 = .ok (.invokevirtual 86, 3) := by decide +kernel
theorem dL_law_705 : decode cL_law 705 = .ok (.aload_n 2, 1) := by decide +kernel
theorem dL_law_706 : decode cL_law 706 = .ok (.invokevirtual 89, 3) := by decide +kernel
theorem dL_law_709 : decode cL_law 709 = .ok (.if_icmp .eq 635, 3) := by decide +kernel
theorem dL_law_712 : decode cL_law 712 = .ok (.iconst 0, 1) := by decide +kernel
theorem dL_law_713 : decode cL_law 713 = .ok (.ireturn, 1) := by decide +kernel
theorem dL_law_714 : decode cL_law 714 = .ok (.aload_n 1, 1) := by decide +kernel
theorem dL_law_715 : decode cL_law 715 = .ok (.aload_n 0, 1) := by decide +kernel
theorem dL_law_716 : decode cL_law 716 = .ok (.iload_n 3, 1) := by decide +kernel
theorem dL_law_717 : decode cL_law 717 = .ok (.iconst 1, 1) := by decide +kernel
theorem dL_law_718 : decode cL_law 718 = .ok (.iadd, 1) := by decide +kernel
theorem dL_law_719 : decode cL_law 719 = .ok (.iaload, 1) := by decide +kernel
theorem dL_law_720 : decode cL_law 720 = .ok (.aload_n 0, 1) := by decide +kernel
theorem dL_law_721 : decode cL_law 721 = .ok (.iload_n 3, 1) := by decide +kernel
theorem dL_law_722 : decode cL_law 722 = .ok (.iconst 2, 1) := by decide +kernel
theorem dL_law_723 : decode cL_law 723 = .ok (.iadd, 1) := by decide +kernel
theorem dL_law_724 : decode cL_law 724 = .ok (.iaload, 1) := by decide +kernel
theorem dL_law_725 : decode cL_law 725 = .ok (.aload_n 0, 1) := by decide +kernel
theorem dL_law_726 : decode cL_law 726 = .ok (.iload_n 3, 1) := by decide +kernel
theorem dL_law_727 : decode cL_law 727 = .ok (.iconst 3, 1) := by decide +kernel
theorem dL_law_728 : decode cL_law 728 = .ok (.iadd, 1) := by decide +kernel
theorem dL_law_729 : decode cL_law 729 = .ok (.iaload, 1) := by decide +kernel
theorem dL_law_730 : decode cL_law 730 = .ok (.i2l, 1) := by decide +kernel
theorem dL_law_731 : decode cL_law 731 = .ok (.bipush 32, 2) := by decide +kernel
theorem dL_law_733 : decode cL_law 733 = .ok (.lshl, 1) := by decide +kernel
theorem dL_law_734 : decode cL_law 734 = .ok (.aload_n 0, 1) := by decide +kernel
theorem dL_law_735 : decode cL_law 735 = .ok (.iload_n 3, 1) := by decide +kernel
theorem dL_law_736 : decode cL_law 736 = .ok (.iconst 4, 1) := by decide +kernel
theorem dL_law_737 : decode cL_law 737 = .ok (.iadd, 1) := by decide +kernel
theorem dL_law_738 : decode cL_law 738 = .ok (.iaload, 1) := by decide +kernel
theorem dL_law_739 : decode cL_law 739 = .ok (.i2l, 1) := by decide +kernel
theorem dL_law_740 : decode cL_law 740 = .ok (.ldc2_w 13, 3) := by decide +kernel
theorem dL_law_743 : decode cL_law 743 = .ok (.land, 1) := by decide +kernel
theorem dL_law_744 : decode cL_law 744 = .ok (.lor, 1) := by decide +kernel
theorem dL_law_745 : decode cL_law 745 = .ok (.invokevirtual 90, 3) := by decide +kernel
theorem dL_law_748 : decode cL_law 748 = .ok (.aload_n 2, 1) := by decide +kernel
theorem dL_law_749 : decode cL_law 749 = .ok (.aload_n 0, 1) := by decide +kernel
theorem dL_law_750 : decode cL_law 750 = .ok (.iload_n 3, 1) := by decide +kernel
theorem dL_law_751 : decode cL_law 751 = .ok (.iconst 1, 1) := by decide +kernel
theorem dL_law_752 : decode cL_law 752 = .ok (.iadd, 1) := by decide +kernel
theorem dL_law_753 : decode cL_law 753 = .ok (.iaload, 1) := by decide +kernel
theorem dL_law_754 : decode cL_law 754 = .ok (.aload_n 0, 1) := by decide +kernel
theorem dL_law_755 : decode cL_law 755 = .ok (.iload_n 3, 1) := by decide +kernel
theorem dL_law_756 : decode cL_law 756 = .ok (.iconst 2, 1) := by decide +kernel
theorem dL_law_757 : decode cL_law 757 = .ok (.iadd, 1) := by decide +kernel
theorem dL_law_758 : decode cL_law 758 = .ok (.iaload, 1) := by decide +kernel
theorem dL_law_759 : decode cL_law 759 = .ok (.aload_n 0, 1) := by decide +kernel
theorem dL_law_760 : decode cL_law 760 = .ok (.iload_n 3, 1) := by decide +kernel
theorem dL_law_761 : decode cL_law 761 = .ok (.iconst 3, 1) := by decide +kernel
theorem dL_law_762 : decode cL_law 762 = .ok (.iadd, 1) := by decide +kernel
theorem dL_law_763 : decode cL_law 763 = .ok (.iaload, 1) := by decide +kernel
theorem dL_law_764 : decode cL_law 764 = .ok (.i2l, 1) := by decide +kernel
theorem dL_law_765 : decode cL_law 765 = .ok (.bipush 32, 2) := by decide +kernel
theorem dL_law_767 : decode cL_law 767 = .ok (.lshl, 1) := by decide +kernel
theorem dL_law_768 : decode cL_law 768 = .ok (.aload_n 0, 1) := by decide +kernel
theorem dL_law_769 : decode cL_law 769 = .ok (.iload_n 3, 1) := by decide +kernel
theorem dL_law_770 : decode cL_law 770 = .ok (.iconst 4, 1) := by decide +kernel
theorem dL_law_771 : decode cL_law 771 = .ok (.iadd, 1) := by decide +kernel
theorem dL_law_772 : decode cL_law 772 = .ok (.iaload, 1) := by decide +kernel
theorem dL_law_773 : decode cL_law 773 = .ok (.i2l, 1) := by decide +kernel
theorem dL_law_774 : decode cL_law 774 = .ok (.ldc2_w 13, 3) := by decide +kernel
theorem dL_law_777 : decode cL_law 777 = .ok (.land, 1) := by decide +kernel
theorem dL_law_778 : decode cL_law 778 = .ok (.lor, 1) := by decide +kernel
theorem dL_law_779 : decode cL_law 779 = .ok (.invokevirtual 94, 3) := by decide +kernel
theorem dL_law_782 : decode cL_law 782 = .ok (.if_icmp .eq 562, 3) := by decide +kernel
theorem dL_law_785 : decode cL_law 785 = .ok (.iconst 0, 1) := by decide +kernel
theorem dL_law_786 : decode cL_law 786 = .ok (.ireturn, 1) := by decide +kernel
theorem dL_law_787 : decode cL_law 787 = .ok (.aload_n 1, 1) := by decide +kernel
theorem dL_law_788 : decode cL_law 788 = .ok (.aload_n 0, 1) := by decide +kernel
theorem dL_law_789 : decode cL_law 789 = .ok (.iload_n 3, 1) := by decide +kernel
theorem dL_law_790 : decode cL_law 790 = .ok (.iconst 1, 1) := by decide +kernel
theorem dL_law_791 : decode cL_law 791 = .ok (.iadd, 1) := by decide +kernel
theorem dL_law_792 : decode cL_law 792 = .ok (.iaload, 1) := by decide +kernel
