theorem dX9_beginWork_38 : decode cX9_beginWork 38 = .ok (.aload_n 0, 1) := by decide +kernel
theorem dX9_beginWork_39 : decode cX9_beginWork 39 = .ok (.iconst 0, 1) := by decide +kernel
theorem dX9_beginWork_40 : decode cX9_beginWork 40 = .ok (.putfield 123, 3) := by decide +kernel
theorem dX9_beginWork_43 : decode cX9_beginWork 43 = .ok (.aload_n 0, 1) := by decide +kernel
theorem dX9_beginWork_44 : decode cX9_beginWork 44 = .ok (.iconst 0, 1) := by decide +kernel
theorem dX9_beginWork_45 : decode cX9_beginWork 45 = .ok (.putfield 126, 3) := by decide +kernel
theorem dX9_beginWork_48 : decode cX9_beginWork 48 = .ok (.return_, 1) := by decide +kernel
set_option maxRecDepth 20000 in
theorem ggX9_step_X9_fits : GoodIn wsX9_step wsX9_fits := goodIn_r _ [9, 10, 11, 12, 8, 13] (by decide +kernel) (by decide +kernel)
set_option maxRecDepth 20000 in
theorem gX9_step_X9_fits : GoodIn wsX9_step (va_wsS RX9 130 yX9_fits wsX9_fits) := goodIn_app (goodIn_of _ (by decide +kernel)) ggX9_step_X9_fits
theorem dX9_step_0 : decode cX9_step 0 = .ok (.bipush 6, 2) := by decide +kernel
theorem dX9_step_2 : decode cX9_step 2 = .ok (.aload_n 0, 1) := by decide +kernel
theorem dX9_step_3 : decode cX9_step 3 = .ok (.getfield 123, 3) := by decide +kernel
theorem dX9_step_6 : decode cX9_step 6 = .ok (.imul, 1) := by decide +kernel
theorem dX9_step_7 : decode cX9_step 7 = .ok (.istore 7, 2) := by decide +kernel
theorem dX9_step_9 : decode cX9_step 9 = .ok (.aload_n 0, 1) := by decide +kernel
theorem dX9_step_10 : decode cX9_step 10 = .ok (.getfield 55, 3) := by decide +kernel
theorem dX9_step_13 : decode cX9_step 13 = .ok (.iload 7, 2) := by decide +kernel
theorem dX9_step_15 : decode cX9_step 15 = .ok (.iload_n 1, 1) := by decide +kernel
theorem dX9_step_16 : decode cX9_step 16 = .ok (.iastore, 1) := by decide +kernel
theorem dX9_step_17 : decode cX9_step 17 = .ok (.aload_n 0, 1) := by decide +kernel
theorem dX9_step_18 : decode cX9_step 18 = .ok (.getfield 55, 3) := by decide +kernel
theorem dX9_step_21 : decode cX9_step 21 = .ok (.iload 7, 2) := by decide +kernel
theorem dX9_step_23 : decode cX9_step 23 = .ok (.iconst 1, 1) := by decide +kernel
theorem dX9_step_24 : decode cX9_step 24 = .ok (.iadd, 1) := by decide +kernel
theorem dX9_step_25 : decode cX9_step 25 = .ok (.iload_n 2, 1) := by decide +kernel
theorem dX9_step_26 : decode cX9_step 26 = .ok (.iastore, 1) := by decide +kernel
theorem dX9_step_27 : decode cX9_step 27 = .ok (.aload_n 0, 1) := by decide +kernel
theorem dX9_step_28 : decode cX9_step 28 = .ok (.getfield 55, 3) := by decide +kernel
theorem dX9_step_31 : decode cX9_step 31 = .ok (.iload 7, 2) := by decide +kernel
theorem dX9_step_33 : decode cX9_step 33 = .ok (.iconst 2, 1) := by decide +kernel
theorem dX9_step_34 : decode cX9_step 34 = .ok (.iadd, 1) := by decide +kernel
theorem dX9_step_35 : decode cX9_step 35 = .ok (.iload_n 3, 1) := by decide +kernel
theorem dX9_step_36 : decode cX9_step 36 = .ok (.iastore, 1) := by decide +kernel
theorem dX9_step_37 : decode cX9_step 37 = .ok (.aload_n 0, 1) := by decide +kernel
theorem dX9_step_38 : decode cX9_step 38 = .ok (.getfield 55, 3) := by decide +kernel
theorem dX9_step_41 : decode cX9_step 41 = .ok (.iload 7, 2) := by decide +kernel
theorem dX9_step_43 : decode cX9_step 43 = .ok (.iconst 3, 1) := by decide +kernel
theorem dX9_step_44 : decode cX9_step 44 = .ok (.iadd, 1) := by decide +kernel
theorem dX9_step_45 : decode cX9_step 45 = .ok (.iload 4, 2) := by decide +kernel
theorem dX9_step_47 : decode cX9_step 47 = .ok (.iastore, 1) := by decide +kernel
theorem dX9_step_48 : decode cX9_step 48 = .ok (.aload_n 0, 1) := by decide +kernel
theorem dX9_step_49 : decode cX9_step 49 = .ok (.getfield 55, 3) := by decide +kernel
theorem dX9_step_52 : decode cX9_step 52 = .ok (.iload 7, 2) := by decide +kernel
theorem dX9_step_54 : decode cX9_step 54 = .ok (.iconst 4, 1) := by decide +kernel
theorem dX9_step_55 : decode cX9_step 55 = .ok (.iadd, 1) := by decide +kernel
theorem dX9_step_56 : decode cX9_step 56 = .ok (.iload 5, 2) := by decide +kernel
theorem dX9_step_58 : decode cX9_step 58 = .ok (.iastore, 1) := by decide +kernel
theorem dX9_step_59 : decode cX9_step 59 = .ok (.aload_n 0, 1) := by decide +kernel
theorem dX9_step_60 : decode cX9_step 60 = .ok (.getfield 55, 3) := by decide +kernel
theorem dX9_step_63 : decode cX9_step 63 = .ok (.iload 7, 2) := by decide +kernel
theorem dX9_step_65 : decode cX9_step 65 = .ok (.iconst 5, 1) := by decide +kernel
theorem dX9_step_66 : decode cX9_step 66 = .ok (.iadd, 1) := by decide +kernel
theorem dX9_step_67 : decode cX9_step 67 = .ok (.iload 6, 2) := by decide +kernel
theorem dX9_step_69 : decode cX9_step 69 = .ok (.iastore, 1) := by decide +kernel
theorem dX9_step_70 : decode cX9_step 70 = .ok (.aload_n 0, 1) := by decide +kernel
theorem dX9_step_71 : decode cX9_step 71 = .ok (.dup, 1) := by decide +kernel
theorem dX9_step_72 : decode cX9_step 72 = .ok (.getfield 123, 3) := by decide +kernel
theorem dX9_step_75 : decode cX9_step 75 = .ok (.iconst 1, 1) := by decide +kernel
theorem dX9_step_76 : decode cX9_step 76 = .ok (.iadd, 1) := by decide +kernel
theorem dX9_step_77 : decode cX9_step 77 = .ok (.putfield 123, 3) := by decide +kernel
theorem dX9_step_80 : decode cX9_step 80 = .ok (.iconst 0, 1) := by decide +kernel
theorem dX9_step_81 : decode cX9_step 81 = .ok (.istore 8, 2) := by decide +kernel
theorem dX9_step_83 : decode cX9_step 83 = .ok (.iload 8, 2) := by decide +kernel
theorem dX9_step_85 : decode cX9_step 85 = .ok (.bipush 8, 2) := by decide +kernel
theorem dX9_step_87 : decode cX9_step 87 = .ok (.if_icmp .ge 60, 3) := by decide +kernel
theorem dX9_step_90 : decode cX9_step 90 = .ok (.aload_n 0, 1) := by decide +kernel
theorem dX9_step_91 : decode cX9_step 91 = .ok (.getfield 52, 3) := by decide +kernel
theorem dX9_step_94 : decode cX9_step 94 = .ok (.bipush 8, 2) := by decide +kernel
theorem dX9_step_96 : decode cX9_step 96 = .ok (.aload_n 0, 1) := by decide +kernel
theorem dX9_step_97 : decode cX9_step 97 = .ok (.getfield 123, 3) := by decide +kernel
theorem dX9_step_100 : decode cX9_step 100 = .ok (.imul, 1) := by decide +kernel
theorem dX9_step_101 : decode cX9_step 101 = .ok (.iload 8, 2) := by decide +kernel
theorem dX9_step_103 : decode cX9_step 103 = .ok (.iadd, 1) := by decide +kernel
theorem dX9_step_104 : decode cX9_step 104 = .ok (.aload_n 0, 1) := by decide +kernel
theorem dX9_step_105 : decode cX9_step 105 = .ok (.getfield 49, 3) := by decide +kernel
theorem dX9_step_108 : decode cX9_step 108 = .ok (.iload 8, 2) := by decide +kernel
theorem dX9_step_110 : decode cX9_step 110 = .ok (.laload, 1) := by decide +kernel
theorem dX9_step_111 : decode cX9_step 111 = .ok (.lastore, 1) := by decide +kernel
theorem dX9_step_112 : decode cX9_step 112 = .ok (.aload_n 0, 1) := by decide +kernel
theorem dX9_step_113 : decode cX9_step 113 = .ok (.aload_n 0, 1) := by decide +kernel
theorem dX9_step_114 : decode cX9_step 114 = .ok (.getfield 126, 3) := by decide +kernel
theorem dX9_step_117 : decode cX9_step 117 = .ok (.ifCond .ne 16, 3) := by decide +kernel
theorem dX9_step_120 : decode cX9_step 120 = .ok (.aload_n 0, 1) := by decide +kernel
theorem dX9_step_121 : decode cX9_step 121 = .ok (.getfield 49, 3) := by decide +kernel
theorem dX9_step_124 : decode cX9_step 124 = .ok (.iload 8, 2) := by decide +kernel
theorem dX9_step_126 : decode cX9_step 126 = .ok (.laload, 1) := by decide +kernel
theorem dX9_step_127 : decode cX9_step 127 = .ok (.invokestatic 130, 3) := by decide +kernel
theorem dX9_step_130 : decode cX9_step 130 = .ok (.ifCond .ne 7, 3) := by decide +kernel
theorem dX9_step_133 : decode cX9_step 133 = .ok (.iconst 1, 1) := by decide +kernel
theorem dX9_step_134 : decode cX9_step 134 = .ok (.goto 4, 3) := by decide +kernel
theorem dX9_step_137 : decode cX9_step 137 = .ok (.iconst 0, 1) := by decide +kernel
theorem dX9_step_138 : decode cX9_step 138 = .ok (.putfield 126, 3) := by decide +kernel
theorem dX9_step_141 : decode cX9_step 141 = .ok (.iinc 8 1, 3) := by decide +kernel
theorem dX9_step_144 : decode cX9_step 144 = .ok (.goto (-61), 3) := by decide +kernel
theorem dX9_step_147 : decode cX9_step 147 = .ok (.return_, 1) := by decide +kernel
theorem dX9_endWork_0 : decode cX9_endWork 0 = .ok (.aload_n 0, 1) := by decide +kernel
theorem dX9_endWork_1 : decode cX9_endWork 1 = .ok (.getfield 126, 3) := by decide +kernel
theorem dX9_endWork_4 : decode cX9_endWork 4 = .ok (.ifCond .eq 6, 3) := by decide +kernel
theorem dX9_endWork_7 : decode cX9_endWork 7 = .ok (.bipush (-4), 2) := by decide +kernel
theorem dX9_endWork_9 : decode cX9_endWork 9 = .ok (.ireturn, 1) := by decide +kernel
theorem dX9_endWork_10 : decode cX9_endWork 10 = .ok (.aload_n 0, 1) := by decide +kernel
theorem dX9_endWork_11 : decode cX9_endWork 11 = .ok (.aload_n 0, 1) := by decide +kernel
theorem dX9_endWork_12 : decode cX9_endWork 12 = .ok (.getfield 123, 3) := by decide +kernel
theorem dX9_endWork_15 : decode cX9_endWork 15 = .ok (.iconst 1, 1) := by decide +kernel
theorem dX9_endWork_16 : decode cX9_endWork 16 = .ok (.iadd, 1) := by decide +kernel
theorem dX9_endWork_17 : decode cX9_endWork 17 = .ok (.putfield 134, 3) := by decide +kernel
theorem dX9_endWork_20 : decode cX9_endWork 20 = .ok (.iconst 0, 1) := by decide +kernel
theorem dX9_endWork_21 : decode cX9_endWork 21 = .ok (.istore_n 1, 1) := by decide +kernel
theorem dX9_endWork_22 : decode cX9_endWork 22 = .ok (.iload_n 1, 1) := by decide +kernel
theorem dX9_endWork_23 : decode cX9_endWork 23 = .ok (.bipush 8, 2) := by decide +kernel
theorem dX9_endWork_25 : decode cX9_endWork 25 = .ok (.aload_n 0, 1) := by decide +kernel
theorem dX9_endWork_26 : decode cX9_endWork 26 = .ok (.getfield 134, 3) := by decide +kernel
theorem dX9_endWork_29 : decode cX9_endWork 29 = .ok (.imul, 1) := by decide +kernel
theorem dX9_endWork_30 : decode cX9_endWork 30 = .ok (.if_icmp .ge 21, 3) := by decide +kernel
theorem dX9_endWork_33 : decode cX9_endWork 33 = .ok (.aload_n 0, 1) := by decide +kernel
theorem dX9_endWork_34 : decode cX9_endWork 34 = .ok (.getfield 20, 3) := by decide +kernel
theorem dX9_endWork_37 : decode cX9_endWork 37 = .ok (.iload_n 1, 1) := by decide +kernel
theorem dX9_endWork_38 : decode cX9_endWork 38 = .ok (.aload_n 0, 1) := by decide +kernel
theorem dX9_endWork_39 : decode cX9_endWork 39 = .ok (.getfield 52, 3) := by decide +kernel
theorem dX9_endWork_42 : decode cX9_endWork 42 = .ok (.iload_n 1, 1) := by decide +kernel
theorem dX9_endWork_43 : decode cX9_endWork 43 = .ok (.laload, 1) := by decide +kernel
theorem dX9_endWork_44 : decode cX9_endWork 44 = .ok (.lastore, 1) := by decide +kernel
theorem dX9_endWork_45 : decode cX9_endWork 45 = .ok (.iinc 1 1, 3) := by decide +kernel
theorem dX9_endWork_48 : decode cX9_endWork 48 = .ok (.goto (-26), 3) := by decide +kernel
theorem dX9_endWork_51 : decode cX9_endWork 51 = .ok (.iconst 0, 1) := by decide +kernel
theorem dX9_endWork_52 : decode cX9_endWork 52 = .ok (.istore_n 1, 1) := by decide +kernel
theorem dX9_endWork_53 : decode cX9_endWork 53 = .ok (.iload_n 1, 1) := by decide +kernel
theorem dX9_endWork_54 : decode cX9_endWork 54 = .ok (.bipush 6, 2) := by decide +kernel
theorem dX9_endWork_56 : decode cX9_endWork 56 = .ok (.aload_n 0, 1) := by decide +kernel
theorem dX9_endWork_57 : decode cX9_endWork 57 = .ok (.getfield 123, 3) := by decide +kernel
theorem dX9_endWork_60 : decode cX9_endWork 60 = .ok (.imul, 1) := by decide +kernel
theorem dX9_endWork_61 : decode cX9_endWork 61 = .ok (.if_icmp .ge 21, 3) := by decide +kernel
theorem dX9_endWork_64 : decode cX9_endWork 64 = .ok (.aload_n 0, 1) := by decide +kernel
theorem dX9_endWork_65 : decode cX9_endWork 65 = .ok (.getfield 23, 3) := by decide +kernel
theorem dX9_endWork_68 : decode cX9_endWork 68 = .ok (.iload_n 1, 1) := by decide +kernel
theorem dX9_endWork_69 : decode cX9_endWork 69 = .ok (.aload_n 0, 1) := by decide +kernel
theorem dX9_endWork_70 : decode cX9_endWork 70 = .ok (.getfield 55, 3) := by decide +kernel
theorem dX9_endWork_73 : decode cX9_endWork 73 = .ok (.iload_n 1, 1) := by decide +kernel
theorem dX9_endWork_74 : decode cX9_endWork 74 = .ok (.iaload, 1) := by decide +kernel
theorem dX9_endWork_75 : decode cX9_endWork 75 = .ok (.iastore, 1) := by decide +kernel
theorem dX9_endWork_76 : decode cX9_endWork 76 = .ok (.iinc 1 1, 3) := by decide +kernel
theorem dX9_endWork_79 : decode cX9_endWork 79 = .ok (.goto (-26), 3) := by decide +kernel
theorem dX9_endWork_82 : decode cX9_endWork 82 = .ok (.iconst 0, 1) := by decide +kernel
theorem dX9_endWork_83 : decode cX9_endWork 83 = .ok (.istore_n 1, 1) := by decide +kernel
theorem dX9_endWork_84 : decode cX9_endWork 84 = .ok (.iload_n 1, 1) := by decide +kernel
theorem dX9_endWork_85 : decode cX9_endWork 85 = .ok (.bipush 8, 2) := by decide +kernel
theorem dX9_endWork_87 : decode cX9_endWork 87 = .ok (.if_icmp .ge 21, 3) := by decide +kernel
theorem dX9_endWork_90 : decode cX9_endWork 90 = .ok (.aload_n 0, 1) := by decide +kernel
theorem dX9_endWork_91 : decode cX9_endWork 91 = .ok (.getfield 7, 3) := by decide +kernel
theorem dX9_endWork_94 : decode cX9_endWork 94 = .ok (.iload_n 1, 1) := by decide +kernel
theorem dX9_endWork_95 : decode cX9_endWork 95 = .ok (.aload_n 0, 1) := by decide +kernel
theorem dX9_endWork_96 : decode cX9_endWork 96 = .ok (.getfield 49, 3) := by decide +kernel
theorem dX9_endWork_99 : decode cX9_endWork 99 = .ok (.iload_n 1, 1) := by decide +kernel
theorem dX9_endWork_100 : decode cX9_endWork 100 = .ok (.laload, 1) := by decide +kernel
theorem dX9_endWork_101 : decode cX9_endWork 101 = .ok (.lastore, 1) := by decide +kernel
theorem dX9_endWork_102 : decode cX9_endWork 102 = .ok (.iinc 1 1, 3) := by decide +kernel
theorem dX9_endWork_105 : decode cX9_endWork 105 = .ok (.goto (-21), 3) := by decide +kernel
theorem dX9_endWork_108 : decode cX9_endWork 108 = .ok (.aload_n 0, 1) := by decide +kernel
theorem dX9_endWork_109 : decode cX9_endWork 109 = .ok (.iconst 0, 1) := by decide +kernel
theorem dX9_endWork_110 : decode cX9_endWork 110 = .ok (.putfield 137, 3) := by decide +kernel
theorem dX9_endWork_113 : decode cX9_endWork 113 = .ok (.aload_n 0, 1) := by decide +kernel
theorem dX9_endWork_114 : decode cX9_endWork 114 = .ok (.getfield 123, 3) := by decide +kernel
theorem dX9_endWork_117 : decode cX9_endWork 117 = .ok (.ireturn, 1) := by decide +kernel
set_option maxRecDepth 20000 in
theorem ggX9_add_X9_isRow : GoodIn wsX9_add wsX9_isRow := goodIn_r _ [6, 7, 8, 9, 5, 10] (by decide +kernel) (by decide +kernel)
set_option maxRecDepth 20000 in
theorem gX9_add_X9_isRow : GoodIn wsX9_add (va_wsS RX9 89 yX9_isRow wsX9_isRow) := goodIn_app (goodIn_of _ (by decide +kernel)) ggX9_add_X9_isRow
set_option maxRecDepth 20000 in
theorem ggX9_add_X9_beginWork : GoodIn wsX9_add wsX9_beginWork := goodIn_r _ [14, 2, 1, 15, 16, 17, 45, 46, 47, 48, 49, 50, 51, 52, 53, 54, 55, 56, 57, 58, 59, 60, 61, 62, 63, 64, 65, 66, 67, 68, 69, 70, 71] (by decide +kernel) (by decide +kernel)
set_option maxRecDepth 20000 in
theorem gX9_add_X9_beginWork : GoodIn wsX9_add (wsV RX9 140 RX9 yX9_beginWork wsX9_beginWork) := goodIn_app (goodIn_of _ (by decide +kernel)) ggX9_add_X9_beginWork
set_option maxRecDepth 20000 in
theorem ggX9_add_X9_digit : GoodIn wsX9_add wsX9_digit := goodIn_r _ [20, 21, 22, 23, 5, 24, 25, 26, 27] (by decide +kernel) (by decide +kernel)
set_option maxRecDepth 20000 in
theorem gX9_add_X9_digit : GoodIn wsX9_add (va_wsS RX9 85 yX9_digit wsX9_digit) := goodIn_app (goodIn_of _ (by decide +kernel)) ggX9_add_X9_digit
set_option maxRecDepth 20000 in
theorem ggX9_add_X9_ten : GoodIn wsX9_add wsX9_ten := goodIn_r _ [27, 21] (by decide +kernel) (by decide +kernel)
set_option maxRecDepth 20000 in
theorem gX9_add_X9_ten : GoodIn wsX9_add (va_wsS RX9 81 yX9_ten wsX9_ten) := goodIn_app (goodIn_of _ (by decide +kernel)) ggX9_add_X9_ten
set_option maxRecDepth 20000 in
theorem ggX9_add_X9_step : GoodIn wsX9_add wsX9_step := goodIn_r _ [31, 16, 32, 15, 2, 17, 33, 34, 5, 35, 36, 22, 23, 24, 45, 46, 47, 48, 49, 50, 51, 52, 53, 54, 55, 56, 57, 58, 59, 60, 61, 62, 63, 64, 65, 66, 67, 68, 69, 70, 71] (by decide +kernel) (by decide +kernel)
set_option maxRecDepth 20000 in
theorem gX9_add_X9_step : GoodIn wsX9_add (wsV RX9 143 RX9 yX9_step wsX9_step) := goodIn_app (goodIn_of _ (by decide +kernel)) ggX9_add_X9_step
set_option maxRecDepth 20000 in
theorem ggX9_add_X9_endWork : GoodIn wsX9_add wsX9_endWork := goodIn_r _ [40, 17, 16, 41, 42, 15, 43, 32, 1, 2, 44, 45, 46, 47, 48, 49, 50, 51, 52, 53, 54, 55, 56, 57, 58, 59, 60, 61, 62, 63, 64, 65, 66, 67, 68, 69, 70, 71] (by decide +kernel) (by decide +kernel)
set_option maxRecDepth 20000 in
theorem gX9_add_X9_endWork : GoodIn wsX9_add (wsV RX9 147 RX9 yX9_endWork wsX9_endWork) := goodIn_app (goodIn_of _ (by decide +kernel)) ggX9_add_X9_endWork
theorem dX9_add_0 : decode cX9_add 0 = .ok (.iload_n 1, 1) := by decide +kernel
theorem dX9_add_1 : decode cX9_add 1 = .ok (.invokestatic 89, 3) := by decide +kernel
theorem dX9_add_4 : decode cX9_add 4 = .ok (.ifCond .eq 10, 3) := by decide +kernel
theorem dX9_add_7 : decode cX9_add 7 = .ok (.iload_n 2, 1) := by decide +kernel
theorem dX9_add_8 : decode cX9_add 8 = .ok (.invokestatic 89, 3) := by decide +kernel
theorem dX9_add_11 : decode cX9_add 11 = .ok (.ifCond .ne 5, 3) := by decide +kernel
theorem dX9_add_14 : decode cX9_add 14 = .ok (.iconst (-1), 1) := by decide +kernel
theorem dX9_add_15 : decode cX9_add 15 = .ok (.ireturn, 1) := by decide +kernel
theorem dX9_add_16 : decode cX9_add 16 = .ok (.aload_n 0, 1) := by decide +kernel
theorem dX9_add_17 : decode cX9_add 17 = .ok (.invokevirtual 140, 3) := by decide +kernel
theorem dX9_add_20 : decode cX9_add 20 = .ok (.aload_n 0, 1) := by decide +kernel
theorem dX9_add_21 : decode cX9_add 21 = .ok (.getfield 7, 3) := by decide +kernel
theorem dX9_add_24 : decode cX9_add 24 = .ok (.iload_n 2, 1) := by decide +kernel
theorem dX9_add_25 : decode cX9_add 25 = .ok (.laload, 1) := by decide +kernel
theorem dX9_add_26 : decode cX9_add 26 = .ok (.lstore_n 3, 1) := by decide +kernel
theorem dX9_add_27 : decode cX9_add 27 = .ok (.bipush 11, 2) := by decide +kernel
theorem dX9_add_29 : decode cX9_add 29 = .ok (.istore 5, 2) := by decide +kernel
theorem dX9_add_31 : decode cX9_add 31 = .ok (.iload 5, 2) := by decide +kernel
theorem dX9_add_33 : decode cX9_add 33 = .ok (.ifCond .lt 69, 3) := by decide +kernel
theorem dX9_add_36 : decode cX9_add 36 = .ok (.lload_n 3, 1) := by decide +kernel
theorem dX9_add_37 : decode cX9_add 37 = .ok (.lconst 0, 1) := by decide +kernel
theorem dX9_add_38 : decode cX9_add 38 = .ok (.lcmp, 1) := by decide +kernel
theorem dX9_add_39 : decode cX9_add 39 = .ok (.ifCond .ge 13, 3) := by decide +kernel
theorem dX9_add_42 : decode cX9_add 42 = .ok (.lload_n 3, 1) := by decide +kernel
theorem dX9_add_43 : decode cX9_add 43 = .ok (.iload 5, 2) := by decide +kernel
theorem dX9_add_45 : decode cX9_add 45 = .ok (.invokestatic 85, 3) := by decide +kernel
theorem dX9_add_48 : decode cX9_add 48 = .ok (.ineg, 1) := by decide +kernel
theorem dX9_add_49 : decode cX9_add 49 = .ok (.goto 9, 3) := by decide +kernel
theorem dX9_add_52 : decode cX9_add 52 = .ok (.lload_n 3, 1) := by decide +kernel
theorem dX9_add_53 : decode cX9_add 53 = .ok (.iload 5, 2) := by decide +kernel
theorem dX9_add_55 : decode cX9_add 55 = .ok (.invokestatic 85, 3) := by decide +kernel
theorem dX9_add_58 : decode cX9_add 58 = .ok (.istore 6, 2) := by decide +kernel
theorem dX9_add_60 : decode cX9_add 60 = .ok (.iload 6, 2) := by decide +kernel
theorem dX9_add_62 : decode cX9_add 62 = .ok (.ifCond .eq 34, 3) := by decide +kernel
theorem dX9_add_65 : decode cX9_add 65 = .ok (.aload_n 0, 1) := by decide +kernel
theorem dX9_add_66 : decode cX9_add 66 = .ok (.getfield 49, 3) := by decide +kernel
theorem dX9_add_69 : decode cX9_add 69 = .ok (.iload_n 1, 1) := by decide +kernel
theorem dX9_add_70 : decode cX9_add 70 = .ok (.dup2, 1) := by decide +kernel
theorem dX9_add_71 : decode cX9_add 71 = .ok (.laload, 1) := by decide +kernel
theorem dX9_add_72 : decode cX9_add 72 = .ok (.iload 6, 2) := by decide +kernel
theorem dX9_add_74 : decode cX9_add 74 = .ok (.i2l, 1) := by decide +kernel
theorem dX9_add_75 : decode cX9_add 75 = .ok (.iload 5, 2) := by decide +kernel
theorem dX9_add_77 : decode cX9_add 77 = .ok (.invokestatic 81, 3) := by decide +kernel
theorem dX9_add_80 : decode cX9_add 80 = .ok (.lmul, 1) := by decide +kernel
theorem dX9_add_81 : decode cX9_add 81 = .ok (.ladd, 1) := by decide +kernel
theorem dX9_add_82 : decode cX9_add 82 = .ok (.lastore, 1) := by decide +kernel
theorem dX9_add_83 : decode cX9_add 83 = .ok (.aload_n 0, 1) := by decide +kernel
theorem dX9_add_84 : decode cX9_add 84 = .ok (.iconst 0, 1) := by decide +kernel
theorem dX9_add_85 : decode cX9_add 85 = .ok (.iload_n 1, 1) := by decide +kernel
theorem dX9_add_86 : decode cX9_add 86 = .ok (.iload 5, 2) := by decide +kernel
theorem dX9_add_88 : decode cX9_add 88 = .ok (.iload 6, 2) := by decide +kernel
theorem dX9_add_90 : decode cX9_add 90 = .ok (.iload_n 2, 1) := by decide +kernel
theorem dX9_add_91 : decode cX9_add 91 = .ok (.bipush (-6), 2) := by decide +kernel
theorem dX9_add_93 : decode cX9_add 93 = .ok (.invokevirtual 143, 3) := by decide +kernel
theorem dX9_add_96 : decode cX9_add 96 = .ok (.iinc 5 (-1), 3) := by decide +kernel
theorem dX9_add_99 : decode cX9_add 99 = .ok (.goto (-68), 3) := by decide +kernel
theorem dX9_add_102 : decode cX9_add 102 = .ok (.aload_n 0, 1) := by decide +kernel
theorem dX9_add_103 : decode cX9_add 103 = .ok (.invokevirtual 147, 3) := by decide +kernel
theorem dX9_add_106 : decode cX9_add 106 = .ok (.ireturn, 1) := by decide +kernel
set_option maxRecDepth 20000 in
theorem ggX9_empty_X9_step : GoodIn wsX9_empty wsX9_step := goodIn_r _ [6, 7, 8, 9, 1, 10, 11, 12, 5, 13, 14, 15, 16, 17, 18, 19, 20, 21, 22, 23, 24, 25, 26, 27, 28, 29, 30, 31, 32, 33, 34, 35, 36, 37, 38, 39, 40, 41, 42, 43, 44] (by decide +kernel) (by decide +kernel)
set_option maxRecDepth 20000 in
theorem gX9_empty_X9_step : GoodIn wsX9_empty (wsV RX9 143 RX9 yX9_step wsX9_step) := goodIn_app (goodIn_of _ (by decide +kernel)) ggX9_empty_X9_step
theorem dX9_empty_0 : decode cX9_empty 0 = .ok (.aload_n 0, 1) := by decide +kernel
theorem dX9_empty_1 : decode cX9_empty 1 = .ok (.getfield 49, 3) := by decide +kernel
theorem dX9_empty_4 : decode cX9_empty 4 = .ok (.iload_n 1, 1) := by decide +kernel
theorem dX9_empty_5 : decode cX9_empty 5 = .ok (.laload, 1) := by decide +kernel
theorem dX9_empty_6 : decode cX9_empty 6 = .ok (.lconst 0, 1) := by decide +kernel
theorem dX9_empty_7 : decode cX9_empty 7 = .ok (.lcmp, 1) := by decide +kernel
theorem dX9_empty_8 : decode cX9_empty 8 = .ok (.ifCond .eq 22, 3) := by decide +kernel
theorem dX9_empty_11 : decode cX9_empty 11 = .ok (.aload_n 0, 1) := by decide +kernel
theorem dX9_empty_12 : decode cX9_empty 12 = .ok (.getfield 49, 3) := by decide +kernel
theorem dX9_empty_15 : decode cX9_empty 15 = .ok (.iload_n 1, 1) := by decide +kernel
theorem dX9_empty_16 : decode cX9_empty 16 = .ok (.lconst 0, 1) := by decide +kernel
theorem dX9_empty_17 : decode cX9_empty 17 = .ok (.lastore, 1) := by decide +kernel
theorem dX9_empty_18 : decode cX9_empty 18 = .ok (.aload_n 0, 1) := by decide +kernel
theorem dX9_empty_19 : decode cX9_empty 19 = .ok (.iconst 5, 1) := by decide +kernel
theorem dX9_empty_20 : decode cX9_empty 20 = .ok (.iload_n 1, 1) := by decide +kernel
theorem dX9_empty_21 : decode cX9_empty 21 = .ok (.iconst 0, 1) := by decide +kernel
theorem dX9_empty_22 : decode cX9_empty 22 = .ok (.iconst 0, 1) := by decide +kernel
theorem dX9_empty_23 : decode cX9_empty 23 = .ok (.bipush (-6), 2) := by decide +kernel
theorem dX9_empty_25 : decode cX9_empty 25 = .ok (.bipush (-6), 2) := by decide +kernel
theorem dX9_empty_27 : decode cX9_empty 27 = .ok (.invokevirtual 143, 3) := by decide +kernel
theorem dX9_empty_30 : decode cX9_empty 30 = .ok (.return_, 1) := by decide +kernel
set_option maxRecDepth 20000 in
theorem ggX9_times_X9_isRow : GoodIn wsX9_times wsX9_isRow := goodIn_r _ [8, 9, 10, 11, 7, 12] (by decide +kernel) (by decide +kernel)
set_option maxRecDepth 20000 in
theorem gX9_times_X9_isRow : GoodIn wsX9_times (va_wsS RX9 89 yX9_isRow wsX9_isRow) := goodIn_app (goodIn_of _ (by decide +kernel)) ggX9_times_X9_isRow
set_option maxRecDepth 20000 in
theorem ggX9_times_X9_beginWork : GoodIn wsX9_times wsX9_beginWork := goodIn_r _ [16, 3, 1, 17, 18, 2, 49, 50, 51, 52, 53, 54, 55, 56, 57, 58, 59, 60, 61, 62, 63, 64, 65, 66, 67, 68, 69, 70, 71, 72, 73, 74, 75] (by decide +kernel) (by decide +kernel)
set_option maxRecDepth 20000 in
theorem gX9_times_X9_beginWork : GoodIn wsX9_times (wsV RX9 140 RX9 yX9_beginWork wsX9_beginWork) := goodIn_app (goodIn_of _ (by decide +kernel)) ggX9_times_X9_beginWork
set_option maxRecDepth 20000 in
theorem ggX9_times_X9_empty : GoodIn wsX9_times wsX9_empty := goodIn_r _ [22, 3, 23, 24, 25, 7, 26, 18, 27, 17, 2, 28, 29, 30, 4, 31, 32, 33, 49, 50, 51, 52, 53, 54, 55, 56, 57, 58, 59, 60, 61, 62, 63, 64, 65, 66, 67, 68, 69, 70, 71, 72, 73, 74, 75] (by decide +kernel) (by decide +kernel)
set_option maxRecDepth 20000 in
theorem gX9_times_X9_empty : GoodIn wsX9_times (wsV RX9 151 RX9 yX9_empty wsX9_empty) := goodIn_app (goodIn_of _ (by decide +kernel)) ggX9_times_X9_empty
set_option maxRecDepth 20000 in
theorem ggX9_times_X9_digit : GoodIn wsX9_times wsX9_digit := goodIn_r _ [36, 37, 31, 32, 7, 33, 38, 39, 40] (by decide +kernel) (by decide +kernel)
set_option maxRecDepth 20000 in
theorem gX9_times_X9_digit : GoodIn wsX9_times (va_wsS RX9 85 yX9_digit wsX9_digit) := goodIn_app (goodIn_of _ (by decide +kernel)) ggX9_times_X9_digit
set_option maxRecDepth 20000 in
theorem ggX9_times_X9_ten : GoodIn wsX9_times wsX9_ten := goodIn_r _ [40, 37] (by decide +kernel) (by decide +kernel)
set_option maxRecDepth 20000 in
theorem gX9_times_X9_ten : GoodIn wsX9_times (va_wsS RX9 81 yX9_ten wsX9_ten) := goodIn_app (goodIn_of _ (by decide +kernel)) ggX9_times_X9_ten
set_option maxRecDepth 20000 in
theorem ggX9_times_X9_step : GoodIn wsX9_times wsX9_step := goodIn_r _ [26, 18, 27, 17, 3, 2, 28, 29, 7, 30, 4, 31, 32, 33, 49, 50, 51, 52, 53, 54, 55, 56, 57, 58, 59, 60, 61, 62, 63, 64, 65, 66, 67, 68, 69, 70, 71, 72, 73, 74, 75] (by decide +kernel) (by decide +kernel)
set_option maxRecDepth 20000 in
theorem gX9_times_X9_step : GoodIn wsX9_times (wsV RX9 143 RX9 yX9_step wsX9_step) := goodIn_app (goodIn_of _ (by decide +kernel)) ggX9_times_X9_step
set_option maxRecDepth 20000 in
theorem ggX9_times_X9_endWork : GoodIn wsX9_times wsX9_endWork := goodIn_r _ [44, 2, 18, 45, 46, 17, 47, 27, 1, 3, 48, 49, 50, 51, 52, 53, 54, 55, 56, 57, 58, 59, 60, 61, 62, 63, 64, 65, 66, 67, 68, 69, 70, 71, 72, 73, 74, 75] (by decide +kernel) (by decide +kernel)
set_option maxRecDepth 20000 in
theorem gX9_times_X9_endWork : GoodIn wsX9_times (wsV RX9 147 RX9 yX9_endWork wsX9_endWork) := goodIn_app (goodIn_of _ (by decide +kernel)) ggX9_times_X9_endWork
theorem dX9_times_0 : decode cX9_times 0 = .ok (.iload_n 1, 1) := by decide +kernel
theorem dX9_times_1 : decode cX9_times 1 = .ok (.invokestatic 89, 3) := by decide +kernel
theorem dX9_times_4 : decode cX9_times 4 = .ok (.ifCond .eq 17, 3) := by decide +kernel
theorem dX9_times_7 : decode cX9_times 7 = .ok (.iload_n 2, 1) := by decide +kernel
theorem dX9_times_8 : decode cX9_times 8 = .ok (.invokestatic 89, 3) := by decide +kernel
theorem dX9_times_11 : decode cX9_times 11 = .ok (.ifCond .eq 10, 3) := by decide +kernel
theorem dX9_times_14 : decode cX9_times 14 = .ok (.iload_n 3, 1) := by decide +kernel
theorem dX9_times_15 : decode cX9_times 15 = .ok (.invokestatic 89, 3) := by decide +kernel
theorem dX9_times_18 : decode cX9_times 18 = .ok (.ifCond .ne 5, 3) := by decide +kernel
theorem dX9_times_21 : decode cX9_times 21 = .ok (.iconst (-1), 1) := by decide +kernel
theorem dX9_times_22 : decode cX9_times 22 = .ok (.ireturn, 1) := by decide +kernel
theorem dX9_times_23 : decode cX9_times 23 = .ok (.iload_n 1, 1) := by decide +kernel
theorem dX9_times_24 : decode cX9_times 24 = .ok (.iload_n 2, 1) := by decide +kernel
theorem dX9_times_25 : decode cX9_times 25 = .ok (.if_icmp .eq 13, 3) := by decide +kernel
theorem dX9_times_28 : decode cX9_times 28 = .ok (.iload_n 2, 1) := by decide +kernel
theorem dX9_times_29 : decode cX9_times 29 = .ok (.iload_n 3, 1) := by decide +kernel
theorem dX9_times_30 : decode cX9_times 30 = .ok (.if_icmp .eq 8, 3) := by decide +kernel
theorem dX9_times_33 : decode cX9_times 33 = .ok (.iload_n 1, 1) := by decide +kernel
theorem dX9_times_34 : decode cX9_times 34 = .ok (.iload_n 3, 1) := by decide +kernel
theorem dX9_times_35 : decode cX9_times 35 = .ok (.if_icmp .ne 6, 3) := by decide +kernel
theorem dX9_times_38 : decode cX9_times 38 = .ok (.bipush (-3), 2) := by decide +kernel
theorem dX9_times_40 : decode cX9_times 40 = .ok (.ireturn, 1) := by decide +kernel
theorem dX9_times_41 : decode cX9_times 41 = .ok (.aload_n 0, 1) := by decide +kernel
theorem dX9_times_42 : decode cX9_times 42 = .ok (.invokevirtual 140, 3) := by decide +kernel
theorem dX9_times_45 : decode cX9_times 45 = .ok (.aload_n 0, 1) := by decide +kernel
theorem dX9_times_46 : decode cX9_times 46 = .ok (.iload_n 3, 1) := by decide +kernel
theorem dX9_times_47 : decode cX9_times 47 = .ok (.invokevirtual 151, 3) := by decide +kernel
theorem dX9_times_50 : decode cX9_times 50 = .ok (.aload_n 0, 1) := by decide +kernel
theorem dX9_times_51 : decode cX9_times 51 = .ok (.getfield 7, 3) := by decide +kernel
theorem dX9_times_54 : decode cX9_times 54 = .ok (.iload_n 1, 1) := by decide +kernel
theorem dX9_times_55 : decode cX9_times 55 = .ok (.laload, 1) := by decide +kernel
theorem dX9_times_56 : decode cX9_times 56 = .ok (.lconst 0, 1) := by decide +kernel
theorem dX9_times_57 : decode cX9_times 57 = .ok (.lcmp, 1) := by decide +kernel
theorem dX9_times_58 : decode cX9_times 58 = .ok (.ifCond .ge 7, 3) := by decide +kernel
theorem dX9_times_61 : decode cX9_times 61 = .ok (.iconst 1, 1) := by decide +kernel
theorem dX9_times_62 : decode cX9_times 62 = .ok (.goto 4, 3) := by decide +kernel
theorem dX9_times_65 : decode cX9_times 65 = .ok (.iconst 0, 1) := by decide +kernel
theorem dX9_times_66 : decode cX9_times 66 = .ok (.aload_n 0, 1) := by decide +kernel
theorem dX9_times_67 : decode cX9_times 67 = .ok (.getfield 7, 3) := by decide +kernel
theorem dX9_times_70 : decode cX9_times 70 = .ok (.iload_n 2, 1) := by decide +kernel
theorem dX9_times_71 : decode cX9_times 71 = .ok (.laload, 1) := by decide +kernel
theorem dX9_times_72 : decode cX9_times 72 = .ok (.lconst 0, 1) := by decide +kernel
theorem dX9_times_73 : decode cX9_times 73 = .ok (.lcmp, 1) := by decide +kernel
theorem dX9_times_74 : decode cX9_times 74 = .ok (.ifCond .ge 7, 3) := by decide +kernel
theorem dX9_times_77 : decode cX9_times 77 = .ok (.iconst 1, 1) := by decide +kernel
theorem dX9_times_78 : decode cX9_times 78 = .ok (.goto 4, 3) := by decide +kernel
theorem dX9_times_81 : decode cX9_times 81 = .ok (.iconst 0, 1) := by decide +kernel
theorem dX9_times_82 : decode cX9_times 82 = .ok (.if_icmp .eq 7, 3) := by decide +kernel
theorem dX9_times_85 : decode cX9_times 85 = .ok (.iconst (-1), 1) := by decide +kernel
theorem dX9_times_86 : decode cX9_times 86 = .ok (.goto 4, 3) := by decide +kernel
theorem dX9_times_89 : decode cX9_times 89 = .ok (.iconst 1, 1) := by decide +kernel
theorem dX9_times_90 : decode cX9_times 90 = .ok (.istore 4, 2) := by decide +kernel
theorem dX9_times_92 : decode cX9_times 92 = .ok (.bipush 11, 2) := by decide +kernel
theorem dX9_times_94 : decode cX9_times 94 = .ok (.istore 5, 2) := by decide +kernel
theorem dX9_times_96 : decode cX9_times 96 = .ok (.iload 5, 2) := by decide +kernel
theorem dX9_times_98 : decode cX9_times 98 = .ok (.ifCond .lt 132, 3) := by decide +kernel
theorem dX9_times_101 : decode cX9_times 101 = .ok (.aload_n 0, 1) := by decide +kernel
theorem dX9_times_102 : decode cX9_times 102 = .ok (.getfield 126, 3) := by decide +kernel
theorem dX9_times_105 : decode cX9_times 105 = .ok (.ifCond .ne 125, 3) := by decide +kernel
theorem dX9_times_108 : decode cX9_times 108 = .ok (.bipush 11, 2) := by decide +kernel
theorem dX9_times_110 : decode cX9_times 110 = .ok (.istore 6, 2) := by decide +kernel
theorem dX9_times_112 : decode cX9_times 112 = .ok (.iload 6, 2) := by decide +kernel
theorem dX9_times_114 : decode cX9_times 114 = .ok (.ifCond .lt 110, 3) := by decide +kernel
theorem dX9_times_117 : decode cX9_times 117 = .ok (.aload_n 0, 1) := by decide +kernel
theorem dX9_times_118 : decode cX9_times 118 = .ok (.getfield 126, 3) := by decide +kernel
theorem dX9_times_121 : decode cX9_times 121 = .ok (.ifCond .ne 103, 3) := by decide +kernel
theorem dX9_times_124 : decode cX9_times 124 = .ok (.aload_n 0, 1) := by decide +kernel
theorem dX9_times_125 : decode cX9_times 125 = .ok (.getfield 7, 3) := by decide +kernel
theorem dX9_times_128 : decode cX9_times 128 = .ok (.iload_n 1, 1) := by decide +kernel
theorem dX9_times_129 : decode cX9_times 129 = .ok (.laload, 1) := by decide +kernel
theorem dX9_times_130 : decode cX9_times 130 = .ok (.iload 5, 2) := by decide +kernel
theorem dX9_times_132 : decode cX9_times 132 = .ok (.invokestatic 85, 3) := by decide +kernel
theorem dX9_times_135 : decode cX9_times 135 = .ok (.aload_n 0, 1) := by decide +kernel
theorem dX9_times_136 : decode cX9_times 136 = .ok (.getfield 7, 3) := by decide +kernel
theorem dX9_times_139 : decode cX9_times 139 = .ok (.iload_n 2, 1) := by decide +kernel
theorem dX9_times_140 : decode cX9_times 140 = .ok (.laload, 1) := by decide +kernel
theorem dX9_times_141 : decode cX9_times 141 = .ok (.iload 6, 2) := by decide +kernel
theorem dX9_times_143 : decode cX9_times 143 = .ok (.invokestatic 85, 3) := by decide +kernel
theorem dX9_times_146 : decode cX9_times 146 = .ok (.imul, 1) := by decide +kernel
theorem dX9_times_147 : decode cX9_times 147 = .ok (.istore 7, 2) := by decide +kernel
theorem dX9_times_149 : decode cX9_times 149 = .ok (.iload 7, 2) := by decide +kernel
theorem dX9_times_151 : decode cX9_times 151 = .ok (.ifCond .eq 67, 3) := by decide +kernel
theorem dX9_times_154 : decode cX9_times 154 = .ok (.aload_n 0, 1) := by decide +kernel
theorem dX9_times_155 : decode cX9_times 155 = .ok (.getfield 49, 3) := by decide +kernel
theorem dX9_times_158 : decode cX9_times 158 = .ok (.iload_n 3, 1) := by decide +kernel
theorem dX9_times_159 : decode cX9_times 159 = .ok (.iload 5, 2) := by decide +kernel
theorem dX9_times_161 : decode cX9_times 161 = .ok (.iload 6, 2) := by decide +kernel
theorem dX9_times_163 : decode cX9_times 163 = .ok (.iadd, 1) := by decide +kernel
theorem dX9_times_164 : decode cX9_times 164 = .ok (.bipush 11, 2) := by decide +kernel
theorem dX9_times_166 : decode cX9_times 166 = .ok (.if_icmp .le 9, 3) := by decide +kernel
theorem dX9_times_169 : decode cX9_times 169 = .ok (.ldc2_w 77, 3) := by decide +kernel
theorem dX9_times_172 : decode cX9_times 172 = .ok (.goto 25, 3) := by decide +kernel
theorem dX9_times_175 : decode cX9_times 175 = .ok (.aload_n 0, 1) := by decide +kernel
theorem dX9_times_176 : decode cX9_times 176 = .ok (.getfield 49, 3) := by decide +kernel
theorem dX9_times_179 : decode cX9_times 179 = .ok (.iload_n 3, 1) := by decide +kernel
theorem dX9_times_180 : decode cX9_times 180 = .ok (.laload, 1) := by decide +kernel
theorem dX9_times_181 : decode cX9_times 181 = .ok (.iload 4, 2) := by decide +kernel
theorem dX9_times_183 : decode cX9_times 183 = .ok (.iload 7, 2) := by decide +kernel
theorem dX9_times_185 : decode cX9_times 185 = .ok (.imul, 1) := by decide +kernel
theorem dX9_times_186 : decode cX9_times 186 = .ok (.i2l, 1) := by decide +kernel
theorem dX9_times_187 : decode cX9_times 187 = .ok (.iload 5, 2) := by decide +kernel
theorem dX9_times_189 : decode cX9_times 189 = .ok (.iload 6, 2) := by decide +kernel
theorem dX9_times_191 : decode cX9_times 191 = .ok (.iadd, 1) := by decide +kernel
theorem dX9_times_192 : decode cX9_times 192 = .ok (.invokestatic 81, 3) := by decide +kernel
theorem dX9_times_195 : decode cX9_times 195 = .ok (.lmul, 1) := by decide +kernel
theorem dX9_times_196 : decode cX9_times 196 = .ok (.ladd, 1) := by decide +kernel
theorem dX9_times_197 : decode cX9_times 197 = .ok (.lastore, 1) := by decide +kernel
theorem dX9_times_198 : decode cX9_times 198 = .ok (.aload_n 0, 1) := by decide +kernel
theorem dX9_times_199 : decode cX9_times 199 = .ok (.iconst 1, 1) := by decide +kernel
theorem dX9_times_200 : decode cX9_times 200 = .ok (.iload_n 3, 1) := by decide +kernel
theorem dX9_times_201 : decode cX9_times 201 = .ok (.iload 5, 2) := by decide +kernel
theorem dX9_times_203 : decode cX9_times 203 = .ok (.iload 6, 2) := by decide +kernel
theorem dX9_times_205 : decode cX9_times 205 = .ok (.iadd, 1) := by decide +kernel
theorem dX9_times_206 : decode cX9_times 206 = .ok (.iload 4, 2) := by decide +kernel
theorem dX9_times_208 : decode cX9_times 208 = .ok (.iload 7, 2) := by decide +kernel
theorem dX9_times_210 : decode cX9_times 210 = .ok (.imul, 1) := by decide +kernel
theorem dX9_times_211 : decode cX9_times 211 = .ok (.bipush (-6), 2) := by decide +kernel
theorem dX9_times_213 : decode cX9_times 213 = .ok (.bipush (-6), 2) := by decide +kernel
theorem dX9_times_215 : decode cX9_times 215 = .ok (.invokevirtual 143, 3) := by decide +kernel
theorem dX9_times_218 : decode cX9_times 218 = .ok (.iinc 6 (-1), 3) := by decide +kernel
theorem dX9_times_221 : decode cX9_times 221 = .ok (.goto (-109), 3) := by decide +kernel
theorem dX9_times_224 : decode cX9_times 224 = .ok (.iinc 5 (-1), 3) := by decide +kernel
theorem dX9_times_227 : decode cX9_times 227 = .ok (.goto (-131), 3) := by decide +kernel
theorem dX9_times_230 : decode cX9_times 230 = .ok (.aload_n 0, 1) := by decide +kernel
theorem dX9_times_231 : decode cX9_times 231 = .ok (.invokevirtual 147, 3) := by decide +kernel
theorem dX9_times_234 : decode cX9_times 234 = .ok (.ireturn, 1) := by decide +kernel
set_option maxRecDepth 20000 in
theorem ggX9_part_X9_isRow : GoodIn wsX9_part wsX9_isRow := goodIn_r _ [6, 7, 8, 9, 5, 10] (by decide +kernel) (by decide +kernel)
set_option maxRecDepth 20000 in
theorem gX9_part_X9_isRow : GoodIn wsX9_part (va_wsS RX9 89 yX9_isRow wsX9_isRow) := goodIn_app (goodIn_of _ (by decide +kernel)) ggX9_part_X9_isRow
set_option maxRecDepth 20000 in
theorem ggX9_part_X9_beginWork : GoodIn wsX9_part wsX9_beginWork := goodIn_r _ [14, 2, 1, 15, 16, 17, 46, 47, 48, 49, 50, 51, 52, 53, 54, 55, 56, 57, 58, 59, 60, 61, 62, 63, 64, 65, 66, 67, 68, 69, 70, 71, 72] (by decide +kernel) (by decide +kernel)
set_option maxRecDepth 20000 in
theorem gX9_part_X9_beginWork : GoodIn wsX9_part (wsV RX9 140 RX9 yX9_beginWork wsX9_beginWork) := goodIn_app (goodIn_of _ (by decide +kernel)) ggX9_part_X9_beginWork
set_option maxRecDepth 20000 in
theorem ggX9_part_X9_empty : GoodIn wsX9_part wsX9_empty := goodIn_r _ [21, 2, 22, 23, 24, 5, 25, 16, 26, 15, 17, 27, 28, 29, 30, 31, 32, 33, 46, 47, 48, 49, 50, 51, 52, 53, 54, 55, 56, 57, 58, 59, 60, 61, 62, 63, 64, 65, 66, 67, 68, 69, 70, 71, 72] (by decide +kernel) (by decide +kernel)
set_option maxRecDepth 20000 in
theorem gX9_part_X9_empty : GoodIn wsX9_part (wsV RX9 151 RX9 yX9_empty wsX9_empty) := goodIn_app (goodIn_of _ (by decide +kernel)) ggX9_part_X9_empty
set_option maxRecDepth 20000 in
theorem ggX9_part_X9_ten : GoodIn wsX9_part wsX9_ten := goodIn_r _ [36, 37] (by decide +kernel) (by decide +kernel)
set_option maxRecDepth 20000 in
theorem gX9_part_X9_ten : GoodIn wsX9_part (va_wsS RX9 81 yX9_ten wsX9_ten) := goodIn_app (goodIn_of _ (by decide +kernel)) ggX9_part_X9_ten
set_option maxRecDepth 20000 in
theorem ggX9_part_X9_step : GoodIn wsX9_part wsX9_step := goodIn_r _ [25, 16, 26, 15, 2, 17, 27, 28, 5, 29, 30, 31, 32, 33, 46, 47, 48, 49, 50, 51, 52, 53, 54, 55, 56, 57, 58, 59, 60, 61, 62, 63, 64, 65, 66, 67, 68, 69, 70, 71, 72] (by decide +kernel) (by decide +kernel)
set_option maxRecDepth 20000 in
theorem gX9_part_X9_step : GoodIn wsX9_part (wsV RX9 143 RX9 yX9_step wsX9_step) := goodIn_app (goodIn_of _ (by decide +kernel)) ggX9_part_X9_step
set_option maxRecDepth 20000 in
theorem ggX9_part_X9_endWork : GoodIn wsX9_part wsX9_endWork := goodIn_r _ [41, 17, 16, 42, 43, 15, 44, 26, 1, 2, 45, 46, 47, 48, 49, 50, 51, 52, 53, 54, 55, 56, 57, 58, 59, 60, 61, 62, 63, 64, 65, 66, 67, 68, 69, 70, 71, 72] (by decide +kernel) (by decide +kernel)
set_option maxRecDepth 20000 in
theorem gX9_part_X9_endWork : GoodIn wsX9_part (wsV RX9 147 RX9 yX9_endWork wsX9_endWork) := goodIn_app (goodIn_of _ (by decide +kernel)) ggX9_part_X9_endWork
theorem dX9_part_0 : decode cX9_part 0 = .ok (.iload_n 1, 1) := by decide +kernel
theorem dX9_part_1 : decode cX9_part 1 = .ok (.invokestatic 89, 3) := by decide +kernel
theorem dX9_part_4 : decode cX9_part 4 = .ok (.ifCond .eq 17, 3) := by decide +kernel
theorem dX9_part_7 : decode cX9_part 7 = .ok (.iload_n 2, 1) := by decide +kernel
theorem dX9_part_8 : decode cX9_part 8 = .ok (.invokestatic 89, 3) := by decide +kernel
theorem dX9_part_11 : decode cX9_part 11 = .ok (.ifCond .eq 10, 3) := by decide +kernel
theorem dX9_part_14 : decode cX9_part 14 = .ok (.iload_n 3, 1) := by decide +kernel
theorem dX9_part_15 : decode cX9_part 15 = .ok (.invokestatic 89, 3) := by decide +kernel
theorem dX9_part_18 : decode cX9_part 18 = .ok (.ifCond .ne 5, 3) := by decide +kernel
theorem dX9_part_21 : decode cX9_part 21 = .ok (.iconst (-1), 1) := by decide +kernel
theorem dX9_part_22 : decode cX9_part 22 = .ok (.ireturn, 1) := by decide +kernel
theorem dX9_part_23 : decode cX9_part 23 = .ok (.iload_n 1, 1) := by decide +kernel
theorem dX9_part_24 : decode cX9_part 24 = .ok (.iload_n 2, 1) := by decide +kernel
theorem dX9_part_25 : decode cX9_part 25 = .ok (.if_icmp .eq 13, 3) := by decide +kernel
theorem dX9_part_28 : decode cX9_part 28 = .ok (.iload_n 2, 1) := by decide +kernel
theorem dX9_part_29 : decode cX9_part 29 = .ok (.iload_n 3, 1) := by decide +kernel
theorem dX9_part_30 : decode cX9_part 30 = .ok (.if_icmp .eq 8, 3) := by decide +kernel
theorem dX9_part_33 : decode cX9_part 33 = .ok (.iload_n 1, 1) := by decide +kernel
theorem dX9_part_34 : decode cX9_part 34 = .ok (.iload_n 3, 1) := by decide +kernel
theorem dX9_part_35 : decode cX9_part 35 = .ok (.if_icmp .ne 6, 3) := by decide +kernel
theorem dX9_part_38 : decode cX9_part 38 = .ok (.bipush (-3), 2) := by decide +kernel
theorem dX9_part_40 : decode cX9_part 40 = .ok (.ireturn, 1) := by decide +kernel
theorem dX9_part_41 : decode cX9_part 41 = .ok (.aload_n 0, 1) := by decide +kernel
theorem dX9_part_42 : decode cX9_part 42 = .ok (.getfield 7, 3) := by decide +kernel
theorem dX9_part_45 : decode cX9_part 45 = .ok (.iload_n 1, 1) := by decide +kernel
theorem dX9_part_46 : decode cX9_part 46 = .ok (.laload, 1) := by decide +kernel
theorem dX9_part_47 : decode cX9_part 47 = .ok (.lconst 0, 1) := by decide +kernel
theorem dX9_part_48 : decode cX9_part 48 = .ok (.lcmp, 1) := by decide +kernel
theorem dX9_part_49 : decode cX9_part 49 = .ok (.ifCond .lt 14, 3) := by decide +kernel
theorem dX9_part_52 : decode cX9_part 52 = .ok (.aload_n 0, 1) := by decide +kernel
theorem dX9_part_53 : decode cX9_part 53 = .ok (.getfield 7, 3) := by decide +kernel
theorem dX9_part_56 : decode cX9_part 56 = .ok (.iload_n 2, 1) := by decide +kernel
theorem dX9_part_57 : decode cX9_part 57 = .ok (.laload, 1) := by decide +kernel
theorem dX9_part_58 : decode cX9_part 58 = .ok (.lconst 0, 1) := by decide +kernel
theorem dX9_part_59 : decode cX9_part 59 = .ok (.lcmp, 1) := by decide +kernel
theorem dX9_part_60 : decode cX9_part 60 = .ok (.ifCond .gt 6, 3) := by decide +kernel
theorem dX9_part_63 : decode cX9_part 63 = .ok (.bipush (-5), 2) := by decide +kernel
theorem dX9_part_65 : decode cX9_part 65 = .ok (.ireturn, 1) := by decide +kernel
theorem dX9_part_66 : decode cX9_part 66 = .ok (.aload_n 0, 1) := by decide +kernel
theorem dX9_part_67 : decode cX9_part 67 = .ok (.invokevirtual 140, 3) := by decide +kernel
theorem dX9_part_70 : decode cX9_part 70 = .ok (.aload_n 0, 1) := by decide +kernel
theorem dX9_part_71 : decode cX9_part 71 = .ok (.iload_n 3, 1) := by decide +kernel
theorem dX9_part_72 : decode cX9_part 72 = .ok (.invokevirtual 151, 3) := by decide +kernel
theorem dX9_part_75 : decode cX9_part 75 = .ok (.bipush 11, 2) := by decide +kernel
theorem dX9_part_77 : decode cX9_part 77 = .ok (.istore 4, 2) := by decide +kernel
theorem dX9_part_79 : decode cX9_part 79 = .ok (.iload 4, 2) := by decide +kernel
theorem dX9_part_81 : decode cX9_part 81 = .ok (.ifCond .lt 91, 3) := by decide +kernel
theorem dX9_part_84 : decode cX9_part 84 = .ok (.aload_n 0, 1) := by decide +kernel
theorem dX9_part_85 : decode cX9_part 85 = .ok (.getfield 49, 3) := by decide +kernel
theorem dX9_part_88 : decode cX9_part 88 = .ok (.iload_n 1, 1) := by decide +kernel
theorem dX9_part_89 : decode cX9_part 89 = .ok (.laload, 1) := by decide +kernel
theorem dX9_part_90 : decode cX9_part 90 = .ok (.iload 4, 2) := by decide +kernel
theorem dX9_part_92 : decode cX9_part 92 = .ok (.invokestatic 81, 3) := by decide +kernel
theorem dX9_part_95 : decode cX9_part 95 = .ok (.ldiv, 1) := by decide +kernel
theorem dX9_part_96 : decode cX9_part 96 = .ok (.aload_n 0, 1) := by decide +kernel
theorem dX9_part_97 : decode cX9_part 97 = .ok (.getfield 7, 3) := by decide +kernel
theorem dX9_part_100 : decode cX9_part 100 = .ok (.iload_n 2, 1) := by decide +kernel
theorem dX9_part_101 : decode cX9_part 101 = .ok (.laload, 1) := by decide +kernel
theorem dX9_part_102 : decode cX9_part 102 = .ok (.ldiv, 1) := by decide +kernel
theorem dX9_part_103 : decode cX9_part 103 = .ok (.l2i, 1) := by decide +kernel
theorem dX9_part_104 : decode cX9_part 104 = .ok (.istore 5, 2) := by decide +kernel
theorem dX9_part_106 : decode cX9_part 106 = .ok (.iload 5, 2) := by decide +kernel
theorem dX9_part_108 : decode cX9_part 108 = .ok (.ifCond .eq 58, 3) := by decide +kernel
theorem dX9_part_111 : decode cX9_part 111 = .ok (.aload_n 0, 1) := by decide +kernel
theorem dX9_part_112 : decode cX9_part 112 = .ok (.getfield 49, 3) := by decide +kernel
theorem dX9_part_115 : decode cX9_part 115 = .ok (.iload_n 3, 1) := by decide +kernel
theorem dX9_part_116 : decode cX9_part 116 = .ok (.dup2, 1) := by decide +kernel
theorem dX9_part_117 : decode cX9_part 117 = .ok (.laload, 1) := by decide +kernel
theorem dX9_part_118 : decode cX9_part 118 = .ok (.iload 5, 2) := by decide +kernel
theorem dX9_part_120 : decode cX9_part 120 = .ok (.i2l, 1) := by decide +kernel
theorem dX9_part_121 : decode cX9_part 121 = .ok (.iload 4, 2) := by decide +kernel
theorem dX9_part_123 : decode cX9_part 123 = .ok (.invokestatic 81, 3) := by decide +kernel
theorem dX9_part_126 : decode cX9_part 126 = .ok (.lmul, 1) := by decide +kernel
theorem dX9_part_127 : decode cX9_part 127 = .ok (.ladd, 1) := by decide +kernel
theorem dX9_part_128 : decode cX9_part 128 = .ok (.lastore, 1) := by decide +kernel
theorem dX9_part_129 : decode cX9_part 129 = .ok (.aload_n 0, 1) := by decide +kernel
theorem dX9_part_130 : decode cX9_part 130 = .ok (.getfield 49, 3) := by decide +kernel
theorem dX9_part_133 : decode cX9_part 133 = .ok (.iload_n 1, 1) := by decide +kernel
theorem dX9_part_134 : decode cX9_part 134 = .ok (.dup2, 1) := by decide +kernel
theorem dX9_part_135 : decode cX9_part 135 = .ok (.laload, 1) := by decide +kernel
theorem dX9_part_136 : decode cX9_part 136 = .ok (.iload 5, 2) := by decide +kernel
theorem dX9_part_138 : decode cX9_part 138 = .ok (.i2l, 1) := by decide +kernel
theorem dX9_part_139 : decode cX9_part 139 = .ok (.iload 4, 2) := by decide +kernel
theorem dX9_part_141 : decode cX9_part 141 = .ok (.invokestatic 81, 3) := by decide +kernel
theorem dX9_part_144 : decode cX9_part 144 = .ok (.lmul, 1) := by decide +kernel
theorem dX9_part_145 : decode cX9_part 145 = .ok (.aload_n 0, 1) := by decide +kernel
theorem dX9_part_146 : decode cX9_part 146 = .ok (.getfield 7, 3) := by decide +kernel
theorem dX9_part_149 : decode cX9_part 149 = .ok (.iload_n 2, 1) := by decide +kernel
theorem dX9_part_150 : decode cX9_part 150 = .ok (.laload, 1) := by decide +kernel
theorem dX9_part_151 : decode cX9_part 151 = .ok (.lmul, 1) := by decide +kernel
theorem dX9_part_152 : decode cX9_part 152 = .ok (.lsub, 1) := by decide +kernel
theorem dX9_part_153 : decode cX9_part 153 = .ok (.lastore, 1) := by decide +kernel
theorem dX9_part_154 : decode cX9_part 154 = .ok (.aload_n 0, 1) := by decide +kernel
theorem dX9_part_155 : decode cX9_part 155 = .ok (.iconst 2, 1) := by decide +kernel
theorem dX9_part_156 : decode cX9_part 156 = .ok (.iload_n 1, 1) := by decide +kernel
theorem dX9_part_157 : decode cX9_part 157 = .ok (.iload 4, 2) := by decide +kernel
theorem dX9_part_159 : decode cX9_part 159 = .ok (.iload 5, 2) := by decide +kernel
theorem dX9_part_161 : decode cX9_part 161 = .ok (.iload_n 2, 1) := by decide +kernel
theorem dX9_part_162 : decode cX9_part 162 = .ok (.iload_n 3, 1) := by decide +kernel
theorem dX9_part_163 : decode cX9_part 163 = .ok (.invokevirtual 143, 3) := by decide +kernel
theorem dX9_part_166 : decode cX9_part 166 = .ok (.iinc 4 (-1), 3) := by decide +kernel
theorem dX9_part_169 : decode cX9_part 169 = .ok (.goto (-90), 3) := by decide +kernel
theorem dX9_part_172 : decode cX9_part 172 = .ok (.aload_n 0, 1) := by decide +kernel
theorem dX9_part_173 : decode cX9_part 173 = .ok (.invokevirtual 147, 3) := by decide +kernel
theorem dX9_part_176 : decode cX9_part 176 = .ok (.ireturn, 1) := by decide +kernel
theorem dX9_power_0 : decode cX9_power 0 = .ok (.iload_n 2, 1) := by decide +kernel
theorem dX9_power_1 : decode cX9_power 1 = .ok (.iconst 2, 1) := by decide +kernel
theorem dX9_power_2 : decode cX9_power 2 = .ok (.if_icmp .ne 9, 3) := by decide +kernel
theorem dX9_power_5 : decode cX9_power 5 = .ok (.lload_n 0, 1) := by decide +kernel
theorem dX9_power_6 : decode cX9_power 6 = .ok (.lload_n 0, 1) := by decide +kernel
theorem dX9_power_7 : decode cX9_power 7 = .ok (.lmul, 1) := by decide +kernel
theorem dX9_power_8 : decode cX9_power 8 = .ok (.goto 8, 3) := by decide +kernel
theorem dX9_power_11 : decode cX9_power 11 = .ok (.lload_n 0, 1) := by decide +kernel
theorem dX9_power_12 : decode cX9_power 12 = .ok (.lload_n 0, 1) := by decide +kernel
theorem dX9_power_13 : decode cX9_power 13 = .ok (.lmul, 1) := by decide +kernel
theorem dX9_power_14 : decode cX9_power 14 = .ok (.lload_n 0, 1) := by decide +kernel
theorem dX9_power_15 : decode cX9_power 15 = .ok (.lmul, 1) := by decide +kernel
theorem dX9_power_16 : decode cX9_power 16 = .ok (.lreturn, 1) := by decide +kernel
set_option maxRecDepth 20000 in
theorem ggX9_root_X9_isRow : GoodIn wsX9_root wsX9_isRow := goodIn_r _ [8, 9, 10, 11, 7, 12] (by decide +kernel) (by decide +kernel)
set_option maxRecDepth 20000 in
theorem gX9_root_X9_isRow : GoodIn wsX9_root (va_wsS RX9 89 yX9_isRow wsX9_isRow) := goodIn_app (goodIn_of _ (by decide +kernel)) ggX9_root_X9_isRow
set_option maxRecDepth 20000 in
theorem ggX9_root_X9_in : GoodIn wsX9_root wsX9_in := goodIn_r _ [12] (by decide +kernel) (by decide +kernel)
set_option maxRecDepth 20000 in
theorem gX9_root_X9_in : GoodIn wsX9_root (va_wsS RX9 69 yX9_in wsX9_in) := goodIn_app (goodIn_of _ (by decide +kernel)) ggX9_root_X9_in
set_option maxRecDepth 20000 in
theorem ggX9_root_X9_beginWork : GoodIn wsX9_root wsX9_beginWork := goodIn_r _ [16, 4, 3, 17, 18, 19, 51, 52, 53, 54, 55, 56, 57, 58, 59, 60, 61, 62, 63, 64, 65, 66, 67, 68, 69, 70, 71, 72, 73, 74, 75, 76, 77] (by decide +kernel) (by decide +kernel)
set_option maxRecDepth 20000 in
theorem gX9_root_X9_beginWork : GoodIn wsX9_root (wsV RX9 140 RX9 yX9_beginWork wsX9_beginWork) := goodIn_app (goodIn_of _ (by decide +kernel)) ggX9_root_X9_beginWork
set_option maxRecDepth 20000 in
theorem ggX9_root_X9_empty : GoodIn wsX9_root wsX9_empty := goodIn_r _ [23, 4, 24, 25, 26, 7, 27, 18, 28, 17, 19, 29, 30, 31, 32, 33, 34, 35, 51, 52, 53, 54, 55, 56, 57, 58, 59, 60, 61, 62, 63, 64, 65, 66, 67, 68, 69, 70, 71, 72, 73, 74, 75, 76, 77] (by decide +kernel) (by decide +kernel)
set_option maxRecDepth 20000 in
theorem gX9_root_X9_empty : GoodIn wsX9_root (wsV RX9 151 RX9 yX9_empty wsX9_empty) := goodIn_app (goodIn_of _ (by decide +kernel)) ggX9_root_X9_empty
set_option maxRecDepth 20000 in
theorem ggX9_root_X9_ten : GoodIn wsX9_root wsX9_ten := goodIn_r _ [38, 39] (by decide +kernel) (by decide +kernel)
set_option maxRecDepth 20000 in
theorem gX9_root_X9_ten : GoodIn wsX9_root (va_wsS RX9 81 yX9_ten wsX9_ten) := goodIn_app (goodIn_of _ (by decide +kernel)) ggX9_root_X9_ten
set_option maxRecDepth 20000 in
theorem ggX9_root_X9_power : GoodIn wsX9_root wsX9_power := goodIn_r _ [42] (by decide +kernel) (by decide +kernel)
set_option maxRecDepth 20000 in
theorem gX9_root_X9_power : GoodIn wsX9_root (va_wsS RX9 159 yX9_power wsX9_power) := goodIn_app (goodIn_of _ (by decide +kernel)) ggX9_root_X9_power
set_option maxRecDepth 20000 in
theorem ggX9_root_X9_step : GoodIn wsX9_root wsX9_step := goodIn_r _ [27, 18, 28, 17, 4, 19, 29, 30, 7, 31, 32, 33, 34, 35, 51, 52, 53, 54, 55, 56, 57, 58, 59, 60, 61, 62, 63, 64, 65, 66, 67, 68, 69, 70, 71, 72, 73, 74, 75, 76, 77] (by decide +kernel) (by decide +kernel)
set_option maxRecDepth 20000 in
theorem gX9_root_X9_step : GoodIn wsX9_root (wsV RX9 143 RX9 yX9_step wsX9_step) := goodIn_app (goodIn_of _ (by decide +kernel)) ggX9_root_X9_step
set_option maxRecDepth 20000 in
theorem ggX9_root_X9_endWork : GoodIn wsX9_root wsX9_endWork := goodIn_r _ [46, 19, 18, 47, 48, 17, 49, 28, 3, 4, 50, 51, 52, 53, 54, 55, 56, 57, 58, 59, 60, 61, 62, 63, 64, 65, 66, 67, 68, 69, 70, 71, 72, 73, 74, 75, 76, 77] (by decide +kernel) (by decide +kernel)
set_option maxRecDepth 20000 in
theorem gX9_root_X9_endWork : GoodIn wsX9_root (wsV RX9 147 RX9 yX9_endWork wsX9_endWork) := goodIn_app (goodIn_of _ (by decide +kernel)) ggX9_root_X9_endWork
theorem dX9_root_0 : decode cX9_root 0 = .ok (.iload_n 1, 1) := by decide +kernel
theorem dX9_root_1 : decode cX9_root 1 = .ok (.invokestatic 89, 3) := by decide +kernel
theorem dX9_root_4 : decode cX9_root 4 = .ok (.ifCond .eq 10, 3) := by decide +kernel
theorem dX9_root_7 : decode cX9_root 7 = .ok (.iload_n 2, 1) := by decide +kernel
theorem dX9_root_8 : decode cX9_root 8 = .ok (.invokestatic 89, 3) := by decide +kernel
theorem dX9_root_11 : decode cX9_root 11 = .ok (.ifCond .ne 5, 3) := by decide +kernel
theorem dX9_root_14 : decode cX9_root 14 = .ok (.iconst (-1), 1) := by decide +kernel
theorem dX9_root_15 : decode cX9_root 15 = .ok (.ireturn, 1) := by decide +kernel
theorem dX9_root_16 : decode cX9_root 16 = .ok (.iload_n 3, 1) := by decide +kernel
theorem dX9_root_17 : decode cX9_root 17 = .ok (.i2l, 1) := by decide +kernel
theorem dX9_root_18 : decode cX9_root 18 = .ok (.ldc2_w 155, 3) := by decide +kernel
theorem dX9_root_21 : decode cX9_root 21 = .ok (.ldc2_w 157, 3) := by decide +kernel
theorem dX9_root_24 : decode cX9_root 24 = .ok (.invokestatic 69, 3) := by decide +kernel
theorem dX9_root_27 : decode cX9_root 27 = .ok (.ifCond .ne 6, 3) := by decide +kernel
theorem dX9_root_30 : decode cX9_root 30 = .ok (.bipush (-2), 2) := by decide +kernel
theorem dX9_root_32 : decode cX9_root 32 = .ok (.ireturn, 1) := by decide +kernel
theorem dX9_root_33 : decode cX9_root 33 = .ok (.iload_n 1, 1) := by decide +kernel
theorem dX9_root_34 : decode cX9_root 34 = .ok (.iload_n 2, 1) := by decide +kernel
theorem dX9_root_35 : decode cX9_root 35 = .ok (.if_icmp .ne 6, 3) := by decide +kernel
theorem dX9_root_38 : decode cX9_root 38 = .ok (.bipush (-3), 2) := by decide +kernel
theorem dX9_root_40 : decode cX9_root 40 = .ok (.ireturn, 1) := by decide +kernel
theorem dX9_root_41 : decode cX9_root 41 = .ok (.aload_n 0, 1) := by decide +kernel
theorem dX9_root_42 : decode cX9_root 42 = .ok (.getfield 7, 3) := by decide +kernel
theorem dX9_root_45 : decode cX9_root 45 = .ok (.iload_n 1, 1) := by decide +kernel
theorem dX9_root_46 : decode cX9_root 46 = .ok (.laload, 1) := by decide +kernel
theorem dX9_root_47 : decode cX9_root 47 = .ok (.lconst 0, 1) := by decide +kernel
theorem dX9_root_48 : decode cX9_root 48 = .ok (.lcmp, 1) := by decide +kernel
theorem dX9_root_49 : decode cX9_root 49 = .ok (.ifCond .ge 6, 3) := by decide +kernel
theorem dX9_root_52 : decode cX9_root 52 = .ok (.bipush (-5), 2) := by decide +kernel
theorem dX9_root_54 : decode cX9_root 54 = .ok (.ireturn, 1) := by decide +kernel
theorem dX9_root_55 : decode cX9_root 55 = .ok (.aload_n 0, 1) := by decide +kernel
theorem dX9_root_56 : decode cX9_root 56 = .ok (.invokevirtual 140, 3) := by decide +kernel
theorem dX9_root_59 : decode cX9_root 59 = .ok (.aload_n 0, 1) := by decide +kernel
theorem dX9_root_60 : decode cX9_root 60 = .ok (.iload_n 2, 1) := by decide +kernel
theorem dX9_root_61 : decode cX9_root 61 = .ok (.invokevirtual 151, 3) := by decide +kernel
theorem dX9_root_64 : decode cX9_root 64 = .ok (.iload_n 3, 1) := by decide +kernel
theorem dX9_root_65 : decode cX9_root 65 = .ok (.iconst 2, 1) := by decide +kernel
theorem dX9_root_66 : decode cX9_root 66 = .ok (.if_icmp .ne 7, 3) := by decide +kernel
theorem dX9_root_69 : decode cX9_root 69 = .ok (.iconst 5, 1) := by decide +kernel
theorem dX9_root_70 : decode cX9_root 70 = .ok (.goto 4, 3) := by decide +kernel
theorem dX9_root_73 : decode cX9_root 73 = .ok (.iconst 3, 1) := by decide +kernel
theorem dX9_root_74 : decode cX9_root 74 = .ok (.istore 4, 2) := by decide +kernel
theorem dX9_root_76 : decode cX9_root 76 = .ok (.iload 4, 2) := by decide +kernel
theorem dX9_root_78 : decode cX9_root 78 = .ok (.ifCond .lt 115, 3) := by decide +kernel
theorem dX9_root_81 : decode cX9_root 81 = .ok (.bipush 9, 2) := by decide +kernel
theorem dX9_root_83 : decode cX9_root 83 = .ok (.istore 5, 2) := by decide +kernel
theorem dX9_root_85 : decode cX9_root 85 = .ok (.iload 5, 2) := by decide +kernel
theorem dX9_root_87 : decode cX9_root 87 = .ok (.ifCond .le 39, 3) := by decide +kernel
theorem dX9_root_90 : decode cX9_root 90 = .ok (.aload_n 0, 1) := by decide +kernel
theorem dX9_root_91 : decode cX9_root 91 = .ok (.getfield 49, 3) := by decide +kernel
theorem dX9_root_94 : decode cX9_root 94 = .ok (.iload_n 2, 1) := by decide +kernel
theorem dX9_root_95 : decode cX9_root 95 = .ok (.laload, 1) := by decide +kernel
theorem dX9_root_96 : decode cX9_root 96 = .ok (.iload 5, 2) := by decide +kernel
theorem dX9_root_98 : decode cX9_root 98 = .ok (.i2l, 1) := by decide +kernel
theorem dX9_root_99 : decode cX9_root 99 = .ok (.iload 4, 2) := by decide +kernel
theorem dX9_root_101 : decode cX9_root 101 = .ok (.invokestatic 81, 3) := by decide +kernel
theorem dX9_root_104 : decode cX9_root 104 = .ok (.lmul, 1) := by decide +kernel
theorem dX9_root_105 : decode cX9_root 105 = .ok (.ladd, 1) := by decide +kernel
theorem dX9_root_106 : decode cX9_root 106 = .ok (.iload_n 3, 1) := by decide +kernel
theorem dX9_root_107 : decode cX9_root 107 = .ok (.invokestatic 159, 3) := by decide +kernel
theorem dX9_root_110 : decode cX9_root 110 = .ok (.aload_n 0, 1) := by decide +kernel
theorem dX9_root_111 : decode cX9_root 111 = .ok (.getfield 7, 3) := by decide +kernel
theorem dX9_root_114 : decode cX9_root 114 = .ok (.iload_n 1, 1) := by decide +kernel
theorem dX9_root_115 : decode cX9_root 115 = .ok (.laload, 1) := by decide +kernel
theorem dX9_root_116 : decode cX9_root 116 = .ok (.lcmp, 1) := by decide +kernel
theorem dX9_root_117 : decode cX9_root 117 = .ok (.ifCond .le 9, 3) := by decide +kernel
theorem dX9_root_120 : decode cX9_root 120 = .ok (.iinc 5 (-1), 3) := by decide +kernel
theorem dX9_root_123 : decode cX9_root 123 = .ok (.goto (-38), 3) := by decide +kernel
theorem dX9_root_126 : decode cX9_root 126 = .ok (.iload 5, 2) := by decide +kernel
theorem dX9_root_128 : decode cX9_root 128 = .ok (.ifCond .le 59, 3) := by decide +kernel
theorem dX9_root_131 : decode cX9_root 131 = .ok (.aload_n 0, 1) := by decide +kernel
theorem dX9_root_132 : decode cX9_root 132 = .ok (.getfield 49, 3) := by decide +kernel
theorem dX9_root_135 : decode cX9_root 135 = .ok (.iload_n 2, 1) := by decide +kernel
theorem dX9_root_136 : decode cX9_root 136 = .ok (.dup2, 1) := by decide +kernel
theorem dX9_root_137 : decode cX9_root 137 = .ok (.laload, 1) := by decide +kernel
theorem dX9_root_138 : decode cX9_root 138 = .ok (.iload 5, 2) := by decide +kernel
theorem dX9_root_140 : decode cX9_root 140 = .ok (.i2l, 1) := by decide +kernel
theorem dX9_root_141 : decode cX9_root 141 = .ok (.iload 4, 2) := by decide +kernel
theorem dX9_root_143 : decode cX9_root 143 = .ok (.invokestatic 81, 3) := by decide +kernel
theorem dX9_root_146 : decode cX9_root 146 = .ok (.lmul, 1) := by decide +kernel
theorem dX9_root_147 : decode cX9_root 147 = .ok (.ladd, 1) := by decide +kernel
theorem dX9_root_148 : decode cX9_root 148 = .ok (.lastore, 1) := by decide +kernel
theorem dX9_root_149 : decode cX9_root 149 = .ok (.aload_n 0, 1) := by decide +kernel
theorem dX9_root_150 : decode cX9_root 150 = .ok (.getfield 49, 3) := by decide +kernel
theorem dX9_root_153 : decode cX9_root 153 = .ok (.iload_n 1, 1) := by decide +kernel
theorem dX9_root_154 : decode cX9_root 154 = .ok (.aload_n 0, 1) := by decide +kernel
theorem dX9_root_155 : decode cX9_root 155 = .ok (.getfield 7, 3) := by decide +kernel
theorem dX9_root_158 : decode cX9_root 158 = .ok (.iload_n 1, 1) := by decide +kernel
theorem dX9_root_159 : decode cX9_root 159 = .ok (.laload, 1) := by decide +kernel
theorem dX9_root_160 : decode cX9_root 160 = .ok (.aload_n 0, 1) := by decide +kernel
theorem dX9_root_161 : decode cX9_root 161 = .ok (.getfield 49, 3) := by decide +kernel
theorem dX9_root_164 : decode cX9_root 164 = .ok (.iload_n 2, 1) := by decide +kernel
theorem dX9_root_165 : decode cX9_root 165 = .ok (.laload, 1) := by decide +kernel
theorem dX9_root_166 : decode cX9_root 166 = .ok (.iload_n 3, 1) := by decide +kernel
theorem dX9_root_167 : decode cX9_root 167 = .ok (.invokestatic 159, 3) := by decide +kernel
theorem dX9_root_170 : decode cX9_root 170 = .ok (.lsub, 1) := by decide +kernel
theorem dX9_root_171 : decode cX9_root 171 = .ok (.lastore, 1) := by decide +kernel
theorem dX9_root_172 : decode cX9_root 172 = .ok (.aload_n 0, 1) := by decide +kernel
theorem dX9_root_173 : decode cX9_root 173 = .ok (.iload_n 3, 1) := by decide +kernel
theorem dX9_root_174 : decode cX9_root 174 = .ok (.iconst 1, 1) := by decide +kernel
theorem dX9_root_175 : decode cX9_root 175 = .ok (.iadd, 1) := by decide +kernel
theorem dX9_root_176 : decode cX9_root 176 = .ok (.iload_n 1, 1) := by decide +kernel
theorem dX9_root_177 : decode cX9_root 177 = .ok (.iload 4, 2) := by decide +kernel
theorem dX9_root_179 : decode cX9_root 179 = .ok (.iload 5, 2) := by decide +kernel
theorem dX9_root_181 : decode cX9_root 181 = .ok (.iload_n 2, 1) := by decide +kernel
theorem dX9_root_182 : decode cX9_root 182 = .ok (.bipush (-6), 2) := by decide +kernel
theorem dX9_root_184 : decode cX9_root 184 = .ok (.invokevirtual 143, 3) := by decide +kernel
theorem dX9_root_187 : decode cX9_root 187 = .ok (.iinc 4 (-1), 3) := by decide +kernel
theorem dX9_root_190 : decode cX9_root 190 = .ok (.goto (-114), 3) := by decide +kernel
theorem dX9_root_193 : decode cX9_root 193 = .ok (.aload_n 0, 1) := by decide +kernel
theorem dX9_root_194 : decode cX9_root 194 = .ok (.invokevirtual 147, 3) := by decide +kernel
theorem dX9_root_197 : decode cX9_root 197 = .ok (.ireturn, 1) := by decide +kernel
theorem dX9_boards_0 : decode cX9_boards 0 = .ok (.aload_n 0, 1) := by decide +kernel
theorem dX9_boards_1 : decode cX9_boards 1 = .ok (.getfield 134, 3) := by decide +kernel
theorem dX9_boards_4 : decode cX9_boards 4 = .ok (.ireturn, 1) := by decide +kernel
set_option maxRecDepth 20000 in
theorem ggX9_isCell_X9_in : GoodIn wsX9_isCell wsX9_in := goodIn_r _ [5] (by decide +kernel) (by decide +kernel)
set_option maxRecDepth 20000 in
theorem gX9_isCell_X9_in : GoodIn wsX9_isCell (va_wsS RX9 69 yX9_in wsX9_in) := goodIn_app (goodIn_of _ (by decide +kernel)) ggX9_isCell_X9_in
set_option maxRecDepth 20000 in
theorem ggX9_isCell_X9_isRow : GoodIn wsX9_isCell wsX9_isRow := goodIn_r _ [8, 9, 2, 3, 4, 5] (by decide +kernel) (by decide +kernel)
set_option maxRecDepth 20000 in
theorem gX9_isCell_X9_isRow : GoodIn wsX9_isCell (va_wsS RX9 89 yX9_isRow wsX9_isRow) := goodIn_app (goodIn_of _ (by decide +kernel)) ggX9_isCell_X9_isRow
theorem dX9_isCell_0 : decode cX9_isCell 0 = .ok (.iload_n 1, 1) := by decide +kernel
theorem dX9_isCell_1 : decode cX9_isCell 1 = .ok (.i2l, 1) := by decide +kernel
theorem dX9_isCell_2 : decode cX9_isCell 2 = .ok (.lconst 0, 1) := by decide +kernel
theorem dX9_isCell_3 : decode cX9_isCell 3 = .ok (.aload_n 0, 1) := by decide +kernel
theorem dX9_isCell_4 : decode cX9_isCell 4 = .ok (.getfield 134, 3) := by decide +kernel
theorem dX9_isCell_7 : decode cX9_isCell 7 = .ok (.iconst 1, 1) := by decide +kernel
theorem dX9_isCell_8 : decode cX9_isCell 8 = .ok (.isub, 1) := by decide +kernel
theorem dX9_isCell_9 : decode cX9_isCell 9 = .ok (.i2l, 1) := by decide +kernel
theorem dX9_isCell_10 : decode cX9_isCell 10 = .ok (.invokestatic 69, 3) := by decide +kernel
theorem dX9_isCell_13 : decode cX9_isCell 13 = .ok (.ifCond .eq 14, 3) := by decide +kernel
theorem dX9_isCell_16 : decode cX9_isCell 16 = .ok (.iload_n 2, 1) := by decide +kernel
theorem dX9_isCell_17 : decode cX9_isCell 17 = .ok (.invokestatic 89, 3) := by decide +kernel
theorem dX9_isCell_20 : decode cX9_isCell 20 = .ok (.ifCond .eq 7, 3) := by decide +kernel
theorem dX9_isCell_23 : decode cX9_isCell 23 = .ok (.iconst 1, 1) := by decide +kernel
theorem dX9_isCell_24 : decode cX9_isCell 24 = .ok (.goto 4, 3) := by decide +kernel
theorem dX9_isCell_27 : decode cX9_isCell 27 = .ok (.iconst 0, 1) := by decide +kernel
theorem dX9_isCell_28 : decode cX9_isCell 28 = .ok (.ireturn, 1) := by decide +kernel
set_option maxRecDepth 20000 in
theorem ggX9_board_X9_isCell : GoodIn wsX9_board wsX9_isCell := goodIn_r _ [7, 8, 9, 10, 6, 11, 12, 13, 14, 15, 16, 17, 18, 19, 20, 21, 22, 23, 24, 25, 26, 27, 28, 29, 30, 31, 32, 33, 34, 35, 36, 37, 38, 39, 40, 41, 42] (by decide +kernel) (by decide +kernel)
set_option maxRecDepth 20000 in
theorem gX9_board_X9_isCell : GoodIn wsX9_board (wsV RX9 163 RX9 yX9_isCell wsX9_isCell) := goodIn_app (goodIn_of _ (by decide +kernel)) ggX9_board_X9_isCell
theorem dX9_board_0 : decode cX9_board 0 = .ok (.aload_n 0, 1) := by decide +kernel
theorem dX9_board_1 : decode cX9_board 1 = .ok (.iload_n 1, 1) := by decide +kernel
theorem dX9_board_2 : decode cX9_board 2 = .ok (.iload_n 2, 1) := by decide +kernel
theorem dX9_board_3 : decode cX9_board 3 = .ok (.invokevirtual 163, 3) := by decide +kernel
theorem dX9_board_6 : decode cX9_board 6 = .ok (.ifCond .eq 17, 3) := by decide +kernel
theorem dX9_board_9 : decode cX9_board 9 = .ok (.aload_n 0, 1) := by decide +kernel
theorem dX9_board_10 : decode cX9_board 10 = .ok (.getfield 20, 3) := by decide +kernel
theorem dX9_board_13 : decode cX9_board 13 = .ok (.bipush 8, 2) := by decide +kernel
theorem dX9_board_15 : decode cX9_board 15 = .ok (.iload_n 1, 1) := by decide +kernel
theorem dX9_board_16 : decode cX9_board 16 = .ok (.imul, 1) := by decide +kernel
theorem dX9_board_17 : decode cX9_board 17 = .ok (.iload_n 2, 1) := by decide +kernel
theorem dX9_board_18 : decode cX9_board 18 = .ok (.iadd, 1) := by decide +kernel
theorem dX9_board_19 : decode cX9_board 19 = .ok (.laload, 1) := by decide +kernel
theorem dX9_board_20 : decode cX9_board 20 = .ok (.goto 6, 3) := by decide +kernel
theorem dX9_board_23 : decode cX9_board 23 = .ok (.ldc2_w 101, 3) := by decide +kernel
theorem dX9_board_26 : decode cX9_board 26 = .ok (.lreturn, 1) := by decide +kernel
set_option maxRecDepth 20000 in
theorem ggX9_note_X9_in : GoodIn wsX9_note wsX9_in := goodIn_r _ [7] (by decide +kernel) (by decide +kernel)
set_option maxRecDepth 20000 in
theorem gX9_note_X9_in : GoodIn wsX9_note (va_wsS RX9 69 yX9_in wsX9_in) := goodIn_app (goodIn_of _ (by decide +kernel)) ggX9_note_X9_in
theorem dX9_note_0 : decode cX9_note 0 = .ok (.iload_n 1, 1) := by decide +kernel
theorem dX9_note_1 : decode cX9_note 1 = .ok (.i2l, 1) := by decide +kernel
theorem dX9_note_2 : decode cX9_note 2 = .ok (.lconst 0, 1) := by decide +kernel
theorem dX9_note_3 : decode cX9_note 3 = .ok (.aload_n 0, 1) := by decide +kernel
theorem dX9_note_4 : decode cX9_note 4 = .ok (.getfield 134, 3) := by decide +kernel
theorem dX9_note_7 : decode cX9_note 7 = .ok (.iconst 2, 1) := by decide +kernel
theorem dX9_note_8 : decode cX9_note 8 = .ok (.isub, 1) := by decide +kernel
theorem dX9_note_9 : decode cX9_note 9 = .ok (.i2l, 1) := by decide +kernel
theorem dX9_note_10 : decode cX9_note 10 = .ok (.invokestatic 69, 3) := by decide +kernel
theorem dX9_note_13 : decode cX9_note 13 = .ok (.ifCond .ne 6, 3) := by decide +kernel
theorem dX9_note_16 : decode cX9_note 16 = .ok (.bipush (-101), 2) := by decide +kernel
theorem dX9_note_18 : decode cX9_note 18 = .ok (.ireturn, 1) := by decide +kernel
theorem dX9_note_19 : decode cX9_note 19 = .ok (.iload_n 2, 1) := by decide +kernel
theorem dX9_note_20 : decode cX9_note 20 = .ok (.i2l, 1) := by decide +kernel
theorem dX9_note_21 : decode cX9_note 21 = .ok (.lconst 0, 1) := by decide +kernel
theorem dX9_note_22 : decode cX9_note 22 = .ok (.ldc2_w 167, 3) := by decide +kernel
theorem dX9_note_25 : decode cX9_note 25 = .ok (.invokestatic 69, 3) := by decide +kernel
theorem dX9_note_28 : decode cX9_note 28 = .ok (.ifCond .eq 17, 3) := by decide +kernel
theorem dX9_note_31 : decode cX9_note 31 = .ok (.aload_n 0, 1) := by decide +kernel
theorem dX9_note_32 : decode cX9_note 32 = .ok (.getfield 23, 3) := by decide +kernel
theorem dX9_note_35 : decode cX9_note 35 = .ok (.bipush 6, 2) := by decide +kernel
theorem dX9_note_37 : decode cX9_note 37 = .ok (.iload_n 1, 1) := by decide +kernel
theorem dX9_note_38 : decode cX9_note 38 = .ok (.imul, 1) := by decide +kernel
theorem dX9_note_39 : decode cX9_note 39 = .ok (.iload_n 2, 1) := by decide +kernel
theorem dX9_note_40 : decode cX9_note 40 = .ok (.iadd, 1) := by decide +kernel
theorem dX9_note_41 : decode cX9_note 41 = .ok (.iaload, 1) := by decide +kernel
theorem dX9_note_42 : decode cX9_note 42 = .ok (.goto 5, 3) := by decide +kernel
theorem dX9_note_45 : decode cX9_note 45 = .ok (.bipush (-102), 2) := by decide +kernel
theorem dX9_note_47 : decode cX9_note 47 = .ok (.ireturn, 1) := by decide +kernel
theorem dX9_copy_0 : decode cX9_copy 0 = .ok (.aload_n 0, 1) := by decide +kernel
theorem dX9_copy_1 : decode cX9_copy 1 = .ok (.getfield 134, 3) := by decide +kernel
theorem dX9_copy_4 : decode cX9_copy 4 = .ok (.ifCond .ne 6, 3) := by decide +kernel
theorem dX9_copy_7 : decode cX9_copy 7 = .ok (.bipush (-3), 2) := by decide +kernel
theorem dX9_copy_9 : decode cX9_copy 9 = .ok (.ireturn, 1) := by decide +kernel
theorem dX9_copy_10 : decode cX9_copy 10 = .ok (.aload_n 0, 1) := by decide +kernel
theorem dX9_copy_11 : decode cX9_copy 11 = .ok (.iconst 1, 1) := by decide +kernel
theorem dX9_copy_12 : decode cX9_copy 12 = .ok (.putfield 137, 3) := by decide +kernel
theorem dX9_copy_15 : decode cX9_copy 15 = .ok (.iconst 0, 1) := by decide +kernel
theorem dX9_copy_16 : decode cX9_copy 16 = .ok (.istore_n 1, 1) := by decide +kernel
theorem dX9_copy_17 : decode cX9_copy 17 = .ok (.iload_n 1, 1) := by decide +kernel
theorem dX9_copy_18 : decode cX9_copy 18 = .ok (.bipush 8, 2) := by decide +kernel
theorem dX9_copy_20 : decode cX9_copy 20 = .ok (.aload_n 0, 1) := by decide +kernel
theorem dX9_copy_21 : decode cX9_copy 21 = .ok (.getfield 134, 3) := by decide +kernel
theorem dX9_copy_24 : decode cX9_copy 24 = .ok (.imul, 1) := by decide +kernel
theorem dX9_copy_25 : decode cX9_copy 25 = .ok (.if_icmp .ge 28, 3) := by decide +kernel
theorem dX9_copy_28 : decode cX9_copy 28 = .ok (.aload_n 0, 1) := by decide +kernel
theorem dX9_copy_29 : decode cX9_copy 29 = .ok (.getfield 26, 3) := by decide +kernel
theorem dX9_copy_32 : decode cX9_copy 32 = .ok (.iload_n 1, 1) := by decide +kernel
theorem dX9_copy_33 : decode cX9_copy 33 = .ok (.aload_n 0, 1) := by decide +kernel
theorem dX9_copy_34 : decode cX9_copy 34 = .ok (.getfield 20, 3) := by decide +kernel
theorem dX9_copy_37 : decode cX9_copy 37 = .ok (.iload_n 1, 1) := by decide +kernel
theorem dX9_copy_38 : decode cX9_copy 38 = .ok (.laload, 1) := by decide +kernel
theorem dX9_copy_39 : decode cX9_copy 39 = .ok (.lastore, 1) := by decide +kernel
theorem dX9_copy_40 : decode cX9_copy 40 = .ok (.aload_n 0, 1) := by decide +kernel
theorem dX9_copy_41 : decode cX9_copy 41 = .ok (.getfield 29, 3) := by decide +kernel
theorem dX9_copy_44 : decode cX9_copy 44 = .ok (.iload_n 1, 1) := by decide +kernel
theorem dX9_copy_45 : decode cX9_copy 45 = .ok (.iconst 0, 1) := by decide +kernel
theorem dX9_copy_46 : decode cX9_copy 46 = .ok (.bastore, 1) := by decide +kernel
theorem dX9_copy_47 : decode cX9_copy 47 = .ok (.iinc 1 1, 3) := by decide +kernel
theorem dX9_copy_50 : decode cX9_copy 50 = .ok (.goto (-33), 3) := by decide +kernel
theorem dX9_copy_53 : decode cX9_copy 53 = .ok (.bipush 8, 2) := by decide +kernel
theorem dX9_copy_55 : decode cX9_copy 55 = .ok (.aload_n 0, 1) := by decide +kernel
theorem dX9_copy_56 : decode cX9_copy 56 = .ok (.getfield 134, 3) := by decide +kernel
theorem dX9_copy_59 : decode cX9_copy 59 = .ok (.imul, 1) := by decide +kernel
theorem dX9_copy_60 : decode cX9_copy 60 = .ok (.ireturn, 1) := by decide +kernel
set_option maxRecDepth 20000 in
theorem ggX9_write_X9_isCell : GoodIn wsX9_write wsX9_isCell := goodIn_r _ [10, 11, 12, 13, 9, 14, 15, 16, 17, 18, 19, 20, 21, 22, 23, 24, 25, 26, 27, 28, 29, 30, 31, 32, 33, 34, 35, 36, 37, 38, 39, 40, 41, 42, 43, 44, 45] (by decide +kernel) (by decide +kernel)
set_option maxRecDepth 20000 in
theorem gX9_write_X9_isCell : GoodIn wsX9_write (wsV RX9 163 RX9 yX9_isCell wsX9_isCell) := goodIn_app (goodIn_of _ (by decide +kernel)) ggX9_write_X9_isCell
set_option maxRecDepth 20000 in
theorem ggX9_write_X9_in : GoodIn wsX9_write wsX9_in := goodIn_r _ [14] (by decide +kernel) (by decide +kernel)
set_option maxRecDepth 20000 in
theorem gX9_write_X9_in : GoodIn wsX9_write (va_wsS RX9 69 yX9_in wsX9_in) := goodIn_app (goodIn_of _ (by decide +kernel)) ggX9_write_X9_in
theorem dX9_write_0 : decode cX9_write 0 = .ok (.aload_n 0, 1) := by decide +kernel
theorem dX9_write_1 : decode cX9_write 1 = .ok (.getfield 137, 3) := by decide +kernel
theorem dX9_write_4 : decode cX9_write 4 = .ok (.ifCond .ne 6, 3) := by decide +kernel
theorem dX9_write_7 : decode cX9_write 7 = .ok (.bipush (-3), 2) := by decide +kernel
theorem dX9_write_9 : decode cX9_write 9 = .ok (.ireturn, 1) := by decide +kernel
theorem dX9_write_10 : decode cX9_write 10 = .ok (.aload_n 0, 1) := by decide +kernel
theorem dX9_write_11 : decode cX9_write 11 = .ok (.iload_n 1, 1) := by decide +kernel
theorem dX9_write_12 : decode cX9_write 12 = .ok (.iload_n 2, 1) := by decide +kernel
theorem dX9_write_13 : decode cX9_write 13 = .ok (.invokevirtual 163, 3) := by decide +kernel
theorem dX9_write_16 : decode cX9_write 16 = .ok (.ifCond .ne 5, 3) := by decide +kernel
theorem dX9_write_19 : decode cX9_write 19 = .ok (.iconst (-1), 1) := by decide +kernel
theorem dX9_write_20 : decode cX9_write 20 = .ok (.ireturn, 1) := by decide +kernel
theorem dX9_write_21 : decode cX9_write 21 = .ok (.lload_n 3, 1) := by decide +kernel
theorem dX9_write_22 : decode cX9_write 22 = .ok (.ldc2_w 93, 3) := by decide +kernel
theorem dX9_write_25 : decode cX9_write 25 = .ok (.ldc2_w 95, 3) := by decide +kernel
theorem dX9_write_28 : decode cX9_write 28 = .ok (.invokestatic 69, 3) := by decide +kernel
theorem dX9_write_31 : decode cX9_write 31 = .ok (.ifCond .ne 6, 3) := by decide +kernel
theorem dX9_write_34 : decode cX9_write 34 = .ok (.bipush (-2), 2) := by decide +kernel
theorem dX9_write_36 : decode cX9_write 36 = .ok (.ireturn, 1) := by decide +kernel
theorem dX9_write_37 : decode cX9_write 37 = .ok (.bipush 8, 2) := by decide +kernel
theorem dX9_write_39 : decode cX9_write 39 = .ok (.iload_n 1, 1) := by decide +kernel
theorem dX9_write_40 : decode cX9_write 40 = .ok (.imul, 1) := by decide +kernel
theorem dX9_write_41 : decode cX9_write 41 = .ok (.iload_n 2, 1) := by decide +kernel
theorem dX9_write_42 : decode cX9_write 42 = .ok (.iadd, 1) := by decide +kernel
theorem dX9_write_43 : decode cX9_write 43 = .ok (.istore 5, 2) := by decide +kernel
theorem dX9_write_45 : decode cX9_write 45 = .ok (.aload_n 0, 1) := by decide +kernel
theorem dX9_write_46 : decode cX9_write 46 = .ok (.getfield 29, 3) := by decide +kernel
theorem dX9_write_49 : decode cX9_write 49 = .ok (.iload 5, 2) := by decide +kernel
theorem dX9_write_51 : decode cX9_write 51 = .ok (.baload, 1) := by decide +kernel
theorem dX9_write_52 : decode cX9_write 52 = .ok (.ifCond .ne 15, 3) := by decide +kernel
theorem dX9_write_55 : decode cX9_write 55 = .ok (.aload_n 0, 1) := by decide +kernel
theorem dX9_write_56 : decode cX9_write 56 = .ok (.getfield 26, 3) := by decide +kernel
theorem dX9_write_59 : decode cX9_write 59 = .ok (.iload 5, 2) := by decide +kernel
theorem dX9_write_61 : decode cX9_write 61 = .ok (.laload, 1) := by decide +kernel
theorem dX9_write_62 : decode cX9_write 62 = .ok (.lload_n 3, 1) := by decide +kernel
theorem dX9_write_63 : decode cX9_write 63 = .ok (.lcmp, 1) := by decide +kernel
theorem dX9_write_64 : decode cX9_write 64 = .ok (.ifCond .eq 7, 3) := by decide +kernel
theorem dX9_write_67 : decode cX9_write 67 = .ok (.iconst 1, 1) := by decide +kernel
theorem dX9_write_68 : decode cX9_write 68 = .ok (.goto 4, 3) := by decide +kernel
theorem dX9_write_71 : decode cX9_write 71 = .ok (.iconst 0, 1) := by decide +kernel
theorem dX9_write_72 : decode cX9_write 72 = .ok (.istore 6, 2) := by decide +kernel
theorem dX9_write_74 : decode cX9_write 74 = .ok (.aload_n 0, 1) := by decide +kernel
theorem dX9_write_75 : decode cX9_write 75 = .ok (.getfield 29, 3) := by decide +kernel
theorem dX9_write_78 : decode cX9_write 78 = .ok (.iload 5, 2) := by decide +kernel
theorem dX9_write_80 : decode cX9_write 80 = .ok (.iconst 0, 1) := by decide +kernel
theorem dX9_write_81 : decode cX9_write 81 = .ok (.bastore, 1) := by decide +kernel
theorem dX9_write_82 : decode cX9_write 82 = .ok (.aload_n 0, 1) := by decide +kernel
theorem dX9_write_83 : decode cX9_write 83 = .ok (.getfield 26, 3) := by decide +kernel
theorem dX9_write_86 : decode cX9_write 86 = .ok (.iload 5, 2) := by decide +kernel
theorem dX9_write_88 : decode cX9_write 88 = .ok (.lload_n 3, 1) := by decide +kernel
theorem dX9_write_89 : decode cX9_write 89 = .ok (.lastore, 1) := by decide +kernel
theorem dX9_write_90 : decode cX9_write 90 = .ok (.iload 6, 2) := by decide +kernel
theorem dX9_write_92 : decode cX9_write 92 = .ok (.ifCond .eq 7, 3) := by decide +kernel
theorem dX9_write_95 : decode cX9_write 95 = .ok (.iconst 1, 1) := by decide +kernel
theorem dX9_write_96 : decode cX9_write 96 = .ok (.goto 4, 3) := by decide +kernel
theorem dX9_write_99 : decode cX9_write 99 = .ok (.iconst 0, 1) := by decide +kernel
theorem dX9_write_100 : decode cX9_write 100 = .ok (.ireturn, 1) := by decide +kernel
set_option maxRecDepth 20000 in
theorem ggX9_gap_X9_isCell : GoodIn wsX9_gap wsX9_isCell := goodIn_r _ [7, 8, 9, 10, 6, 11, 12, 13, 14, 15, 16, 17, 18, 19, 20, 21, 22, 23, 24, 25, 26, 27, 28, 29, 30, 31, 32, 33, 34, 35, 36, 37, 38, 39, 40, 41, 42] (by decide +kernel) (by decide +kernel)
set_option maxRecDepth 20000 in
theorem gX9_gap_X9_isCell : GoodIn wsX9_gap (wsV RX9 163 RX9 yX9_isCell wsX9_isCell) := goodIn_app (goodIn_of _ (by decide +kernel)) ggX9_gap_X9_isCell
theorem dX9_gap_0 : decode cX9_gap 0 = .ok (.aload_n 0, 1) := by decide +kernel
theorem dX9_gap_1 : decode cX9_gap 1 = .ok (.getfield 137, 3) := by decide +kernel
theorem dX9_gap_4 : decode cX9_gap 4 = .ok (.ifCond .ne 6, 3) := by decide +kernel
theorem dX9_gap_7 : decode cX9_gap 7 = .ok (.bipush (-3), 2) := by decide +kernel
theorem dX9_gap_9 : decode cX9_gap 9 = .ok (.ireturn, 1) := by decide +kernel
theorem dX9_gap_10 : decode cX9_gap 10 = .ok (.aload_n 0, 1) := by decide +kernel
theorem dX9_gap_11 : decode cX9_gap 11 = .ok (.iload_n 1, 1) := by decide +kernel
theorem dX9_gap_12 : decode cX9_gap 12 = .ok (.iload_n 2, 1) := by decide +kernel
theorem dX9_gap_13 : decode cX9_gap 13 = .ok (.invokevirtual 163, 3) := by decide +kernel
theorem dX9_gap_16 : decode cX9_gap 16 = .ok (.ifCond .ne 5, 3) := by decide +kernel
theorem dX9_gap_19 : decode cX9_gap 19 = .ok (.iconst (-1), 1) := by decide +kernel
theorem dX9_gap_20 : decode cX9_gap 20 = .ok (.ireturn, 1) := by decide +kernel
theorem dX9_gap_21 : decode cX9_gap 21 = .ok (.aload_n 0, 1) := by decide +kernel
theorem dX9_gap_22 : decode cX9_gap 22 = .ok (.getfield 29, 3) := by decide +kernel
theorem dX9_gap_25 : decode cX9_gap 25 = .ok (.bipush 8, 2) := by decide +kernel
theorem dX9_gap_27 : decode cX9_gap 27 = .ok (.iload_n 1, 1) := by decide +kernel
theorem dX9_gap_28 : decode cX9_gap 28 = .ok (.imul, 1) := by decide +kernel
theorem dX9_gap_29 : decode cX9_gap 29 = .ok (.iload_n 2, 1) := by decide +kernel
theorem dX9_gap_30 : decode cX9_gap 30 = .ok (.iadd, 1) := by decide +kernel
theorem dX9_gap_31 : decode cX9_gap 31 = .ok (.baload, 1) := by decide +kernel
theorem dX9_gap_32 : decode cX9_gap 32 = .ok (.istore_n 3, 1) := by decide +kernel
theorem dX9_gap_33 : decode cX9_gap 33 = .ok (.aload_n 0, 1) := by decide +kernel
theorem dX9_gap_34 : decode cX9_gap 34 = .ok (.getfield 29, 3) := by decide +kernel
theorem dX9_gap_37 : decode cX9_gap 37 = .ok (.bipush 8, 2) := by decide +kernel
theorem dX9_gap_39 : decode cX9_gap 39 = .ok (.iload_n 1, 1) := by decide +kernel
theorem dX9_gap_40 : decode cX9_gap 40 = .ok (.imul, 1) := by decide +kernel
theorem dX9_gap_41 : decode cX9_gap 41 = .ok (.iload_n 2, 1) := by decide +kernel
theorem dX9_gap_42 : decode cX9_gap 42 = .ok (.iadd, 1) := by decide +kernel
theorem dX9_gap_43 : decode cX9_gap 43 = .ok (.iconst 1, 1) := by decide +kernel
theorem dX9_gap_44 : decode cX9_gap 44 = .ok (.bastore, 1) := by decide +kernel
theorem dX9_gap_45 : decode cX9_gap 45 = .ok (.iload_n 3, 1) := by decide +kernel
theorem dX9_gap_46 : decode cX9_gap 46 = .ok (.ifCond .eq 7, 3) := by decide +kernel
theorem dX9_gap_49 : decode cX9_gap 49 = .ok (.iconst 0, 1) := by decide +kernel
theorem dX9_gap_50 : decode cX9_gap 50 = .ok (.goto 4, 3) := by decide +kernel
theorem dX9_gap_53 : decode cX9_gap 53 = .ok (.iconst 1, 1) := by decide +kernel
theorem dX9_gap_54 : decode cX9_gap 54 = .ok (.ireturn, 1) := by decide +kernel
set_option maxRecDepth 20000 in
theorem ggX9_read_X9_isCell : GoodIn wsX9_read wsX9_isCell := goodIn_r _ [11, 12, 13, 14, 10, 15, 16, 17, 18, 19, 20, 21, 22, 23, 24, 25, 26, 27, 28, 29, 30, 31, 32, 33, 34, 35, 36, 37, 38, 39, 40, 41, 42, 43, 44, 45, 46] (by decide +kernel) (by decide +kernel)
set_option maxRecDepth 20000 in
theorem gX9_read_X9_isCell : GoodIn wsX9_read (wsV RX9 163 RX9 yX9_isCell wsX9_isCell) := goodIn_app (goodIn_of _ (by decide +kernel)) ggX9_read_X9_isCell
theorem dX9_read_0 : decode cX9_read 0 = .ok (.aload_n 0, 1) := by decide +kernel
theorem dX9_read_1 : decode cX9_read 1 = .ok (.getfield 137, 3) := by decide +kernel
theorem dX9_read_4 : decode cX9_read 4 = .ok (.ifCond .ne 7, 3) := by decide +kernel
theorem dX9_read_7 : decode cX9_read 7 = .ok (.ldc2_w 169, 3) := by decide +kernel
theorem dX9_read_10 : decode cX9_read 10 = .ok (.lreturn, 1) := by decide +kernel
theorem dX9_read_11 : decode cX9_read 11 = .ok (.aload_n 0, 1) := by decide +kernel
theorem dX9_read_12 : decode cX9_read 12 = .ok (.iload_n 1, 1) := by decide +kernel
theorem dX9_read_13 : decode cX9_read 13 = .ok (.iload_n 2, 1) := by decide +kernel
theorem dX9_read_14 : decode cX9_read 14 = .ok (.invokevirtual 163, 3) := by decide +kernel
theorem dX9_read_17 : decode cX9_read 17 = .ok (.ifCond .ne 7, 3) := by decide +kernel
theorem dX9_read_20 : decode cX9_read 20 = .ok (.ldc2_w 101, 3) := by decide +kernel
theorem dX9_read_23 : decode cX9_read 23 = .ok (.lreturn, 1) := by decide +kernel
theorem dX9_read_24 : decode cX9_read 24 = .ok (.aload_n 0, 1) := by decide +kernel
theorem dX9_read_25 : decode cX9_read 25 = .ok (.getfield 29, 3) := by decide +kernel
theorem dX9_read_28 : decode cX9_read 28 = .ok (.bipush 8, 2) := by decide +kernel
theorem dX9_read_30 : decode cX9_read 30 = .ok (.iload_n 1, 1) := by decide +kernel
theorem dX9_read_31 : decode cX9_read 31 = .ok (.imul, 1) := by decide +kernel
theorem dX9_read_32 : decode cX9_read 32 = .ok (.iload_n 2, 1) := by decide +kernel
theorem dX9_read_33 : decode cX9_read 33 = .ok (.iadd, 1) := by decide +kernel
theorem dX9_read_34 : decode cX9_read 34 = .ok (.baload, 1) := by decide +kernel
theorem dX9_read_35 : decode cX9_read 35 = .ok (.ifCond .eq 9, 3) := by decide +kernel
theorem dX9_read_38 : decode cX9_read 38 = .ok (.ldc2_w 121, 3) := by decide +kernel
theorem dX9_read_41 : decode cX9_read 41 = .ok (.goto 14, 3) := by decide +kernel
theorem dX9_read_44 : decode cX9_read 44 = .ok (.aload_n 0, 1) := by decide +kernel
theorem dX9_read_45 : decode cX9_read 45 = .ok (.getfield 26, 3) := by decide +kernel
theorem dX9_read_48 : decode cX9_read 48 = .ok (.bipush 8, 2) := by decide +kernel
theorem dX9_read_50 : decode cX9_read 50 = .ok (.iload_n 1, 1) := by decide +kernel
theorem dX9_read_51 : decode cX9_read 51 = .ok (.imul, 1) := by decide +kernel
theorem dX9_read_52 : decode cX9_read 52 = .ok (.iload_n 2, 1) := by decide +kernel
theorem dX9_read_53 : decode cX9_read 53 = .ok (.iadd, 1) := by decide +kernel
theorem dX9_read_54 : decode cX9_read 54 = .ok (.laload, 1) := by decide +kernel
theorem dX9_read_55 : decode cX9_read 55 = .ok (.lreturn, 1) := by decide +kernel
theorem dX9_hasGap_0 : decode cX9_hasGap 0 = .ok (.iconst 0, 1) := by decide +kernel
theorem dX9_hasGap_1 : decode cX9_hasGap 1 = .ok (.istore_n 2, 1) := by decide +kernel
theorem dX9_hasGap_2 : decode cX9_hasGap 2 = .ok (.iconst 0, 1) := by decide +kernel
theorem dX9_hasGap_3 : decode cX9_hasGap 3 = .ok (.istore_n 3, 1) := by decide +kernel
theorem dX9_hasGap_4 : decode cX9_hasGap 4 = .ok (.iload_n 3, 1) := by decide +kernel
theorem dX9_hasGap_5 : decode cX9_hasGap 5 = .ok (.bipush 8, 2) := by decide +kernel
theorem dX9_hasGap_7 : decode cX9_hasGap 7 = .ok (.if_icmp .ge 33, 3) := by decide +kernel
theorem dX9_hasGap_10 : decode cX9_hasGap 10 = .ok (.iload_n 2, 1) := by decide +kernel
theorem dX9_hasGap_11 : decode cX9_hasGap 11 = .ok (.ifCond .ne 17, 3) := by decide +kernel
theorem dX9_hasGap_14 : decode cX9_hasGap 14 = .ok (.aload_n 0, 1) := by decide +kernel
theorem dX9_hasGap_15 : decode cX9_hasGap 15 = .ok (.getfield 29, 3) := by decide +kernel
theorem dX9_hasGap_18 : decode cX9_hasGap 18 = .ok (.bipush 8, 2) := by decide +kernel
theorem dX9_hasGap_20 : decode cX9_hasGap 20 = .ok (.iload_n 1, 1) := by decide +kernel
theorem dX9_hasGap_21 : decode cX9_hasGap 21 = .ok (.imul, 1) := by decide +kernel
theorem dX9_hasGap_22 : decode cX9_hasGap 22 = .ok (.iload_n 3, 1) := by decide +kernel
theorem dX9_hasGap_23 : decode cX9_hasGap 23 = .ok (.iadd, 1) := by decide +kernel
theorem dX9_hasGap_24 : decode cX9_hasGap 24 = .ok (.baload, 1) := by decide +kernel
theorem dX9_hasGap_25 : decode cX9_hasGap 25 = .ok (.ifCond .eq 7, 3) := by decide +kernel
theorem dX9_hasGap_28 : decode cX9_hasGap 28 = .ok (.iconst 1, 1) := by decide +kernel
theorem dX9_hasGap_29 : decode cX9_hasGap 29 = .ok (.goto 4, 3) := by decide +kernel
theorem dX9_hasGap_32 : decode cX9_hasGap 32 = .ok (.iconst 0, 1) := by decide +kernel
theorem dX9_hasGap_33 : decode cX9_hasGap 33 = .ok (.istore_n 2, 1) := by decide +kernel
theorem dX9_hasGap_34 : decode cX9_hasGap 34 = .ok (.iinc 3 1, 3) := by decide +kernel
theorem dX9_hasGap_37 : decode cX9_hasGap 37 = .ok (.goto (-33), 3) := by decide +kernel
theorem dX9_hasGap_40 : decode cX9_hasGap 40 = .ok (.iload_n 2, 1) := by decide +kernel
theorem dX9_hasGap_41 : decode cX9_hasGap 41 = .ok (.ireturn, 1) := by decide +kernel
set_option maxRecDepth 20000 in
theorem ggX9_powerOf_X9_size : GoodIn wsX9_powerOf wsX9_size := goodIn_r _ [7] (by decide +kernel) (by decide +kernel)
set_option maxRecDepth 20000 in
theorem gX9_powerOf_X9_size : GoodIn wsX9_powerOf (va_wsS RX9 73 yX9_size wsX9_size) := goodIn_app (goodIn_of _ (by decide +kernel)) ggX9_powerOf_X9_size
set_option maxRecDepth 20000 in
theorem ggX9_powerOf_X9_power : GoodIn wsX9_powerOf wsX9_power := goodIn_r _ [10] (by decide +kernel) (by decide +kernel)
set_option maxRecDepth 20000 in
theorem gX9_powerOf_X9_power : GoodIn wsX9_powerOf (va_wsS RX9 159 yX9_power wsX9_power) := goodIn_app (goodIn_of _ (by decide +kernel)) ggX9_powerOf_X9_power
theorem dX9_powerOf_0 : decode cX9_powerOf 0 = .ok (.lload_n 0, 1) := by decide +kernel
theorem dX9_powerOf_1 : decode cX9_powerOf 1 = .ok (.invokestatic 73, 3) := by decide +kernel
theorem dX9_powerOf_4 : decode cX9_powerOf 4 = .ok (.lstore_n 3, 1) := by decide +kernel
theorem dX9_powerOf_5 : decode cX9_powerOf 5 = .ok (.lload_n 3, 1) := by decide +kernel
theorem dX9_powerOf_6 : decode cX9_powerOf 6 = .ok (.ldc2_w 171, 3) := by decide +kernel
theorem dX9_powerOf_9 : decode cX9_powerOf 9 = .ok (.lcmp, 1) := by decide +kernel
theorem dX9_powerOf_10 : decode cX9_powerOf 10 = .ok (.ifCond .ge 16, 3) := by decide +kernel
theorem dX9_powerOf_13 : decode cX9_powerOf 13 = .ok (.iload_n 2, 1) := by decide +kernel
theorem dX9_powerOf_14 : decode cX9_powerOf 14 = .ok (.iconst 3, 1) := by decide +kernel
theorem dX9_powerOf_15 : decode cX9_powerOf 15 = .ok (.if_icmp .ne 17, 3) := by decide +kernel
theorem dX9_powerOf_18 : decode cX9_powerOf 18 = .ok (.lload_n 3, 1) := by decide +kernel
theorem dX9_powerOf_19 : decode cX9_powerOf 19 = .ok (.ldc2_w 173, 3) := by decide +kernel
theorem dX9_powerOf_22 : decode cX9_powerOf 22 = .ok (.lcmp, 1) := by decide +kernel
theorem dX9_powerOf_23 : decode cX9_powerOf 23 = .ok (.ifCond .lt 9, 3) := by decide +kernel
theorem dX9_powerOf_26 : decode cX9_powerOf 26 = .ok (.ldc2_w 77, 3) := by decide +kernel
theorem dX9_powerOf_29 : decode cX9_powerOf 29 = .ok (.goto 8, 3) := by decide +kernel
theorem dX9_powerOf_32 : decode cX9_powerOf 32 = .ok (.lload_n 0, 1) := by decide +kernel
theorem dX9_powerOf_33 : decode cX9_powerOf 33 = .ok (.iload_n 2, 1) := by decide +kernel
theorem dX9_powerOf_34 : decode cX9_powerOf 34 = .ok (.invokestatic 159, 3) := by decide +kernel
theorem dX9_powerOf_37 : decode cX9_powerOf 37 = .ok (.lreturn, 1) := by decide +kernel
set_option maxRecDepth 20000 in
theorem ggX9_walks_X9_ten : GoodIn wsX9_walks wsX9_ten := goodIn_r _ [9, 10] (by decide +kernel) (by decide +kernel)
set_option maxRecDepth 20000 in
theorem gX9_walks_X9_ten : GoodIn wsX9_walks (va_wsS RX9 81 yX9_ten wsX9_ten) := goodIn_app (goodIn_of _ (by decide +kernel)) ggX9_walks_X9_ten
set_option maxRecDepth 20000 in
theorem ggX9_walks_X9_size : GoodIn wsX9_walks wsX9_size := goodIn_r _ [13] (by decide +kernel) (by decide +kernel)
set_option maxRecDepth 20000 in
theorem gX9_walks_X9_size : GoodIn wsX9_walks (va_wsS RX9 73 yX9_size wsX9_size) := goodIn_app (goodIn_of _ (by decide +kernel)) ggX9_walks_X9_size
set_option maxRecDepth 20000 in
theorem ggX9_walks_X9_powerOf : GoodIn wsX9_walks wsX9_powerOf := goodIn_r _ [16, 17, 18, 5, 11, 12, 8, 13, 19, 20, 21] (by decide +kernel) (by decide +kernel)
set_option maxRecDepth 20000 in
theorem gX9_walks_X9_powerOf : GoodIn wsX9_walks (va_wsS RX9 175 yX9_powerOf wsX9_powerOf) := goodIn_app (goodIn_of _ (by decide +kernel)) ggX9_walks_X9_powerOf
set_option maxRecDepth 20000 in
theorem ggX9_walks_X9_fits : GoodIn wsX9_walks wsX9_fits := goodIn_r _ [24, 5, 11, 12, 8, 13] (by decide +kernel) (by decide +kernel)
set_option maxRecDepth 20000 in
theorem gX9_walks_X9_fits : GoodIn wsX9_walks (va_wsS RX9 130 yX9_fits wsX9_fits) := goodIn_app (goodIn_of _ (by decide +kernel)) ggX9_walks_X9_fits
theorem dX9_walks_0 : decode cX9_walks 0 = .ok (.iconst 0, 1) := by decide +kernel
theorem dX9_walks_1 : decode cX9_walks 1 = .ok (.istore_n 2, 1) := by decide +kernel
theorem dX9_walks_2 : decode cX9_walks 2 = .ok (.iload_n 2, 1) := by decide +kernel
theorem dX9_walks_3 : decode cX9_walks 3 = .ok (.bipush 8, 2) := by decide +kernel
theorem dX9_walks_5 : decode cX9_walks 5 = .ok (.if_icmp .ge 26, 3) := by decide +kernel
theorem dX9_walks_8 : decode cX9_walks 8 = .ok (.aload_n 0, 1) := by decide +kernel
theorem dX9_walks_9 : decode cX9_walks 9 = .ok (.getfield 49, 3) := by decide +kernel
theorem dX9_walks_12 : decode cX9_walks 12 = .ok (.iload_n 2, 1) := by decide +kernel
theorem dX9_walks_13 : decode cX9_walks 13 = .ok (.aload_n 0, 1) := by decide +kernel
theorem dX9_walks_14 : decode cX9_walks 14 = .ok (.getfield 26, 3) := by decide +kernel
theorem dX9_walks_17 : decode cX9_walks 17 = .ok (.bipush 8, 2) := by decide +kernel
theorem dX9_walks_19 : decode cX9_walks 19 = .ok (.iload_n 1, 1) := by decide +kernel
theorem dX9_walks_20 : decode cX9_walks 20 = .ok (.imul, 1) := by decide +kernel
theorem dX9_walks_21 : decode cX9_walks 21 = .ok (.iload_n 2, 1) := by decide +kernel
theorem dX9_walks_22 : decode cX9_walks 22 = .ok (.iadd, 1) := by decide +kernel
theorem dX9_walks_23 : decode cX9_walks 23 = .ok (.laload, 1) := by decide +kernel
theorem dX9_walks_24 : decode cX9_walks 24 = .ok (.lastore, 1) := by decide +kernel
theorem dX9_walks_25 : decode cX9_walks 25 = .ok (.iinc 2 1, 3) := by decide +kernel
theorem dX9_walks_28 : decode cX9_walks 28 = .ok (.goto (-26), 3) := by decide +kernel
theorem dX9_walks_31 : decode cX9_walks 31 = .ok (.bipush 6, 2) := by decide +kernel
theorem dX9_walks_33 : decode cX9_walks 33 = .ok (.iload_n 1, 1) := by decide +kernel
theorem dX9_walks_34 : decode cX9_walks 34 = .ok (.imul, 1) := by decide +kernel
theorem dX9_walks_35 : decode cX9_walks 35 = .ok (.istore_n 2, 1) := by decide +kernel
theorem dX9_walks_36 : decode cX9_walks 36 = .ok (.aload_n 0, 1) := by decide +kernel
theorem dX9_walks_37 : decode cX9_walks 37 = .ok (.getfield 23, 3) := by decide +kernel
theorem dX9_walks_40 : decode cX9_walks 40 = .ok (.iload_n 2, 1) := by decide +kernel
theorem dX9_walks_41 : decode cX9_walks 41 = .ok (.iaload, 1) := by decide +kernel
theorem dX9_walks_42 : decode cX9_walks 42 = .ok (.istore_n 3, 1) := by decide +kernel
theorem dX9_walks_43 : decode cX9_walks 43 = .ok (.aload_n 0, 1) := by decide +kernel
theorem dX9_walks_44 : decode cX9_walks 44 = .ok (.getfield 23, 3) := by decide +kernel
theorem dX9_walks_47 : decode cX9_walks 47 = .ok (.iload_n 2, 1) := by decide +kernel
theorem dX9_walks_48 : decode cX9_walks 48 = .ok (.iconst 1, 1) := by decide +kernel
theorem dX9_walks_49 : decode cX9_walks 49 = .ok (.iadd, 1) := by decide +kernel
theorem dX9_walks_50 : decode cX9_walks 50 = .ok (.iaload, 1) := by decide +kernel
theorem dX9_walks_51 : decode cX9_walks 51 = .ok (.istore 4, 2) := by decide +kernel
theorem dX9_walks_53 : decode cX9_walks 53 = .ok (.aload_n 0, 1) := by decide +kernel
theorem dX9_walks_54 : decode cX9_walks 54 = .ok (.getfield 23, 3) := by decide +kernel
theorem dX9_walks_57 : decode cX9_walks 57 = .ok (.iload_n 2, 1) := by decide +kernel
theorem dX9_walks_58 : decode cX9_walks 58 = .ok (.iconst 4, 1) := by decide +kernel
theorem dX9_walks_59 : decode cX9_walks 59 = .ok (.iadd, 1) := by decide +kernel
theorem dX9_walks_60 : decode cX9_walks 60 = .ok (.iaload, 1) := by decide +kernel
theorem dX9_walks_61 : decode cX9_walks 61 = .ok (.istore 5, 2) := by decide +kernel
theorem dX9_walks_63 : decode cX9_walks 63 = .ok (.aload_n 0, 1) := by decide +kernel
theorem dX9_walks_64 : decode cX9_walks 64 = .ok (.getfield 23, 3) := by decide +kernel
theorem dX9_walks_67 : decode cX9_walks 67 = .ok (.iload_n 2, 1) := by decide +kernel
theorem dX9_walks_68 : decode cX9_walks 68 = .ok (.iconst 3, 1) := by decide +kernel
theorem dX9_walks_69 : decode cX9_walks 69 = .ok (.iadd, 1) := by decide +kernel
theorem dX9_walks_70 : decode cX9_walks 70 = .ok (.iaload, 1) := by decide +kernel
theorem dX9_walks_71 : decode cX9_walks 71 = .ok (.i2l, 1) := by decide +kernel
theorem dX9_walks_72 : decode cX9_walks 72 = .ok (.aload_n 0, 1) := by decide +kernel
theorem dX9_walks_73 : decode cX9_walks 73 = .ok (.getfield 23, 3) := by decide +kernel
theorem dX9_walks_76 : decode cX9_walks 76 = .ok (.iload_n 2, 1) := by decide +kernel
theorem dX9_walks_77 : decode cX9_walks 77 = .ok (.iconst 2, 1) := by decide +kernel
theorem dX9_walks_78 : decode cX9_walks 78 = .ok (.iadd, 1) := by decide +kernel
theorem dX9_walks_79 : decode cX9_walks 79 = .ok (.iaload, 1) := by decide +kernel
theorem dX9_walks_80 : decode cX9_walks 80 = .ok (.invokestatic 81, 3) := by decide +kernel
theorem dX9_walks_83 : decode cX9_walks 83 = .ok (.lmul, 1) := by decide +kernel
theorem dX9_walks_84 : decode cX9_walks 84 = .ok (.lstore 6, 2) := by decide +kernel
theorem dX9_walks_86 : decode cX9_walks 86 = .ok (.iload_n 3, 1) := by decide +kernel
theorem dX9_walks_87 : decode cX9_walks 87 = .ok (.iconst 2, 1) := by decide +kernel
theorem dX9_walks_88 : decode cX9_walks 88 = .ok (.if_icmp .ge 18, 3) := by decide +kernel
theorem dX9_walks_91 : decode cX9_walks 91 = .ok (.aload_n 0, 1) := by decide +kernel
theorem dX9_walks_92 : decode cX9_walks 92 = .ok (.getfield 49, 3) := by decide +kernel
theorem dX9_walks_95 : decode cX9_walks 95 = .ok (.iload 4, 2) := by decide +kernel
theorem dX9_walks_97 : decode cX9_walks 97 = .ok (.dup2, 1) := by decide +kernel
theorem dX9_walks_98 : decode cX9_walks 98 = .ok (.laload, 1) := by decide +kernel
theorem dX9_walks_99 : decode cX9_walks 99 = .ok (.lload 6, 2) := by decide +kernel
theorem dX9_walks_101 : decode cX9_walks 101 = .ok (.ladd, 1) := by decide +kernel
theorem dX9_walks_102 : decode cX9_walks 102 = .ok (.lastore, 1) := by decide +kernel
theorem dX9_walks_103 : decode cX9_walks 103 = .ok (.goto 178, 3) := by decide +kernel
theorem dX9_walks_106 : decode cX9_walks 106 = .ok (.iload_n 3, 1) := by decide +kernel
theorem dX9_walks_107 : decode cX9_walks 107 = .ok (.iconst 2, 1) := by decide +kernel
theorem dX9_walks_108 : decode cX9_walks 108 = .ok (.if_icmp .ne 75, 3) := by decide +kernel
theorem dX9_walks_111 : decode cX9_walks 111 = .ok (.ldc2_w 95, 3) := by decide +kernel
theorem dX9_walks_114 : decode cX9_walks 114 = .ok (.lload 6, 2) := by decide +kernel
theorem dX9_walks_116 : decode cX9_walks 116 = .ok (.ldiv, 1) := by decide +kernel
theorem dX9_walks_117 : decode cX9_walks 117 = .ok (.lstore 8, 2) := by decide +kernel
theorem dX9_walks_119 : decode cX9_walks 119 = .ok (.aload_n 0, 1) := by decide +kernel
theorem dX9_walks_120 : decode cX9_walks 120 = .ok (.getfield 49, 3) := by decide +kernel
theorem dX9_walks_123 : decode cX9_walks 123 = .ok (.iload 5, 2) := by decide +kernel
theorem dX9_walks_125 : decode cX9_walks 125 = .ok (.laload, 1) := by decide +kernel
theorem dX9_walks_126 : decode cX9_walks 126 = .ok (.invokestatic 73, 3) := by decide +kernel
theorem dX9_walks_129 : decode cX9_walks 129 = .ok (.lload 8, 2) := by decide +kernel
theorem dX9_walks_131 : decode cX9_walks 131 = .ok (.lcmp, 1) := by decide +kernel
theorem dX9_walks_132 : decode cX9_walks 132 = .ok (.ifCond .le 5, 3) := by decide +kernel
theorem dX9_walks_135 : decode cX9_walks 135 = .ok (.iconst 0, 1) := by decide +kernel
theorem dX9_walks_136 : decode cX9_walks 136 = .ok (.ireturn, 1) := by decide +kernel
theorem dX9_walks_137 : decode cX9_walks 137 = .ok (.aload_n 0, 1) := by decide +kernel
theorem dX9_walks_138 : decode cX9_walks 138 = .ok (.getfield 49, 3) := by decide +kernel
theorem dX9_walks_141 : decode cX9_walks 141 = .ok (.aload_n 0, 1) := by decide +kernel
theorem dX9_walks_142 : decode cX9_walks 142 = .ok (.getfield 23, 3) := by decide +kernel
theorem dX9_walks_145 : decode cX9_walks 145 = .ok (.iload_n 2, 1) := by decide +kernel
theorem dX9_walks_146 : decode cX9_walks 146 = .ok (.iconst 5, 1) := by decide +kernel
theorem dX9_walks_147 : decode cX9_walks 147 = .ok (.iadd, 1) := by decide +kernel
theorem dX9_walks_148 : decode cX9_walks 148 = .ok (.iaload, 1) := by decide +kernel
theorem dX9_walks_149 : decode cX9_walks 149 = .ok (.dup2, 1) := by decide +kernel
theorem dX9_walks_150 : decode cX9_walks 150 = .ok (.laload, 1) := by decide +kernel
theorem dX9_walks_151 : decode cX9_walks 151 = .ok (.lload 6, 2) := by decide +kernel
theorem dX9_walks_153 : decode cX9_walks 153 = .ok (.ladd, 1) := by decide +kernel
theorem dX9_walks_154 : decode cX9_walks 154 = .ok (.lastore, 1) := by decide +kernel
theorem dX9_walks_155 : decode cX9_walks 155 = .ok (.aload_n 0, 1) := by decide +kernel
theorem dX9_walks_156 : decode cX9_walks 156 = .ok (.getfield 49, 3) := by decide +kernel
theorem dX9_walks_159 : decode cX9_walks 159 = .ok (.iload 4, 2) := by decide +kernel
theorem dX9_walks_161 : decode cX9_walks 161 = .ok (.dup2, 1) := by decide +kernel
theorem dX9_walks_162 : decode cX9_walks 162 = .ok (.laload, 1) := by decide +kernel
theorem dX9_walks_163 : decode cX9_walks 163 = .ok (.lload 6, 2) := by decide +kernel
theorem dX9_walks_165 : decode cX9_walks 165 = .ok (.aload_n 0, 1) := by decide +kernel
theorem dX9_walks_166 : decode cX9_walks 166 = .ok (.getfield 26, 3) := by decide +kernel
theorem dX9_walks_169 : decode cX9_walks 169 = .ok (.bipush 8, 2) := by decide +kernel
theorem dX9_walks_171 : decode cX9_walks 171 = .ok (.iload_n 1, 1) := by decide +kernel
theorem dX9_walks_172 : decode cX9_walks 172 = .ok (.imul, 1) := by decide +kernel
theorem dX9_walks_173 : decode cX9_walks 173 = .ok (.iload 5, 2) := by decide +kernel
theorem dX9_walks_175 : decode cX9_walks 175 = .ok (.iadd, 1) := by decide +kernel
theorem dX9_walks_176 : decode cX9_walks 176 = .ok (.laload, 1) := by decide +kernel
theorem dX9_walks_177 : decode cX9_walks 177 = .ok (.lmul, 1) := by decide +kernel
theorem dX9_walks_178 : decode cX9_walks 178 = .ok (.lsub, 1) := by decide +kernel
theorem dX9_walks_179 : decode cX9_walks 179 = .ok (.lastore, 1) := by decide +kernel
theorem dX9_walks_180 : decode cX9_walks 180 = .ok (.goto 101, 3) := by decide +kernel
theorem dX9_walks_183 : decode cX9_walks 183 = .ok (.iload_n 3, 1) := by decide +kernel
theorem dX9_walks_184 : decode cX9_walks 184 = .ok (.iconst 5, 1) := by decide +kernel
theorem dX9_walks_185 : decode cX9_walks 185 = .ok (.if_icmp .ne 14, 3) := by decide +kernel
theorem dX9_walks_188 : decode cX9_walks 188 = .ok (.aload_n 0, 1) := by decide +kernel
theorem dX9_walks_189 : decode cX9_walks 189 = .ok (.getfield 49, 3) := by decide +kernel
theorem dX9_walks_192 : decode cX9_walks 192 = .ok (.iload 4, 2) := by decide +kernel
theorem dX9_walks_194 : decode cX9_walks 194 = .ok (.lconst 0, 1) := by decide +kernel
theorem dX9_walks_195 : decode cX9_walks 195 = .ok (.lastore, 1) := by decide +kernel
theorem dX9_walks_196 : decode cX9_walks 196 = .ok (.goto 85, 3) := by decide +kernel
theorem dX9_walks_199 : decode cX9_walks 199 = .ok (.aload_n 0, 1) := by decide +kernel
theorem dX9_walks_200 : decode cX9_walks 200 = .ok (.getfield 49, 3) := by decide +kernel
theorem dX9_walks_203 : decode cX9_walks 203 = .ok (.iload 5, 2) := by decide +kernel
theorem dX9_walks_205 : decode cX9_walks 205 = .ok (.laload, 1) := by decide +kernel
theorem dX9_walks_206 : decode cX9_walks 206 = .ok (.iload_n 3, 1) := by decide +kernel
theorem dX9_walks_207 : decode cX9_walks 207 = .ok (.iconst 1, 1) := by decide +kernel
theorem dX9_walks_208 : decode cX9_walks 208 = .ok (.isub, 1) := by decide +kernel
theorem dX9_walks_209 : decode cX9_walks 209 = .ok (.invokestatic 175, 3) := by decide +kernel
theorem dX9_walks_212 : decode cX9_walks 212 = .ok (.lstore 8, 2) := by decide +kernel
theorem dX9_walks_214 : decode cX9_walks 214 = .ok (.aload_n 0, 1) := by decide +kernel
theorem dX9_walks_215 : decode cX9_walks 215 = .ok (.getfield 49, 3) := by decide +kernel
theorem dX9_walks_218 : decode cX9_walks 218 = .ok (.iload 5, 2) := by decide +kernel
theorem dX9_walks_220 : decode cX9_walks 220 = .ok (.dup2, 1) := by decide +kernel
theorem dX9_walks_221 : decode cX9_walks 221 = .ok (.laload, 1) := by decide +kernel
theorem dX9_walks_222 : decode cX9_walks 222 = .ok (.lload 6, 2) := by decide +kernel
theorem dX9_walks_224 : decode cX9_walks 224 = .ok (.ladd, 1) := by decide +kernel
theorem dX9_walks_225 : decode cX9_walks 225 = .ok (.lastore, 1) := by decide +kernel
theorem dX9_walks_226 : decode cX9_walks 226 = .ok (.aload_n 0, 1) := by decide +kernel
theorem dX9_walks_227 : decode cX9_walks 227 = .ok (.getfield 49, 3) := by decide +kernel
theorem dX9_walks_230 : decode cX9_walks 230 = .ok (.iload 5, 2) := by decide +kernel
theorem dX9_walks_232 : decode cX9_walks 232 = .ok (.laload, 1) := by decide +kernel
theorem dX9_walks_233 : decode cX9_walks 233 = .ok (.iload_n 3, 1) := by decide +kernel
theorem dX9_walks_234 : decode cX9_walks 234 = .ok (.iconst 1, 1) := by decide +kernel
theorem dX9_walks_235 : decode cX9_walks 235 = .ok (.isub, 1) := by decide +kernel
theorem dX9_walks_236 : decode cX9_walks 236 = .ok (.invokestatic 175, 3) := by decide +kernel
theorem dX9_walks_239 : decode cX9_walks 239 = .ok (.lstore 10, 2) := by decide +kernel
theorem dX9_walks_241 : decode cX9_walks 241 = .ok (.lload 8, 2) := by decide +kernel
theorem dX9_walks_243 : decode cX9_walks 243 = .ok (.ldc2_w 77, 3) := by decide +kernel
theorem dX9_walks_246 : decode cX9_walks 246 = .ok (.lcmp, 1) := by decide +kernel
theorem dX9_walks_247 : decode cX9_walks 247 = .ok (.ifCond .eq 12, 3) := by decide +kernel
theorem dX9_walks_250 : decode cX9_walks 250 = .ok (.lload 10, 2) := by decide +kernel
theorem dX9_walks_252 : decode cX9_walks 252 = .ok (.ldc2_w 77, 3) := by decide +kernel
theorem dX9_walks_255 : decode cX9_walks 255 = .ok (.lcmp, 1) := by decide +kernel
theorem dX9_walks_256 : decode cX9_walks 256 = .ok (.ifCond .ne 5, 3) := by decide +kernel
theorem dX9_walks_259 : decode cX9_walks 259 = .ok (.iconst 0, 1) := by decide +kernel
theorem dX9_walks_260 : decode cX9_walks 260 = .ok (.ireturn, 1) := by decide +kernel
theorem dX9_walks_261 : decode cX9_walks 261 = .ok (.aload_n 0, 1) := by decide +kernel
theorem dX9_walks_262 : decode cX9_walks 262 = .ok (.getfield 49, 3) := by decide +kernel
theorem dX9_walks_265 : decode cX9_walks 265 = .ok (.iload 4, 2) := by decide +kernel
theorem dX9_walks_267 : decode cX9_walks 267 = .ok (.aload_n 0, 1) := by decide +kernel
theorem dX9_walks_268 : decode cX9_walks 268 = .ok (.getfield 49, 3) := by decide +kernel
theorem dX9_walks_271 : decode cX9_walks 271 = .ok (.iload 4, 2) := by decide +kernel
theorem dX9_walks_273 : decode cX9_walks 273 = .ok (.laload, 1) := by decide +kernel
theorem dX9_walks_274 : decode cX9_walks 274 = .ok (.lload 10, 2) := by decide +kernel
theorem dX9_walks_276 : decode cX9_walks 276 = .ok (.lsub, 1) := by decide +kernel
theorem dX9_walks_277 : decode cX9_walks 277 = .ok (.lload 8, 2) := by decide +kernel
theorem dX9_walks_279 : decode cX9_walks 279 = .ok (.ladd, 1) := by decide +kernel
theorem dX9_walks_280 : decode cX9_walks 280 = .ok (.lastore, 1) := by decide +kernel
theorem dX9_walks_281 : decode cX9_walks 281 = .ok (.iconst 1, 1) := by decide +kernel
theorem dX9_walks_282 : decode cX9_walks 282 = .ok (.istore 8, 2) := by decide +kernel
theorem dX9_walks_284 : decode cX9_walks 284 = .ok (.iconst 0, 1) := by decide +kernel
theorem dX9_walks_285 : decode cX9_walks 285 = .ok (.istore 9, 2) := by decide +kernel
theorem dX9_walks_287 : decode cX9_walks 287 = .ok (.iload 9, 2) := by decide +kernel
theorem dX9_walks_289 : decode cX9_walks 289 = .ok (.bipush 8, 2) := by decide +kernel
theorem dX9_walks_291 : decode cX9_walks 291 = .ok (.if_icmp .ge 34, 3) := by decide +kernel
theorem dX9_walks_294 : decode cX9_walks 294 = .ok (.iload 8, 2) := by decide +kernel
theorem dX9_walks_296 : decode cX9_walks 296 = .ok (.ifCond .eq 20, 3) := by decide +kernel
theorem dX9_walks_299 : decode cX9_walks 299 = .ok (.aload_n 0, 1) := by decide +kernel
theorem dX9_walks_300 : decode cX9_walks 300 = .ok (.getfield 49, 3) := by decide +kernel
theorem dX9_walks_303 : decode cX9_walks 303 = .ok (.iload 9, 2) := by decide +kernel
theorem dX9_walks_305 : decode cX9_walks 305 = .ok (.laload, 1) := by decide +kernel
theorem dX9_walks_306 : decode cX9_walks 306 = .ok (.invokestatic 130, 3) := by decide +kernel
theorem dX9_walks_309 : decode cX9_walks 309 = .ok (.ifCond .eq 7, 3) := by decide +kernel
theorem dX9_walks_312 : decode cX9_walks 312 = .ok (.iconst 1, 1) := by decide +kernel
theorem dX9_walks_313 : decode cX9_walks 313 = .ok (.goto 4, 3) := by decide +kernel
theorem dX9_walks_316 : decode cX9_walks 316 = .ok (.iconst 0, 1) := by decide +kernel
theorem dX9_walks_317 : decode cX9_walks 317 = .ok (.istore 8, 2) := by decide +kernel
theorem dX9_walks_319 : decode cX9_walks 319 = .ok (.iinc 9 1, 3) := by decide +kernel
theorem dX9_walks_322 : decode cX9_walks 322 = .ok (.goto (-35), 3) := by decide +kernel
theorem dX9_walks_325 : decode cX9_walks 325 = .ok (.iload 8, 2) := by decide +kernel
theorem dX9_walks_327 : decode cX9_walks 327 = .ok (.ireturn, 1) := by decide +kernel
set_option maxRecDepth 20000 in
theorem ggX9_rightOf_X9_hasGap : GoodIn wsX9_rightOf wsX9_hasGap := goodIn_r _ [7, 8, 34, 35, 36, 37, 38, 39, 40, 41, 42, 43, 44, 45, 46, 47, 48, 49, 50, 51, 52, 53, 54, 55, 56, 57, 58, 59, 60] (by decide +kernel) (by decide +kernel)
set_option maxRecDepth 20000 in
theorem gX9_rightOf_X9_hasGap : GoodIn wsX9_rightOf (wsV RX9 178 RX9 yX9_hasGap wsX9_hasGap) := goodIn_app (goodIn_of _ (by decide +kernel)) ggX9_rightOf_X9_hasGap
set_option maxRecDepth 20000 in
theorem ggX9_rightOf_X9_walks : GoodIn wsX9_rightOf wsX9_walks := goodIn_r _ [12, 1, 2, 13, 14, 15, 16, 17, 6, 18, 19, 20, 21, 22, 23, 24, 25, 26, 27, 28, 29, 30, 31, 32, 33, 34, 35, 36, 37, 38, 39, 40, 41, 42, 43, 44, 45, 46, 47, 48, 49, 50, 51, 52, 53, 54, 55, 56, 57, 58, 59, 60] (by decide +kernel) (by decide +kernel)
set_option maxRecDepth 20000 in
theorem gX9_rightOf_X9_walks : GoodIn wsX9_rightOf (wsV RX9 181 RX9 yX9_walks wsX9_walks) := goodIn_app (goodIn_of _ (by decide +kernel)) ggX9_rightOf_X9_walks
theorem dX9_rightOf_0 : decode cX9_rightOf 0 = .ok (.aload_n 0, 1) := by decide +kernel
theorem dX9_rightOf_1 : decode cX9_rightOf 1 = .ok (.iload_n 1, 1) := by decide +kernel
theorem dX9_rightOf_2 : decode cX9_rightOf 2 = .ok (.invokevirtual 178, 3) := by decide +kernel
theorem dX9_rightOf_5 : decode cX9_rightOf 5 = .ok (.ifCond .ne 13, 3) := by decide +kernel
theorem dX9_rightOf_8 : decode cX9_rightOf 8 = .ok (.aload_n 0, 1) := by decide +kernel
theorem dX9_rightOf_9 : decode cX9_rightOf 9 = .ok (.iload_n 1, 1) := by decide +kernel
theorem dX9_rightOf_10 : decode cX9_rightOf 10 = .ok (.iconst 1, 1) := by decide +kernel
theorem dX9_rightOf_11 : decode cX9_rightOf 11 = .ok (.iadd, 1) := by decide +kernel
theorem dX9_rightOf_12 : decode cX9_rightOf 12 = .ok (.invokevirtual 178, 3) := by decide +kernel
theorem dX9_rightOf_15 : decode cX9_rightOf 15 = .ok (.ifCond .eq 5, 3) := by decide +kernel
theorem dX9_rightOf_18 : decode cX9_rightOf 18 = .ok (.iconst 2, 1) := by decide +kernel
theorem dX9_rightOf_19 : decode cX9_rightOf 19 = .ok (.ireturn, 1) := by decide +kernel
theorem dX9_rightOf_20 : decode cX9_rightOf 20 = .ok (.aload_n 0, 1) := by decide +kernel
theorem dX9_rightOf_21 : decode cX9_rightOf 21 = .ok (.iload_n 1, 1) := by decide +kernel
theorem dX9_rightOf_22 : decode cX9_rightOf 22 = .ok (.invokevirtual 181, 3) := by decide +kernel
theorem dX9_rightOf_25 : decode cX9_rightOf 25 = .ok (.istore_n 2, 1) := by decide +kernel
theorem dX9_rightOf_26 : decode cX9_rightOf 26 = .ok (.iconst 0, 1) := by decide +kernel
theorem dX9_rightOf_27 : decode cX9_rightOf 27 = .ok (.istore_n 3, 1) := by decide +kernel
theorem dX9_rightOf_28 : decode cX9_rightOf 28 = .ok (.iload_n 3, 1) := by decide +kernel
theorem dX9_rightOf_29 : decode cX9_rightOf 29 = .ok (.bipush 8, 2) := by decide +kernel
theorem dX9_rightOf_31 : decode cX9_rightOf 31 = .ok (.if_icmp .ge 43, 3) := by decide +kernel
theorem dX9_rightOf_34 : decode cX9_rightOf 34 = .ok (.iload_n 2, 1) := by decide +kernel
theorem dX9_rightOf_35 : decode cX9_rightOf 35 = .ok (.ifCond .eq 31, 3) := by decide +kernel
theorem dX9_rightOf_38 : decode cX9_rightOf 38 = .ok (.aload_n 0, 1) := by decide +kernel
theorem dX9_rightOf_39 : decode cX9_rightOf 39 = .ok (.getfield 49, 3) := by decide +kernel
theorem dX9_rightOf_42 : decode cX9_rightOf 42 = .ok (.iload_n 3, 1) := by decide +kernel
theorem dX9_rightOf_43 : decode cX9_rightOf 43 = .ok (.laload, 1) := by decide +kernel
theorem dX9_rightOf_44 : decode cX9_rightOf 44 = .ok (.aload_n 0, 1) := by decide +kernel
theorem dX9_rightOf_45 : decode cX9_rightOf 45 = .ok (.getfield 26, 3) := by decide +kernel
theorem dX9_rightOf_48 : decode cX9_rightOf 48 = .ok (.bipush 8, 2) := by decide +kernel
theorem dX9_rightOf_50 : decode cX9_rightOf 50 = .ok (.iload_n 1, 1) := by decide +kernel
theorem dX9_rightOf_51 : decode cX9_rightOf 51 = .ok (.imul, 1) := by decide +kernel
theorem dX9_rightOf_52 : decode cX9_rightOf 52 = .ok (.bipush 8, 2) := by decide +kernel
theorem dX9_rightOf_54 : decode cX9_rightOf 54 = .ok (.iadd, 1) := by decide +kernel
theorem dX9_rightOf_55 : decode cX9_rightOf 55 = .ok (.iload_n 3, 1) := by decide +kernel
theorem dX9_rightOf_56 : decode cX9_rightOf 56 = .ok (.iadd, 1) := by decide +kernel
theorem dX9_rightOf_57 : decode cX9_rightOf 57 = .ok (.laload, 1) := by decide +kernel
theorem dX9_rightOf_58 : decode cX9_rightOf 58 = .ok (.lcmp, 1) := by decide +kernel
theorem dX9_rightOf_59 : decode cX9_rightOf 59 = .ok (.ifCond .ne 7, 3) := by decide +kernel
theorem dX9_rightOf_62 : decode cX9_rightOf 62 = .ok (.iconst 1, 1) := by decide +kernel
theorem dX9_rightOf_63 : decode cX9_rightOf 63 = .ok (.goto 4, 3) := by decide +kernel
theorem dX9_rightOf_66 : decode cX9_rightOf 66 = .ok (.iconst 0, 1) := by decide +kernel
theorem dX9_rightOf_67 : decode cX9_rightOf 67 = .ok (.istore_n 2, 1) := by decide +kernel
theorem dX9_rightOf_68 : decode cX9_rightOf 68 = .ok (.iinc 3 1, 3) := by decide +kernel
theorem dX9_rightOf_71 : decode cX9_rightOf 71 = .ok (.goto (-43), 3) := by decide +kernel
theorem dX9_rightOf_74 : decode cX9_rightOf 74 = .ok (.iload_n 2, 1) := by decide +kernel
theorem dX9_rightOf_75 : decode cX9_rightOf 75 = .ok (.ifCond .eq 7, 3) := by decide +kernel
theorem dX9_rightOf_78 : decode cX9_rightOf 78 = .ok (.iconst 1, 1) := by decide +kernel
theorem dX9_rightOf_79 : decode cX9_rightOf 79 = .ok (.goto 4, 3) := by decide +kernel
theorem dX9_rightOf_82 : decode cX9_rightOf 82 = .ok (.iconst 0, 1) := by decide +kernel
theorem dX9_rightOf_83 : decode cX9_rightOf 83 = .ok (.ireturn, 1) := by decide +kernel
set_option maxRecDepth 20000 in
theorem ggX9_isStep_X9_in : GoodIn wsX9_isStep wsX9_in := goodIn_r _ [5] (by decide +kernel) (by decide +kernel)
