set_option maxRecDepth 20000 in
theorem gX9_isStep_X9_in : GoodIn wsX9_isStep (va_wsS RX9 69 yX9_in wsX9_in) := goodIn_app (goodIn_of _ (by decide +kernel)) ggX9_isStep_X9_in
theorem dX9_isStep_0 : decode cX9_isStep 0 = .ok (.iload_n 1, 1) := by decide +kernel
theorem dX9_isStep_1 : decode cX9_isStep 1 = .ok (.i2l, 1) := by decide +kernel
theorem dX9_isStep_2 : decode cX9_isStep 2 = .ok (.lconst 0, 1) := by decide +kernel
theorem dX9_isStep_3 : decode cX9_isStep 3 = .ok (.aload_n 0, 1) := by decide +kernel
theorem dX9_isStep_4 : decode cX9_isStep 4 = .ok (.getfield 134, 3) := by decide +kernel
theorem dX9_isStep_7 : decode cX9_isStep 7 = .ok (.iconst 2, 1) := by decide +kernel
theorem dX9_isStep_8 : decode cX9_isStep 8 = .ok (.isub, 1) := by decide +kernel
theorem dX9_isStep_9 : decode cX9_isStep 9 = .ok (.i2l, 1) := by decide +kernel
theorem dX9_isStep_10 : decode cX9_isStep 10 = .ok (.invokestatic 69, 3) := by decide +kernel
theorem dX9_isStep_13 : decode cX9_isStep 13 = .ok (.ireturn, 1) := by decide +kernel
set_option maxRecDepth 20000 in
theorem ggX9_right_X9_isStep : GoodIn wsX9_right wsX9_isStep := goodIn_r _ [6, 7, 8, 9, 5, 10, 47, 48, 49, 50, 51, 52, 53, 54, 55, 56, 57, 58, 59, 60, 61, 62, 63, 64, 65, 66, 67, 68, 69, 70, 71, 72, 73] (by decide +kernel) (by decide +kernel)
set_option maxRecDepth 20000 in
theorem gX9_right_X9_isStep : GoodIn wsX9_right (wsV RX9 184 RX9 yX9_isStep wsX9_isStep) := goodIn_app (goodIn_of _ (by decide +kernel)) ggX9_right_X9_isStep
set_option maxRecDepth 20000 in
theorem ggX9_right_X9_rightOf : GoodIn wsX9_right wsX9_rightOf := goodIn_r _ [14, 15, 16, 17, 18, 19, 5, 20, 21, 22, 23, 24, 25, 26, 27, 28, 29, 30, 31, 32, 33, 34, 35, 36, 37, 38, 39, 40, 41, 42, 43, 44, 45, 46, 47, 48, 49, 50, 51, 52, 53, 54, 55, 56, 57, 58, 59, 60, 61, 62, 63, 64, 65, 66, 67, 68, 69, 70, 71, 72, 73] (by decide +kernel) (by decide +kernel)
set_option maxRecDepth 20000 in
theorem gX9_right_X9_rightOf : GoodIn wsX9_right (wsV RX9 187 RX9 yX9_rightOf wsX9_rightOf) := goodIn_app (goodIn_of _ (by decide +kernel)) ggX9_right_X9_rightOf
theorem dX9_right_0 : decode cX9_right 0 = .ok (.aload_n 0, 1) := by decide +kernel
theorem dX9_right_1 : decode cX9_right 1 = .ok (.getfield 137, 3) := by decide +kernel
theorem dX9_right_4 : decode cX9_right 4 = .ok (.ifCond .ne 8, 3) := by decide +kernel
theorem dX9_right_7 : decode cX9_right 7 = .ok (.bipush (-3), 2) := by decide +kernel
theorem dX9_right_9 : decode cX9_right 9 = .ok (.goto 20, 3) := by decide +kernel
theorem dX9_right_12 : decode cX9_right 12 = .ok (.aload_n 0, 1) := by decide +kernel
theorem dX9_right_13 : decode cX9_right 13 = .ok (.iload_n 1, 1) := by decide +kernel
theorem dX9_right_14 : decode cX9_right 14 = .ok (.invokevirtual 184, 3) := by decide +kernel
theorem dX9_right_17 : decode cX9_right 17 = .ok (.ifCond .eq 11, 3) := by decide +kernel
theorem dX9_right_20 : decode cX9_right 20 = .ok (.aload_n 0, 1) := by decide +kernel
theorem dX9_right_21 : decode cX9_right 21 = .ok (.iload_n 1, 1) := by decide +kernel
theorem dX9_right_22 : decode cX9_right 22 = .ok (.invokevirtual 187, 3) := by decide +kernel
theorem dX9_right_25 : decode cX9_right 25 = .ok (.goto 4, 3) := by decide +kernel
theorem dX9_right_28 : decode cX9_right 28 = .ok (.iconst (-1), 1) := by decide +kernel
theorem dX9_right_29 : decode cX9_right 29 = .ok (.ireturn, 1) := by decide +kernel
set_option maxRecDepth 20000 in
theorem ggX9_blamed_X9_rightOf : GoodIn wsX9_blamed wsX9_rightOf := goodIn_r _ [6, 7, 8, 9, 10, 11, 5, 12, 13, 14, 15, 16, 17, 18, 19, 20, 21, 22, 23, 24, 25, 26, 27, 28, 29, 30, 31, 32, 33, 34, 35, 36, 37, 38, 39, 40, 41, 42, 43, 44, 45, 46, 47, 48, 49, 50, 51, 52, 53, 54, 55, 56, 57, 58, 59, 60, 61, 62, 63, 64, 65] (by decide +kernel) (by decide +kernel)
set_option maxRecDepth 20000 in
theorem gX9_blamed_X9_rightOf : GoodIn wsX9_blamed (wsV RX9 187 RX9 yX9_rightOf wsX9_rightOf) := goodIn_app (goodIn_of _ (by decide +kernel)) ggX9_blamed_X9_rightOf
theorem dX9_blamed_0 : decode cX9_blamed 0 = .ok (.iconst 0, 1) := by decide +kernel
theorem dX9_blamed_1 : decode cX9_blamed 1 = .ok (.istore_n 1, 1) := by decide +kernel
theorem dX9_blamed_2 : decode cX9_blamed 2 = .ok (.iload_n 1, 1) := by decide +kernel
theorem dX9_blamed_3 : decode cX9_blamed 3 = .ok (.aload_n 0, 1) := by decide +kernel
theorem dX9_blamed_4 : decode cX9_blamed 4 = .ok (.getfield 134, 3) := by decide +kernel
theorem dX9_blamed_7 : decode cX9_blamed 7 = .ok (.iconst 1, 1) := by decide +kernel
theorem dX9_blamed_8 : decode cX9_blamed 8 = .ok (.isub, 1) := by decide +kernel
theorem dX9_blamed_9 : decode cX9_blamed 9 = .ok (.if_icmp .ge 21, 3) := by decide +kernel
theorem dX9_blamed_12 : decode cX9_blamed 12 = .ok (.aload_n 0, 1) := by decide +kernel
theorem dX9_blamed_13 : decode cX9_blamed 13 = .ok (.iload_n 1, 1) := by decide +kernel
theorem dX9_blamed_14 : decode cX9_blamed 14 = .ok (.invokevirtual 187, 3) := by decide +kernel
theorem dX9_blamed_17 : decode cX9_blamed 17 = .ok (.ifCond .ne 7, 3) := by decide +kernel
theorem dX9_blamed_20 : decode cX9_blamed 20 = .ok (.iload_n 1, 1) := by decide +kernel
theorem dX9_blamed_21 : decode cX9_blamed 21 = .ok (.iconst 1, 1) := by decide +kernel
theorem dX9_blamed_22 : decode cX9_blamed 22 = .ok (.iadd, 1) := by decide +kernel
theorem dX9_blamed_23 : decode cX9_blamed 23 = .ok (.ireturn, 1) := by decide +kernel
theorem dX9_blamed_24 : decode cX9_blamed 24 = .ok (.iinc 1 1, 3) := by decide +kernel
theorem dX9_blamed_27 : decode cX9_blamed 27 = .ok (.goto (-25), 3) := by decide +kernel
theorem dX9_blamed_30 : decode cX9_blamed 30 = .ok (.bipush (-6), 2) := by decide +kernel
theorem dX9_blamed_32 : decode cX9_blamed 32 = .ok (.ireturn, 1) := by decide +kernel
set_option maxRecDepth 20000 in
theorem ggX9_blame_X9_blamed : GoodIn wsX9_blame wsX9_blamed := goodIn_r _ [6, 7, 8, 9, 10, 5, 11, 12, 13, 14, 15, 16, 17, 18, 19, 20, 21, 22, 23, 24, 25, 26, 27, 28, 29, 30, 31, 32, 33, 34, 35, 36, 37, 38, 39, 40, 41, 42, 43, 44, 45, 46, 47, 48, 49, 50, 51, 52, 53, 54, 55, 56, 57, 58, 59, 60, 61, 62, 63, 64, 65, 66, 67, 68, 69, 70] (by decide +kernel) (by decide +kernel)
set_option maxRecDepth 20000 in
theorem gX9_blame_X9_blamed : GoodIn wsX9_blame (wsV RX9 191 RX9 yX9_blamed wsX9_blamed) := goodIn_app (goodIn_of _ (by decide +kernel)) ggX9_blame_X9_blamed
theorem dX9_blame_0 : decode cX9_blame 0 = .ok (.aload_n 0, 1) := by decide +kernel
theorem dX9_blame_1 : decode cX9_blame 1 = .ok (.getfield 137, 3) := by decide +kernel
theorem dX9_blame_4 : decode cX9_blame 4 = .ok (.ifCond .eq 10, 3) := by decide +kernel
theorem dX9_blame_7 : decode cX9_blame 7 = .ok (.aload_n 0, 1) := by decide +kernel
theorem dX9_blame_8 : decode cX9_blame 8 = .ok (.invokevirtual 191, 3) := by decide +kernel
theorem dX9_blame_11 : decode cX9_blame 11 = .ok (.goto 5, 3) := by decide +kernel
theorem dX9_blame_14 : decode cX9_blame 14 = .ok (.bipush (-3), 2) := by decide +kernel
theorem dX9_blame_16 : decode cX9_blame 16 = .ok (.ireturn, 1) := by decide +kernel
set_option maxRecDepth 20000 in
theorem ggX9_mends_X9_rightOf : GoodIn wsX9_mends wsX9_rightOf := goodIn_r _ [6, 7, 1, 8, 9, 10, 5, 11, 12, 13, 14, 15, 16, 17, 18, 19, 20, 21, 22, 23, 24, 25, 26, 27, 28, 29, 30, 31, 32, 33, 34, 35, 36, 37, 38, 39, 40, 41, 42, 43, 44, 45, 46, 47, 48, 49, 50, 51, 52, 53, 54, 55, 56, 57, 58, 59, 60, 61, 62, 63, 64] (by decide +kernel) (by decide +kernel)
set_option maxRecDepth 20000 in
theorem gX9_mends_X9_rightOf : GoodIn wsX9_mends (wsV RX9 187 RX9 yX9_rightOf wsX9_rightOf) := goodIn_app (goodIn_of _ (by decide +kernel)) ggX9_mends_X9_rightOf
theorem dX9_mends_0 : decode cX9_mends 0 = .ok (.aload_n 0, 1) := by decide +kernel
theorem dX9_mends_1 : decode cX9_mends 1 = .ok (.getfield 26, 3) := by decide +kernel
theorem dX9_mends_4 : decode cX9_mends 4 = .ok (.iload_n 1, 1) := by decide +kernel
theorem dX9_mends_5 : decode cX9_mends 5 = .ok (.laload, 1) := by decide +kernel
theorem dX9_mends_6 : decode cX9_mends 6 = .ok (.lstore 7, 2) := by decide +kernel
theorem dX9_mends_8 : decode cX9_mends 8 = .ok (.aload_n 0, 1) := by decide +kernel
theorem dX9_mends_9 : decode cX9_mends 9 = .ok (.getfield 26, 3) := by decide +kernel
theorem dX9_mends_12 : decode cX9_mends 12 = .ok (.iload_n 1, 1) := by decide +kernel
theorem dX9_mends_13 : decode cX9_mends 13 = .ok (.lload_n 2, 1) := by decide +kernel
theorem dX9_mends_14 : decode cX9_mends 14 = .ok (.lastore, 1) := by decide +kernel
theorem dX9_mends_15 : decode cX9_mends 15 = .ok (.aload_n 0, 1) := by decide +kernel
theorem dX9_mends_16 : decode cX9_mends 16 = .ok (.iload 4, 2) := by decide +kernel
theorem dX9_mends_18 : decode cX9_mends 18 = .ok (.invokevirtual 187, 3) := by decide +kernel
theorem dX9_mends_21 : decode cX9_mends 21 = .ok (.iconst 1, 1) := by decide +kernel
theorem dX9_mends_22 : decode cX9_mends 22 = .ok (.if_icmp .ne 41, 3) := by decide +kernel
theorem dX9_mends_25 : decode cX9_mends 25 = .ok (.iload 5, 2) := by decide +kernel
theorem dX9_mends_27 : decode cX9_mends 27 = .ok (.ifCond .eq 15, 3) := by decide +kernel
theorem dX9_mends_30 : decode cX9_mends 30 = .ok (.aload_n 0, 1) := by decide +kernel
theorem dX9_mends_31 : decode cX9_mends 31 = .ok (.iload 4, 2) := by decide +kernel
theorem dX9_mends_33 : decode cX9_mends 33 = .ok (.iconst 1, 1) := by decide +kernel
theorem dX9_mends_34 : decode cX9_mends 34 = .ok (.isub, 1) := by decide +kernel
theorem dX9_mends_35 : decode cX9_mends 35 = .ok (.invokevirtual 187, 3) := by decide +kernel
theorem dX9_mends_38 : decode cX9_mends 38 = .ok (.iconst 1, 1) := by decide +kernel
theorem dX9_mends_39 : decode cX9_mends 39 = .ok (.if_icmp .ne 24, 3) := by decide +kernel
theorem dX9_mends_42 : decode cX9_mends 42 = .ok (.iload 6, 2) := by decide +kernel
theorem dX9_mends_44 : decode cX9_mends 44 = .ok (.ifCond .eq 15, 3) := by decide +kernel
theorem dX9_mends_47 : decode cX9_mends 47 = .ok (.aload_n 0, 1) := by decide +kernel
theorem dX9_mends_48 : decode cX9_mends 48 = .ok (.iload 4, 2) := by decide +kernel
theorem dX9_mends_50 : decode cX9_mends 50 = .ok (.iconst 1, 1) := by decide +kernel
theorem dX9_mends_51 : decode cX9_mends 51 = .ok (.iadd, 1) := by decide +kernel
theorem dX9_mends_52 : decode cX9_mends 52 = .ok (.invokevirtual 187, 3) := by decide +kernel
theorem dX9_mends_55 : decode cX9_mends 55 = .ok (.iconst 1, 1) := by decide +kernel
theorem dX9_mends_56 : decode cX9_mends 56 = .ok (.if_icmp .ne 7, 3) := by decide +kernel
theorem dX9_mends_59 : decode cX9_mends 59 = .ok (.iconst 1, 1) := by decide +kernel
theorem dX9_mends_60 : decode cX9_mends 60 = .ok (.goto 4, 3) := by decide +kernel
theorem dX9_mends_63 : decode cX9_mends 63 = .ok (.iconst 0, 1) := by decide +kernel
theorem dX9_mends_64 : decode cX9_mends 64 = .ok (.istore 9, 2) := by decide +kernel
theorem dX9_mends_66 : decode cX9_mends 66 = .ok (.aload_n 0, 1) := by decide +kernel
theorem dX9_mends_67 : decode cX9_mends 67 = .ok (.getfield 26, 3) := by decide +kernel
theorem dX9_mends_70 : decode cX9_mends 70 = .ok (.iload_n 1, 1) := by decide +kernel
theorem dX9_mends_71 : decode cX9_mends 71 = .ok (.lload 7, 2) := by decide +kernel
theorem dX9_mends_73 : decode cX9_mends 73 = .ok (.lastore, 1) := by decide +kernel
theorem dX9_mends_74 : decode cX9_mends 74 = .ok (.iload 9, 2) := by decide +kernel
theorem dX9_mends_76 : decode cX9_mends 76 = .ok (.ireturn, 1) := by decide +kernel
set_option maxRecDepth 20000 in
theorem ggX9_mend_X9_blamed : GoodIn wsX9_mend wsX9_blamed := goodIn_r _ [8, 9, 10, 11, 12, 7, 13, 14, 2, 15, 16, 17, 18, 19, 20, 21, 22, 23, 24, 25, 26, 27, 28, 29, 30, 31, 32, 33, 34, 35, 36, 37, 38, 39, 40, 41, 42, 43, 44, 59, 60, 61, 62, 63, 64, 65, 66, 67, 68, 69, 70, 71, 72, 73, 74, 75, 76, 77, 78, 79, 80, 81, 82, 83, 84, 85] (by decide +kernel) (by decide +kernel)
set_option maxRecDepth 20000 in
theorem gX9_mend_X9_blamed : GoodIn wsX9_mend (wsV RX9 191 RX9 yX9_blamed wsX9_blamed) := goodIn_app (goodIn_of _ (by decide +kernel)) ggX9_mend_X9_blamed
set_option maxRecDepth 20000 in
theorem ggX9_mend_X9_rightOf : GoodIn wsX9_mend wsX9_rightOf := goodIn_r _ [13, 14, 2, 15, 16, 17, 7, 18, 19, 20, 21, 22, 23, 24, 25, 26, 27, 28, 29, 30, 31, 32, 33, 34, 35, 36, 37, 38, 39, 40, 41, 42, 43, 44, 59, 60, 61, 62, 63, 64, 65, 66, 67, 68, 69, 70, 71, 72, 73, 74, 75, 76, 77, 78, 79, 80, 81, 82, 83, 84, 85] (by decide +kernel) (by decide +kernel)
set_option maxRecDepth 20000 in
theorem gX9_mend_X9_rightOf : GoodIn wsX9_mend (wsV RX9 187 RX9 yX9_rightOf wsX9_rightOf) := goodIn_app (goodIn_of _ (by decide +kernel)) ggX9_mend_X9_rightOf
set_option maxRecDepth 20000 in
theorem ggX9_mend_X9_isStep : GoodIn wsX9_mend wsX9_isStep := goodIn_r _ [48, 9, 49, 50, 7, 51, 59, 60, 61, 62, 63, 64, 65, 66, 67, 68, 69, 70, 71, 72, 73, 74, 75, 76, 77, 78, 79, 80, 81, 82, 83, 84, 85] (by decide +kernel) (by decide +kernel)
set_option maxRecDepth 20000 in
theorem gX9_mend_X9_isStep : GoodIn wsX9_mend (wsV RX9 184 RX9 yX9_isStep wsX9_isStep) := goodIn_app (goodIn_of _ (by decide +kernel)) ggX9_mend_X9_isStep
set_option maxRecDepth 20000 in
theorem ggX9_mend_X9_size : GoodIn wsX9_mend wsX9_size := goodIn_r _ [33] (by decide +kernel) (by decide +kernel)
set_option maxRecDepth 20000 in
theorem gX9_mend_X9_size : GoodIn wsX9_mend (va_wsS RX9 73 yX9_size wsX9_size) := goodIn_app (goodIn_of _ (by decide +kernel)) ggX9_mend_X9_size
set_option maxRecDepth 20000 in
theorem ggX9_mend_X9_digit : GoodIn wsX9_mend wsX9_digit := goodIn_r _ [54, 30, 31, 32, 7, 33, 27, 28, 29] (by decide +kernel) (by decide +kernel)
set_option maxRecDepth 20000 in
theorem gX9_mend_X9_digit : GoodIn wsX9_mend (va_wsS RX9 85 yX9_digit wsX9_digit) := goodIn_app (goodIn_of _ (by decide +kernel)) ggX9_mend_X9_digit
set_option maxRecDepth 20000 in
theorem ggX9_mend_X9_ten : GoodIn wsX9_mend wsX9_ten := goodIn_r _ [29, 30] (by decide +kernel) (by decide +kernel)
set_option maxRecDepth 20000 in
theorem gX9_mend_X9_ten : GoodIn wsX9_mend (va_wsS RX9 81 yX9_ten wsX9_ten) := goodIn_app (goodIn_of _ (by decide +kernel)) ggX9_mend_X9_ten
set_option maxRecDepth 20000 in
theorem ggX9_mend_X9_mends : GoodIn wsX9_mend wsX9_mends := goodIn_r _ [58, 2, 10, 11, 12, 7, 13, 14, 15, 16, 17, 18, 19, 20, 21, 22, 23, 24, 25, 26, 27, 28, 29, 30, 31, 32, 33, 34, 35, 36, 37, 38, 39, 40, 41, 42, 43, 44, 59, 60, 61, 62, 63, 64, 65, 66, 67, 68, 69, 70, 71, 72, 73, 74, 75, 76, 77, 78, 79, 80, 81, 82, 83, 84, 85] (by decide +kernel) (by decide +kernel)
set_option maxRecDepth 20000 in
theorem gX9_mend_X9_mends : GoodIn wsX9_mend (wsV RX9 194 RX9 yX9_mends wsX9_mends) := goodIn_app (goodIn_of _ (by decide +kernel)) ggX9_mend_X9_mends
theorem dX9_mend_0 : decode cX9_mend 0 = .ok (.aload_n 0, 1) := by decide +kernel
theorem dX9_mend_1 : decode cX9_mend 1 = .ok (.getfield 137, 3) := by decide +kernel
theorem dX9_mend_4 : decode cX9_mend 4 = .ok (.ifCond .ne 6, 3) := by decide +kernel
theorem dX9_mend_7 : decode cX9_mend 7 = .ok (.bipush (-3), 2) := by decide +kernel
theorem dX9_mend_9 : decode cX9_mend 9 = .ok (.ireturn, 1) := by decide +kernel
theorem dX9_mend_10 : decode cX9_mend 10 = .ok (.aload_n 0, 1) := by decide +kernel
theorem dX9_mend_11 : decode cX9_mend 11 = .ok (.invokevirtual 191, 3) := by decide +kernel
theorem dX9_mend_14 : decode cX9_mend 14 = .ok (.istore_n 2, 1) := by decide +kernel
theorem dX9_mend_15 : decode cX9_mend 15 = .ok (.iconst 0, 1) := by decide +kernel
theorem dX9_mend_16 : decode cX9_mend 16 = .ok (.istore_n 3, 1) := by decide +kernel
theorem dX9_mend_17 : decode cX9_mend 17 = .ok (.iload_n 2, 1) := by decide +kernel
theorem dX9_mend_18 : decode cX9_mend 18 = .ok (.ifCond .le 235, 3) := by decide +kernel
theorem dX9_mend_21 : decode cX9_mend 21 = .ok (.iload_n 2, 1) := by decide +kernel
theorem dX9_mend_22 : decode cX9_mend 22 = .ok (.iconst 1, 1) := by decide +kernel
theorem dX9_mend_23 : decode cX9_mend 23 = .ok (.isub, 1) := by decide +kernel
theorem dX9_mend_24 : decode cX9_mend 24 = .ok (.istore 4, 2) := by decide +kernel
theorem dX9_mend_26 : decode cX9_mend 26 = .ok (.iload 4, 2) := by decide +kernel
theorem dX9_mend_28 : decode cX9_mend 28 = .ok (.ifCond .le 19, 3) := by decide +kernel
theorem dX9_mend_31 : decode cX9_mend 31 = .ok (.aload_n 0, 1) := by decide +kernel
theorem dX9_mend_32 : decode cX9_mend 32 = .ok (.iload 4, 2) := by decide +kernel
theorem dX9_mend_34 : decode cX9_mend 34 = .ok (.iconst 1, 1) := by decide +kernel
theorem dX9_mend_35 : decode cX9_mend 35 = .ok (.isub, 1) := by decide +kernel
theorem dX9_mend_36 : decode cX9_mend 36 = .ok (.invokevirtual 187, 3) := by decide +kernel
theorem dX9_mend_39 : decode cX9_mend 39 = .ok (.iconst 1, 1) := by decide +kernel
theorem dX9_mend_40 : decode cX9_mend 40 = .ok (.if_icmp .ne 7, 3) := by decide +kernel
theorem dX9_mend_43 : decode cX9_mend 43 = .ok (.iconst 1, 1) := by decide +kernel
theorem dX9_mend_44 : decode cX9_mend 44 = .ok (.goto 4, 3) := by decide +kernel
theorem dX9_mend_47 : decode cX9_mend 47 = .ok (.iconst 0, 1) := by decide +kernel
theorem dX9_mend_48 : decode cX9_mend 48 = .ok (.istore 5, 2) := by decide +kernel
theorem dX9_mend_50 : decode cX9_mend 50 = .ok (.aload_n 0, 1) := by decide +kernel
theorem dX9_mend_51 : decode cX9_mend 51 = .ok (.iload 4, 2) := by decide +kernel
theorem dX9_mend_53 : decode cX9_mend 53 = .ok (.iconst 1, 1) := by decide +kernel
theorem dX9_mend_54 : decode cX9_mend 54 = .ok (.iadd, 1) := by decide +kernel
theorem dX9_mend_55 : decode cX9_mend 55 = .ok (.invokevirtual 184, 3) := by decide +kernel
theorem dX9_mend_58 : decode cX9_mend 58 = .ok (.ifCond .eq 19, 3) := by decide +kernel
theorem dX9_mend_61 : decode cX9_mend 61 = .ok (.aload_n 0, 1) := by decide +kernel
theorem dX9_mend_62 : decode cX9_mend 62 = .ok (.iload 4, 2) := by decide +kernel
theorem dX9_mend_64 : decode cX9_mend 64 = .ok (.iconst 1, 1) := by decide +kernel
theorem dX9_mend_65 : decode cX9_mend 65 = .ok (.iadd, 1) := by decide +kernel
theorem dX9_mend_66 : decode cX9_mend 66 = .ok (.invokevirtual 187, 3) := by decide +kernel
theorem dX9_mend_69 : decode cX9_mend 69 = .ok (.iconst 1, 1) := by decide +kernel
theorem dX9_mend_70 : decode cX9_mend 70 = .ok (.if_icmp .ne 7, 3) := by decide +kernel
theorem dX9_mend_73 : decode cX9_mend 73 = .ok (.iconst 1, 1) := by decide +kernel
theorem dX9_mend_74 : decode cX9_mend 74 = .ok (.goto 4, 3) := by decide +kernel
theorem dX9_mend_77 : decode cX9_mend 77 = .ok (.iconst 0, 1) := by decide +kernel
theorem dX9_mend_78 : decode cX9_mend 78 = .ok (.istore 6, 2) := by decide +kernel
theorem dX9_mend_80 : decode cX9_mend 80 = .ok (.iconst 0, 1) := by decide +kernel
theorem dX9_mend_81 : decode cX9_mend 81 = .ok (.istore 7, 2) := by decide +kernel
theorem dX9_mend_83 : decode cX9_mend 83 = .ok (.iload 7, 2) := by decide +kernel
theorem dX9_mend_85 : decode cX9_mend 85 = .ok (.sipush 1920, 3) := by decide +kernel
theorem dX9_mend_88 : decode cX9_mend 88 = .ok (.if_icmp .ge 165, 3) := by decide +kernel
theorem dX9_mend_91 : decode cX9_mend 91 = .ok (.iload 4, 2) := by decide +kernel
theorem dX9_mend_93 : decode cX9_mend 93 = .ok (.iload 7, 2) := by decide +kernel
theorem dX9_mend_95 : decode cX9_mend 95 = .ok (.sipush 960, 3) := by decide +kernel
theorem dX9_mend_98 : decode cX9_mend 98 = .ok (.idiv, 1) := by decide +kernel
theorem dX9_mend_99 : decode cX9_mend 99 = .ok (.iadd, 1) := by decide +kernel
theorem dX9_mend_100 : decode cX9_mend 100 = .ok (.istore 8, 2) := by decide +kernel
theorem dX9_mend_102 : decode cX9_mend 102 = .ok (.iload 7, 2) := by decide +kernel
theorem dX9_mend_104 : decode cX9_mend 104 = .ok (.bipush 120, 2) := by decide +kernel
theorem dX9_mend_106 : decode cX9_mend 106 = .ok (.idiv, 1) := by decide +kernel
theorem dX9_mend_107 : decode cX9_mend 107 = .ok (.bipush 8, 2) := by decide +kernel
theorem dX9_mend_109 : decode cX9_mend 109 = .ok (.irem, 1) := by decide +kernel
theorem dX9_mend_110 : decode cX9_mend 110 = .ok (.istore 9, 2) := by decide +kernel
theorem dX9_mend_112 : decode cX9_mend 112 = .ok (.iload 7, 2) := by decide +kernel
theorem dX9_mend_114 : decode cX9_mend 114 = .ok (.bipush 10, 2) := by decide +kernel
theorem dX9_mend_116 : decode cX9_mend 116 = .ok (.idiv, 1) := by decide +kernel
theorem dX9_mend_117 : decode cX9_mend 117 = .ok (.bipush 12, 2) := by decide +kernel
theorem dX9_mend_119 : decode cX9_mend 119 = .ok (.irem, 1) := by decide +kernel
theorem dX9_mend_120 : decode cX9_mend 120 = .ok (.istore 10, 2) := by decide +kernel
theorem dX9_mend_122 : decode cX9_mend 122 = .ok (.iload 7, 2) := by decide +kernel
theorem dX9_mend_124 : decode cX9_mend 124 = .ok (.bipush 10, 2) := by decide +kernel
theorem dX9_mend_126 : decode cX9_mend 126 = .ok (.irem, 1) := by decide +kernel
theorem dX9_mend_127 : decode cX9_mend 127 = .ok (.istore 11, 2) := by decide +kernel
theorem dX9_mend_129 : decode cX9_mend 129 = .ok (.aload_n 0, 1) := by decide +kernel
theorem dX9_mend_130 : decode cX9_mend 130 = .ok (.getfield 26, 3) := by decide +kernel
theorem dX9_mend_133 : decode cX9_mend 133 = .ok (.bipush 8, 2) := by decide +kernel
theorem dX9_mend_135 : decode cX9_mend 135 = .ok (.iload 8, 2) := by decide +kernel
theorem dX9_mend_137 : decode cX9_mend 137 = .ok (.imul, 1) := by decide +kernel
theorem dX9_mend_138 : decode cX9_mend 138 = .ok (.iload 9, 2) := by decide +kernel
theorem dX9_mend_140 : decode cX9_mend 140 = .ok (.iadd, 1) := by decide +kernel
theorem dX9_mend_141 : decode cX9_mend 141 = .ok (.laload, 1) := by decide +kernel
theorem dX9_mend_142 : decode cX9_mend 142 = .ok (.lstore 12, 2) := by decide +kernel
theorem dX9_mend_144 : decode cX9_mend 144 = .ok (.lload 12, 2) := by decide +kernel
theorem dX9_mend_146 : decode cX9_mend 146 = .ok (.invokestatic 73, 3) := by decide +kernel
theorem dX9_mend_149 : decode cX9_mend 149 = .ok (.iload 11, 2) := by decide +kernel
theorem dX9_mend_151 : decode cX9_mend 151 = .ok (.lload 12, 2) := by decide +kernel
theorem dX9_mend_153 : decode cX9_mend 153 = .ok (.iload 10, 2) := by decide +kernel
theorem dX9_mend_155 : decode cX9_mend 155 = .ok (.invokestatic 85, 3) := by decide +kernel
theorem dX9_mend_158 : decode cX9_mend 158 = .ok (.isub, 1) := by decide +kernel
theorem dX9_mend_159 : decode cX9_mend 159 = .ok (.i2l, 1) := by decide +kernel
theorem dX9_mend_160 : decode cX9_mend 160 = .ok (.iload 10, 2) := by decide +kernel
theorem dX9_mend_162 : decode cX9_mend 162 = .ok (.invokestatic 81, 3) := by decide +kernel
theorem dX9_mend_165 : decode cX9_mend 165 = .ok (.lmul, 1) := by decide +kernel
theorem dX9_mend_166 : decode cX9_mend 166 = .ok (.ladd, 1) := by decide +kernel
theorem dX9_mend_167 : decode cX9_mend 167 = .ok (.lstore 14, 2) := by decide +kernel
theorem dX9_mend_169 : decode cX9_mend 169 = .ok (.iload 11, 2) := by decide +kernel
theorem dX9_mend_171 : decode cX9_mend 171 = .ok (.lload 12, 2) := by decide +kernel
theorem dX9_mend_173 : decode cX9_mend 173 = .ok (.iload 10, 2) := by decide +kernel
theorem dX9_mend_175 : decode cX9_mend 175 = .ok (.invokestatic 85, 3) := by decide +kernel
theorem dX9_mend_178 : decode cX9_mend 178 = .ok (.if_icmp .eq 69, 3) := by decide +kernel
theorem dX9_mend_181 : decode cX9_mend 181 = .ok (.aload_n 0, 1) := by decide +kernel
theorem dX9_mend_182 : decode cX9_mend 182 = .ok (.bipush 8, 2) := by decide +kernel
theorem dX9_mend_184 : decode cX9_mend 184 = .ok (.iload 8, 2) := by decide +kernel
theorem dX9_mend_186 : decode cX9_mend 186 = .ok (.imul, 1) := by decide +kernel
theorem dX9_mend_187 : decode cX9_mend 187 = .ok (.iload 9, 2) := by decide +kernel
theorem dX9_mend_189 : decode cX9_mend 189 = .ok (.iadd, 1) := by decide +kernel
theorem dX9_mend_190 : decode cX9_mend 190 = .ok (.lload 12, 2) := by decide +kernel
theorem dX9_mend_192 : decode cX9_mend 192 = .ok (.lconst 0, 1) := by decide +kernel
theorem dX9_mend_193 : decode cX9_mend 193 = .ok (.lcmp, 1) := by decide +kernel
theorem dX9_mend_194 : decode cX9_mend 194 = .ok (.ifCond .ge 9, 3) := by decide +kernel
theorem dX9_mend_197 : decode cX9_mend 197 = .ok (.lload 14, 2) := by decide +kernel
theorem dX9_mend_199 : decode cX9_mend 199 = .ok (.lneg, 1) := by decide +kernel
theorem dX9_mend_200 : decode cX9_mend 200 = .ok (.goto 5, 3) := by decide +kernel
theorem dX9_mend_203 : decode cX9_mend 203 = .ok (.lload 14, 2) := by decide +kernel
theorem dX9_mend_205 : decode cX9_mend 205 = .ok (.iload 4, 2) := by decide +kernel
theorem dX9_mend_207 : decode cX9_mend 207 = .ok (.iload 5, 2) := by decide +kernel
theorem dX9_mend_209 : decode cX9_mend 209 = .ok (.iload 6, 2) := by decide +kernel
theorem dX9_mend_211 : decode cX9_mend 211 = .ok (.invokevirtual 194, 3) := by decide +kernel
theorem dX9_mend_214 : decode cX9_mend 214 = .ok (.ifCond .eq 33, 3) := by decide +kernel
theorem dX9_mend_217 : decode cX9_mend 217 = .ok (.iload_n 3, 1) := by decide +kernel
theorem dX9_mend_218 : decode cX9_mend 218 = .ok (.iload_n 1, 1) := by decide +kernel
theorem dX9_mend_219 : decode cX9_mend 219 = .ok (.if_icmp .ne 25, 3) := by decide +kernel
theorem dX9_mend_222 : decode cX9_mend 222 = .ok (.ldc 198, 2) := by decide +kernel
theorem dX9_mend_224 : decode cX9_mend 224 = .ok (.iload 8, 2) := by decide +kernel
theorem dX9_mend_226 : decode cX9_mend 226 = .ok (.imul, 1) := by decide +kernel
theorem dX9_mend_227 : decode cX9_mend 227 = .ok (.sipush 1000, 3) := by decide +kernel
theorem dX9_mend_230 : decode cX9_mend 230 = .ok (.iload 9, 2) := by decide +kernel
theorem dX9_mend_232 : decode cX9_mend 232 = .ok (.imul, 1) := by decide +kernel
theorem dX9_mend_233 : decode cX9_mend 233 = .ok (.iadd, 1) := by decide +kernel
theorem dX9_mend_234 : decode cX9_mend 234 = .ok (.bipush 10, 2) := by decide +kernel
theorem dX9_mend_236 : decode cX9_mend 236 = .ok (.iload 10, 2) := by decide +kernel
theorem dX9_mend_238 : decode cX9_mend 238 = .ok (.imul, 1) := by decide +kernel
theorem dX9_mend_239 : decode cX9_mend 239 = .ok (.iadd, 1) := by decide +kernel
theorem dX9_mend_240 : decode cX9_mend 240 = .ok (.iload 11, 2) := by decide +kernel
theorem dX9_mend_242 : decode cX9_mend 242 = .ok (.iadd, 1) := by decide +kernel
theorem dX9_mend_243 : decode cX9_mend 243 = .ok (.ireturn, 1) := by decide +kernel
theorem dX9_mend_244 : decode cX9_mend 244 = .ok (.iinc 3 1, 3) := by decide +kernel
theorem dX9_mend_247 : decode cX9_mend 247 = .ok (.iinc 7 1, 3) := by decide +kernel
theorem dX9_mend_250 : decode cX9_mend 250 = .ok (.goto (-167), 3) := by decide +kernel
theorem dX9_mend_253 : decode cX9_mend 253 = .ok (.iload_n 1, 1) := by decide +kernel
theorem dX9_mend_254 : decode cX9_mend 254 = .ok (.iconst (-1), 1) := by decide +kernel
theorem dX9_mend_255 : decode cX9_mend 255 = .ok (.if_icmp .ne 7, 3) := by decide +kernel
theorem dX9_mend_258 : decode cX9_mend 258 = .ok (.iload_n 3, 1) := by decide +kernel
theorem dX9_mend_259 : decode cX9_mend 259 = .ok (.goto 5, 3) := by decide +kernel
theorem dX9_mend_262 : decode cX9_mend 262 = .ok (.bipush (-6), 2) := by decide +kernel
theorem dX9_mend_264 : decode cX9_mend 264 = .ok (.ireturn, 1) := by decide +kernel
set_option maxRecDepth 20000 in
theorem ggX9_fill_X9_hasGap : GoodIn wsX9_fill wsX9_hasGap := goodIn_r _ [10, 3, 36, 37, 38, 39, 40, 41, 42, 43, 44, 45, 46, 47, 48, 49, 50, 51, 52, 53, 54, 55, 56, 57, 58, 59, 60, 61, 62] (by decide +kernel) (by decide +kernel)
set_option maxRecDepth 20000 in
theorem gX9_fill_X9_hasGap : GoodIn wsX9_fill (wsV RX9 178 RX9 yX9_hasGap wsX9_hasGap) := goodIn_app (goodIn_of _ (by decide +kernel)) ggX9_fill_X9_hasGap
set_option maxRecDepth 20000 in
theorem ggX9_fill_X9_walks : GoodIn wsX9_fill wsX9_walks := goodIn_r _ [14, 5, 4, 15, 16, 17, 18, 19, 9, 20, 21, 22, 23, 24, 25, 26, 27, 28, 29, 30, 31, 32, 33, 34, 35, 36, 37, 38, 39, 40, 41, 42, 43, 44, 45, 46, 47, 48, 49, 50, 51, 52, 53, 54, 55, 56, 57, 58, 59, 60, 61, 62] (by decide +kernel) (by decide +kernel)
set_option maxRecDepth 20000 in
theorem gX9_fill_X9_walks : GoodIn wsX9_fill (wsV RX9 181 RX9 yX9_walks wsX9_walks) := goodIn_app (goodIn_of _ (by decide +kernel)) ggX9_fill_X9_walks
theorem dX9_fill_0 : decode cX9_fill 0 = .ok (.aload_n 0, 1) := by decide +kernel
theorem dX9_fill_1 : decode cX9_fill 1 = .ok (.getfield 137, 3) := by decide +kernel
theorem dX9_fill_4 : decode cX9_fill 4 = .ok (.ifCond .ne 6, 3) := by decide +kernel
theorem dX9_fill_7 : decode cX9_fill 7 = .ok (.bipush (-3), 2) := by decide +kernel
theorem dX9_fill_9 : decode cX9_fill 9 = .ok (.ireturn, 1) := by decide +kernel
theorem dX9_fill_10 : decode cX9_fill 10 = .ok (.iconst 0, 1) := by decide +kernel
theorem dX9_fill_11 : decode cX9_fill 11 = .ok (.istore_n 1, 1) := by decide +kernel
theorem dX9_fill_12 : decode cX9_fill 12 = .ok (.iconst 0, 1) := by decide +kernel
theorem dX9_fill_13 : decode cX9_fill 13 = .ok (.istore_n 2, 1) := by decide +kernel
theorem dX9_fill_14 : decode cX9_fill 14 = .ok (.iload_n 2, 1) := by decide +kernel
theorem dX9_fill_15 : decode cX9_fill 15 = .ok (.aload_n 0, 1) := by decide +kernel
theorem dX9_fill_16 : decode cX9_fill 16 = .ok (.getfield 134, 3) := by decide +kernel
theorem dX9_fill_19 : decode cX9_fill 19 = .ok (.iconst 1, 1) := by decide +kernel
theorem dX9_fill_20 : decode cX9_fill 20 = .ok (.isub, 1) := by decide +kernel
theorem dX9_fill_21 : decode cX9_fill 21 = .ok (.if_icmp .ge 191, 3) := by decide +kernel
theorem dX9_fill_24 : decode cX9_fill 24 = .ok (.aload_n 0, 1) := by decide +kernel
theorem dX9_fill_25 : decode cX9_fill 25 = .ok (.iload_n 2, 1) := by decide +kernel
theorem dX9_fill_26 : decode cX9_fill 26 = .ok (.invokevirtual 178, 3) := by decide +kernel
theorem dX9_fill_29 : decode cX9_fill 29 = .ok (.ifCond .ne 177, 3) := by decide +kernel
theorem dX9_fill_32 : decode cX9_fill 32 = .ok (.aload_n 0, 1) := by decide +kernel
theorem dX9_fill_33 : decode cX9_fill 33 = .ok (.iload_n 2, 1) := by decide +kernel
theorem dX9_fill_34 : decode cX9_fill 34 = .ok (.iconst 1, 1) := by decide +kernel
theorem dX9_fill_35 : decode cX9_fill 35 = .ok (.iadd, 1) := by decide +kernel
theorem dX9_fill_36 : decode cX9_fill 36 = .ok (.invokevirtual 178, 3) := by decide +kernel
theorem dX9_fill_39 : decode cX9_fill 39 = .ok (.ifCond .eq 167, 3) := by decide +kernel
theorem dX9_fill_42 : decode cX9_fill 42 = .ok (.aload_n 0, 1) := by decide +kernel
theorem dX9_fill_43 : decode cX9_fill 43 = .ok (.iload_n 2, 1) := by decide +kernel
theorem dX9_fill_44 : decode cX9_fill 44 = .ok (.invokevirtual 181, 3) := by decide +kernel
theorem dX9_fill_47 : decode cX9_fill 47 = .ok (.ifCond .eq 159, 3) := by decide +kernel
theorem dX9_fill_50 : decode cX9_fill 50 = .ok (.iconst 1, 1) := by decide +kernel
theorem dX9_fill_51 : decode cX9_fill 51 = .ok (.istore_n 3, 1) := by decide +kernel
theorem dX9_fill_52 : decode cX9_fill 52 = .ok (.iconst 0, 1) := by decide +kernel
theorem dX9_fill_53 : decode cX9_fill 53 = .ok (.istore 4, 2) := by decide +kernel
theorem dX9_fill_55 : decode cX9_fill 55 = .ok (.iload 4, 2) := by decide +kernel
theorem dX9_fill_57 : decode cX9_fill 57 = .ok (.bipush 8, 2) := by decide +kernel
theorem dX9_fill_59 : decode cX9_fill 59 = .ok (.if_icmp .ge 63, 3) := by decide +kernel
theorem dX9_fill_62 : decode cX9_fill 62 = .ok (.iload_n 3, 1) := by decide +kernel
theorem dX9_fill_63 : decode cX9_fill 63 = .ok (.ifCond .eq 51, 3) := by decide +kernel
theorem dX9_fill_66 : decode cX9_fill 66 = .ok (.aload_n 0, 1) := by decide +kernel
theorem dX9_fill_67 : decode cX9_fill 67 = .ok (.getfield 29, 3) := by decide +kernel
theorem dX9_fill_70 : decode cX9_fill 70 = .ok (.bipush 8, 2) := by decide +kernel
theorem dX9_fill_72 : decode cX9_fill 72 = .ok (.iload_n 2, 1) := by decide +kernel
theorem dX9_fill_73 : decode cX9_fill 73 = .ok (.imul, 1) := by decide +kernel
theorem dX9_fill_74 : decode cX9_fill 74 = .ok (.bipush 8, 2) := by decide +kernel
theorem dX9_fill_76 : decode cX9_fill 76 = .ok (.iadd, 1) := by decide +kernel
theorem dX9_fill_77 : decode cX9_fill 77 = .ok (.iload 4, 2) := by decide +kernel
theorem dX9_fill_79 : decode cX9_fill 79 = .ok (.iadd, 1) := by decide +kernel
theorem dX9_fill_80 : decode cX9_fill 80 = .ok (.baload, 1) := by decide +kernel
theorem dX9_fill_81 : decode cX9_fill 81 = .ok (.ifCond .ne 29, 3) := by decide +kernel
theorem dX9_fill_84 : decode cX9_fill 84 = .ok (.aload_n 0, 1) := by decide +kernel
theorem dX9_fill_85 : decode cX9_fill 85 = .ok (.getfield 26, 3) := by decide +kernel
theorem dX9_fill_88 : decode cX9_fill 88 = .ok (.bipush 8, 2) := by decide +kernel
theorem dX9_fill_90 : decode cX9_fill 90 = .ok (.iload_n 2, 1) := by decide +kernel
theorem dX9_fill_91 : decode cX9_fill 91 = .ok (.imul, 1) := by decide +kernel
theorem dX9_fill_92 : decode cX9_fill 92 = .ok (.bipush 8, 2) := by decide +kernel
theorem dX9_fill_94 : decode cX9_fill 94 = .ok (.iadd, 1) := by decide +kernel
theorem dX9_fill_95 : decode cX9_fill 95 = .ok (.iload 4, 2) := by decide +kernel
theorem dX9_fill_97 : decode cX9_fill 97 = .ok (.iadd, 1) := by decide +kernel
theorem dX9_fill_98 : decode cX9_fill 98 = .ok (.laload, 1) := by decide +kernel
theorem dX9_fill_99 : decode cX9_fill 99 = .ok (.aload_n 0, 1) := by decide +kernel
theorem dX9_fill_100 : decode cX9_fill 100 = .ok (.getfield 49, 3) := by decide +kernel
theorem dX9_fill_103 : decode cX9_fill 103 = .ok (.iload 4, 2) := by decide +kernel
theorem dX9_fill_105 : decode cX9_fill 105 = .ok (.laload, 1) := by decide +kernel
theorem dX9_fill_106 : decode cX9_fill 106 = .ok (.lcmp, 1) := by decide +kernel
theorem dX9_fill_107 : decode cX9_fill 107 = .ok (.ifCond .ne 7, 3) := by decide +kernel
theorem dX9_fill_110 : decode cX9_fill 110 = .ok (.iconst 1, 1) := by decide +kernel
theorem dX9_fill_111 : decode cX9_fill 111 = .ok (.goto 4, 3) := by decide +kernel
theorem dX9_fill_114 : decode cX9_fill 114 = .ok (.iconst 0, 1) := by decide +kernel
theorem dX9_fill_115 : decode cX9_fill 115 = .ok (.istore_n 3, 1) := by decide +kernel
theorem dX9_fill_116 : decode cX9_fill 116 = .ok (.iinc 4 1, 3) := by decide +kernel
theorem dX9_fill_119 : decode cX9_fill 119 = .ok (.goto (-64), 3) := by decide +kernel
theorem dX9_fill_122 : decode cX9_fill 122 = .ok (.iconst 0, 1) := by decide +kernel
theorem dX9_fill_123 : decode cX9_fill 123 = .ok (.istore 4, 2) := by decide +kernel
theorem dX9_fill_125 : decode cX9_fill 125 = .ok (.iload 4, 2) := by decide +kernel
theorem dX9_fill_127 : decode cX9_fill 127 = .ok (.bipush 8, 2) := by decide +kernel
theorem dX9_fill_129 : decode cX9_fill 129 = .ok (.if_icmp .ge 77, 3) := by decide +kernel
theorem dX9_fill_132 : decode cX9_fill 132 = .ok (.iload_n 3, 1) := by decide +kernel
theorem dX9_fill_133 : decode cX9_fill 133 = .ok (.ifCond .eq 73, 3) := by decide +kernel
theorem dX9_fill_136 : decode cX9_fill 136 = .ok (.iload_n 1, 1) := by decide +kernel
theorem dX9_fill_137 : decode cX9_fill 137 = .ok (.aload_n 0, 1) := by decide +kernel
theorem dX9_fill_138 : decode cX9_fill 138 = .ok (.getfield 29, 3) := by decide +kernel
theorem dX9_fill_141 : decode cX9_fill 141 = .ok (.bipush 8, 2) := by decide +kernel
theorem dX9_fill_143 : decode cX9_fill 143 = .ok (.iload_n 2, 1) := by decide +kernel
theorem dX9_fill_144 : decode cX9_fill 144 = .ok (.imul, 1) := by decide +kernel
theorem dX9_fill_145 : decode cX9_fill 145 = .ok (.bipush 8, 2) := by decide +kernel
theorem dX9_fill_147 : decode cX9_fill 147 = .ok (.iadd, 1) := by decide +kernel
theorem dX9_fill_148 : decode cX9_fill 148 = .ok (.iload 4, 2) := by decide +kernel
theorem dX9_fill_150 : decode cX9_fill 150 = .ok (.iadd, 1) := by decide +kernel
theorem dX9_fill_151 : decode cX9_fill 151 = .ok (.baload, 1) := by decide +kernel
theorem dX9_fill_152 : decode cX9_fill 152 = .ok (.ifCond .eq 7, 3) := by decide +kernel
theorem dX9_fill_155 : decode cX9_fill 155 = .ok (.iconst 1, 1) := by decide +kernel
theorem dX9_fill_156 : decode cX9_fill 156 = .ok (.goto 4, 3) := by decide +kernel
theorem dX9_fill_159 : decode cX9_fill 159 = .ok (.iconst 0, 1) := by decide +kernel
theorem dX9_fill_160 : decode cX9_fill 160 = .ok (.iadd, 1) := by decide +kernel
theorem dX9_fill_161 : decode cX9_fill 161 = .ok (.istore_n 1, 1) := by decide +kernel
theorem dX9_fill_162 : decode cX9_fill 162 = .ok (.aload_n 0, 1) := by decide +kernel
theorem dX9_fill_163 : decode cX9_fill 163 = .ok (.getfield 29, 3) := by decide +kernel
theorem dX9_fill_166 : decode cX9_fill 166 = .ok (.bipush 8, 2) := by decide +kernel
theorem dX9_fill_168 : decode cX9_fill 168 = .ok (.iload_n 2, 1) := by decide +kernel
theorem dX9_fill_169 : decode cX9_fill 169 = .ok (.imul, 1) := by decide +kernel
theorem dX9_fill_170 : decode cX9_fill 170 = .ok (.bipush 8, 2) := by decide +kernel
theorem dX9_fill_172 : decode cX9_fill 172 = .ok (.iadd, 1) := by decide +kernel
theorem dX9_fill_173 : decode cX9_fill 173 = .ok (.iload 4, 2) := by decide +kernel
theorem dX9_fill_175 : decode cX9_fill 175 = .ok (.iadd, 1) := by decide +kernel
theorem dX9_fill_176 : decode cX9_fill 176 = .ok (.iconst 0, 1) := by decide +kernel
theorem dX9_fill_177 : decode cX9_fill 177 = .ok (.bastore, 1) := by decide +kernel
theorem dX9_fill_178 : decode cX9_fill 178 = .ok (.aload_n 0, 1) := by decide +kernel
theorem dX9_fill_179 : decode cX9_fill 179 = .ok (.getfield 26, 3) := by decide +kernel
theorem dX9_fill_182 : decode cX9_fill 182 = .ok (.bipush 8, 2) := by decide +kernel
theorem dX9_fill_184 : decode cX9_fill 184 = .ok (.iload_n 2, 1) := by decide +kernel
theorem dX9_fill_185 : decode cX9_fill 185 = .ok (.imul, 1) := by decide +kernel
theorem dX9_fill_186 : decode cX9_fill 186 = .ok (.bipush 8, 2) := by decide +kernel
theorem dX9_fill_188 : decode cX9_fill 188 = .ok (.iadd, 1) := by decide +kernel
theorem dX9_fill_189 : decode cX9_fill 189 = .ok (.iload 4, 2) := by decide +kernel
theorem dX9_fill_191 : decode cX9_fill 191 = .ok (.iadd, 1) := by decide +kernel
theorem dX9_fill_192 : decode cX9_fill 192 = .ok (.aload_n 0, 1) := by decide +kernel
theorem dX9_fill_193 : decode cX9_fill 193 = .ok (.getfield 49, 3) := by decide +kernel
theorem dX9_fill_196 : decode cX9_fill 196 = .ok (.iload 4, 2) := by decide +kernel
theorem dX9_fill_198 : decode cX9_fill 198 = .ok (.laload, 1) := by decide +kernel
theorem dX9_fill_199 : decode cX9_fill 199 = .ok (.lastore, 1) := by decide +kernel
theorem dX9_fill_200 : decode cX9_fill 200 = .ok (.iinc 4 1, 3) := by decide +kernel
theorem dX9_fill_203 : decode cX9_fill 203 = .ok (.goto (-78), 3) := by decide +kernel
theorem dX9_fill_206 : decode cX9_fill 206 = .ok (.iinc 2 1, 3) := by decide +kernel
theorem dX9_fill_209 : decode cX9_fill 209 = .ok (.goto (-195), 3) := by decide +kernel
theorem dX9_fill_212 : decode cX9_fill 212 = .ok (.iload_n 1, 1) := by decide +kernel
theorem dX9_fill_213 : decode cX9_fill 213 = .ok (.ireturn, 1) := by decide +kernel
set_option maxRecDepth 20000 in
theorem ggX9_unknowns_X9_in : GoodIn wsX9_unknowns wsX9_in := goodIn_r _ [9] (by decide +kernel) (by decide +kernel)
set_option maxRecDepth 20000 in
theorem gX9_unknowns_X9_in : GoodIn wsX9_unknowns (va_wsS RX9 69 yX9_in wsX9_in) := goodIn_app (goodIn_of _ (by decide +kernel)) ggX9_unknowns_X9_in
theorem dX9_unknowns_0 : decode cX9_unknowns 0 = .ok (.iload_n 1, 1) := by decide +kernel
theorem dX9_unknowns_1 : decode cX9_unknowns 1 = .ok (.i2l, 1) := by decide +kernel
theorem dX9_unknowns_2 : decode cX9_unknowns 2 = .ok (.lconst 1, 1) := by decide +kernel
theorem dX9_unknowns_3 : decode cX9_unknowns 3 = .ok (.ldc2_w 199, 3) := by decide +kernel
theorem dX9_unknowns_6 : decode cX9_unknowns 6 = .ok (.invokestatic 69, 3) := by decide +kernel
theorem dX9_unknowns_9 : decode cX9_unknowns 9 = .ok (.ifCond .eq 15, 3) := by decide +kernel
theorem dX9_unknowns_12 : decode cX9_unknowns 12 = .ok (.iload_n 2, 1) := by decide +kernel
theorem dX9_unknowns_13 : decode cX9_unknowns 13 = .ok (.i2l, 1) := by decide +kernel
theorem dX9_unknowns_14 : decode cX9_unknowns 14 = .ok (.lconst 1, 1) := by decide +kernel
theorem dX9_unknowns_15 : decode cX9_unknowns 15 = .ok (.ldc2_w 167, 3) := by decide +kernel
theorem dX9_unknowns_18 : decode cX9_unknowns 18 = .ok (.invokestatic 69, 3) := by decide +kernel
theorem dX9_unknowns_21 : decode cX9_unknowns 21 = .ok (.ifCond .ne 6, 3) := by decide +kernel
theorem dX9_unknowns_24 : decode cX9_unknowns 24 = .ok (.bipush (-2), 2) := by decide +kernel
theorem dX9_unknowns_26 : decode cX9_unknowns 26 = .ok (.ireturn, 1) := by decide +kernel
theorem dX9_unknowns_27 : decode cX9_unknowns 27 = .ok (.aload_n 0, 1) := by decide +kernel
theorem dX9_unknowns_28 : decode cX9_unknowns 28 = .ok (.iload_n 1, 1) := by decide +kernel
theorem dX9_unknowns_29 : decode cX9_unknowns 29 = .ok (.putfield 33, 3) := by decide +kernel
theorem dX9_unknowns_32 : decode cX9_unknowns 32 = .ok (.aload_n 0, 1) := by decide +kernel
theorem dX9_unknowns_33 : decode cX9_unknowns 33 = .ok (.iload_n 2, 1) := by decide +kernel
theorem dX9_unknowns_34 : decode cX9_unknowns 34 = .ok (.putfield 37, 3) := by decide +kernel
theorem dX9_unknowns_37 : decode cX9_unknowns 37 = .ok (.iconst 0, 1) := by decide +kernel
theorem dX9_unknowns_38 : decode cX9_unknowns 38 = .ok (.istore_n 3, 1) := by decide +kernel
theorem dX9_unknowns_39 : decode cX9_unknowns 39 = .ok (.iload_n 3, 1) := by decide +kernel
theorem dX9_unknowns_40 : decode cX9_unknowns 40 = .ok (.bipush 25, 2) := by decide +kernel
theorem dX9_unknowns_42 : decode cX9_unknowns 42 = .ok (.if_icmp .ge 16, 3) := by decide +kernel
theorem dX9_unknowns_45 : decode cX9_unknowns 45 = .ok (.aload_n 0, 1) := by decide +kernel
theorem dX9_unknowns_46 : decode cX9_unknowns 46 = .ok (.getfield 40, 3) := by decide +kernel
theorem dX9_unknowns_49 : decode cX9_unknowns 49 = .ok (.iload_n 3, 1) := by decide +kernel
theorem dX9_unknowns_50 : decode cX9_unknowns 50 = .ok (.iconst 0, 1) := by decide +kernel
theorem dX9_unknowns_51 : decode cX9_unknowns 51 = .ok (.iastore, 1) := by decide +kernel
theorem dX9_unknowns_52 : decode cX9_unknowns 52 = .ok (.iinc 3 1, 3) := by decide +kernel
theorem dX9_unknowns_55 : decode cX9_unknowns 55 = .ok (.goto (-16), 3) := by decide +kernel
theorem dX9_unknowns_58 : decode cX9_unknowns 58 = .ok (.iconst 1, 1) := by decide +kernel
theorem dX9_unknowns_59 : decode cX9_unknowns 59 = .ok (.ireturn, 1) := by decide +kernel
set_option maxRecDepth 20000 in
theorem ggX9_set_X9_in : GoodIn wsX9_set wsX9_in := goodIn_r _ [9] (by decide +kernel) (by decide +kernel)
set_option maxRecDepth 20000 in
theorem gX9_set_X9_in : GoodIn wsX9_set (va_wsS RX9 69 yX9_in wsX9_in) := goodIn_app (goodIn_of _ (by decide +kernel)) ggX9_set_X9_in
theorem dX9_set_0 : decode cX9_set 0 = .ok (.iload_n 1, 1) := by decide +kernel
theorem dX9_set_1 : decode cX9_set 1 = .ok (.i2l, 1) := by decide +kernel
theorem dX9_set_2 : decode cX9_set 2 = .ok (.lconst 0, 1) := by decide +kernel
theorem dX9_set_3 : decode cX9_set 3 = .ok (.aload_n 0, 1) := by decide +kernel
theorem dX9_set_4 : decode cX9_set 4 = .ok (.getfield 37, 3) := by decide +kernel
theorem dX9_set_7 : decode cX9_set 7 = .ok (.iconst 1, 1) := by decide +kernel
theorem dX9_set_8 : decode cX9_set 8 = .ok (.isub, 1) := by decide +kernel
theorem dX9_set_9 : decode cX9_set 9 = .ok (.i2l, 1) := by decide +kernel
theorem dX9_set_10 : decode cX9_set 10 = .ok (.invokestatic 69, 3) := by decide +kernel
theorem dX9_set_13 : decode cX9_set 13 = .ok (.ifCond .eq 17, 3) := by decide +kernel
theorem dX9_set_16 : decode cX9_set 16 = .ok (.iload_n 2, 1) := by decide +kernel
theorem dX9_set_17 : decode cX9_set 17 = .ok (.i2l, 1) := by decide +kernel
theorem dX9_set_18 : decode cX9_set 18 = .ok (.lconst 0, 1) := by decide +kernel
theorem dX9_set_19 : decode cX9_set 19 = .ok (.aload_n 0, 1) := by decide +kernel
theorem dX9_set_20 : decode cX9_set 20 = .ok (.getfield 33, 3) := by decide +kernel
theorem dX9_set_23 : decode cX9_set 23 = .ok (.i2l, 1) := by decide +kernel
theorem dX9_set_24 : decode cX9_set 24 = .ok (.invokestatic 69, 3) := by decide +kernel
theorem dX9_set_27 : decode cX9_set 27 = .ok (.ifCond .ne 6, 3) := by decide +kernel
theorem dX9_set_30 : decode cX9_set 30 = .ok (.ldc 201, 2) := by decide +kernel
theorem dX9_set_32 : decode cX9_set 32 = .ok (.ireturn, 1) := by decide +kernel
theorem dX9_set_33 : decode cX9_set 33 = .ok (.iload_n 2, 1) := by decide +kernel
theorem dX9_set_34 : decode cX9_set 34 = .ok (.aload_n 0, 1) := by decide +kernel
theorem dX9_set_35 : decode cX9_set 35 = .ok (.getfield 33, 3) := by decide +kernel
theorem dX9_set_38 : decode cX9_set 38 = .ok (.if_icmp .ne 9, 3) := by decide +kernel
theorem dX9_set_41 : decode cX9_set 41 = .ok (.sipush 9999, 3) := by decide +kernel
theorem dX9_set_44 : decode cX9_set 44 = .ok (.goto 5, 3) := by decide +kernel
theorem dX9_set_47 : decode cX9_set 47 = .ok (.bipush 50, 2) := by decide +kernel
theorem dX9_set_49 : decode cX9_set 49 = .ok (.istore 4, 2) := by decide +kernel
theorem dX9_set_51 : decode cX9_set 51 = .ok (.iload_n 3, 1) := by decide +kernel
theorem dX9_set_52 : decode cX9_set 52 = .ok (.i2l, 1) := by decide +kernel
theorem dX9_set_53 : decode cX9_set 53 = .ok (.iload 4, 2) := by decide +kernel
theorem dX9_set_55 : decode cX9_set 55 = .ok (.ineg, 1) := by decide +kernel
theorem dX9_set_56 : decode cX9_set 56 = .ok (.i2l, 1) := by decide +kernel
theorem dX9_set_57 : decode cX9_set 57 = .ok (.iload 4, 2) := by decide +kernel
theorem dX9_set_59 : decode cX9_set 59 = .ok (.i2l, 1) := by decide +kernel
theorem dX9_set_60 : decode cX9_set 60 = .ok (.invokestatic 69, 3) := by decide +kernel
theorem dX9_set_63 : decode cX9_set 63 = .ok (.ifCond .ne 6, 3) := by decide +kernel
theorem dX9_set_66 : decode cX9_set 66 = .ok (.ldc 202, 2) := by decide +kernel
theorem dX9_set_68 : decode cX9_set 68 = .ok (.ireturn, 1) := by decide +kernel
theorem dX9_set_69 : decode cX9_set 69 = .ok (.aload_n 0, 1) := by decide +kernel
theorem dX9_set_70 : decode cX9_set 70 = .ok (.getfield 40, 3) := by decide +kernel
theorem dX9_set_73 : decode cX9_set 73 = .ok (.iconst 5, 1) := by decide +kernel
theorem dX9_set_74 : decode cX9_set 74 = .ok (.iload_n 1, 1) := by decide +kernel
theorem dX9_set_75 : decode cX9_set 75 = .ok (.imul, 1) := by decide +kernel
theorem dX9_set_76 : decode cX9_set 76 = .ok (.iload_n 2, 1) := by decide +kernel
theorem dX9_set_77 : decode cX9_set 77 = .ok (.iadd, 1) := by decide +kernel
theorem dX9_set_78 : decode cX9_set 78 = .ok (.iaload, 1) := by decide +kernel
theorem dX9_set_79 : decode cX9_set 79 = .ok (.istore 5, 2) := by decide +kernel
theorem dX9_set_81 : decode cX9_set 81 = .ok (.aload_n 0, 1) := by decide +kernel
theorem dX9_set_82 : decode cX9_set 82 = .ok (.getfield 40, 3) := by decide +kernel
theorem dX9_set_85 : decode cX9_set 85 = .ok (.iconst 5, 1) := by decide +kernel
theorem dX9_set_86 : decode cX9_set 86 = .ok (.iload_n 1, 1) := by decide +kernel
theorem dX9_set_87 : decode cX9_set 87 = .ok (.imul, 1) := by decide +kernel
theorem dX9_set_88 : decode cX9_set 88 = .ok (.iload_n 2, 1) := by decide +kernel
theorem dX9_set_89 : decode cX9_set 89 = .ok (.iadd, 1) := by decide +kernel
theorem dX9_set_90 : decode cX9_set 90 = .ok (.iload_n 3, 1) := by decide +kernel
theorem dX9_set_91 : decode cX9_set 91 = .ok (.iastore, 1) := by decide +kernel
theorem dX9_set_92 : decode cX9_set 92 = .ok (.iload 5, 2) := by decide +kernel
theorem dX9_set_94 : decode cX9_set 94 = .ok (.ireturn, 1) := by decide +kernel
set_option maxRecDepth 20000 in
theorem ggX9_common_X9_size : GoodIn wsX9_common wsX9_size := goodIn_r _ [4] (by decide +kernel) (by decide +kernel)
set_option maxRecDepth 20000 in
theorem gX9_common_X9_size : GoodIn wsX9_common (va_wsS RX9 73 yX9_size wsX9_size) := goodIn_app (goodIn_of _ (by decide +kernel)) ggX9_common_X9_size
theorem dX9_common_0 : decode cX9_common 0 = .ok (.lload_n 0, 1) := by decide +kernel
theorem dX9_common_1 : decode cX9_common 1 = .ok (.invokestatic 73, 3) := by decide +kernel
theorem dX9_common_4 : decode cX9_common 4 = .ok (.lstore 4, 2) := by decide +kernel
theorem dX9_common_6 : decode cX9_common 6 = .ok (.lload_n 2, 1) := by decide +kernel
theorem dX9_common_7 : decode cX9_common 7 = .ok (.invokestatic 73, 3) := by decide +kernel
theorem dX9_common_10 : decode cX9_common 10 = .ok (.lstore 6, 2) := by decide +kernel
theorem dX9_common_12 : decode cX9_common 12 = .ok (.lload 6, 2) := by decide +kernel
theorem dX9_common_14 : decode cX9_common 14 = .ok (.lconst 0, 1) := by decide +kernel
theorem dX9_common_15 : decode cX9_common 15 = .ok (.lcmp, 1) := by decide +kernel
theorem dX9_common_16 : decode cX9_common 16 = .ok (.ifCond .eq 21, 3) := by decide +kernel
theorem dX9_common_19 : decode cX9_common 19 = .ok (.lload 4, 2) := by decide +kernel
theorem dX9_common_21 : decode cX9_common 21 = .ok (.lload 6, 2) := by decide +kernel
theorem dX9_common_23 : decode cX9_common 23 = .ok (.lrem, 1) := by decide +kernel
theorem dX9_common_24 : decode cX9_common 24 = .ok (.lstore 8, 2) := by decide +kernel
theorem dX9_common_26 : decode cX9_common 26 = .ok (.lload 6, 2) := by decide +kernel
theorem dX9_common_28 : decode cX9_common 28 = .ok (.lstore 4, 2) := by decide +kernel
theorem dX9_common_30 : decode cX9_common 30 = .ok (.lload 8, 2) := by decide +kernel
theorem dX9_common_32 : decode cX9_common 32 = .ok (.lstore 6, 2) := by decide +kernel
theorem dX9_common_34 : decode cX9_common 34 = .ok (.goto (-22), 3) := by decide +kernel
theorem dX9_common_37 : decode cX9_common 37 = .ok (.lload 4, 2) := by decide +kernel
theorem dX9_common_39 : decode cX9_common 39 = .ok (.lreturn, 1) := by decide +kernel
theorem dX9_exchange_0 : decode cX9_exchange 0 = .ok (.iconst 0, 1) := by decide +kernel
theorem dX9_exchange_1 : decode cX9_exchange 1 = .ok (.istore_n 3, 1) := by decide +kernel
theorem dX9_exchange_2 : decode cX9_exchange 2 = .ok (.iload_n 3, 1) := by decide +kernel
theorem dX9_exchange_3 : decode cX9_exchange 3 = .ok (.aload_n 0, 1) := by decide +kernel
theorem dX9_exchange_4 : decode cX9_exchange 4 = .ok (.getfield 33, 3) := by decide +kernel
theorem dX9_exchange_7 : decode cX9_exchange 7 = .ok (.if_icmp .gt 53, 3) := by decide +kernel
theorem dX9_exchange_10 : decode cX9_exchange 10 = .ok (.aload_n 0, 1) := by decide +kernel
theorem dX9_exchange_11 : decode cX9_exchange 11 = .ok (.getfield 58, 3) := by decide +kernel
theorem dX9_exchange_14 : decode cX9_exchange 14 = .ok (.iconst 5, 1) := by decide +kernel
theorem dX9_exchange_15 : decode cX9_exchange 15 = .ok (.iload_n 1, 1) := by decide +kernel
theorem dX9_exchange_16 : decode cX9_exchange 16 = .ok (.imul, 1) := by decide +kernel
theorem dX9_exchange_17 : decode cX9_exchange 17 = .ok (.iload_n 3, 1) := by decide +kernel
theorem dX9_exchange_18 : decode cX9_exchange 18 = .ok (.iadd, 1) := by decide +kernel
theorem dX9_exchange_19 : decode cX9_exchange 19 = .ok (.laload, 1) := by decide +kernel
theorem dX9_exchange_20 : decode cX9_exchange 20 = .ok (.lstore 4, 2) := by decide +kernel
theorem dX9_exchange_22 : decode cX9_exchange 22 = .ok (.aload_n 0, 1) := by decide +kernel
theorem dX9_exchange_23 : decode cX9_exchange 23 = .ok (.getfield 58, 3) := by decide +kernel
theorem dX9_exchange_26 : decode cX9_exchange 26 = .ok (.iconst 5, 1) := by decide +kernel
theorem dX9_exchange_27 : decode cX9_exchange 27 = .ok (.iload_n 1, 1) := by decide +kernel
theorem dX9_exchange_28 : decode cX9_exchange 28 = .ok (.imul, 1) := by decide +kernel
theorem dX9_exchange_29 : decode cX9_exchange 29 = .ok (.iload_n 3, 1) := by decide +kernel
theorem dX9_exchange_30 : decode cX9_exchange 30 = .ok (.iadd, 1) := by decide +kernel
theorem dX9_exchange_31 : decode cX9_exchange 31 = .ok (.aload_n 0, 1) := by decide +kernel
theorem dX9_exchange_32 : decode cX9_exchange 32 = .ok (.getfield 58, 3) := by decide +kernel
theorem dX9_exchange_35 : decode cX9_exchange 35 = .ok (.iconst 5, 1) := by decide +kernel
theorem dX9_exchange_36 : decode cX9_exchange 36 = .ok (.iload_n 2, 1) := by decide +kernel
theorem dX9_exchange_37 : decode cX9_exchange 37 = .ok (.imul, 1) := by decide +kernel
theorem dX9_exchange_38 : decode cX9_exchange 38 = .ok (.iload_n 3, 1) := by decide +kernel
theorem dX9_exchange_39 : decode cX9_exchange 39 = .ok (.iadd, 1) := by decide +kernel
theorem dX9_exchange_40 : decode cX9_exchange 40 = .ok (.laload, 1) := by decide +kernel
theorem dX9_exchange_41 : decode cX9_exchange 41 = .ok (.lastore, 1) := by decide +kernel
theorem dX9_exchange_42 : decode cX9_exchange 42 = .ok (.aload_n 0, 1) := by decide +kernel
theorem dX9_exchange_43 : decode cX9_exchange 43 = .ok (.getfield 58, 3) := by decide +kernel
theorem dX9_exchange_46 : decode cX9_exchange 46 = .ok (.iconst 5, 1) := by decide +kernel
theorem dX9_exchange_47 : decode cX9_exchange 47 = .ok (.iload_n 2, 1) := by decide +kernel
theorem dX9_exchange_48 : decode cX9_exchange 48 = .ok (.imul, 1) := by decide +kernel
theorem dX9_exchange_49 : decode cX9_exchange 49 = .ok (.iload_n 3, 1) := by decide +kernel
theorem dX9_exchange_50 : decode cX9_exchange 50 = .ok (.iadd, 1) := by decide +kernel
theorem dX9_exchange_51 : decode cX9_exchange 51 = .ok (.lload 4, 2) := by decide +kernel
theorem dX9_exchange_53 : decode cX9_exchange 53 = .ok (.lastore, 1) := by decide +kernel
theorem dX9_exchange_54 : decode cX9_exchange 54 = .ok (.iinc 3 1, 3) := by decide +kernel
theorem dX9_exchange_57 : decode cX9_exchange 57 = .ok (.goto (-55), 3) := by decide +kernel
theorem dX9_exchange_60 : decode cX9_exchange 60 = .ok (.aload_n 0, 1) := by decide +kernel
theorem dX9_exchange_61 : decode cX9_exchange 61 = .ok (.getfield 61, 3) := by decide +kernel
theorem dX9_exchange_64 : decode cX9_exchange 64 = .ok (.iload_n 1, 1) := by decide +kernel
theorem dX9_exchange_65 : decode cX9_exchange 65 = .ok (.iaload, 1) := by decide +kernel
theorem dX9_exchange_66 : decode cX9_exchange 66 = .ok (.istore_n 3, 1) := by decide +kernel
theorem dX9_exchange_67 : decode cX9_exchange 67 = .ok (.aload_n 0, 1) := by decide +kernel
theorem dX9_exchange_68 : decode cX9_exchange 68 = .ok (.getfield 61, 3) := by decide +kernel
theorem dX9_exchange_71 : decode cX9_exchange 71 = .ok (.iload_n 1, 1) := by decide +kernel
theorem dX9_exchange_72 : decode cX9_exchange 72 = .ok (.aload_n 0, 1) := by decide +kernel
theorem dX9_exchange_73 : decode cX9_exchange 73 = .ok (.getfield 61, 3) := by decide +kernel
theorem dX9_exchange_76 : decode cX9_exchange 76 = .ok (.iload_n 2, 1) := by decide +kernel
theorem dX9_exchange_77 : decode cX9_exchange 77 = .ok (.iaload, 1) := by decide +kernel
theorem dX9_exchange_78 : decode cX9_exchange 78 = .ok (.iastore, 1) := by decide +kernel
theorem dX9_exchange_79 : decode cX9_exchange 79 = .ok (.aload_n 0, 1) := by decide +kernel
theorem dX9_exchange_80 : decode cX9_exchange 80 = .ok (.getfield 61, 3) := by decide +kernel
theorem dX9_exchange_83 : decode cX9_exchange 83 = .ok (.iload_n 2, 1) := by decide +kernel
theorem dX9_exchange_84 : decode cX9_exchange 84 = .ok (.iload_n 3, 1) := by decide +kernel
theorem dX9_exchange_85 : decode cX9_exchange 85 = .ok (.iastore, 1) := by decide +kernel
theorem dX9_exchange_86 : decode cX9_exchange 86 = .ok (.return_, 1) := by decide +kernel
set_option maxRecDepth 20000 in
theorem ggX9_turn_X9_common : GoodIn wsX9_turn wsX9_common := goodIn_r _ [7, 8, 9, 6, 10] (by decide +kernel) (by decide +kernel)
set_option maxRecDepth 20000 in
theorem gX9_turn_X9_common : GoodIn wsX9_turn (va_wsS RX9 203 yX9_common wsX9_common) := goodIn_app (goodIn_of _ (by decide +kernel)) ggX9_turn_X9_common
theorem dX9_turn_0 : decode cX9_turn 0 = .ok (.aload_n 0, 1) := by decide +kernel
theorem dX9_turn_1 : decode cX9_turn 1 = .ok (.getfield 58, 3) := by decide +kernel
theorem dX9_turn_4 : decode cX9_turn 4 = .ok (.iconst 5, 1) := by decide +kernel
theorem dX9_turn_5 : decode cX9_turn 5 = .ok (.iload_n 1, 1) := by decide +kernel
theorem dX9_turn_6 : decode cX9_turn 6 = .ok (.imul, 1) := by decide +kernel
theorem dX9_turn_7 : decode cX9_turn 7 = .ok (.iload_n 3, 1) := by decide +kernel
theorem dX9_turn_8 : decode cX9_turn 8 = .ok (.iadd, 1) := by decide +kernel
theorem dX9_turn_9 : decode cX9_turn 9 = .ok (.laload, 1) := by decide +kernel
theorem dX9_turn_10 : decode cX9_turn 10 = .ok (.lstore 4, 2) := by decide +kernel
theorem dX9_turn_12 : decode cX9_turn 12 = .ok (.aload_n 0, 1) := by decide +kernel
theorem dX9_turn_13 : decode cX9_turn 13 = .ok (.getfield 58, 3) := by decide +kernel
theorem dX9_turn_16 : decode cX9_turn 16 = .ok (.iconst 5, 1) := by decide +kernel
theorem dX9_turn_17 : decode cX9_turn 17 = .ok (.iload_n 2, 1) := by decide +kernel
theorem dX9_turn_18 : decode cX9_turn 18 = .ok (.imul, 1) := by decide +kernel
theorem dX9_turn_19 : decode cX9_turn 19 = .ok (.iload_n 3, 1) := by decide +kernel
theorem dX9_turn_20 : decode cX9_turn 20 = .ok (.iadd, 1) := by decide +kernel
theorem dX9_turn_21 : decode cX9_turn 21 = .ok (.laload, 1) := by decide +kernel
theorem dX9_turn_22 : decode cX9_turn 22 = .ok (.lstore 6, 2) := by decide +kernel
theorem dX9_turn_24 : decode cX9_turn 24 = .ok (.lconst 0, 1) := by decide +kernel
theorem dX9_turn_25 : decode cX9_turn 25 = .ok (.lstore 8, 2) := by decide +kernel
theorem dX9_turn_27 : decode cX9_turn 27 = .ok (.iconst 0, 1) := by decide +kernel
theorem dX9_turn_28 : decode cX9_turn 28 = .ok (.istore 10, 2) := by decide +kernel
theorem dX9_turn_30 : decode cX9_turn 30 = .ok (.iload 10, 2) := by decide +kernel
theorem dX9_turn_32 : decode cX9_turn 32 = .ok (.aload_n 0, 1) := by decide +kernel
theorem dX9_turn_33 : decode cX9_turn 33 = .ok (.getfield 33, 3) := by decide +kernel
theorem dX9_turn_36 : decode cX9_turn 36 = .ok (.if_icmp .gt 67, 3) := by decide +kernel
theorem dX9_turn_39 : decode cX9_turn 39 = .ok (.aload_n 0, 1) := by decide +kernel
theorem dX9_turn_40 : decode cX9_turn 40 = .ok (.getfield 58, 3) := by decide +kernel
theorem dX9_turn_43 : decode cX9_turn 43 = .ok (.iconst 5, 1) := by decide +kernel
theorem dX9_turn_44 : decode cX9_turn 44 = .ok (.iload_n 1, 1) := by decide +kernel
theorem dX9_turn_45 : decode cX9_turn 45 = .ok (.imul, 1) := by decide +kernel
theorem dX9_turn_46 : decode cX9_turn 46 = .ok (.iload 10, 2) := by decide +kernel
theorem dX9_turn_48 : decode cX9_turn 48 = .ok (.iadd, 1) := by decide +kernel
theorem dX9_turn_49 : decode cX9_turn 49 = .ok (.aload_n 0, 1) := by decide +kernel
theorem dX9_turn_50 : decode cX9_turn 50 = .ok (.getfield 58, 3) := by decide +kernel
theorem dX9_turn_53 : decode cX9_turn 53 = .ok (.iconst 5, 1) := by decide +kernel
theorem dX9_turn_54 : decode cX9_turn 54 = .ok (.iload_n 1, 1) := by decide +kernel
theorem dX9_turn_55 : decode cX9_turn 55 = .ok (.imul, 1) := by decide +kernel
theorem dX9_turn_56 : decode cX9_turn 56 = .ok (.iload 10, 2) := by decide +kernel
theorem dX9_turn_58 : decode cX9_turn 58 = .ok (.iadd, 1) := by decide +kernel
theorem dX9_turn_59 : decode cX9_turn 59 = .ok (.laload, 1) := by decide +kernel
theorem dX9_turn_60 : decode cX9_turn 60 = .ok (.lload 6, 2) := by decide +kernel
theorem dX9_turn_62 : decode cX9_turn 62 = .ok (.lmul, 1) := by decide +kernel
theorem dX9_turn_63 : decode cX9_turn 63 = .ok (.aload_n 0, 1) := by decide +kernel
theorem dX9_turn_64 : decode cX9_turn 64 = .ok (.getfield 58, 3) := by decide +kernel
theorem dX9_turn_67 : decode cX9_turn 67 = .ok (.iconst 5, 1) := by decide +kernel
theorem dX9_turn_68 : decode cX9_turn 68 = .ok (.iload_n 2, 1) := by decide +kernel
theorem dX9_turn_69 : decode cX9_turn 69 = .ok (.imul, 1) := by decide +kernel
theorem dX9_turn_70 : decode cX9_turn 70 = .ok (.iload 10, 2) := by decide +kernel
theorem dX9_turn_72 : decode cX9_turn 72 = .ok (.iadd, 1) := by decide +kernel
theorem dX9_turn_73 : decode cX9_turn 73 = .ok (.laload, 1) := by decide +kernel
theorem dX9_turn_74 : decode cX9_turn 74 = .ok (.lload 4, 2) := by decide +kernel
theorem dX9_turn_76 : decode cX9_turn 76 = .ok (.lmul, 1) := by decide +kernel
theorem dX9_turn_77 : decode cX9_turn 77 = .ok (.lsub, 1) := by decide +kernel
theorem dX9_turn_78 : decode cX9_turn 78 = .ok (.lastore, 1) := by decide +kernel
theorem dX9_turn_79 : decode cX9_turn 79 = .ok (.lload 8, 2) := by decide +kernel
theorem dX9_turn_81 : decode cX9_turn 81 = .ok (.aload_n 0, 1) := by decide +kernel
theorem dX9_turn_82 : decode cX9_turn 82 = .ok (.getfield 58, 3) := by decide +kernel
theorem dX9_turn_85 : decode cX9_turn 85 = .ok (.iconst 5, 1) := by decide +kernel
theorem dX9_turn_86 : decode cX9_turn 86 = .ok (.iload_n 1, 1) := by decide +kernel
theorem dX9_turn_87 : decode cX9_turn 87 = .ok (.imul, 1) := by decide +kernel
theorem dX9_turn_88 : decode cX9_turn 88 = .ok (.iload 10, 2) := by decide +kernel
theorem dX9_turn_90 : decode cX9_turn 90 = .ok (.iadd, 1) := by decide +kernel
theorem dX9_turn_91 : decode cX9_turn 91 = .ok (.laload, 1) := by decide +kernel
theorem dX9_turn_92 : decode cX9_turn 92 = .ok (.invokestatic 203, 3) := by decide +kernel
theorem dX9_turn_95 : decode cX9_turn 95 = .ok (.lstore 8, 2) := by decide +kernel
theorem dX9_turn_97 : decode cX9_turn 97 = .ok (.iinc 10 1, 3) := by decide +kernel
theorem dX9_turn_100 : decode cX9_turn 100 = .ok (.goto (-70), 3) := by decide +kernel
theorem dX9_turn_103 : decode cX9_turn 103 = .ok (.iconst 0, 1) := by decide +kernel
theorem dX9_turn_104 : decode cX9_turn 104 = .ok (.istore 10, 2) := by decide +kernel
theorem dX9_turn_106 : decode cX9_turn 106 = .ok (.iload 10, 2) := by decide +kernel
theorem dX9_turn_108 : decode cX9_turn 108 = .ok (.aload_n 0, 1) := by decide +kernel
theorem dX9_turn_109 : decode cX9_turn 109 = .ok (.getfield 33, 3) := by decide +kernel
theorem dX9_turn_112 : decode cX9_turn 112 = .ok (.if_icmp .gt 32, 3) := by decide +kernel
theorem dX9_turn_115 : decode cX9_turn 115 = .ok (.lload 8, 2) := by decide +kernel
theorem dX9_turn_117 : decode cX9_turn 117 = .ok (.lconst 0, 1) := by decide +kernel
theorem dX9_turn_118 : decode cX9_turn 118 = .ok (.lcmp, 1) := by decide +kernel
theorem dX9_turn_119 : decode cX9_turn 119 = .ok (.ifCond .le 25, 3) := by decide +kernel
theorem dX9_turn_122 : decode cX9_turn 122 = .ok (.aload_n 0, 1) := by decide +kernel
theorem dX9_turn_123 : decode cX9_turn 123 = .ok (.getfield 58, 3) := by decide +kernel
theorem dX9_turn_126 : decode cX9_turn 126 = .ok (.iconst 5, 1) := by decide +kernel
theorem dX9_turn_127 : decode cX9_turn 127 = .ok (.iload_n 1, 1) := by decide +kernel
theorem dX9_turn_128 : decode cX9_turn 128 = .ok (.imul, 1) := by decide +kernel
theorem dX9_turn_129 : decode cX9_turn 129 = .ok (.iload 10, 2) := by decide +kernel
theorem dX9_turn_131 : decode cX9_turn 131 = .ok (.iadd, 1) := by decide +kernel
theorem dX9_turn_132 : decode cX9_turn 132 = .ok (.dup2, 1) := by decide +kernel
theorem dX9_turn_133 : decode cX9_turn 133 = .ok (.laload, 1) := by decide +kernel
theorem dX9_turn_134 : decode cX9_turn 134 = .ok (.lload 8, 2) := by decide +kernel
theorem dX9_turn_136 : decode cX9_turn 136 = .ok (.ldiv, 1) := by decide +kernel
theorem dX9_turn_137 : decode cX9_turn 137 = .ok (.lastore, 1) := by decide +kernel
theorem dX9_turn_138 : decode cX9_turn 138 = .ok (.iinc 10 1, 3) := by decide +kernel
theorem dX9_turn_141 : decode cX9_turn 141 = .ok (.goto (-35), 3) := by decide +kernel
theorem dX9_turn_144 : decode cX9_turn 144 = .ok (.aload_n 0, 1) := by decide +kernel
theorem dX9_turn_145 : decode cX9_turn 145 = .ok (.dup, 1) := by decide +kernel
theorem dX9_turn_146 : decode cX9_turn 146 = .ok (.getfield 207, 3) := by decide +kernel
theorem dX9_turn_149 : decode cX9_turn 149 = .ok (.iconst 1, 1) := by decide +kernel
theorem dX9_turn_150 : decode cX9_turn 150 = .ok (.iadd, 1) := by decide +kernel
theorem dX9_turn_151 : decode cX9_turn 151 = .ok (.putfield 207, 3) := by decide +kernel
theorem dX9_turn_154 : decode cX9_turn 154 = .ok (.return_, 1) := by decide +kernel
set_option maxRecDepth 20000 in
theorem ggX9_clear_X9_exchange : GoodIn wsX9_clear wsX9_exchange := goodIn_r _ [13, 6, 1, 3, 24, 25, 26, 27, 28, 29, 30, 31, 32, 33, 34, 35, 36, 37, 38, 39, 40, 41, 42, 43, 44, 45, 46, 47, 48, 49, 50] (by decide +kernel) (by decide +kernel)
set_option maxRecDepth 20000 in
theorem gX9_clear_X9_exchange : GoodIn wsX9_clear (wsV RX9 213 RX9 yX9_exchange wsX9_exchange) := goodIn_app (goodIn_of _ (by decide +kernel)) ggX9_clear_X9_exchange
set_option maxRecDepth 20000 in
theorem ggX9_clear_X9_turn : GoodIn wsX9_clear wsX9_turn := goodIn_r _ [17, 1, 6, 4, 18, 19, 12, 20, 21, 22, 23, 24, 25, 26, 27, 28, 29, 30, 31, 32, 33, 34, 35, 36, 37, 38, 39, 40, 41, 42, 43, 44, 45, 46, 47, 48, 49, 50] (by decide +kernel) (by decide +kernel)
set_option maxRecDepth 20000 in
theorem gX9_clear_X9_turn : GoodIn wsX9_clear (wsV RX9 217 RX9 yX9_turn wsX9_turn) := goodIn_app (goodIn_of _ (by decide +kernel)) ggX9_clear_X9_turn
theorem dX9_clear_0 : decode cX9_clear 0 = .ok (.iconst 0, 1) := by decide +kernel
theorem dX9_clear_1 : decode cX9_clear 1 = .ok (.istore_n 1, 1) := by decide +kernel
theorem dX9_clear_2 : decode cX9_clear 2 = .ok (.iload_n 1, 1) := by decide +kernel
theorem dX9_clear_3 : decode cX9_clear 3 = .ok (.bipush 25, 2) := by decide +kernel
theorem dX9_clear_5 : decode cX9_clear 5 = .ok (.if_icmp .ge 22, 3) := by decide +kernel
theorem dX9_clear_8 : decode cX9_clear 8 = .ok (.aload_n 0, 1) := by decide +kernel
theorem dX9_clear_9 : decode cX9_clear 9 = .ok (.getfield 58, 3) := by decide +kernel
theorem dX9_clear_12 : decode cX9_clear 12 = .ok (.iload_n 1, 1) := by decide +kernel
theorem dX9_clear_13 : decode cX9_clear 13 = .ok (.aload_n 0, 1) := by decide +kernel
theorem dX9_clear_14 : decode cX9_clear 14 = .ok (.getfield 40, 3) := by decide +kernel
theorem dX9_clear_17 : decode cX9_clear 17 = .ok (.iload_n 1, 1) := by decide +kernel
theorem dX9_clear_18 : decode cX9_clear 18 = .ok (.iaload, 1) := by decide +kernel
theorem dX9_clear_19 : decode cX9_clear 19 = .ok (.i2l, 1) := by decide +kernel
theorem dX9_clear_20 : decode cX9_clear 20 = .ok (.lastore, 1) := by decide +kernel
theorem dX9_clear_21 : decode cX9_clear 21 = .ok (.iinc 1 1, 3) := by decide +kernel
theorem dX9_clear_24 : decode cX9_clear 24 = .ok (.goto (-22), 3) := by decide +kernel
theorem dX9_clear_27 : decode cX9_clear 27 = .ok (.iconst 0, 1) := by decide +kernel
theorem dX9_clear_28 : decode cX9_clear 28 = .ok (.istore_n 1, 1) := by decide +kernel
theorem dX9_clear_29 : decode cX9_clear 29 = .ok (.iload_n 1, 1) := by decide +kernel
theorem dX9_clear_30 : decode cX9_clear 30 = .ok (.iconst 5, 1) := by decide +kernel
theorem dX9_clear_31 : decode cX9_clear 31 = .ok (.if_icmp .ge 16, 3) := by decide +kernel
theorem dX9_clear_34 : decode cX9_clear 34 = .ok (.aload_n 0, 1) := by decide +kernel
theorem dX9_clear_35 : decode cX9_clear 35 = .ok (.getfield 61, 3) := by decide +kernel
theorem dX9_clear_38 : decode cX9_clear 38 = .ok (.iload_n 1, 1) := by decide +kernel
theorem dX9_clear_39 : decode cX9_clear 39 = .ok (.iload_n 1, 1) := by decide +kernel
theorem dX9_clear_40 : decode cX9_clear 40 = .ok (.iastore, 1) := by decide +kernel
theorem dX9_clear_41 : decode cX9_clear 41 = .ok (.iinc 1 1, 3) := by decide +kernel
theorem dX9_clear_44 : decode cX9_clear 44 = .ok (.goto (-15), 3) := by decide +kernel
theorem dX9_clear_47 : decode cX9_clear 47 = .ok (.aload_n 0, 1) := by decide +kernel
theorem dX9_clear_48 : decode cX9_clear 48 = .ok (.iconst 0, 1) := by decide +kernel
theorem dX9_clear_49 : decode cX9_clear 49 = .ok (.putfield 207, 3) := by decide +kernel
theorem dX9_clear_52 : decode cX9_clear 52 = .ok (.aload_n 0, 1) := by decide +kernel
theorem dX9_clear_53 : decode cX9_clear 53 = .ok (.iconst 0, 1) := by decide +kernel
theorem dX9_clear_54 : decode cX9_clear 54 = .ok (.putfield 210, 3) := by decide +kernel
theorem dX9_clear_57 : decode cX9_clear 57 = .ok (.iconst 0, 1) := by decide +kernel
theorem dX9_clear_58 : decode cX9_clear 58 = .ok (.istore_n 1, 1) := by decide +kernel
theorem dX9_clear_59 : decode cX9_clear 59 = .ok (.iconst 0, 1) := by decide +kernel
theorem dX9_clear_60 : decode cX9_clear 60 = .ok (.istore_n 2, 1) := by decide +kernel
theorem dX9_clear_61 : decode cX9_clear 61 = .ok (.iload_n 2, 1) := by decide +kernel
theorem dX9_clear_62 : decode cX9_clear 62 = .ok (.aload_n 0, 1) := by decide +kernel
theorem dX9_clear_63 : decode cX9_clear 63 = .ok (.getfield 33, 3) := by decide +kernel
theorem dX9_clear_66 : decode cX9_clear 66 = .ok (.if_icmp .ge 116, 3) := by decide +kernel
theorem dX9_clear_69 : decode cX9_clear 69 = .ok (.iload_n 1, 1) := by decide +kernel
theorem dX9_clear_70 : decode cX9_clear 70 = .ok (.istore_n 3, 1) := by decide +kernel
theorem dX9_clear_71 : decode cX9_clear 71 = .ok (.iload_n 3, 1) := by decide +kernel
theorem dX9_clear_72 : decode cX9_clear 72 = .ok (.aload_n 0, 1) := by decide +kernel
theorem dX9_clear_73 : decode cX9_clear 73 = .ok (.getfield 37, 3) := by decide +kernel
theorem dX9_clear_76 : decode cX9_clear 76 = .ok (.if_icmp .ge 24, 3) := by decide +kernel
theorem dX9_clear_79 : decode cX9_clear 79 = .ok (.aload_n 0, 1) := by decide +kernel
theorem dX9_clear_80 : decode cX9_clear 80 = .ok (.getfield 58, 3) := by decide +kernel
theorem dX9_clear_83 : decode cX9_clear 83 = .ok (.iconst 5, 1) := by decide +kernel
theorem dX9_clear_84 : decode cX9_clear 84 = .ok (.iload_n 3, 1) := by decide +kernel
theorem dX9_clear_85 : decode cX9_clear 85 = .ok (.imul, 1) := by decide +kernel
theorem dX9_clear_86 : decode cX9_clear 86 = .ok (.iload_n 2, 1) := by decide +kernel
theorem dX9_clear_87 : decode cX9_clear 87 = .ok (.iadd, 1) := by decide +kernel
theorem dX9_clear_88 : decode cX9_clear 88 = .ok (.laload, 1) := by decide +kernel
theorem dX9_clear_89 : decode cX9_clear 89 = .ok (.lconst 0, 1) := by decide +kernel
theorem dX9_clear_90 : decode cX9_clear 90 = .ok (.lcmp, 1) := by decide +kernel
theorem dX9_clear_91 : decode cX9_clear 91 = .ok (.ifCond .ne 9, 3) := by decide +kernel
theorem dX9_clear_94 : decode cX9_clear 94 = .ok (.iinc 3 1, 3) := by decide +kernel
theorem dX9_clear_97 : decode cX9_clear 97 = .ok (.goto (-26), 3) := by decide +kernel
theorem dX9_clear_100 : decode cX9_clear 100 = .ok (.iload_n 3, 1) := by decide +kernel
theorem dX9_clear_101 : decode cX9_clear 101 = .ok (.aload_n 0, 1) := by decide +kernel
theorem dX9_clear_102 : decode cX9_clear 102 = .ok (.getfield 37, 3) := by decide +kernel
theorem dX9_clear_105 : decode cX9_clear 105 = .ok (.if_icmp .lt 18, 3) := by decide +kernel
theorem dX9_clear_108 : decode cX9_clear 108 = .ok (.aload_n 0, 1) := by decide +kernel
theorem dX9_clear_109 : decode cX9_clear 109 = .ok (.dup, 1) := by decide +kernel
theorem dX9_clear_110 : decode cX9_clear 110 = .ok (.getfield 210, 3) := by decide +kernel
theorem dX9_clear_113 : decode cX9_clear 113 = .ok (.iconst 1, 1) := by decide +kernel
theorem dX9_clear_114 : decode cX9_clear 114 = .ok (.iload_n 2, 1) := by decide +kernel
theorem dX9_clear_115 : decode cX9_clear 115 = .ok (.ishl, 1) := by decide +kernel
theorem dX9_clear_116 : decode cX9_clear 116 = .ok (.ior, 1) := by decide +kernel
theorem dX9_clear_117 : decode cX9_clear 117 = .ok (.putfield 210, 3) := by decide +kernel
theorem dX9_clear_120 : decode cX9_clear 120 = .ok (.goto 56, 3) := by decide +kernel
theorem dX9_clear_123 : decode cX9_clear 123 = .ok (.aload_n 0, 1) := by decide +kernel
theorem dX9_clear_124 : decode cX9_clear 124 = .ok (.iload_n 3, 1) := by decide +kernel
theorem dX9_clear_125 : decode cX9_clear 125 = .ok (.iload_n 1, 1) := by decide +kernel
theorem dX9_clear_126 : decode cX9_clear 126 = .ok (.invokevirtual 213, 3) := by decide +kernel
theorem dX9_clear_129 : decode cX9_clear 129 = .ok (.iload_n 1, 1) := by decide +kernel
theorem dX9_clear_130 : decode cX9_clear 130 = .ok (.iconst 1, 1) := by decide +kernel
theorem dX9_clear_131 : decode cX9_clear 131 = .ok (.iadd, 1) := by decide +kernel
theorem dX9_clear_132 : decode cX9_clear 132 = .ok (.istore 4, 2) := by decide +kernel
theorem dX9_clear_134 : decode cX9_clear 134 = .ok (.iload 4, 2) := by decide +kernel
theorem dX9_clear_136 : decode cX9_clear 136 = .ok (.aload_n 0, 1) := by decide +kernel
theorem dX9_clear_137 : decode cX9_clear 137 = .ok (.getfield 37, 3) := by decide +kernel
theorem dX9_clear_140 : decode cX9_clear 140 = .ok (.if_icmp .ge 33, 3) := by decide +kernel
theorem dX9_clear_143 : decode cX9_clear 143 = .ok (.aload_n 0, 1) := by decide +kernel
theorem dX9_clear_144 : decode cX9_clear 144 = .ok (.getfield 58, 3) := by decide +kernel
theorem dX9_clear_147 : decode cX9_clear 147 = .ok (.iconst 5, 1) := by decide +kernel
theorem dX9_clear_148 : decode cX9_clear 148 = .ok (.iload 4, 2) := by decide +kernel
theorem dX9_clear_150 : decode cX9_clear 150 = .ok (.imul, 1) := by decide +kernel
theorem dX9_clear_151 : decode cX9_clear 151 = .ok (.iload_n 2, 1) := by decide +kernel
theorem dX9_clear_152 : decode cX9_clear 152 = .ok (.iadd, 1) := by decide +kernel
theorem dX9_clear_153 : decode cX9_clear 153 = .ok (.laload, 1) := by decide +kernel
theorem dX9_clear_154 : decode cX9_clear 154 = .ok (.lconst 0, 1) := by decide +kernel
theorem dX9_clear_155 : decode cX9_clear 155 = .ok (.lcmp, 1) := by decide +kernel
theorem dX9_clear_156 : decode cX9_clear 156 = .ok (.ifCond .eq 11, 3) := by decide +kernel
theorem dX9_clear_159 : decode cX9_clear 159 = .ok (.aload_n 0, 1) := by decide +kernel
theorem dX9_clear_160 : decode cX9_clear 160 = .ok (.iload 4, 2) := by decide +kernel
theorem dX9_clear_162 : decode cX9_clear 162 = .ok (.iload_n 1, 1) := by decide +kernel
theorem dX9_clear_163 : decode cX9_clear 163 = .ok (.iload_n 2, 1) := by decide +kernel
theorem dX9_clear_164 : decode cX9_clear 164 = .ok (.invokevirtual 217, 3) := by decide +kernel
theorem dX9_clear_167 : decode cX9_clear 167 = .ok (.iinc 4 1, 3) := by decide +kernel
theorem dX9_clear_170 : decode cX9_clear 170 = .ok (.goto (-36), 3) := by decide +kernel
theorem dX9_clear_173 : decode cX9_clear 173 = .ok (.iinc 1 1, 3) := by decide +kernel
theorem dX9_clear_176 : decode cX9_clear 176 = .ok (.iinc 2 1, 3) := by decide +kernel
theorem dX9_clear_179 : decode cX9_clear 179 = .ok (.goto (-118), 3) := by decide +kernel
theorem dX9_clear_182 : decode cX9_clear 182 = .ok (.aload_n 0, 1) := by decide +kernel
theorem dX9_clear_183 : decode cX9_clear 183 = .ok (.iload_n 1, 1) := by decide +kernel
theorem dX9_clear_184 : decode cX9_clear 184 = .ok (.putfield 221, 3) := by decide +kernel
theorem dX9_clear_187 : decode cX9_clear 187 = .ok (.return_, 1) := by decide +kernel
set_option maxRecDepth 20000 in
theorem ggX9_kindOf_X9_clear : GoodIn wsX9_kindOf wsX9_clear := goodIn_r _ [10, 3, 11, 12, 13, 5, 4, 2, 1, 14, 15, 16, 9, 17, 18, 19, 20, 21, 22, 23, 24, 25, 26, 27, 28, 29, 30, 31, 32, 33, 34, 35, 36, 37, 38, 39, 40, 41, 42, 43, 44, 45, 46, 47, 48, 49, 50, 51, 52, 53, 54] (by decide +kernel) (by decide +kernel)
set_option maxRecDepth 20000 in
theorem gX9_kindOf_X9_clear : GoodIn wsX9_kindOf (wsV RX9 224 RX9 yX9_clear wsX9_clear) := goodIn_app (goodIn_of _ (by decide +kernel)) ggX9_kindOf_X9_clear
theorem dX9_kindOf_0 : decode cX9_kindOf 0 = .ok (.aload_n 0, 1) := by decide +kernel
theorem dX9_kindOf_1 : decode cX9_kindOf 1 = .ok (.invokevirtual 224, 3) := by decide +kernel
theorem dX9_kindOf_4 : decode cX9_kindOf 4 = .ok (.aload_n 0, 1) := by decide +kernel
theorem dX9_kindOf_5 : decode cX9_kindOf 5 = .ok (.getfield 221, 3) := by decide +kernel
theorem dX9_kindOf_8 : decode cX9_kindOf 8 = .ok (.istore_n 1, 1) := by decide +kernel
theorem dX9_kindOf_9 : decode cX9_kindOf 9 = .ok (.iload_n 1, 1) := by decide +kernel
theorem dX9_kindOf_10 : decode cX9_kindOf 10 = .ok (.aload_n 0, 1) := by decide +kernel
theorem dX9_kindOf_11 : decode cX9_kindOf 11 = .ok (.getfield 37, 3) := by decide +kernel
theorem dX9_kindOf_14 : decode cX9_kindOf 14 = .ok (.if_icmp .ge 29, 3) := by decide +kernel
theorem dX9_kindOf_17 : decode cX9_kindOf 17 = .ok (.aload_n 0, 1) := by decide +kernel
theorem dX9_kindOf_18 : decode cX9_kindOf 18 = .ok (.getfield 58, 3) := by decide +kernel
theorem dX9_kindOf_21 : decode cX9_kindOf 21 = .ok (.iconst 5, 1) := by decide +kernel
theorem dX9_kindOf_22 : decode cX9_kindOf 22 = .ok (.iload_n 1, 1) := by decide +kernel
theorem dX9_kindOf_23 : decode cX9_kindOf 23 = .ok (.imul, 1) := by decide +kernel
theorem dX9_kindOf_24 : decode cX9_kindOf 24 = .ok (.aload_n 0, 1) := by decide +kernel
theorem dX9_kindOf_25 : decode cX9_kindOf 25 = .ok (.getfield 33, 3) := by decide +kernel
theorem dX9_kindOf_28 : decode cX9_kindOf 28 = .ok (.iadd, 1) := by decide +kernel
theorem dX9_kindOf_29 : decode cX9_kindOf 29 = .ok (.laload, 1) := by decide +kernel
theorem dX9_kindOf_30 : decode cX9_kindOf 30 = .ok (.lconst 0, 1) := by decide +kernel
theorem dX9_kindOf_31 : decode cX9_kindOf 31 = .ok (.lcmp, 1) := by decide +kernel
theorem dX9_kindOf_32 : decode cX9_kindOf 32 = .ok (.ifCond .eq 5, 3) := by decide +kernel
theorem dX9_kindOf_35 : decode cX9_kindOf 35 = .ok (.iconst 0, 1) := by decide +kernel
theorem dX9_kindOf_36 : decode cX9_kindOf 36 = .ok (.ireturn, 1) := by decide +kernel
theorem dX9_kindOf_37 : decode cX9_kindOf 37 = .ok (.iinc 1 1, 3) := by decide +kernel
theorem dX9_kindOf_40 : decode cX9_kindOf 40 = .ok (.goto (-31), 3) := by decide +kernel
theorem dX9_kindOf_43 : decode cX9_kindOf 43 = .ok (.aload_n 0, 1) := by decide +kernel
theorem dX9_kindOf_44 : decode cX9_kindOf 44 = .ok (.getfield 210, 3) := by decide +kernel
theorem dX9_kindOf_47 : decode cX9_kindOf 47 = .ok (.ifCond .ne 7, 3) := by decide +kernel
theorem dX9_kindOf_50 : decode cX9_kindOf 50 = .ok (.iconst 1, 1) := by decide +kernel
theorem dX9_kindOf_51 : decode cX9_kindOf 51 = .ok (.goto 4, 3) := by decide +kernel
theorem dX9_kindOf_54 : decode cX9_kindOf 54 = .ok (.iconst 2, 1) := by decide +kernel
theorem dX9_kindOf_55 : decode cX9_kindOf 55 = .ok (.ireturn, 1) := by decide +kernel
set_option maxRecDepth 20000 in
theorem ggX9_kind_X9_kindOf : GoodIn wsX9_kind wsX9_kindOf := goodIn_r _ [5, 6, 7, 8, 9, 10, 11, 12, 13, 4, 14, 15, 16, 17, 18, 19, 20, 21, 22, 23, 24, 25, 26, 27, 28, 29, 30, 31, 32, 33, 34, 35, 36, 37, 38, 39, 40, 41, 42, 43, 44, 45, 46, 47, 48, 49, 50, 51, 52, 53, 54, 55, 56, 57, 58] (by decide +kernel) (by decide +kernel)
set_option maxRecDepth 20000 in
theorem gX9_kind_X9_kindOf : GoodIn wsX9_kind (wsV RX9 227 RX9 yX9_kindOf wsX9_kindOf) := goodIn_app (goodIn_of _ (by decide +kernel)) ggX9_kind_X9_kindOf
theorem dX9_kind_0 : decode cX9_kind 0 = .ok (.aload_n 0, 1) := by decide +kernel
theorem dX9_kind_1 : decode cX9_kind 1 = .ok (.invokevirtual 227, 3) := by decide +kernel
theorem dX9_kind_4 : decode cX9_kind 4 = .ok (.ireturn, 1) := by decide +kernel
set_option maxRecDepth 20000 in
theorem ggX9_turns_X9_clear : GoodIn wsX9_turns wsX9_clear := goodIn_r _ [6, 7, 8, 9, 1, 10, 11, 12, 13, 14, 15, 16, 5, 17, 18, 19, 20, 21, 22, 23, 24, 25, 26, 27, 28, 29, 30, 31, 32, 33, 34, 35, 36, 37, 38, 39, 40, 41, 42, 43, 44, 45, 46, 47, 48, 49, 50, 51, 52, 53, 54] (by decide +kernel) (by decide +kernel)
set_option maxRecDepth 20000 in
theorem gX9_turns_X9_clear : GoodIn wsX9_turns (wsV RX9 224 RX9 yX9_clear wsX9_clear) := goodIn_app (goodIn_of _ (by decide +kernel)) ggX9_turns_X9_clear
theorem dX9_turns_0 : decode cX9_turns 0 = .ok (.aload_n 0, 1) := by decide +kernel
theorem dX9_turns_1 : decode cX9_turns 1 = .ok (.invokevirtual 224, 3) := by decide +kernel
theorem dX9_turns_4 : decode cX9_turns 4 = .ok (.aload_n 0, 1) := by decide +kernel
theorem dX9_turns_5 : decode cX9_turns 5 = .ok (.getfield 207, 3) := by decide +kernel
theorem dX9_turns_8 : decode cX9_turns 8 = .ok (.ireturn, 1) := by decide +kernel
set_option maxRecDepth 20000 in
theorem ggX9_cleared_X9_in : GoodIn wsX9_cleared wsX9_in := goodIn_r _ [8] (by decide +kernel) (by decide +kernel)
set_option maxRecDepth 20000 in
theorem gX9_cleared_X9_in : GoodIn wsX9_cleared (va_wsS RX9 69 yX9_in wsX9_in) := goodIn_app (goodIn_of _ (by decide +kernel)) ggX9_cleared_X9_in
set_option maxRecDepth 20000 in
theorem ggX9_cleared_X9_clear : GoodIn wsX9_cleared wsX9_clear := goodIn_r _ [12, 4, 13, 14, 15, 16, 2, 1, 17, 18, 19, 20, 7, 21, 22, 23, 24, 25, 26, 27, 28, 29, 30, 31, 32, 33, 34, 35, 36, 37, 38, 39, 40, 41, 42, 43, 44, 45, 46, 47, 48, 49, 50, 51, 52, 53, 54, 55, 56, 57, 58] (by decide +kernel) (by decide +kernel)
set_option maxRecDepth 20000 in
theorem gX9_cleared_X9_clear : GoodIn wsX9_cleared (wsV RX9 224 RX9 yX9_clear wsX9_clear) := goodIn_app (goodIn_of _ (by decide +kernel)) ggX9_cleared_X9_clear
theorem dX9_cleared_0 : decode cX9_cleared 0 = .ok (.iload_n 1, 1) := by decide +kernel
theorem dX9_cleared_1 : decode cX9_cleared 1 = .ok (.i2l, 1) := by decide +kernel
theorem dX9_cleared_2 : decode cX9_cleared 2 = .ok (.lconst 0, 1) := by decide +kernel
theorem dX9_cleared_3 : decode cX9_cleared 3 = .ok (.aload_n 0, 1) := by decide +kernel
theorem dX9_cleared_4 : decode cX9_cleared 4 = .ok (.getfield 37, 3) := by decide +kernel
theorem dX9_cleared_7 : decode cX9_cleared 7 = .ok (.iconst 1, 1) := by decide +kernel
theorem dX9_cleared_8 : decode cX9_cleared 8 = .ok (.isub, 1) := by decide +kernel
theorem dX9_cleared_9 : decode cX9_cleared 9 = .ok (.i2l, 1) := by decide +kernel
theorem dX9_cleared_10 : decode cX9_cleared 10 = .ok (.invokestatic 69, 3) := by decide +kernel
theorem dX9_cleared_13 : decode cX9_cleared 13 = .ok (.ifCond .eq 17, 3) := by decide +kernel
theorem dX9_cleared_16 : decode cX9_cleared 16 = .ok (.iload_n 2, 1) := by decide +kernel
theorem dX9_cleared_17 : decode cX9_cleared 17 = .ok (.i2l, 1) := by decide +kernel
theorem dX9_cleared_18 : decode cX9_cleared 18 = .ok (.lconst 0, 1) := by decide +kernel
theorem dX9_cleared_19 : decode cX9_cleared 19 = .ok (.aload_n 0, 1) := by decide +kernel
theorem dX9_cleared_20 : decode cX9_cleared 20 = .ok (.getfield 33, 3) := by decide +kernel
theorem dX9_cleared_23 : decode cX9_cleared 23 = .ok (.i2l, 1) := by decide +kernel
theorem dX9_cleared_24 : decode cX9_cleared 24 = .ok (.invokestatic 69, 3) := by decide +kernel
theorem dX9_cleared_27 : decode cX9_cleared 27 = .ok (.ifCond .ne 7, 3) := by decide +kernel
theorem dX9_cleared_30 : decode cX9_cleared 30 = .ok (.ldc2_w 101, 3) := by decide +kernel
theorem dX9_cleared_33 : decode cX9_cleared 33 = .ok (.lreturn, 1) := by decide +kernel
theorem dX9_cleared_34 : decode cX9_cleared 34 = .ok (.aload_n 0, 1) := by decide +kernel
theorem dX9_cleared_35 : decode cX9_cleared 35 = .ok (.invokevirtual 224, 3) := by decide +kernel
theorem dX9_cleared_38 : decode cX9_cleared 38 = .ok (.aload_n 0, 1) := by decide +kernel
theorem dX9_cleared_39 : decode cX9_cleared 39 = .ok (.getfield 58, 3) := by decide +kernel
theorem dX9_cleared_42 : decode cX9_cleared 42 = .ok (.iconst 5, 1) := by decide +kernel
theorem dX9_cleared_43 : decode cX9_cleared 43 = .ok (.iload_n 1, 1) := by decide +kernel
theorem dX9_cleared_44 : decode cX9_cleared 44 = .ok (.imul, 1) := by decide +kernel
theorem dX9_cleared_45 : decode cX9_cleared 45 = .ok (.iload_n 2, 1) := by decide +kernel
theorem dX9_cleared_46 : decode cX9_cleared 46 = .ok (.iadd, 1) := by decide +kernel
theorem dX9_cleared_47 : decode cX9_cleared 47 = .ok (.laload, 1) := by decide +kernel
theorem dX9_cleared_48 : decode cX9_cleared 48 = .ok (.lreturn, 1) := by decide +kernel
theorem dX9_determinant_0 : decode cX9_determinant 0 = .ok (.lconst 0, 1) := by decide +kernel
theorem dX9_determinant_1 : decode cX9_determinant 1 = .ok (.lstore_n 2, 1) := by decide +kernel
theorem dX9_determinant_2 : decode cX9_determinant 2 = .ok (.aload_n 0, 1) := by decide +kernel
theorem dX9_determinant_3 : decode cX9_determinant 3 = .ok (.getfield 33, 3) := by decide +kernel
theorem dX9_determinant_6 : decode cX9_determinant 6 = .ok (.istore 4, 2) := by decide +kernel
theorem dX9_determinant_8 : decode cX9_determinant 8 = .ok (.iload 4, 2) := by decide +kernel
theorem dX9_determinant_10 : decode cX9_determinant 10 = .ok (.iconst 1, 1) := by decide +kernel
theorem dX9_determinant_11 : decode cX9_determinant 11 = .ok (.if_icmp .ne 7, 3) := by decide +kernel
theorem dX9_determinant_14 : decode cX9_determinant 14 = .ok (.iconst 1, 1) := by decide +kernel
theorem dX9_determinant_15 : decode cX9_determinant 15 = .ok (.goto 27, 3) := by decide +kernel
theorem dX9_determinant_18 : decode cX9_determinant 18 = .ok (.iload 4, 2) := by decide +kernel
theorem dX9_determinant_20 : decode cX9_determinant 20 = .ok (.iconst 2, 1) := by decide +kernel
theorem dX9_determinant_21 : decode cX9_determinant 21 = .ok (.if_icmp .ne 7, 3) := by decide +kernel
theorem dX9_determinant_24 : decode cX9_determinant 24 = .ok (.iconst 4, 1) := by decide +kernel
theorem dX9_determinant_25 : decode cX9_determinant 25 = .ok (.goto 17, 3) := by decide +kernel
theorem dX9_determinant_28 : decode cX9_determinant 28 = .ok (.iload 4, 2) := by decide +kernel
theorem dX9_determinant_30 : decode cX9_determinant 30 = .ok (.iconst 3, 1) := by decide +kernel
theorem dX9_determinant_31 : decode cX9_determinant 31 = .ok (.if_icmp .ne 8, 3) := by decide +kernel
theorem dX9_determinant_34 : decode cX9_determinant 34 = .ok (.bipush 27, 2) := by decide +kernel
theorem dX9_determinant_36 : decode cX9_determinant 36 = .ok (.goto 6, 3) := by decide +kernel
theorem dX9_determinant_39 : decode cX9_determinant 39 = .ok (.sipush 256, 3) := by decide +kernel
theorem dX9_determinant_42 : decode cX9_determinant 42 = .ok (.istore 5, 2) := by decide +kernel
theorem dX9_determinant_44 : decode cX9_determinant 44 = .ok (.iconst 0, 1) := by decide +kernel
theorem dX9_determinant_45 : decode cX9_determinant 45 = .ok (.istore 6, 2) := by decide +kernel
theorem dX9_determinant_47 : decode cX9_determinant 47 = .ok (.iload 6, 2) := by decide +kernel
theorem dX9_determinant_49 : decode cX9_determinant 49 = .ok (.iload 5, 2) := by decide +kernel
theorem dX9_determinant_51 : decode cX9_determinant 51 = .ok (.if_icmp .ge 191, 3) := by decide +kernel
theorem dX9_determinant_54 : decode cX9_determinant 54 = .ok (.iload 6, 2) := by decide +kernel
theorem dX9_determinant_56 : decode cX9_determinant 56 = .ok (.istore 7, 2) := by decide +kernel
theorem dX9_determinant_58 : decode cX9_determinant 58 = .ok (.iconst 0, 1) := by decide +kernel
theorem dX9_determinant_59 : decode cX9_determinant 59 = .ok (.istore 8, 2) := by decide +kernel
theorem dX9_determinant_61 : decode cX9_determinant 61 = .ok (.iconst 0, 1) := by decide +kernel
theorem dX9_determinant_62 : decode cX9_determinant 62 = .ok (.istore 9, 2) := by decide +kernel
theorem dX9_determinant_64 : decode cX9_determinant 64 = .ok (.iload 9, 2) := by decide +kernel
theorem dX9_determinant_66 : decode cX9_determinant 66 = .ok (.iload 4, 2) := by decide +kernel
theorem dX9_determinant_68 : decode cX9_determinant 68 = .ok (.if_icmp .ge 42, 3) := by decide +kernel
theorem dX9_determinant_71 : decode cX9_determinant 71 = .ok (.aload_n 0, 1) := by decide +kernel
theorem dX9_determinant_72 : decode cX9_determinant 72 = .ok (.getfield 64, 3) := by decide +kernel
theorem dX9_determinant_75 : decode cX9_determinant 75 = .ok (.iload 9, 2) := by decide +kernel
theorem dX9_determinant_77 : decode cX9_determinant 77 = .ok (.iload 7, 2) := by decide +kernel
theorem dX9_determinant_79 : decode cX9_determinant 79 = .ok (.iload 4, 2) := by decide +kernel
theorem dX9_determinant_81 : decode cX9_determinant 81 = .ok (.irem, 1) := by decide +kernel
theorem dX9_determinant_82 : decode cX9_determinant 82 = .ok (.iastore, 1) := by decide +kernel
theorem dX9_determinant_83 : decode cX9_determinant 83 = .ok (.iload 7, 2) := by decide +kernel
theorem dX9_determinant_85 : decode cX9_determinant 85 = .ok (.iload 4, 2) := by decide +kernel
theorem dX9_determinant_87 : decode cX9_determinant 87 = .ok (.idiv, 1) := by decide +kernel
theorem dX9_determinant_88 : decode cX9_determinant 88 = .ok (.istore 7, 2) := by decide +kernel
theorem dX9_determinant_90 : decode cX9_determinant 90 = .ok (.iload 8, 2) := by decide +kernel
theorem dX9_determinant_92 : decode cX9_determinant 92 = .ok (.iconst 1, 1) := by decide +kernel
theorem dX9_determinant_93 : decode cX9_determinant 93 = .ok (.aload_n 0, 1) := by decide +kernel
theorem dX9_determinant_94 : decode cX9_determinant 94 = .ok (.getfield 64, 3) := by decide +kernel
theorem dX9_determinant_97 : decode cX9_determinant 97 = .ok (.iload 9, 2) := by decide +kernel
theorem dX9_determinant_99 : decode cX9_determinant 99 = .ok (.iaload, 1) := by decide +kernel
theorem dX9_determinant_100 : decode cX9_determinant 100 = .ok (.ishl, 1) := by decide +kernel
theorem dX9_determinant_101 : decode cX9_determinant 101 = .ok (.ior, 1) := by decide +kernel
theorem dX9_determinant_102 : decode cX9_determinant 102 = .ok (.istore 8, 2) := by decide +kernel
theorem dX9_determinant_104 : decode cX9_determinant 104 = .ok (.iinc 9 1, 3) := by decide +kernel
theorem dX9_determinant_107 : decode cX9_determinant 107 = .ok (.goto (-43), 3) := by decide +kernel
theorem dX9_determinant_110 : decode cX9_determinant 110 = .ok (.iload 8, 2) := by decide +kernel
theorem dX9_determinant_112 : decode cX9_determinant 112 = .ok (.iconst 1, 1) := by decide +kernel
theorem dX9_determinant_113 : decode cX9_determinant 113 = .ok (.iload 4, 2) := by decide +kernel
theorem dX9_determinant_115 : decode cX9_determinant 115 = .ok (.ishl, 1) := by decide +kernel
theorem dX9_determinant_116 : decode cX9_determinant 116 = .ok (.iconst 1, 1) := by decide +kernel
theorem dX9_determinant_117 : decode cX9_determinant 117 = .ok (.isub, 1) := by decide +kernel
theorem dX9_determinant_118 : decode cX9_determinant 118 = .ok (.if_icmp .ne 118, 3) := by decide +kernel
theorem dX9_determinant_121 : decode cX9_determinant 121 = .ok (.lconst 1, 1) := by decide +kernel
theorem dX9_determinant_122 : decode cX9_determinant 122 = .ok (.lstore 9, 2) := by decide +kernel
theorem dX9_determinant_124 : decode cX9_determinant 124 = .ok (.iconst 0, 1) := by decide +kernel
theorem dX9_determinant_125 : decode cX9_determinant 125 = .ok (.istore 11, 2) := by decide +kernel
theorem dX9_determinant_127 : decode cX9_determinant 127 = .ok (.iload 11, 2) := by decide +kernel
theorem dX9_determinant_129 : decode cX9_determinant 129 = .ok (.iload 4, 2) := by decide +kernel
theorem dX9_determinant_131 : decode cX9_determinant 131 = .ok (.if_icmp .ge 100, 3) := by decide +kernel
theorem dX9_determinant_134 : decode cX9_determinant 134 = .ok (.aload_n 0, 1) := by decide +kernel
theorem dX9_determinant_135 : decode cX9_determinant 135 = .ok (.getfield 64, 3) := by decide +kernel
theorem dX9_determinant_138 : decode cX9_determinant 138 = .ok (.iload 11, 2) := by decide +kernel
theorem dX9_determinant_140 : decode cX9_determinant 140 = .ok (.iaload, 1) := by decide +kernel
theorem dX9_determinant_141 : decode cX9_determinant 141 = .ok (.iload_n 1, 1) := by decide +kernel
theorem dX9_determinant_142 : decode cX9_determinant 142 = .ok (.if_icmp .ne 8, 3) := by decide +kernel
theorem dX9_determinant_145 : decode cX9_determinant 145 = .ok (.iload 4, 2) := by decide +kernel
theorem dX9_determinant_147 : decode cX9_determinant 147 = .ok (.goto 10, 3) := by decide +kernel
theorem dX9_determinant_150 : decode cX9_determinant 150 = .ok (.aload_n 0, 1) := by decide +kernel
theorem dX9_determinant_151 : decode cX9_determinant 151 = .ok (.getfield 64, 3) := by decide +kernel
theorem dX9_determinant_154 : decode cX9_determinant 154 = .ok (.iload 11, 2) := by decide +kernel
theorem dX9_determinant_156 : decode cX9_determinant 156 = .ok (.iaload, 1) := by decide +kernel
theorem dX9_determinant_157 : decode cX9_determinant 157 = .ok (.istore 12, 2) := by decide +kernel
theorem dX9_determinant_159 : decode cX9_determinant 159 = .ok (.lload 9, 2) := by decide +kernel
theorem dX9_determinant_161 : decode cX9_determinant 161 = .ok (.aload_n 0, 1) := by decide +kernel
theorem dX9_determinant_162 : decode cX9_determinant 162 = .ok (.getfield 40, 3) := by decide +kernel
theorem dX9_determinant_165 : decode cX9_determinant 165 = .ok (.iconst 5, 1) := by decide +kernel
theorem dX9_determinant_166 : decode cX9_determinant 166 = .ok (.aload_n 0, 1) := by decide +kernel
theorem dX9_determinant_167 : decode cX9_determinant 167 = .ok (.getfield 61, 3) := by decide +kernel
theorem dX9_determinant_170 : decode cX9_determinant 170 = .ok (.iload 11, 2) := by decide +kernel
theorem dX9_determinant_172 : decode cX9_determinant 172 = .ok (.iaload, 1) := by decide +kernel
theorem dX9_determinant_173 : decode cX9_determinant 173 = .ok (.imul, 1) := by decide +kernel
theorem dX9_determinant_174 : decode cX9_determinant 174 = .ok (.iload 12, 2) := by decide +kernel
theorem dX9_determinant_176 : decode cX9_determinant 176 = .ok (.iadd, 1) := by decide +kernel
theorem dX9_determinant_177 : decode cX9_determinant 177 = .ok (.iaload, 1) := by decide +kernel
theorem dX9_determinant_178 : decode cX9_determinant 178 = .ok (.i2l, 1) := by decide +kernel
theorem dX9_determinant_179 : decode cX9_determinant 179 = .ok (.lmul, 1) := by decide +kernel
theorem dX9_determinant_180 : decode cX9_determinant 180 = .ok (.lstore 9, 2) := by decide +kernel
theorem dX9_determinant_182 : decode cX9_determinant 182 = .ok (.iconst 0, 1) := by decide +kernel
theorem dX9_determinant_183 : decode cX9_determinant 183 = .ok (.istore 13, 2) := by decide +kernel
theorem dX9_determinant_185 : decode cX9_determinant 185 = .ok (.iload 13, 2) := by decide +kernel
theorem dX9_determinant_187 : decode cX9_determinant 187 = .ok (.iload 11, 2) := by decide +kernel
theorem dX9_determinant_189 : decode cX9_determinant 189 = .ok (.if_icmp .ge 36, 3) := by decide +kernel
theorem dX9_determinant_192 : decode cX9_determinant 192 = .ok (.aload_n 0, 1) := by decide +kernel
theorem dX9_determinant_193 : decode cX9_determinant 193 = .ok (.getfield 64, 3) := by decide +kernel
theorem dX9_determinant_196 : decode cX9_determinant 196 = .ok (.iload 13, 2) := by decide +kernel
theorem dX9_determinant_198 : decode cX9_determinant 198 = .ok (.iaload, 1) := by decide +kernel
theorem dX9_determinant_199 : decode cX9_determinant 199 = .ok (.aload_n 0, 1) := by decide +kernel
theorem dX9_determinant_200 : decode cX9_determinant 200 = .ok (.getfield 64, 3) := by decide +kernel
theorem dX9_determinant_203 : decode cX9_determinant 203 = .ok (.iload 11, 2) := by decide +kernel
theorem dX9_determinant_205 : decode cX9_determinant 205 = .ok (.iaload, 1) := by decide +kernel
theorem dX9_determinant_206 : decode cX9_determinant 206 = .ok (.if_icmp .le 9, 3) := by decide +kernel
theorem dX9_determinant_209 : decode cX9_determinant 209 = .ok (.lload 9, 2) := by decide +kernel
theorem dX9_determinant_211 : decode cX9_determinant 211 = .ok (.lneg, 1) := by decide +kernel
theorem dX9_determinant_212 : decode cX9_determinant 212 = .ok (.goto 5, 3) := by decide +kernel
theorem dX9_determinant_215 : decode cX9_determinant 215 = .ok (.lload 9, 2) := by decide +kernel
theorem dX9_determinant_217 : decode cX9_determinant 217 = .ok (.lstore 9, 2) := by decide +kernel
theorem dX9_determinant_219 : decode cX9_determinant 219 = .ok (.iinc 13 1, 3) := by decide +kernel
theorem dX9_determinant_222 : decode cX9_determinant 222 = .ok (.goto (-37), 3) := by decide +kernel
theorem dX9_determinant_225 : decode cX9_determinant 225 = .ok (.iinc 11 1, 3) := by decide +kernel
theorem dX9_determinant_228 : decode cX9_determinant 228 = .ok (.goto (-101), 3) := by decide +kernel
theorem dX9_determinant_231 : decode cX9_determinant 231 = .ok (.lload_n 2, 1) := by decide +kernel
theorem dX9_determinant_232 : decode cX9_determinant 232 = .ok (.lload 9, 2) := by decide +kernel
theorem dX9_determinant_234 : decode cX9_determinant 234 = .ok (.ladd, 1) := by decide +kernel
theorem dX9_determinant_235 : decode cX9_determinant 235 = .ok (.lstore_n 2, 1) := by decide +kernel
theorem dX9_determinant_236 : decode cX9_determinant 236 = .ok (.iinc 6 1, 3) := by decide +kernel
theorem dX9_determinant_239 : decode cX9_determinant 239 = .ok (.goto (-192), 3) := by decide +kernel
theorem dX9_determinant_242 : decode cX9_determinant 242 = .ok (.lload_n 2, 1) := by decide +kernel
theorem dX9_determinant_243 : decode cX9_determinant 243 = .ok (.lreturn, 1) := by decide +kernel
set_option maxRecDepth 20000 in
theorem ggX9_answer_X9_in : GoodIn wsX9_answer wsX9_in := goodIn_r _ [8] (by decide +kernel) (by decide +kernel)
set_option maxRecDepth 20000 in
theorem gX9_answer_X9_in : GoodIn wsX9_answer (va_wsS RX9 69 yX9_in wsX9_in) := goodIn_app (goodIn_of _ (by decide +kernel)) ggX9_answer_X9_in
set_option maxRecDepth 20000 in
theorem ggX9_answer_X9_kindOf : GoodIn wsX9_answer wsX9_kindOf := goodIn_r _ [12, 13, 14, 15, 1, 16, 17, 18, 19, 7, 20, 21, 22, 23, 24, 25, 26, 27, 28, 29, 30, 31, 32, 33, 34, 35, 36, 37, 43, 44, 45, 46, 47, 48, 49, 50, 51, 52, 53, 54, 55, 56, 57, 58, 59, 60, 61, 62, 63, 64, 65, 66, 67, 68, 69] (by decide +kernel) (by decide +kernel)
set_option maxRecDepth 20000 in
theorem gX9_answer_X9_kindOf : GoodIn wsX9_answer (wsV RX9 227 RX9 yX9_kindOf wsX9_kindOf) := goodIn_app (goodIn_of _ (by decide +kernel)) ggX9_answer_X9_kindOf
set_option maxRecDepth 20000 in
theorem ggX9_answer_X9_determinant : GoodIn wsX9_answer wsX9_determinant := goodIn_r _ [41, 1, 42, 21, 22, 43, 44, 45, 46, 47, 48, 49, 50, 51, 52, 53, 54, 55, 56, 57, 58, 59, 60, 61, 62, 63, 64, 65, 66, 67, 68, 69] (by decide +kernel) (by decide +kernel)
set_option maxRecDepth 20000 in
theorem gX9_answer_X9_determinant : GoodIn wsX9_answer (wsV RX9 232 RX9 yX9_determinant wsX9_determinant) := goodIn_app (goodIn_of _ (by decide +kernel)) ggX9_answer_X9_determinant
set_option maxRecDepth 20000 in
theorem ggX9_answer_X9_common : GoodIn wsX9_answer wsX9_common := goodIn_r _ [34, 35, 36, 7, 37] (by decide +kernel) (by decide +kernel)
set_option maxRecDepth 20000 in
theorem gX9_answer_X9_common : GoodIn wsX9_answer (va_wsS RX9 203 yX9_common wsX9_common) := goodIn_app (goodIn_of _ (by decide +kernel)) ggX9_answer_X9_common
theorem dX9_answer_0 : decode cX9_answer 0 = .ok (.iload_n 1, 1) := by decide +kernel
theorem dX9_answer_1 : decode cX9_answer 1 = .ok (.i2l, 1) := by decide +kernel
theorem dX9_answer_2 : decode cX9_answer 2 = .ok (.lconst 0, 1) := by decide +kernel
theorem dX9_answer_3 : decode cX9_answer 3 = .ok (.aload_n 0, 1) := by decide +kernel
theorem dX9_answer_4 : decode cX9_answer 4 = .ok (.getfield 33, 3) := by decide +kernel
theorem dX9_answer_7 : decode cX9_answer 7 = .ok (.iconst 1, 1) := by decide +kernel
theorem dX9_answer_8 : decode cX9_answer 8 = .ok (.isub, 1) := by decide +kernel
theorem dX9_answer_9 : decode cX9_answer 9 = .ok (.i2l, 1) := by decide +kernel
theorem dX9_answer_10 : decode cX9_answer 10 = .ok (.invokestatic 69, 3) := by decide +kernel
theorem dX9_answer_13 : decode cX9_answer 13 = .ok (.ifCond .ne 7, 3) := by decide +kernel
theorem dX9_answer_16 : decode cX9_answer 16 = .ok (.ldc2_w 101, 3) := by decide +kernel
theorem dX9_answer_19 : decode cX9_answer 19 = .ok (.lreturn, 1) := by decide +kernel
theorem dX9_answer_20 : decode cX9_answer 20 = .ok (.iload_n 2, 1) := by decide +kernel
theorem dX9_answer_21 : decode cX9_answer 21 = .ok (.i2l, 1) := by decide +kernel
theorem dX9_answer_22 : decode cX9_answer 22 = .ok (.lconst 0, 1) := by decide +kernel
theorem dX9_answer_23 : decode cX9_answer 23 = .ok (.lconst 1, 1) := by decide +kernel
theorem dX9_answer_24 : decode cX9_answer 24 = .ok (.invokestatic 69, 3) := by decide +kernel
theorem dX9_answer_27 : decode cX9_answer 27 = .ok (.ifCond .ne 7, 3) := by decide +kernel
theorem dX9_answer_30 : decode cX9_answer 30 = .ok (.ldc2_w 230, 3) := by decide +kernel
theorem dX9_answer_33 : decode cX9_answer 33 = .ok (.lreturn, 1) := by decide +kernel
theorem dX9_answer_34 : decode cX9_answer 34 = .ok (.aload_n 0, 1) := by decide +kernel
theorem dX9_answer_35 : decode cX9_answer 35 = .ok (.invokevirtual 227, 3) := by decide +kernel
theorem dX9_answer_38 : decode cX9_answer 38 = .ok (.iconst 1, 1) := by decide +kernel
theorem dX9_answer_39 : decode cX9_answer 39 = .ok (.if_icmp .eq 7, 3) := by decide +kernel
theorem dX9_answer_42 : decode cX9_answer 42 = .ok (.ldc2_w 169, 3) := by decide +kernel
theorem dX9_answer_45 : decode cX9_answer 45 = .ok (.lreturn, 1) := by decide +kernel
theorem dX9_answer_46 : decode cX9_answer 46 = .ok (.aload_n 0, 1) := by decide +kernel
theorem dX9_answer_47 : decode cX9_answer 47 = .ok (.iconst (-1), 1) := by decide +kernel
theorem dX9_answer_48 : decode cX9_answer 48 = .ok (.invokevirtual 232, 3) := by decide +kernel
theorem dX9_answer_51 : decode cX9_answer 51 = .ok (.lstore_n 3, 1) := by decide +kernel
theorem dX9_answer_52 : decode cX9_answer 52 = .ok (.aload_n 0, 1) := by decide +kernel
theorem dX9_answer_53 : decode cX9_answer 53 = .ok (.iload_n 1, 1) := by decide +kernel
theorem dX9_answer_54 : decode cX9_answer 54 = .ok (.invokevirtual 232, 3) := by decide +kernel
theorem dX9_answer_57 : decode cX9_answer 57 = .ok (.lstore 5, 2) := by decide +kernel
theorem dX9_answer_59 : decode cX9_answer 59 = .ok (.lload 5, 2) := by decide +kernel
theorem dX9_answer_61 : decode cX9_answer 61 = .ok (.lload_n 3, 1) := by decide +kernel
theorem dX9_answer_62 : decode cX9_answer 62 = .ok (.invokestatic 203, 3) := by decide +kernel
theorem dX9_answer_65 : decode cX9_answer 65 = .ok (.lstore 7, 2) := by decide +kernel
theorem dX9_answer_67 : decode cX9_answer 67 = .ok (.lload_n 3, 1) := by decide +kernel
theorem dX9_answer_68 : decode cX9_answer 68 = .ok (.lconst 0, 1) := by decide +kernel
theorem dX9_answer_69 : decode cX9_answer 69 = .ok (.lcmp, 1) := by decide +kernel
theorem dX9_answer_70 : decode cX9_answer 70 = .ok (.ifCond .ge 9, 3) := by decide +kernel
theorem dX9_answer_73 : decode cX9_answer 73 = .ok (.lload 7, 2) := by decide +kernel
theorem dX9_answer_75 : decode cX9_answer 75 = .ok (.lneg, 1) := by decide +kernel
theorem dX9_answer_76 : decode cX9_answer 76 = .ok (.goto 5, 3) := by decide +kernel
theorem dX9_answer_79 : decode cX9_answer 79 = .ok (.lload 7, 2) := by decide +kernel
theorem dX9_answer_81 : decode cX9_answer 81 = .ok (.lstore 7, 2) := by decide +kernel
theorem dX9_answer_83 : decode cX9_answer 83 = .ok (.iload_n 2, 1) := by decide +kernel
theorem dX9_answer_84 : decode cX9_answer 84 = .ok (.ifCond .ne 11, 3) := by decide +kernel
theorem dX9_answer_87 : decode cX9_answer 87 = .ok (.lload 5, 2) := by decide +kernel
theorem dX9_answer_89 : decode cX9_answer 89 = .ok (.lload 7, 2) := by decide +kernel
theorem dX9_answer_91 : decode cX9_answer 91 = .ok (.ldiv, 1) := by decide +kernel
theorem dX9_answer_92 : decode cX9_answer 92 = .ok (.goto 7, 3) := by decide +kernel
theorem dX9_answer_95 : decode cX9_answer 95 = .ok (.lload_n 3, 1) := by decide +kernel
theorem dX9_answer_96 : decode cX9_answer 96 = .ok (.lload 7, 2) := by decide +kernel
theorem dX9_answer_98 : decode cX9_answer 98 = .ok (.ldiv, 1) := by decide +kernel
theorem dX9_answer_99 : decode cX9_answer 99 = .ok (.lreturn, 1) := by decide +kernel
set_option maxRecDepth 20000 in
theorem ggX9_free_X9_in : GoodIn wsX9_free wsX9_in := goodIn_r _ [6] (by decide +kernel) (by decide +kernel)
set_option maxRecDepth 20000 in
theorem gX9_free_X9_in : GoodIn wsX9_free (va_wsS RX9 69 yX9_in wsX9_in) := goodIn_app (goodIn_of _ (by decide +kernel)) ggX9_free_X9_in
set_option maxRecDepth 20000 in
theorem ggX9_free_X9_clear : GoodIn wsX9_free wsX9_clear := goodIn_r _ [10, 11, 12, 13, 14, 2, 1, 15, 16, 17, 18, 19, 5, 20, 21, 22, 23, 24, 25, 26, 27, 28, 29, 30, 31, 32, 33, 34, 35, 36, 37, 38, 39, 40, 41, 42, 43, 44, 45, 46, 47, 48, 49, 50, 51, 52, 53, 54, 55, 56, 57] (by decide +kernel) (by decide +kernel)
set_option maxRecDepth 20000 in
theorem gX9_free_X9_clear : GoodIn wsX9_free (wsV RX9 224 RX9 yX9_clear wsX9_clear) := goodIn_app (goodIn_of _ (by decide +kernel)) ggX9_free_X9_clear
theorem dX9_free_0 : decode cX9_free 0 = .ok (.iload_n 1, 1) := by decide +kernel
theorem dX9_free_1 : decode cX9_free 1 = .ok (.i2l, 1) := by decide +kernel
theorem dX9_free_2 : decode cX9_free 2 = .ok (.lconst 0, 1) := by decide +kernel
theorem dX9_free_3 : decode cX9_free 3 = .ok (.aload_n 0, 1) := by decide +kernel
theorem dX9_free_4 : decode cX9_free 4 = .ok (.getfield 33, 3) := by decide +kernel
theorem dX9_free_7 : decode cX9_free 7 = .ok (.iconst 1, 1) := by decide +kernel
theorem dX9_free_8 : decode cX9_free 8 = .ok (.isub, 1) := by decide +kernel
theorem dX9_free_9 : decode cX9_free 9 = .ok (.i2l, 1) := by decide +kernel
theorem dX9_free_10 : decode cX9_free 10 = .ok (.invokestatic 69, 3) := by decide +kernel
theorem dX9_free_13 : decode cX9_free 13 = .ok (.ifCond .ne 5, 3) := by decide +kernel
theorem dX9_free_16 : decode cX9_free 16 = .ok (.iconst (-1), 1) := by decide +kernel
theorem dX9_free_17 : decode cX9_free 17 = .ok (.ireturn, 1) := by decide +kernel
theorem dX9_free_18 : decode cX9_free 18 = .ok (.aload_n 0, 1) := by decide +kernel
theorem dX9_free_19 : decode cX9_free 19 = .ok (.invokevirtual 224, 3) := by decide +kernel
theorem dX9_free_22 : decode cX9_free 22 = .ok (.aload_n 0, 1) := by decide +kernel
theorem dX9_free_23 : decode cX9_free 23 = .ok (.getfield 210, 3) := by decide +kernel
theorem dX9_free_26 : decode cX9_free 26 = .ok (.iload_n 1, 1) := by decide +kernel
theorem dX9_free_27 : decode cX9_free 27 = .ok (.ishr, 1) := by decide +kernel
theorem dX9_free_28 : decode cX9_free 28 = .ok (.iconst 1, 1) := by decide +kernel
theorem dX9_free_29 : decode cX9_free 29 = .ok (.iand, 1) := by decide +kernel
theorem dX9_free_30 : decode cX9_free 30 = .ok (.ireturn, 1) := by decide +kernel
set_option maxRecDepth 20000 in
theorem ggX9_count_X9_in : GoodIn wsX9_count wsX9_in := goodIn_r _ [9] (by decide +kernel) (by decide +kernel)
set_option maxRecDepth 20000 in
theorem gX9_count_X9_in : GoodIn wsX9_count (va_wsS RX9 69 yX9_in wsX9_in) := goodIn_app (goodIn_of _ (by decide +kernel)) ggX9_count_X9_in
theorem dX9_count_0 : decode cX9_count 0 = .ok (.iload_n 1, 1) := by decide +kernel
theorem dX9_count_1 : decode cX9_count 1 = .ok (.i2l, 1) := by decide +kernel
theorem dX9_count_2 : decode cX9_count 2 = .ok (.ldc2_w 155, 3) := by decide +kernel
theorem dX9_count_5 : decode cX9_count 5 = .ok (.ldc2_w 235, 3) := by decide +kernel
theorem dX9_count_8 : decode cX9_count 8 = .ok (.invokestatic 69, 3) := by decide +kernel
theorem dX9_count_11 : decode cX9_count 11 = .ok (.ifCond .eq 16, 3) := by decide +kernel
theorem dX9_count_14 : decode cX9_count 14 = .ok (.iload_n 2, 1) := by decide +kernel
theorem dX9_count_15 : decode cX9_count 15 = .ok (.i2l, 1) := by decide +kernel
theorem dX9_count_16 : decode cX9_count 16 = .ok (.lconst 0, 1) := by decide +kernel
theorem dX9_count_17 : decode cX9_count 17 = .ok (.iload_n 1, 1) := by decide +kernel
theorem dX9_count_18 : decode cX9_count 18 = .ok (.iconst 1, 1) := by decide +kernel
theorem dX9_count_19 : decode cX9_count 19 = .ok (.isub, 1) := by decide +kernel
theorem dX9_count_20 : decode cX9_count 20 = .ok (.i2l, 1) := by decide +kernel
theorem dX9_count_21 : decode cX9_count 21 = .ok (.invokestatic 69, 3) := by decide +kernel
theorem dX9_count_24 : decode cX9_count 24 = .ok (.ifCond .ne 6, 3) := by decide +kernel
theorem dX9_count_27 : decode cX9_count 27 = .ok (.bipush (-2), 2) := by decide +kernel
theorem dX9_count_29 : decode cX9_count 29 = .ok (.ireturn, 1) := by decide +kernel
theorem dX9_count_30 : decode cX9_count 30 = .ok (.aload_n 0, 1) := by decide +kernel
theorem dX9_count_31 : decode cX9_count 31 = .ok (.getfield 237, 3) := by decide +kernel
theorem dX9_count_34 : decode cX9_count 34 = .ok (.bipush 6, 2) := by decide +kernel
theorem dX9_count_36 : decode cX9_count 36 = .ok (.if_icmp .ne 6, 3) := by decide +kernel
theorem dX9_count_39 : decode cX9_count 39 = .ok (.bipush (-4), 2) := by decide +kernel
theorem dX9_count_41 : decode cX9_count 41 = .ok (.ireturn, 1) := by decide +kernel
theorem dX9_count_42 : decode cX9_count 42 = .ok (.aload_n 0, 1) := by decide +kernel
theorem dX9_count_43 : decode cX9_count 43 = .ok (.getfield 43, 3) := by decide +kernel
theorem dX9_count_46 : decode cX9_count 46 = .ok (.aload_n 0, 1) := by decide +kernel
theorem dX9_count_47 : decode cX9_count 47 = .ok (.getfield 237, 3) := by decide +kernel
theorem dX9_count_50 : decode cX9_count 50 = .ok (.iload_n 1, 1) := by decide +kernel
theorem dX9_count_51 : decode cX9_count 51 = .ok (.iastore, 1) := by decide +kernel
theorem dX9_count_52 : decode cX9_count 52 = .ok (.aload_n 0, 1) := by decide +kernel
theorem dX9_count_53 : decode cX9_count 53 = .ok (.getfield 46, 3) := by decide +kernel
theorem dX9_count_56 : decode cX9_count 56 = .ok (.aload_n 0, 1) := by decide +kernel
theorem dX9_count_57 : decode cX9_count 57 = .ok (.getfield 237, 3) := by decide +kernel
theorem dX9_count_60 : decode cX9_count 60 = .ok (.iload_n 2, 1) := by decide +kernel
theorem dX9_count_61 : decode cX9_count 61 = .ok (.iastore, 1) := by decide +kernel
theorem dX9_count_62 : decode cX9_count 62 = .ok (.aload_n 0, 1) := by decide +kernel
theorem dX9_count_63 : decode cX9_count 63 = .ok (.dup, 1) := by decide +kernel
theorem dX9_count_64 : decode cX9_count 64 = .ok (.getfield 237, 3) := by decide +kernel
theorem dX9_count_67 : decode cX9_count 67 = .ok (.iconst 1, 1) := by decide +kernel
theorem dX9_count_68 : decode cX9_count 68 = .ok (.iadd, 1) := by decide +kernel
theorem dX9_count_69 : decode cX9_count 69 = .ok (.putfield 237, 3) := by decide +kernel
theorem dX9_count_72 : decode cX9_count 72 = .ok (.aload_n 0, 1) := by decide +kernel
theorem dX9_count_73 : decode cX9_count 73 = .ok (.getfield 237, 3) := by decide +kernel
theorem dX9_count_76 : decode cX9_count 76 = .ok (.ireturn, 1) := by decide +kernel
theorem dX9_drop_0 : decode cX9_drop 0 = .ok (.aload_n 0, 1) := by decide +kernel
theorem dX9_drop_1 : decode cX9_drop 1 = .ok (.getfield 237, 3) := by decide +kernel
theorem dX9_drop_4 : decode cX9_drop 4 = .ok (.istore_n 1, 1) := by decide +kernel
theorem dX9_drop_5 : decode cX9_drop 5 = .ok (.aload_n 0, 1) := by decide +kernel
theorem dX9_drop_6 : decode cX9_drop 6 = .ok (.iconst 0, 1) := by decide +kernel
theorem dX9_drop_7 : decode cX9_drop 7 = .ok (.putfield 237, 3) := by decide +kernel
theorem dX9_drop_10 : decode cX9_drop 10 = .ok (.iload_n 1, 1) := by decide +kernel
theorem dX9_drop_11 : decode cX9_drop 11 = .ok (.ireturn, 1) := by decide +kernel
set_option maxRecDepth 20000 in
theorem ggX9_clashing_X9_common : GoodIn wsX9_clashing wsX9_common := goodIn_r _ [7, 8, 9, 6, 10] (by decide +kernel) (by decide +kernel)
set_option maxRecDepth 20000 in
theorem gX9_clashing_X9_common : GoodIn wsX9_clashing (va_wsS RX9 203 yX9_common wsX9_common) := goodIn_app (goodIn_of _ (by decide +kernel)) ggX9_clashing_X9_common
theorem dX9_clashing_0 : decode cX9_clashing 0 = .ok (.iconst 0, 1) := by decide +kernel
theorem dX9_clashing_1 : decode cX9_clashing 1 = .ok (.istore_n 1, 1) := by decide +kernel
theorem dX9_clashing_2 : decode cX9_clashing 2 = .ok (.iload_n 1, 1) := by decide +kernel
theorem dX9_clashing_3 : decode cX9_clashing 3 = .ok (.aload_n 0, 1) := by decide +kernel
theorem dX9_clashing_4 : decode cX9_clashing 4 = .ok (.getfield 237, 3) := by decide +kernel
theorem dX9_clashing_7 : decode cX9_clashing 7 = .ok (.if_icmp .ge 61, 3) := by decide +kernel
theorem dX9_clashing_10 : decode cX9_clashing 10 = .ok (.iconst 0, 1) := by decide +kernel
theorem dX9_clashing_11 : decode cX9_clashing 11 = .ok (.istore_n 2, 1) := by decide +kernel
theorem dX9_clashing_12 : decode cX9_clashing 12 = .ok (.iload_n 2, 1) := by decide +kernel
theorem dX9_clashing_13 : decode cX9_clashing 13 = .ok (.iload_n 1, 1) := by decide +kernel
theorem dX9_clashing_14 : decode cX9_clashing 14 = .ok (.if_icmp .ge 48, 3) := by decide +kernel
theorem dX9_clashing_17 : decode cX9_clashing 17 = .ok (.aload_n 0, 1) := by decide +kernel
theorem dX9_clashing_18 : decode cX9_clashing 18 = .ok (.getfield 46, 3) := by decide +kernel
theorem dX9_clashing_21 : decode cX9_clashing 21 = .ok (.iload_n 1, 1) := by decide +kernel
theorem dX9_clashing_22 : decode cX9_clashing 22 = .ok (.iaload, 1) := by decide +kernel
theorem dX9_clashing_23 : decode cX9_clashing 23 = .ok (.aload_n 0, 1) := by decide +kernel
theorem dX9_clashing_24 : decode cX9_clashing 24 = .ok (.getfield 46, 3) := by decide +kernel
theorem dX9_clashing_27 : decode cX9_clashing 27 = .ok (.iload_n 2, 1) := by decide +kernel
theorem dX9_clashing_28 : decode cX9_clashing 28 = .ok (.iaload, 1) := by decide +kernel
theorem dX9_clashing_29 : decode cX9_clashing 29 = .ok (.isub, 1) := by decide +kernel
theorem dX9_clashing_30 : decode cX9_clashing 30 = .ok (.i2l, 1) := by decide +kernel
theorem dX9_clashing_31 : decode cX9_clashing 31 = .ok (.aload_n 0, 1) := by decide +kernel
theorem dX9_clashing_32 : decode cX9_clashing 32 = .ok (.getfield 43, 3) := by decide +kernel
theorem dX9_clashing_35 : decode cX9_clashing 35 = .ok (.iload_n 1, 1) := by decide +kernel
theorem dX9_clashing_36 : decode cX9_clashing 36 = .ok (.iaload, 1) := by decide +kernel
theorem dX9_clashing_37 : decode cX9_clashing 37 = .ok (.i2l, 1) := by decide +kernel
theorem dX9_clashing_38 : decode cX9_clashing 38 = .ok (.aload_n 0, 1) := by decide +kernel
theorem dX9_clashing_39 : decode cX9_clashing 39 = .ok (.getfield 43, 3) := by decide +kernel
theorem dX9_clashing_42 : decode cX9_clashing 42 = .ok (.iload_n 2, 1) := by decide +kernel
theorem dX9_clashing_43 : decode cX9_clashing 43 = .ok (.iaload, 1) := by decide +kernel
theorem dX9_clashing_44 : decode cX9_clashing 44 = .ok (.i2l, 1) := by decide +kernel
theorem dX9_clashing_45 : decode cX9_clashing 45 = .ok (.invokestatic 203, 3) := by decide +kernel
theorem dX9_clashing_48 : decode cX9_clashing 48 = .ok (.lrem, 1) := by decide +kernel
theorem dX9_clashing_49 : decode cX9_clashing 49 = .ok (.lconst 0, 1) := by decide +kernel
theorem dX9_clashing_50 : decode cX9_clashing 50 = .ok (.lcmp, 1) := by decide +kernel
theorem dX9_clashing_51 : decode cX9_clashing 51 = .ok (.ifCond .eq 5, 3) := by decide +kernel
theorem dX9_clashing_54 : decode cX9_clashing 54 = .ok (.iload_n 1, 1) := by decide +kernel
theorem dX9_clashing_55 : decode cX9_clashing 55 = .ok (.ireturn, 1) := by decide +kernel
theorem dX9_clashing_56 : decode cX9_clashing 56 = .ok (.iinc 2 1, 3) := by decide +kernel
theorem dX9_clashing_59 : decode cX9_clashing 59 = .ok (.goto (-47), 3) := by decide +kernel
theorem dX9_clashing_62 : decode cX9_clashing 62 = .ok (.iinc 1 1, 3) := by decide +kernel
theorem dX9_clashing_65 : decode cX9_clashing 65 = .ok (.goto (-63), 3) := by decide +kernel
theorem dX9_clashing_68 : decode cX9_clashing 68 = .ok (.bipush (-6), 2) := by decide +kernel
theorem dX9_clashing_70 : decode cX9_clashing 70 = .ok (.ireturn, 1) := by decide +kernel
set_option maxRecDepth 20000 in
theorem ggX9_joined_X9_in : GoodIn wsX9_joined wsX9_in := goodIn_r _ [9] (by decide +kernel) (by decide +kernel)
set_option maxRecDepth 20000 in
theorem gX9_joined_X9_in : GoodIn wsX9_joined (va_wsS RX9 69 yX9_in wsX9_in) := goodIn_app (goodIn_of _ (by decide +kernel)) ggX9_joined_X9_in
set_option maxRecDepth 20000 in
theorem ggX9_joined_X9_clashing : GoodIn wsX9_joined wsX9_clashing := goodIn_r _ [13, 3, 5, 4, 14, 15, 8, 16, 17, 18, 19, 20, 21, 22, 23, 24, 25, 26, 27, 28, 29, 30, 31, 32, 33, 34, 35, 36, 37, 38, 39, 40, 41, 42, 43, 44, 45, 46] (by decide +kernel) (by decide +kernel)
set_option maxRecDepth 20000 in
theorem gX9_joined_X9_clashing : GoodIn wsX9_joined (wsV RX9 240 RX9 yX9_clashing wsX9_clashing) := goodIn_app (goodIn_of _ (by decide +kernel)) ggX9_joined_X9_clashing
set_option maxRecDepth 20000 in
theorem ggX9_joined_X9_common : GoodIn wsX9_joined wsX9_common := goodIn_r _ [16, 17, 18, 8, 19] (by decide +kernel) (by decide +kernel)
set_option maxRecDepth 20000 in
theorem gX9_joined_X9_common : GoodIn wsX9_joined (va_wsS RX9 203 yX9_common wsX9_common) := goodIn_app (goodIn_of _ (by decide +kernel)) ggX9_joined_X9_common
theorem dX9_joined_0 : decode cX9_joined 0 = .ok (.iload_n 1, 1) := by decide +kernel
theorem dX9_joined_1 : decode cX9_joined 1 = .ok (.i2l, 1) := by decide +kernel
theorem dX9_joined_2 : decode cX9_joined 2 = .ok (.lconst 0, 1) := by decide +kernel
theorem dX9_joined_3 : decode cX9_joined 3 = .ok (.lconst 1, 1) := by decide +kernel
theorem dX9_joined_4 : decode cX9_joined 4 = .ok (.invokestatic 69, 3) := by decide +kernel
theorem dX9_joined_7 : decode cX9_joined 7 = .ok (.ifCond .ne 7, 3) := by decide +kernel
theorem dX9_joined_10 : decode cX9_joined 10 = .ok (.ldc2_w 230, 3) := by decide +kernel
theorem dX9_joined_13 : decode cX9_joined 13 = .ok (.lreturn, 1) := by decide +kernel
theorem dX9_joined_14 : decode cX9_joined 14 = .ok (.aload_n 0, 1) := by decide +kernel
theorem dX9_joined_15 : decode cX9_joined 15 = .ok (.invokevirtual 240, 3) := by decide +kernel
theorem dX9_joined_18 : decode cX9_joined 18 = .ok (.ifCond .lt 7, 3) := by decide +kernel
theorem dX9_joined_21 : decode cX9_joined 21 = .ok (.ldc2_w 243, 3) := by decide +kernel
theorem dX9_joined_24 : decode cX9_joined 24 = .ok (.lreturn, 1) := by decide +kernel
theorem dX9_joined_25 : decode cX9_joined 25 = .ok (.lconst 0, 1) := by decide +kernel
theorem dX9_joined_26 : decode cX9_joined 26 = .ok (.lstore_n 2, 1) := by decide +kernel
theorem dX9_joined_27 : decode cX9_joined 27 = .ok (.lconst 1, 1) := by decide +kernel
theorem dX9_joined_28 : decode cX9_joined 28 = .ok (.lstore 4, 2) := by decide +kernel
theorem dX9_joined_30 : decode cX9_joined 30 = .ok (.iconst 0, 1) := by decide +kernel
theorem dX9_joined_31 : decode cX9_joined 31 = .ok (.istore 6, 2) := by decide +kernel
theorem dX9_joined_33 : decode cX9_joined 33 = .ok (.iload 6, 2) := by decide +kernel
theorem dX9_joined_35 : decode cX9_joined 35 = .ok (.aload_n 0, 1) := by decide +kernel
theorem dX9_joined_36 : decode cX9_joined 36 = .ok (.getfield 237, 3) := by decide +kernel
theorem dX9_joined_39 : decode cX9_joined 39 = .ok (.if_icmp .ge 66, 3) := by decide +kernel
theorem dX9_joined_42 : decode cX9_joined 42 = .ok (.lload_n 2, 1) := by decide +kernel
