theorem dX8_write_22 : decode cX8_write 22 = .ok (.invokevirtual 139, 3) := by decide +kernel
theorem dX8_write_25 : decode cX8_write 25 = .ok (.ifCond .ne 5, 3) := by decide +kernel
theorem dX8_write_28 : decode cX8_write 28 = .ok (.iconst (-1), 1) := by decide +kernel
theorem dX8_write_29 : decode cX8_write 29 = .ok (.ireturn, 1) := by decide +kernel
theorem dX8_write_30 : decode cX8_write 30 = .ok (.lload_n 3, 1) := by decide +kernel
theorem dX8_write_31 : decode cX8_write 31 = .ok (.invokestatic 52, 3) := by decide +kernel
theorem dX8_write_34 : decode cX8_write 34 = .ok (.ifCond .eq 6, 3) := by decide +kernel
theorem dX8_write_37 : decode cX8_write 37 = .ok (.bipush (-2), 2) := by decide +kernel
theorem dX8_write_39 : decode cX8_write 39 = .ok (.ireturn, 1) := by decide +kernel
theorem dX8_write_40 : decode cX8_write 40 = .ok (.aload_n 0, 1) := by decide +kernel
theorem dX8_write_41 : decode cX8_write 41 = .ok (.getfield 26, 3) := by decide +kernel
theorem dX8_write_44 : decode cX8_write 44 = .ok (.iload_n 1, 1) := by decide +kernel
theorem dX8_write_45 : decode cX8_write 45 = .ok (.iload_n 2, 1) := by decide +kernel
theorem dX8_write_46 : decode cX8_write 46 = .ok (.lload_n 3, 1) := by decide +kernel
theorem dX8_write_47 : decode cX8_write 47 = .ok (.invokevirtual 162, 3) := by decide +kernel
theorem dX8_write_50 : decode cX8_write 50 = .ok (.ireturn, 1) := by decide +kernel
set_option maxRecDepth 20000 in
theorem ggX8_gap_X1_hasCopy : GoodIn wsX8_gap wsX1_hasCopy := goodIn_r _ [7, 8, 9, 10, 11, 12, 13, 14, 40, 41, 42, 43] (by decide +kernel) (by decide +kernel)
set_option maxRecDepth 20000 in
theorem gX8_gap_X1_hasCopy : GoodIn wsX8_gap (wsV RX8 158 RX1 yX1_hasCopy wsX1_hasCopy) := goodIn_app (goodIn_of _ (by decide +kernel)) ggX8_gap_X1_hasCopy
set_option maxRecDepth 20000 in
theorem ggX8_gap_X3_has : GoodIn wsX8_gap wsX3_has := goodIn_r _ [18, 14, 19, 20, 21, 41, 42, 43] (by decide +kernel) (by decide +kernel)
set_option maxRecDepth 20000 in
theorem gX8_gap_X3_has : GoodIn wsX8_gap (wsV RX8 139 RX3 yX3_has wsX3_has) := goodIn_app (goodIn_of _ (by decide +kernel)) ggX8_gap_X3_has
set_option maxRecDepth 20000 in
theorem ggX8_gap_X1_change : GoodIn wsX8_gap wsX1_change := goodIn_r _ [25, 8, 26, 27, 28, 12, 29, 30, 31, 32, 33, 34, 40, 41, 42, 43] (by decide +kernel) (by decide +kernel)
set_option maxRecDepth 20000 in
theorem gX8_gap_X1_change : GoodIn wsX8_gap (wsV RX8 162 RX1 yX1_change wsX1_change) := goodIn_app (goodIn_of _ (by decide +kernel)) ggX8_gap_X1_change
theorem dX8_gap_0 : decode cX8_gap 0 = .ok (.aload_n 0, 1) := by decide +kernel
theorem dX8_gap_1 : decode cX8_gap 1 = .ok (.getfield 26, 3) := by decide +kernel
theorem dX8_gap_4 : decode cX8_gap 4 = .ok (.invokevirtual 158, 3) := by decide +kernel
theorem dX8_gap_7 : decode cX8_gap 7 = .ok (.ifCond .ne 6, 3) := by decide +kernel
theorem dX8_gap_10 : decode cX8_gap 10 = .ok (.bipush (-3), 2) := by decide +kernel
theorem dX8_gap_12 : decode cX8_gap 12 = .ok (.ireturn, 1) := by decide +kernel
theorem dX8_gap_13 : decode cX8_gap 13 = .ok (.aload_n 0, 1) := by decide +kernel
theorem dX8_gap_14 : decode cX8_gap 14 = .ok (.getfield 26, 3) := by decide +kernel
theorem dX8_gap_17 : decode cX8_gap 17 = .ok (.getfield 157, 3) := by decide +kernel
theorem dX8_gap_20 : decode cX8_gap 20 = .ok (.iload_n 1, 1) := by decide +kernel
theorem dX8_gap_21 : decode cX8_gap 21 = .ok (.iload_n 2, 1) := by decide +kernel
theorem dX8_gap_22 : decode cX8_gap 22 = .ok (.invokevirtual 139, 3) := by decide +kernel
theorem dX8_gap_25 : decode cX8_gap 25 = .ok (.ifCond .ne 5, 3) := by decide +kernel
theorem dX8_gap_28 : decode cX8_gap 28 = .ok (.iconst (-1), 1) := by decide +kernel
theorem dX8_gap_29 : decode cX8_gap 29 = .ok (.ireturn, 1) := by decide +kernel
theorem dX8_gap_30 : decode cX8_gap 30 = .ok (.aload_n 0, 1) := by decide +kernel
theorem dX8_gap_31 : decode cX8_gap 31 = .ok (.getfield 26, 3) := by decide +kernel
theorem dX8_gap_34 : decode cX8_gap 34 = .ok (.iload_n 1, 1) := by decide +kernel
theorem dX8_gap_35 : decode cX8_gap 35 = .ok (.iload_n 2, 1) := by decide +kernel
theorem dX8_gap_36 : decode cX8_gap 36 = .ok (.ldc2_w 120, 3) := by decide +kernel
theorem dX8_gap_39 : decode cX8_gap 39 = .ok (.invokevirtual 162, 3) := by decide +kernel
theorem dX8_gap_42 : decode cX8_gap 42 = .ok (.ireturn, 1) := by decide +kernel
set_option maxRecDepth 20000 in
theorem ggX8_read_X1_hasCopy : GoodIn wsX8_read wsX1_hasCopy := goodIn_r _ [10, 11, 12, 13, 14, 15, 16, 17, 35, 36, 37, 38] (by decide +kernel) (by decide +kernel)
set_option maxRecDepth 20000 in
theorem gX8_read_X1_hasCopy : GoodIn wsX8_read (wsV RX8 158 RX1 yX1_hasCopy wsX1_hasCopy) := goodIn_app (goodIn_of _ (by decide +kernel)) ggX8_read_X1_hasCopy
set_option maxRecDepth 20000 in
theorem ggX8_read_X3_has : GoodIn wsX8_read wsX3_has := goodIn_r _ [21, 17, 22, 23, 24, 36, 37, 38] (by decide +kernel) (by decide +kernel)
set_option maxRecDepth 20000 in
theorem gX8_read_X3_has : GoodIn wsX8_read (wsV RX8 139 RX3 yX3_has wsX3_has) := goodIn_app (goodIn_of _ (by decide +kernel)) ggX8_read_X3_has
set_option maxRecDepth 20000 in
theorem ggX8_read_X3_cell : GoodIn wsX8_read wsX3_cell := goodIn_r _ [28, 29, 36, 37, 38] (by decide +kernel) (by decide +kernel)
set_option maxRecDepth 20000 in
theorem gX8_read_X3_cell : GoodIn wsX8_read (wsV RX8 143 RX3 yX3_cell wsX3_cell) := goodIn_app (goodIn_of _ (by decide +kernel)) ggX8_read_X3_cell
theorem dX8_read_0 : decode cX8_read 0 = .ok (.aload_n 0, 1) := by decide +kernel
theorem dX8_read_1 : decode cX8_read 1 = .ok (.getfield 26, 3) := by decide +kernel
theorem dX8_read_4 : decode cX8_read 4 = .ok (.invokevirtual 158, 3) := by decide +kernel
theorem dX8_read_7 : decode cX8_read 7 = .ok (.ifCond .ne 7, 3) := by decide +kernel
theorem dX8_read_10 : decode cX8_read 10 = .ok (.ldc2_w 166, 3) := by decide +kernel
theorem dX8_read_13 : decode cX8_read 13 = .ok (.lreturn, 1) := by decide +kernel
theorem dX8_read_14 : decode cX8_read 14 = .ok (.aload_n 0, 1) := by decide +kernel
theorem dX8_read_15 : decode cX8_read 15 = .ok (.getfield 26, 3) := by decide +kernel
theorem dX8_read_18 : decode cX8_read 18 = .ok (.getfield 157, 3) := by decide +kernel
theorem dX8_read_21 : decode cX8_read 21 = .ok (.iload_n 1, 1) := by decide +kernel
theorem dX8_read_22 : decode cX8_read 22 = .ok (.iload_n 2, 1) := by decide +kernel
theorem dX8_read_23 : decode cX8_read 23 = .ok (.invokevirtual 139, 3) := by decide +kernel
theorem dX8_read_26 : decode cX8_read 26 = .ok (.ifCond .ne 7, 3) := by decide +kernel
theorem dX8_read_29 : decode cX8_read 29 = .ok (.ldc2_w 70, 3) := by decide +kernel
theorem dX8_read_32 : decode cX8_read 32 = .ok (.lreturn, 1) := by decide +kernel
theorem dX8_read_33 : decode cX8_read 33 = .ok (.aload_n 0, 1) := by decide +kernel
theorem dX8_read_34 : decode cX8_read 34 = .ok (.getfield 26, 3) := by decide +kernel
theorem dX8_read_37 : decode cX8_read 37 = .ok (.getfield 157, 3) := by decide +kernel
theorem dX8_read_40 : decode cX8_read 40 = .ok (.iload_n 1, 1) := by decide +kernel
theorem dX8_read_41 : decode cX8_read 41 = .ok (.iload_n 2, 1) := by decide +kernel
theorem dX8_read_42 : decode cX8_read 42 = .ok (.invokevirtual 143, 3) := by decide +kernel
theorem dX8_read_45 : decode cX8_read 45 = .ok (.lstore_n 3, 1) := by decide +kernel
theorem dX8_read_46 : decode cX8_read 46 = .ok (.lload_n 3, 1) := by decide +kernel
theorem dX8_read_47 : decode cX8_read 47 = .ok (.ldc2_w 120, 3) := by decide +kernel
theorem dX8_read_50 : decode cX8_read 50 = .ok (.lcmp, 1) := by decide +kernel
theorem dX8_read_51 : decode cX8_read 51 = .ok (.ifCond .ne 9, 3) := by decide +kernel
theorem dX8_read_54 : decode cX8_read 54 = .ok (.ldc2_w 168, 3) := by decide +kernel
theorem dX8_read_57 : decode cX8_read 57 = .ok (.goto 4, 3) := by decide +kernel
theorem dX8_read_60 : decode cX8_read 60 = .ok (.lload_n 3, 1) := by decide +kernel
theorem dX8_read_61 : decode cX8_read 61 = .ok (.lreturn, 1) := by decide +kernel
set_option maxRecDepth 20000 in
theorem ggX8_right_X1_hasCopy : GoodIn wsX8_right wsX1_hasCopy := goodIn_r _ [6, 7, 8, 9, 10, 11, 12, 13, 90, 91, 92, 93] (by decide +kernel) (by decide +kernel)
set_option maxRecDepth 20000 in
theorem gX8_right_X1_hasCopy : GoodIn wsX8_right (wsV RX8 158 RX1 yX1_hasCopy wsX1_hasCopy) := goodIn_app (goodIn_of _ (by decide +kernel)) ggX8_right_X1_hasCopy
set_option maxRecDepth 20000 in
theorem ggX8_right_X3_steps : GoodIn wsX8_right wsX3_steps := goodIn_r _ [17, 13, 91, 92, 93] (by decide +kernel) (by decide +kernel)
set_option maxRecDepth 20000 in
theorem gX8_right_X3_steps : GoodIn wsX8_right (wsV RX8 147 RX3 yX3_steps wsX3_steps) := goodIn_app (goodIn_of _ (by decide +kernel)) ggX8_right_X3_steps
set_option maxRecDepth 20000 in
theorem ggX8_right_X1_isDark : GoodIn wsX8_right wsX1_isDark := goodIn_r _ [21, 22, 23, 24, 5, 25, 7, 26, 27, 28, 29, 11, 30, 31, 90, 91, 92, 93] (by decide +kernel) (by decide +kernel)
set_option maxRecDepth 20000 in
theorem gX8_right_X1_isDark : GoodIn wsX8_right (wsV RX8 170 RX1 yX1_isDark wsX1_isDark) := goodIn_app (goodIn_of _ (by decide +kernel)) ggX8_right_X1_isDark
set_option maxRecDepth 20000 in
theorem ggX8_right_X1_isRight : GoodIn wsX8_right wsX1_isRight := goodIn_r _ [35, 7, 36, 15, 16, 11, 17, 13, 37, 19, 20, 5, 21, 22, 23, 24, 25, 26, 27, 28, 29, 30, 31, 38, 39, 40, 41, 42, 43, 44, 45, 46, 47, 48, 49, 50, 51, 52, 53, 54, 55, 56, 57, 58, 59, 60, 61, 62, 63, 64, 65, 66, 67, 68, 69, 70, 71, 72, 73, 74, 75, 76, 77, 78, 79, 80, 81, 82, 83, 84, 90, 91, 92, 93] (by decide +kernel) (by decide +kernel)
set_option maxRecDepth 20000 in
theorem gX8_right_X1_isRight : GoodIn wsX8_right (wsV RX8 173 RX1 yX1_isRight wsX1_isRight) := goodIn_app (goodIn_of _ (by decide +kernel)) ggX8_right_X1_isRight
theorem dX8_right_0 : decode cX8_right 0 = .ok (.aload_n 0, 1) := by decide +kernel
theorem dX8_right_1 : decode cX8_right 1 = .ok (.getfield 26, 3) := by decide +kernel
theorem dX8_right_4 : decode cX8_right 4 = .ok (.invokevirtual 158, 3) := by decide +kernel
theorem dX8_right_7 : decode cX8_right 7 = .ok (.ifCond .ne 6, 3) := by decide +kernel
theorem dX8_right_10 : decode cX8_right 10 = .ok (.bipush (-3), 2) := by decide +kernel
theorem dX8_right_12 : decode cX8_right 12 = .ok (.ireturn, 1) := by decide +kernel
theorem dX8_right_13 : decode cX8_right 13 = .ok (.iload_n 1, 1) := by decide +kernel
theorem dX8_right_14 : decode cX8_right 14 = .ok (.ifCond .lt 17, 3) := by decide +kernel
theorem dX8_right_17 : decode cX8_right 17 = .ok (.iload_n 1, 1) := by decide +kernel
theorem dX8_right_18 : decode cX8_right 18 = .ok (.aload_n 0, 1) := by decide +kernel
theorem dX8_right_19 : decode cX8_right 19 = .ok (.getfield 26, 3) := by decide +kernel
theorem dX8_right_22 : decode cX8_right 22 = .ok (.getfield 157, 3) := by decide +kernel
theorem dX8_right_25 : decode cX8_right 25 = .ok (.invokevirtual 147, 3) := by decide +kernel
theorem dX8_right_28 : decode cX8_right 28 = .ok (.if_icmp .lt 5, 3) := by decide +kernel
theorem dX8_right_31 : decode cX8_right 31 = .ok (.iconst (-1), 1) := by decide +kernel
theorem dX8_right_32 : decode cX8_right 32 = .ok (.ireturn, 1) := by decide +kernel
theorem dX8_right_33 : decode cX8_right 33 = .ok (.aload_n 0, 1) := by decide +kernel
theorem dX8_right_34 : decode cX8_right 34 = .ok (.getfield 26, 3) := by decide +kernel
theorem dX8_right_37 : decode cX8_right 37 = .ok (.iload_n 1, 1) := by decide +kernel
theorem dX8_right_38 : decode cX8_right 38 = .ok (.invokevirtual 170, 3) := by decide +kernel
theorem dX8_right_41 : decode cX8_right 41 = .ok (.ifCond .eq 5, 3) := by decide +kernel
theorem dX8_right_44 : decode cX8_right 44 = .ok (.iconst 2, 1) := by decide +kernel
theorem dX8_right_45 : decode cX8_right 45 = .ok (.ireturn, 1) := by decide +kernel
theorem dX8_right_46 : decode cX8_right 46 = .ok (.aload_n 0, 1) := by decide +kernel
theorem dX8_right_47 : decode cX8_right 47 = .ok (.getfield 26, 3) := by decide +kernel
theorem dX8_right_50 : decode cX8_right 50 = .ok (.iload_n 1, 1) := by decide +kernel
theorem dX8_right_51 : decode cX8_right 51 = .ok (.invokevirtual 173, 3) := by decide +kernel
theorem dX8_right_54 : decode cX8_right 54 = .ok (.ifCond .eq 7, 3) := by decide +kernel
theorem dX8_right_57 : decode cX8_right 57 = .ok (.iconst 1, 1) := by decide +kernel
theorem dX8_right_58 : decode cX8_right 58 = .ok (.goto 4, 3) := by decide +kernel
theorem dX8_right_61 : decode cX8_right 61 = .ok (.iconst 0, 1) := by decide +kernel
theorem dX8_right_62 : decode cX8_right 62 = .ok (.ireturn, 1) := by decide +kernel
set_option maxRecDepth 20000 in
theorem ggX8_blame_X1_hasCopy : GoodIn wsX8_blame wsX1_hasCopy := goodIn_r _ [6, 7, 8, 9, 10, 11, 12, 13, 92, 93, 94, 95] (by decide +kernel) (by decide +kernel)
set_option maxRecDepth 20000 in
theorem gX8_blame_X1_hasCopy : GoodIn wsX8_blame (wsV RX8 158 RX1 yX1_hasCopy wsX1_hasCopy) := goodIn_app (goodIn_of _ (by decide +kernel)) ggX8_blame_X1_hasCopy
set_option maxRecDepth 20000 in
theorem ggX8_blame_X1_blamed : GoodIn wsX8_blame wsX1_blamed := goodIn_r _ [17, 7, 18, 19, 20, 11, 21, 13, 22, 23, 24, 5, 25, 26, 27, 28, 29, 30, 31, 32, 33, 34, 35, 36, 37, 38, 39, 40, 41, 42, 43, 44, 45, 46, 47, 48, 49, 50, 51, 52, 53, 54, 55, 56, 57, 58, 59, 60, 61, 62, 63, 64, 65, 66, 67, 68, 69, 70, 71, 72, 73, 74, 75, 76, 77, 78, 79, 80, 81, 82, 83, 84, 85, 86, 92, 93, 94, 95] (by decide +kernel) (by decide +kernel)
set_option maxRecDepth 20000 in
theorem gX8_blame_X1_blamed : GoodIn wsX8_blame (wsV RX8 176 RX1 yX1_blamed wsX1_blamed) := goodIn_app (goodIn_of _ (by decide +kernel)) ggX8_blame_X1_blamed
theorem dX8_blame_0 : decode cX8_blame 0 = .ok (.aload_n 0, 1) := by decide +kernel
theorem dX8_blame_1 : decode cX8_blame 1 = .ok (.getfield 26, 3) := by decide +kernel
theorem dX8_blame_4 : decode cX8_blame 4 = .ok (.invokevirtual 158, 3) := by decide +kernel
theorem dX8_blame_7 : decode cX8_blame 7 = .ok (.ifCond .eq 13, 3) := by decide +kernel
theorem dX8_blame_10 : decode cX8_blame 10 = .ok (.aload_n 0, 1) := by decide +kernel
theorem dX8_blame_11 : decode cX8_blame 11 = .ok (.getfield 26, 3) := by decide +kernel
theorem dX8_blame_14 : decode cX8_blame 14 = .ok (.invokevirtual 176, 3) := by decide +kernel
theorem dX8_blame_17 : decode cX8_blame 17 = .ok (.goto 5, 3) := by decide +kernel
theorem dX8_blame_20 : decode cX8_blame 20 = .ok (.bipush (-3), 2) := by decide +kernel
theorem dX8_blame_22 : decode cX8_blame 22 = .ok (.ireturn, 1) := by decide +kernel
set_option maxRecDepth 20000 in
theorem ggX8_mend_X1_hasCopy : GoodIn wsX8_mend wsX1_hasCopy := goodIn_r _ [6, 7, 8, 9, 10, 11, 12, 13, 123, 124, 125, 126] (by decide +kernel) (by decide +kernel)
set_option maxRecDepth 20000 in
theorem gX8_mend_X1_hasCopy : GoodIn wsX8_mend (wsV RX8 158 RX1 yX1_hasCopy wsX1_hasCopy) := goodIn_app (goodIn_of _ (by decide +kernel)) ggX8_mend_X1_hasCopy
set_option maxRecDepth 20000 in
theorem ggX8_mend_X1_findMend : GoodIn wsX8_mend wsX1_findMend := goodIn_r _ [17, 18, 19, 20, 21, 5, 22, 7, 23, 24, 25, 11, 26, 13, 27, 28, 29, 30, 31, 32, 33, 34, 35, 36, 37, 38, 39, 40, 41, 42, 43, 44, 45, 46, 47, 48, 49, 50, 51, 52, 53, 54, 55, 56, 57, 58, 59, 60, 61, 62, 63, 64, 65, 66, 67, 68, 69, 70, 71, 72, 73, 74, 75, 76, 77, 78, 79, 80, 81, 82, 83, 84, 85, 86, 87, 88, 89, 90, 91, 92, 93, 94, 95, 96, 97, 98, 99, 100, 101, 102, 103, 104, 105, 106, 107, 108, 109, 110, 111, 112, 113, 114, 115, 116, 117, 123, 124, 125, 126] (by decide +kernel) (by decide +kernel)
set_option maxRecDepth 20000 in
theorem gX8_mend_X1_findMend : GoodIn wsX8_mend (wsV RX8 179 RX1 yX1_findMend wsX1_findMend) := goodIn_app (goodIn_of _ (by decide +kernel)) ggX8_mend_X1_findMend
theorem dX8_mend_0 : decode cX8_mend 0 = .ok (.aload_n 0, 1) := by decide +kernel
theorem dX8_mend_1 : decode cX8_mend 1 = .ok (.getfield 26, 3) := by decide +kernel
theorem dX8_mend_4 : decode cX8_mend 4 = .ok (.invokevirtual 158, 3) := by decide +kernel
theorem dX8_mend_7 : decode cX8_mend 7 = .ok (.ifCond .eq 14, 3) := by decide +kernel
theorem dX8_mend_10 : decode cX8_mend 10 = .ok (.aload_n 0, 1) := by decide +kernel
theorem dX8_mend_11 : decode cX8_mend 11 = .ok (.getfield 26, 3) := by decide +kernel
theorem dX8_mend_14 : decode cX8_mend 14 = .ok (.iload_n 1, 1) := by decide +kernel
theorem dX8_mend_15 : decode cX8_mend 15 = .ok (.invokevirtual 179, 3) := by decide +kernel
theorem dX8_mend_18 : decode cX8_mend 18 = .ok (.goto 5, 3) := by decide +kernel
theorem dX8_mend_21 : decode cX8_mend 21 = .ok (.bipush (-3), 2) := by decide +kernel
theorem dX8_mend_23 : decode cX8_mend 23 = .ok (.ireturn, 1) := by decide +kernel
set_option maxRecDepth 20000 in
theorem ggX8_fill_X1_hasCopy : GoodIn wsX8_fill wsX1_hasCopy := goodIn_r _ [6, 7, 8, 9, 10, 11, 12, 13, 92, 93, 94, 95] (by decide +kernel) (by decide +kernel)
set_option maxRecDepth 20000 in
theorem gX8_fill_X1_hasCopy : GoodIn wsX8_fill (wsV RX8 158 RX1 yX1_hasCopy wsX1_hasCopy) := goodIn_app (goodIn_of _ (by decide +kernel)) ggX8_fill_X1_hasCopy
set_option maxRecDepth 20000 in
theorem ggX8_fill_X1_fillGaps : GoodIn wsX8_fill wsX1_fillGaps := goodIn_r _ [17, 7, 8, 9, 10, 11, 12, 13, 18, 19, 20, 5, 21, 22, 23, 24, 25, 26, 27, 28, 29, 30, 31, 32, 33, 34, 35, 36, 37, 38, 39, 40, 41, 42, 43, 44, 45, 46, 47, 48, 49, 50, 51, 52, 53, 54, 55, 56, 57, 58, 59, 60, 61, 62, 63, 64, 65, 66, 67, 68, 69, 70, 71, 72, 73, 74, 75, 76, 77, 78, 79, 80, 81, 82, 83, 84, 85, 86, 92, 93, 94, 95] (by decide +kernel) (by decide +kernel)
set_option maxRecDepth 20000 in
theorem gX8_fill_X1_fillGaps : GoodIn wsX8_fill (wsV RX8 182 RX1 yX1_fillGaps wsX1_fillGaps) := goodIn_app (goodIn_of _ (by decide +kernel)) ggX8_fill_X1_fillGaps
theorem dX8_fill_0 : decode cX8_fill 0 = .ok (.aload_n 0, 1) := by decide +kernel
theorem dX8_fill_1 : decode cX8_fill 1 = .ok (.getfield 26, 3) := by decide +kernel
theorem dX8_fill_4 : decode cX8_fill 4 = .ok (.invokevirtual 158, 3) := by decide +kernel
theorem dX8_fill_7 : decode cX8_fill 7 = .ok (.ifCond .eq 13, 3) := by decide +kernel
theorem dX8_fill_10 : decode cX8_fill 10 = .ok (.aload_n 0, 1) := by decide +kernel
theorem dX8_fill_11 : decode cX8_fill 11 = .ok (.getfield 26, 3) := by decide +kernel
theorem dX8_fill_14 : decode cX8_fill 14 = .ok (.invokevirtual 182, 3) := by decide +kernel
theorem dX8_fill_17 : decode cX8_fill 17 = .ok (.goto 5, 3) := by decide +kernel
theorem dX8_fill_20 : decode cX8_fill 20 = .ok (.bipush (-3), 2) := by decide +kernel
theorem dX8_fill_22 : decode cX8_fill 22 = .ok (.ireturn, 1) := by decide +kernel
set_option maxRecDepth 20000 in
theorem ggX8_unknowns_X0_begin : GoodIn wsX8_unknowns wsX0_begin := goodIn_r _ [6, 7, 8, 9, 15, 16, 17, 18, 19, 20, 21, 22] (by decide +kernel) (by decide +kernel)
set_option maxRecDepth 20000 in
theorem gX8_unknowns_X0_begin : GoodIn wsX8_unknowns (wsV RX8 44 RX0 yX0_begin wsX0_begin) := goodIn_app (goodIn_of _ (by decide +kernel)) ggX8_unknowns_X0_begin
theorem dX8_unknowns_0 : decode cX8_unknowns 0 = .ok (.iload_n 1, 1) := by decide +kernel
theorem dX8_unknowns_1 : decode cX8_unknowns 1 = .ok (.iconst 1, 1) := by decide +kernel
theorem dX8_unknowns_2 : decode cX8_unknowns 2 = .ok (.if_icmp .lt 18, 3) := by decide +kernel
theorem dX8_unknowns_5 : decode cX8_unknowns 5 = .ok (.iload_n 1, 1) := by decide +kernel
theorem dX8_unknowns_6 : decode cX8_unknowns 6 = .ok (.iconst 4, 1) := by decide +kernel
theorem dX8_unknowns_7 : decode cX8_unknowns 7 = .ok (.if_icmp .gt 13, 3) := by decide +kernel
theorem dX8_unknowns_10 : decode cX8_unknowns 10 = .ok (.iload_n 2, 1) := by decide +kernel
theorem dX8_unknowns_11 : decode cX8_unknowns 11 = .ok (.iconst 1, 1) := by decide +kernel
theorem dX8_unknowns_12 : decode cX8_unknowns 12 = .ok (.if_icmp .lt 8, 3) := by decide +kernel
theorem dX8_unknowns_15 : decode cX8_unknowns 15 = .ok (.iload_n 2, 1) := by decide +kernel
theorem dX8_unknowns_16 : decode cX8_unknowns 16 = .ok (.iconst 5, 1) := by decide +kernel
theorem dX8_unknowns_17 : decode cX8_unknowns 17 = .ok (.if_icmp .le 6, 3) := by decide +kernel
theorem dX8_unknowns_20 : decode cX8_unknowns 20 = .ok (.bipush (-2), 2) := by decide +kernel
theorem dX8_unknowns_22 : decode cX8_unknowns 22 = .ok (.ireturn, 1) := by decide +kernel
theorem dX8_unknowns_23 : decode cX8_unknowns 23 = .ok (.aload_n 0, 1) := by decide +kernel
theorem dX8_unknowns_24 : decode cX8_unknowns 24 = .ok (.getfield 33, 3) := by decide +kernel
theorem dX8_unknowns_27 : decode cX8_unknowns 27 = .ok (.iload_n 1, 1) := by decide +kernel
theorem dX8_unknowns_28 : decode cX8_unknowns 28 = .ok (.iload_n 2, 1) := by decide +kernel
theorem dX8_unknowns_29 : decode cX8_unknowns 29 = .ok (.invokevirtual 44, 3) := by decide +kernel
theorem dX8_unknowns_32 : decode cX8_unknowns 32 = .ok (.iconst 1, 1) := by decide +kernel
theorem dX8_unknowns_33 : decode cX8_unknowns 33 = .ok (.ireturn, 1) := by decide +kernel
set_option maxRecDepth 20000 in
theorem ggX8_set_X0_has : GoodIn wsX8_set wsX0_has := goodIn_r _ [8, 9, 10, 21, 22, 23, 24, 25, 26, 27, 28] (by decide +kernel) (by decide +kernel)
set_option maxRecDepth 20000 in
theorem gX8_set_X0_has : GoodIn wsX8_set (wsV RX8 185 RX0 yX0_has wsX0_has) := goodIn_app (goodIn_of _ (by decide +kernel)) ggX8_set_X0_has
set_option maxRecDepth 20000 in
theorem ggX8_set_X0_exchangeGiven : GoodIn wsX8_set wsX0_exchangeGiven := goodIn_r _ [14, 15, 21, 22, 23, 24, 25, 26, 27, 28] (by decide +kernel) (by decide +kernel)
set_option maxRecDepth 20000 in
theorem gX8_set_X0_exchangeGiven : GoodIn wsX8_set (wsV RX8 192 RX0 yX0_exchangeGiven wsX0_exchangeGiven) := goodIn_app (goodIn_of _ (by decide +kernel)) ggX8_set_X0_exchangeGiven
theorem dX8_set_0 : decode cX8_set 0 = .ok (.aload_n 0, 1) := by decide +kernel
theorem dX8_set_1 : decode cX8_set 1 = .ok (.getfield 33, 3) := by decide +kernel
theorem dX8_set_4 : decode cX8_set 4 = .ok (.iload_n 1, 1) := by decide +kernel
theorem dX8_set_5 : decode cX8_set 5 = .ok (.iload_n 2, 1) := by decide +kernel
theorem dX8_set_6 : decode cX8_set 6 = .ok (.invokevirtual 185, 3) := by decide +kernel
theorem dX8_set_9 : decode cX8_set 9 = .ok (.ifCond .ne 6, 3) := by decide +kernel
theorem dX8_set_12 : decode cX8_set 12 = .ok (.ldc 186, 2) := by decide +kernel
theorem dX8_set_14 : decode cX8_set 14 = .ok (.ireturn, 1) := by decide +kernel
theorem dX8_set_15 : decode cX8_set 15 = .ok (.iload_n 2, 1) := by decide +kernel
theorem dX8_set_16 : decode cX8_set 16 = .ok (.aload_n 0, 1) := by decide +kernel
theorem dX8_set_17 : decode cX8_set 17 = .ok (.getfield 33, 3) := by decide +kernel
theorem dX8_set_20 : decode cX8_set 20 = .ok (.getfield 187, 3) := by decide +kernel
theorem dX8_set_23 : decode cX8_set 23 = .ok (.if_icmp .ne 9, 3) := by decide +kernel
theorem dX8_set_26 : decode cX8_set 26 = .ok (.sipush 9999, 3) := by decide +kernel
theorem dX8_set_29 : decode cX8_set 29 = .ok (.goto 5, 3) := by decide +kernel
theorem dX8_set_32 : decode cX8_set 32 = .ok (.bipush 50, 2) := by decide +kernel
theorem dX8_set_34 : decode cX8_set 34 = .ok (.istore 4, 2) := by decide +kernel
theorem dX8_set_36 : decode cX8_set 36 = .ok (.iload_n 3, 1) := by decide +kernel
theorem dX8_set_37 : decode cX8_set 37 = .ok (.iload 4, 2) := by decide +kernel
theorem dX8_set_39 : decode cX8_set 39 = .ok (.ineg, 1) := by decide +kernel
theorem dX8_set_40 : decode cX8_set 40 = .ok (.if_icmp .lt 9, 3) := by decide +kernel
theorem dX8_set_43 : decode cX8_set 43 = .ok (.iload_n 3, 1) := by decide +kernel
theorem dX8_set_44 : decode cX8_set 44 = .ok (.iload 4, 2) := by decide +kernel
theorem dX8_set_46 : decode cX8_set 46 = .ok (.if_icmp .le 6, 3) := by decide +kernel
theorem dX8_set_49 : decode cX8_set 49 = .ok (.ldc 191, 2) := by decide +kernel
theorem dX8_set_51 : decode cX8_set 51 = .ok (.ireturn, 1) := by decide +kernel
theorem dX8_set_52 : decode cX8_set 52 = .ok (.aload_n 0, 1) := by decide +kernel
theorem dX8_set_53 : decode cX8_set 53 = .ok (.getfield 33, 3) := by decide +kernel
theorem dX8_set_56 : decode cX8_set 56 = .ok (.iload_n 1, 1) := by decide +kernel
theorem dX8_set_57 : decode cX8_set 57 = .ok (.iload_n 2, 1) := by decide +kernel
theorem dX8_set_58 : decode cX8_set 58 = .ok (.iload_n 3, 1) := by decide +kernel
theorem dX8_set_59 : decode cX8_set 59 = .ok (.invokevirtual 192, 3) := by decide +kernel
theorem dX8_set_62 : decode cX8_set 62 = .ok (.ireturn, 1) := by decide +kernel
set_option maxRecDepth 20000 in
theorem ggX8_kind_X0_clear : GoodIn wsX8_kind wsX0_clear := goodIn_r _ [6, 7, 8, 9, 10, 11, 12, 13, 14, 15, 5, 16, 17, 18, 19, 20, 21, 22, 23, 24, 25, 26, 27, 28, 29, 30, 31, 32, 33, 34, 35, 36, 37, 38, 39, 40, 41, 42, 43, 44, 45, 55, 56, 57, 58, 59, 60, 61, 62] (by decide +kernel) (by decide +kernel)
set_option maxRecDepth 20000 in
theorem gX8_kind_X0_clear : GoodIn wsX8_kind (wsV RX8 195 RX0 yX0_clear wsX0_clear) := goodIn_app (goodIn_of _ (by decide +kernel)) ggX8_kind_X0_clear
set_option maxRecDepth 20000 in
theorem ggX8_kind_X0_kindOfAnswer : GoodIn wsX8_kind wsX0_kindOfAnswer := goodIn_r _ [49, 10, 17, 11, 18, 19, 20, 5, 21, 7, 55, 56, 57, 58, 59, 60, 61, 62] (by decide +kernel) (by decide +kernel)
set_option maxRecDepth 20000 in
theorem gX8_kind_X0_kindOfAnswer : GoodIn wsX8_kind (wsV RX8 196 RX0 yX0_kindOfAnswer wsX0_kindOfAnswer) := goodIn_app (goodIn_of _ (by decide +kernel)) ggX8_kind_X0_kindOfAnswer
theorem dX8_kind_0 : decode cX8_kind 0 = .ok (.aload_n 0, 1) := by decide +kernel
theorem dX8_kind_1 : decode cX8_kind 1 = .ok (.getfield 33, 3) := by decide +kernel
theorem dX8_kind_4 : decode cX8_kind 4 = .ok (.invokevirtual 195, 3) := by decide +kernel
theorem dX8_kind_7 : decode cX8_kind 7 = .ok (.aload_n 0, 1) := by decide +kernel
theorem dX8_kind_8 : decode cX8_kind 8 = .ok (.getfield 33, 3) := by decide +kernel
theorem dX8_kind_11 : decode cX8_kind 11 = .ok (.invokevirtual 196, 3) := by decide +kernel
theorem dX8_kind_14 : decode cX8_kind 14 = .ok (.ireturn, 1) := by decide +kernel
set_option maxRecDepth 20000 in
theorem ggX8_turns_X0_clear : GoodIn wsX8_turns wsX0_clear := goodIn_r _ [6, 7, 8, 9, 10, 11, 12, 13, 14, 15, 5, 16, 17, 18, 19, 20, 21, 22, 23, 24, 25, 26, 27, 28, 29, 30, 31, 32, 33, 34, 35, 36, 37, 38, 39, 40, 41, 42, 43, 44, 45, 51, 52, 53, 54, 55, 56, 57, 58] (by decide +kernel) (by decide +kernel)
set_option maxRecDepth 20000 in
theorem gX8_turns_X0_clear : GoodIn wsX8_turns (wsV RX8 195 RX0 yX0_clear wsX0_clear) := goodIn_app (goodIn_of _ (by decide +kernel)) ggX8_turns_X0_clear
theorem dX8_turns_0 : decode cX8_turns 0 = .ok (.aload_n 0, 1) := by decide +kernel
theorem dX8_turns_1 : decode cX8_turns 1 = .ok (.getfield 33, 3) := by decide +kernel
theorem dX8_turns_4 : decode cX8_turns 4 = .ok (.invokevirtual 195, 3) := by decide +kernel
theorem dX8_turns_7 : decode cX8_turns 7 = .ok (.aload_n 0, 1) := by decide +kernel
theorem dX8_turns_8 : decode cX8_turns 8 = .ok (.getfield 33, 3) := by decide +kernel
theorem dX8_turns_11 : decode cX8_turns 11 = .ok (.getfield 199, 3) := by decide +kernel
theorem dX8_turns_14 : decode cX8_turns 14 = .ok (.ireturn, 1) := by decide +kernel
set_option maxRecDepth 20000 in
theorem ggX8_cleared_X0_has : GoodIn wsX8_cleared wsX0_has := goodIn_r _ [7, 8, 9, 57, 58, 59, 60, 61, 62, 63, 64] (by decide +kernel) (by decide +kernel)
set_option maxRecDepth 20000 in
theorem gX8_cleared_X0_has : GoodIn wsX8_cleared (wsV RX8 185 RX0 yX0_has wsX0_has) := goodIn_app (goodIn_of _ (by decide +kernel)) ggX8_cleared_X0_has
set_option maxRecDepth 20000 in
theorem ggX8_cleared_X0_clear : GoodIn wsX8_cleared wsX0_clear := goodIn_r _ [13, 14, 15, 16, 17, 9, 18, 19, 20, 21, 6, 22, 8, 23, 24, 25, 26, 27, 28, 29, 30, 31, 32, 33, 34, 35, 36, 37, 38, 39, 40, 41, 42, 43, 44, 45, 46, 47, 48, 49, 50, 57, 58, 59, 60, 61, 62, 63, 64] (by decide +kernel) (by decide +kernel)
set_option maxRecDepth 20000 in
theorem gX8_cleared_X0_clear : GoodIn wsX8_cleared (wsV RX8 195 RX0 yX0_clear wsX0_clear) := goodIn_app (goodIn_of _ (by decide +kernel)) ggX8_cleared_X0_clear
set_option maxRecDepth 20000 in
theorem ggX8_cleared_X0_cell : GoodIn wsX8_cleared wsX0_cell := goodIn_r _ [26, 14, 57, 58, 59, 60, 61, 62, 63, 64] (by decide +kernel) (by decide +kernel)
set_option maxRecDepth 20000 in
theorem gX8_cleared_X0_cell : GoodIn wsX8_cleared (wsV RX8 202 RX0 yX0_cell wsX0_cell) := goodIn_app (goodIn_of _ (by decide +kernel)) ggX8_cleared_X0_cell
theorem dX8_cleared_0 : decode cX8_cleared 0 = .ok (.aload_n 0, 1) := by decide +kernel
theorem dX8_cleared_1 : decode cX8_cleared 1 = .ok (.getfield 33, 3) := by decide +kernel
theorem dX8_cleared_4 : decode cX8_cleared 4 = .ok (.iload_n 1, 1) := by decide +kernel
theorem dX8_cleared_5 : decode cX8_cleared 5 = .ok (.iload_n 2, 1) := by decide +kernel
theorem dX8_cleared_6 : decode cX8_cleared 6 = .ok (.invokevirtual 185, 3) := by decide +kernel
theorem dX8_cleared_9 : decode cX8_cleared 9 = .ok (.ifCond .ne 7, 3) := by decide +kernel
theorem dX8_cleared_12 : decode cX8_cleared 12 = .ok (.ldc2_w 70, 3) := by decide +kernel
theorem dX8_cleared_15 : decode cX8_cleared 15 = .ok (.lreturn, 1) := by decide +kernel
theorem dX8_cleared_16 : decode cX8_cleared 16 = .ok (.aload_n 0, 1) := by decide +kernel
theorem dX8_cleared_17 : decode cX8_cleared 17 = .ok (.getfield 33, 3) := by decide +kernel
theorem dX8_cleared_20 : decode cX8_cleared 20 = .ok (.invokevirtual 195, 3) := by decide +kernel
theorem dX8_cleared_23 : decode cX8_cleared 23 = .ok (.aload_n 0, 1) := by decide +kernel
theorem dX8_cleared_24 : decode cX8_cleared 24 = .ok (.getfield 33, 3) := by decide +kernel
theorem dX8_cleared_27 : decode cX8_cleared 27 = .ok (.iload_n 1, 1) := by decide +kernel
theorem dX8_cleared_28 : decode cX8_cleared 28 = .ok (.iload_n 2, 1) := by decide +kernel
theorem dX8_cleared_29 : decode cX8_cleared 29 = .ok (.invokevirtual 202, 3) := by decide +kernel
theorem dX8_cleared_32 : decode cX8_cleared 32 = .ok (.lreturn, 1) := by decide +kernel
set_option maxRecDepth 20000 in
theorem ggX8_answer_X0_isUnknown : GoodIn wsX8_answer wsX0_isUnknown := goodIn_r _ [9, 10, 76, 77, 78, 79, 80, 81, 82, 83] (by decide +kernel) (by decide +kernel)
set_option maxRecDepth 20000 in
theorem gX8_answer_X0_isUnknown : GoodIn wsX8_answer (wsV RX8 203 RX0 yX0_isUnknown wsX0_isUnknown) := goodIn_app (goodIn_of _ (by decide +kernel)) ggX8_answer_X0_isUnknown
set_option maxRecDepth 20000 in
theorem ggX8_answer_X0_clear : GoodIn wsX8_answer wsX0_clear := goodIn_r _ [14, 15, 16, 17, 18, 10, 19, 20, 21, 22, 8, 23, 24, 25, 26, 27, 28, 29, 30, 31, 32, 33, 34, 35, 36, 37, 38, 39, 40, 41, 42, 43, 44, 45, 46, 47, 48, 49, 50, 51, 52, 76, 77, 78, 79, 80, 81, 82, 83] (by decide +kernel) (by decide +kernel)
set_option maxRecDepth 20000 in
theorem gX8_answer_X0_clear : GoodIn wsX8_answer (wsV RX8 195 RX0 yX0_clear wsX0_clear) := goodIn_app (goodIn_of _ (by decide +kernel)) ggX8_answer_X0_clear
set_option maxRecDepth 20000 in
theorem ggX8_answer_X0_kindOfAnswer : GoodIn wsX8_answer wsX0_kindOfAnswer := goodIn_r _ [56, 18, 24, 10, 25, 26, 27, 8, 28, 15, 76, 77, 78, 79, 80, 81, 82, 83] (by decide +kernel) (by decide +kernel)
set_option maxRecDepth 20000 in
theorem gX8_answer_X0_kindOfAnswer : GoodIn wsX8_answer (wsV RX8 196 RX0 yX0_kindOfAnswer wsX0_kindOfAnswer) := goodIn_app (goodIn_of _ (by decide +kernel)) ggX8_answer_X0_kindOfAnswer
set_option maxRecDepth 20000 in
theorem ggX8_answer_X0_fraction : GoodIn wsX8_answer wsX0_fraction := goodIn_r _ [60, 61, 62, 63, 8, 64, 10, 65, 66, 50, 51, 52, 25, 26, 27, 28, 15, 67, 68, 69, 70, 45, 46, 47, 48, 49, 76, 77, 78, 79, 80, 81, 82, 83] (by decide +kernel) (by decide +kernel)
set_option maxRecDepth 20000 in
theorem gX8_answer_X0_fraction : GoodIn wsX8_answer (wsV RX8 208 RX0 yX0_fraction wsX0_fraction) := goodIn_app (goodIn_of _ (by decide +kernel)) ggX8_answer_X0_fraction
theorem dX8_answer_0 : decode cX8_answer 0 = .ok (.aload_n 0, 1) := by decide +kernel
theorem dX8_answer_1 : decode cX8_answer 1 = .ok (.getfield 33, 3) := by decide +kernel
theorem dX8_answer_4 : decode cX8_answer 4 = .ok (.iload_n 1, 1) := by decide +kernel
theorem dX8_answer_5 : decode cX8_answer 5 = .ok (.invokevirtual 203, 3) := by decide +kernel
theorem dX8_answer_8 : decode cX8_answer 8 = .ok (.ifCond .ne 7, 3) := by decide +kernel
theorem dX8_answer_11 : decode cX8_answer 11 = .ok (.ldc2_w 70, 3) := by decide +kernel
theorem dX8_answer_14 : decode cX8_answer 14 = .ok (.lreturn, 1) := by decide +kernel
theorem dX8_answer_15 : decode cX8_answer 15 = .ok (.iload_n 2, 1) := by decide +kernel
theorem dX8_answer_16 : decode cX8_answer 16 = .ok (.ifCond .lt 8, 3) := by decide +kernel
theorem dX8_answer_19 : decode cX8_answer 19 = .ok (.iload_n 2, 1) := by decide +kernel
theorem dX8_answer_20 : decode cX8_answer 20 = .ok (.iconst 1, 1) := by decide +kernel
theorem dX8_answer_21 : decode cX8_answer 21 = .ok (.if_icmp .le 7, 3) := by decide +kernel
theorem dX8_answer_24 : decode cX8_answer 24 = .ok (.ldc2_w 206, 3) := by decide +kernel
theorem dX8_answer_27 : decode cX8_answer 27 = .ok (.lreturn, 1) := by decide +kernel
theorem dX8_answer_28 : decode cX8_answer 28 = .ok (.aload_n 0, 1) := by decide +kernel
theorem dX8_answer_29 : decode cX8_answer 29 = .ok (.getfield 33, 3) := by decide +kernel
theorem dX8_answer_32 : decode cX8_answer 32 = .ok (.invokevirtual 195, 3) := by decide +kernel
theorem dX8_answer_35 : decode cX8_answer 35 = .ok (.aload_n 0, 1) := by decide +kernel
theorem dX8_answer_36 : decode cX8_answer 36 = .ok (.getfield 33, 3) := by decide +kernel
theorem dX8_answer_39 : decode cX8_answer 39 = .ok (.invokevirtual 196, 3) := by decide +kernel
theorem dX8_answer_42 : decode cX8_answer 42 = .ok (.iconst 1, 1) := by decide +kernel
theorem dX8_answer_43 : decode cX8_answer 43 = .ok (.if_icmp .eq 7, 3) := by decide +kernel
theorem dX8_answer_46 : decode cX8_answer 46 = .ok (.ldc2_w 166, 3) := by decide +kernel
theorem dX8_answer_49 : decode cX8_answer 49 = .ok (.lreturn, 1) := by decide +kernel
theorem dX8_answer_50 : decode cX8_answer 50 = .ok (.aload_n 0, 1) := by decide +kernel
theorem dX8_answer_51 : decode cX8_answer 51 = .ok (.getfield 33, 3) := by decide +kernel
theorem dX8_answer_54 : decode cX8_answer 54 = .ok (.iload_n 1, 1) := by decide +kernel
theorem dX8_answer_55 : decode cX8_answer 55 = .ok (.iload_n 2, 1) := by decide +kernel
theorem dX8_answer_56 : decode cX8_answer 56 = .ok (.invokevirtual 208, 3) := by decide +kernel
theorem dX8_answer_59 : decode cX8_answer 59 = .ok (.lreturn, 1) := by decide +kernel
set_option maxRecDepth 20000 in
theorem ggX8_free_X0_isUnknown : GoodIn wsX8_free wsX0_isUnknown := goodIn_r _ [6, 7, 59, 60, 61, 62, 63, 64, 65, 66] (by decide +kernel) (by decide +kernel)
set_option maxRecDepth 20000 in
theorem gX8_free_X0_isUnknown : GoodIn wsX8_free (wsV RX8 203 RX0 yX0_isUnknown wsX0_isUnknown) := goodIn_app (goodIn_of _ (by decide +kernel)) ggX8_free_X0_isUnknown
set_option maxRecDepth 20000 in
theorem ggX8_free_X0_clear : GoodIn wsX8_free wsX0_clear := goodIn_r _ [11, 12, 13, 14, 15, 7, 16, 17, 18, 19, 5, 20, 21, 22, 23, 24, 25, 26, 27, 28, 29, 30, 31, 32, 33, 34, 35, 36, 37, 38, 39, 40, 41, 42, 43, 44, 45, 46, 47, 48, 49, 59, 60, 61, 62, 63, 64, 65, 66] (by decide +kernel) (by decide +kernel)
set_option maxRecDepth 20000 in
theorem gX8_free_X0_clear : GoodIn wsX8_free (wsV RX8 195 RX0 yX0_clear wsX0_clear) := goodIn_app (goodIn_of _ (by decide +kernel)) ggX8_free_X0_clear
set_option maxRecDepth 20000 in
theorem ggX8_free_X0_isFree : GoodIn wsX8_free wsX0_isFree := goodIn_r _ [53, 16, 59, 60, 61, 62, 63, 64, 65, 66] (by decide +kernel) (by decide +kernel)
set_option maxRecDepth 20000 in
theorem gX8_free_X0_isFree : GoodIn wsX8_free (wsV RX8 211 RX0 yX0_isFree wsX0_isFree) := goodIn_app (goodIn_of _ (by decide +kernel)) ggX8_free_X0_isFree
theorem dX8_free_0 : decode cX8_free 0 = .ok (.aload_n 0, 1) := by decide +kernel
theorem dX8_free_1 : decode cX8_free 1 = .ok (.getfield 33, 3) := by decide +kernel
theorem dX8_free_4 : decode cX8_free 4 = .ok (.iload_n 1, 1) := by decide +kernel
theorem dX8_free_5 : decode cX8_free 5 = .ok (.invokevirtual 203, 3) := by decide +kernel
theorem dX8_free_8 : decode cX8_free 8 = .ok (.ifCond .ne 5, 3) := by decide +kernel
theorem dX8_free_11 : decode cX8_free 11 = .ok (.iconst (-1), 1) := by decide +kernel
theorem dX8_free_12 : decode cX8_free 12 = .ok (.ireturn, 1) := by decide +kernel
theorem dX8_free_13 : decode cX8_free 13 = .ok (.aload_n 0, 1) := by decide +kernel
theorem dX8_free_14 : decode cX8_free 14 = .ok (.getfield 33, 3) := by decide +kernel
theorem dX8_free_17 : decode cX8_free 17 = .ok (.invokevirtual 195, 3) := by decide +kernel
theorem dX8_free_20 : decode cX8_free 20 = .ok (.aload_n 0, 1) := by decide +kernel
theorem dX8_free_21 : decode cX8_free 21 = .ok (.getfield 33, 3) := by decide +kernel
theorem dX8_free_24 : decode cX8_free 24 = .ok (.iload_n 1, 1) := by decide +kernel
theorem dX8_free_25 : decode cX8_free 25 = .ok (.invokevirtual 211, 3) := by decide +kernel
theorem dX8_free_28 : decode cX8_free 28 = .ok (.ifCond .eq 7, 3) := by decide +kernel
theorem dX8_free_31 : decode cX8_free 31 = .ok (.iconst 1, 1) := by decide +kernel
theorem dX8_free_32 : decode cX8_free 32 = .ok (.goto 4, 3) := by decide +kernel
theorem dX8_free_35 : decode cX8_free 35 = .ok (.iconst 0, 1) := by decide +kernel
theorem dX8_free_36 : decode cX8_free 36 = .ok (.ireturn, 1) := by decide +kernel
set_option maxRecDepth 20000 in
theorem ggX8_count_X2_isFull : GoodIn wsX8_count wsX2_isFull := goodIn_r _ [6, 7, 23, 24, 25] (by decide +kernel) (by decide +kernel)
set_option maxRecDepth 20000 in
theorem gX8_count_X2_isFull : GoodIn wsX8_count (wsV RX8 214 RX2 yX2_isFull wsX2_isFull) := goodIn_app (goodIn_of _ (by decide +kernel)) ggX8_count_X2_isFull
set_option maxRecDepth 20000 in
theorem ggX8_count_X2_append : GoodIn wsX8_count wsX2_append := goodIn_r _ [11, 7, 12, 13, 23, 24, 25] (by decide +kernel) (by decide +kernel)
set_option maxRecDepth 20000 in
theorem gX8_count_X2_append : GoodIn wsX8_count (wsV RX8 217 RX2 yX2_append wsX2_append) := goodIn_app (goodIn_of _ (by decide +kernel)) ggX8_count_X2_append
set_option maxRecDepth 20000 in
theorem ggX8_count_X2_size : GoodIn wsX8_count wsX2_size := goodIn_r _ [17, 7, 23, 24, 25] (by decide +kernel) (by decide +kernel)
set_option maxRecDepth 20000 in
theorem gX8_count_X2_size : GoodIn wsX8_count (wsV RX8 218 RX2 yX2_size wsX2_size) := goodIn_app (goodIn_of _ (by decide +kernel)) ggX8_count_X2_size
theorem dX8_count_0 : decode cX8_count 0 = .ok (.iload_n 1, 1) := by decide +kernel
theorem dX8_count_1 : decode cX8_count 1 = .ok (.iconst 2, 1) := by decide +kernel
theorem dX8_count_2 : decode cX8_count 2 = .ok (.if_icmp .lt 19, 3) := by decide +kernel
theorem dX8_count_5 : decode cX8_count 5 = .ok (.iload_n 1, 1) := by decide +kernel
theorem dX8_count_6 : decode cX8_count 6 = .ok (.sipush 1000, 3) := by decide +kernel
theorem dX8_count_9 : decode cX8_count 9 = .ok (.if_icmp .gt 12, 3) := by decide +kernel
theorem dX8_count_12 : decode cX8_count 12 = .ok (.iload_n 2, 1) := by decide +kernel
theorem dX8_count_13 : decode cX8_count 13 = .ok (.ifCond .lt 8, 3) := by decide +kernel
theorem dX8_count_16 : decode cX8_count 16 = .ok (.iload_n 2, 1) := by decide +kernel
theorem dX8_count_17 : decode cX8_count 17 = .ok (.iload_n 1, 1) := by decide +kernel
theorem dX8_count_18 : decode cX8_count 18 = .ok (.if_icmp .lt 6, 3) := by decide +kernel
theorem dX8_count_21 : decode cX8_count 21 = .ok (.bipush (-2), 2) := by decide +kernel
theorem dX8_count_23 : decode cX8_count 23 = .ok (.ireturn, 1) := by decide +kernel
theorem dX8_count_24 : decode cX8_count 24 = .ok (.aload_n 0, 1) := by decide +kernel
theorem dX8_count_25 : decode cX8_count 25 = .ok (.getfield 40, 3) := by decide +kernel
theorem dX8_count_28 : decode cX8_count 28 = .ok (.invokevirtual 214, 3) := by decide +kernel
theorem dX8_count_31 : decode cX8_count 31 = .ok (.ifCond .eq 6, 3) := by decide +kernel
theorem dX8_count_34 : decode cX8_count 34 = .ok (.bipush (-4), 2) := by decide +kernel
theorem dX8_count_36 : decode cX8_count 36 = .ok (.ireturn, 1) := by decide +kernel
theorem dX8_count_37 : decode cX8_count 37 = .ok (.aload_n 0, 1) := by decide +kernel
theorem dX8_count_38 : decode cX8_count 38 = .ok (.getfield 40, 3) := by decide +kernel
theorem dX8_count_41 : decode cX8_count 41 = .ok (.iload_n 1, 1) := by decide +kernel
theorem dX8_count_42 : decode cX8_count 42 = .ok (.iload_n 2, 1) := by decide +kernel
theorem dX8_count_43 : decode cX8_count 43 = .ok (.invokevirtual 217, 3) := by decide +kernel
theorem dX8_count_46 : decode cX8_count 46 = .ok (.aload_n 0, 1) := by decide +kernel
theorem dX8_count_47 : decode cX8_count 47 = .ok (.getfield 40, 3) := by decide +kernel
theorem dX8_count_50 : decode cX8_count 50 = .ok (.invokevirtual 218, 3) := by decide +kernel
theorem dX8_count_53 : decode cX8_count 53 = .ok (.ireturn, 1) := by decide +kernel
set_option maxRecDepth 20000 in
theorem ggX8_drop_X2_size : GoodIn wsX8_drop wsX2_size := goodIn_r _ [6, 7, 17, 18, 19] (by decide +kernel) (by decide +kernel)
set_option maxRecDepth 20000 in
theorem gX8_drop_X2_size : GoodIn wsX8_drop (wsV RX8 218 RX2 yX2_size wsX2_size) := goodIn_app (goodIn_of _ (by decide +kernel)) ggX8_drop_X2_size
set_option maxRecDepth 20000 in
theorem ggX8_drop_X2_clear : GoodIn wsX8_drop wsX2_clear := goodIn_r _ [11, 7, 17, 18, 19] (by decide +kernel) (by decide +kernel)
set_option maxRecDepth 20000 in
theorem gX8_drop_X2_clear : GoodIn wsX8_drop (wsV RX8 219 RX2 yX2_clear wsX2_clear) := goodIn_app (goodIn_of _ (by decide +kernel)) ggX8_drop_X2_clear
theorem dX8_drop_0 : decode cX8_drop 0 = .ok (.aload_n 0, 1) := by decide +kernel
theorem dX8_drop_1 : decode cX8_drop 1 = .ok (.getfield 40, 3) := by decide +kernel
theorem dX8_drop_4 : decode cX8_drop 4 = .ok (.invokevirtual 218, 3) := by decide +kernel
theorem dX8_drop_7 : decode cX8_drop 7 = .ok (.istore_n 1, 1) := by decide +kernel
theorem dX8_drop_8 : decode cX8_drop 8 = .ok (.aload_n 0, 1) := by decide +kernel
theorem dX8_drop_9 : decode cX8_drop 9 = .ok (.getfield 40, 3) := by decide +kernel
theorem dX8_drop_12 : decode cX8_drop 12 = .ok (.invokevirtual 219, 3) := by decide +kernel
theorem dX8_drop_15 : decode cX8_drop 15 = .ok (.iload_n 1, 1) := by decide +kernel
theorem dX8_drop_16 : decode cX8_drop 16 = .ok (.ireturn, 1) := by decide +kernel
set_option maxRecDepth 20000 in
theorem ggX8_joined_X2_firstClash : GoodIn wsX8_joined wsX2_firstClash := goodIn_r _ [8, 9, 10, 11, 12, 7, 13, 14, 15, 16, 17, 18, 19, 20, 21, 22, 23, 24, 25, 26, 27, 44, 45, 46] (by decide +kernel) (by decide +kernel)
set_option maxRecDepth 20000 in
theorem gX8_joined_X2_firstClash : GoodIn wsX8_joined (wsV RX8 220 RX2 yX2_firstClash wsX2_firstClash) := goodIn_app (goodIn_of _ (by decide +kernel)) ggX8_joined_X2_firstClash
set_option maxRecDepth 20000 in
theorem ggX8_joined_X2_leastLeavingAll : GoodIn wsX8_joined wsX2_leastLeavingAll := goodIn_r _ [31, 9, 10, 11, 12, 7, 13, 14, 23, 24, 25, 26, 27, 32, 33, 34, 15, 16, 17, 18, 19, 20, 21, 22, 44, 45, 46] (by decide +kernel) (by decide +kernel)
set_option maxRecDepth 20000 in
theorem gX8_joined_X2_leastLeavingAll : GoodIn wsX8_joined (wsV RX8 225 RX2 yX2_leastLeavingAll wsX2_leastLeavingAll) := goodIn_app (goodIn_of _ (by decide +kernel)) ggX8_joined_X2_leastLeavingAll
set_option maxRecDepth 20000 in
theorem ggX8_joined_X2_allGoInto : GoodIn wsX8_joined wsX2_allGoInto := goodIn_r _ [38, 9, 10, 11, 12, 7, 13, 14, 32, 33, 34, 15, 16, 17, 18, 19, 20, 21, 22, 44, 45, 46] (by decide +kernel) (by decide +kernel)
set_option maxRecDepth 20000 in
theorem gX8_joined_X2_allGoInto : GoodIn wsX8_joined (wsV RX8 229 RX2 yX2_allGoInto wsX2_allGoInto) := goodIn_app (goodIn_of _ (by decide +kernel)) ggX8_joined_X2_allGoInto
theorem dX8_joined_0 : decode cX8_joined 0 = .ok (.iload_n 1, 1) := by decide +kernel
theorem dX8_joined_1 : decode cX8_joined 1 = .ok (.ifCond .lt 8, 3) := by decide +kernel
theorem dX8_joined_4 : decode cX8_joined 4 = .ok (.iload_n 1, 1) := by decide +kernel
theorem dX8_joined_5 : decode cX8_joined 5 = .ok (.iconst 1, 1) := by decide +kernel
theorem dX8_joined_6 : decode cX8_joined 6 = .ok (.if_icmp .le 7, 3) := by decide +kernel
theorem dX8_joined_9 : decode cX8_joined 9 = .ok (.ldc2_w 206, 3) := by decide +kernel
theorem dX8_joined_12 : decode cX8_joined 12 = .ok (.lreturn, 1) := by decide +kernel
theorem dX8_joined_13 : decode cX8_joined 13 = .ok (.aload_n 0, 1) := by decide +kernel
theorem dX8_joined_14 : decode cX8_joined 14 = .ok (.getfield 40, 3) := by decide +kernel
theorem dX8_joined_17 : decode cX8_joined 17 = .ok (.invokevirtual 220, 3) := by decide +kernel
theorem dX8_joined_20 : decode cX8_joined 20 = .ok (.bipush (-6), 2) := by decide +kernel
theorem dX8_joined_22 : decode cX8_joined 22 = .ok (.if_icmp .eq 7, 3) := by decide +kernel
theorem dX8_joined_25 : decode cX8_joined 25 = .ok (.ldc2_w 223, 3) := by decide +kernel
theorem dX8_joined_28 : decode cX8_joined 28 = .ok (.lreturn, 1) := by decide +kernel
theorem dX8_joined_29 : decode cX8_joined 29 = .ok (.iload_n 1, 1) := by decide +kernel
theorem dX8_joined_30 : decode cX8_joined 30 = .ok (.ifCond .ne 13, 3) := by decide +kernel
theorem dX8_joined_33 : decode cX8_joined 33 = .ok (.aload_n 0, 1) := by decide +kernel
theorem dX8_joined_34 : decode cX8_joined 34 = .ok (.getfield 40, 3) := by decide +kernel
theorem dX8_joined_37 : decode cX8_joined 37 = .ok (.invokevirtual 225, 3) := by decide +kernel
theorem dX8_joined_40 : decode cX8_joined 40 = .ok (.goto 10, 3) := by decide +kernel
theorem dX8_joined_43 : decode cX8_joined 43 = .ok (.aload_n 0, 1) := by decide +kernel
theorem dX8_joined_44 : decode cX8_joined 44 = .ok (.getfield 40, 3) := by decide +kernel
theorem dX8_joined_47 : decode cX8_joined 47 = .ok (.invokevirtual 229, 3) := by decide +kernel
theorem dX8_joined_50 : decode cX8_joined 50 = .ok (.lreturn, 1) := by decide +kernel
set_option maxRecDepth 20000 in
theorem ggX8_clash_X2_firstClash : GoodIn wsX8_clash wsX2_firstClash := goodIn_r _ [6, 7, 8, 9, 10, 5, 11, 12, 13, 14, 15, 16, 17, 18, 19, 20, 21, 22, 23, 24, 25, 31, 32, 33] (by decide +kernel) (by decide +kernel)
set_option maxRecDepth 20000 in
theorem gX8_clash_X2_firstClash : GoodIn wsX8_clash (wsV RX8 220 RX2 yX2_firstClash wsX2_firstClash) := goodIn_app (goodIn_of _ (by decide +kernel)) ggX8_clash_X2_firstClash
theorem dX8_clash_0 : decode cX8_clash 0 = .ok (.aload_n 0, 1) := by decide +kernel
theorem dX8_clash_1 : decode cX8_clash 1 = .ok (.getfield 40, 3) := by decide +kernel
theorem dX8_clash_4 : decode cX8_clash 4 = .ok (.invokevirtual 220, 3) := by decide +kernel
theorem dX8_clash_7 : decode cX8_clash 7 = .ok (.ireturn, 1) := by decide +kernel
set_option maxRecDepth 20000 in
theorem ggX8_seek_X2_seekOne : GoodIn wsX8_seek wsX2_seekOne := goodIn_r _ [4] (by decide +kernel) (by decide +kernel)
set_option maxRecDepth 20000 in
theorem gX8_seek_X2_seekOne : GoodIn wsX8_seek (va_wsS RX8 232 yX2_seekOne wsX2_seekOne) := goodIn_app (goodIn_of _ (by decide +kernel)) ggX8_seek_X2_seekOne
theorem dX8_seek_0 : decode cX8_seek 0 = .ok (.iload_n 2, 1) := by decide +kernel
theorem dX8_seek_1 : decode cX8_seek 1 = .ok (.iconst 2, 1) := by decide +kernel
theorem dX8_seek_2 : decode cX8_seek 2 = .ok (.if_icmp .lt 29, 3) := by decide +kernel
theorem dX8_seek_5 : decode cX8_seek 5 = .ok (.iload_n 2, 1) := by decide +kernel
theorem dX8_seek_6 : decode cX8_seek 6 = .ok (.sipush 1000, 3) := by decide +kernel
theorem dX8_seek_9 : decode cX8_seek 9 = .ok (.if_icmp .gt 22, 3) := by decide +kernel
theorem dX8_seek_12 : decode cX8_seek 12 = .ok (.iload_n 1, 1) := by decide +kernel
theorem dX8_seek_13 : decode cX8_seek 13 = .ok (.iconst 1, 1) := by decide +kernel
theorem dX8_seek_14 : decode cX8_seek 14 = .ok (.if_icmp .lt 17, 3) := by decide +kernel
theorem dX8_seek_17 : decode cX8_seek 17 = .ok (.iload_n 1, 1) := by decide +kernel
theorem dX8_seek_18 : decode cX8_seek 18 = .ok (.iload_n 2, 1) := by decide +kernel
theorem dX8_seek_19 : decode cX8_seek 19 = .ok (.if_icmp .ge 12, 3) := by decide +kernel
theorem dX8_seek_22 : decode cX8_seek 22 = .ok (.iload_n 3, 1) := by decide +kernel
theorem dX8_seek_23 : decode cX8_seek 23 = .ok (.ifCond .lt 8, 3) := by decide +kernel
theorem dX8_seek_26 : decode cX8_seek 26 = .ok (.iload_n 3, 1) := by decide +kernel
theorem dX8_seek_27 : decode cX8_seek 27 = .ok (.iconst 2, 1) := by decide +kernel
theorem dX8_seek_28 : decode cX8_seek 28 = .ok (.if_icmp .le 6, 3) := by decide +kernel
theorem dX8_seek_31 : decode cX8_seek 31 = .ok (.bipush (-2), 2) := by decide +kernel
theorem dX8_seek_33 : decode cX8_seek 33 = .ok (.ireturn, 1) := by decide +kernel
theorem dX8_seek_34 : decode cX8_seek 34 = .ok (.iload_n 1, 1) := by decide +kernel
theorem dX8_seek_35 : decode cX8_seek 35 = .ok (.iload_n 2, 1) := by decide +kernel
theorem dX8_seek_36 : decode cX8_seek 36 = .ok (.iload_n 3, 1) := by decide +kernel
theorem dX8_seek_37 : decode cX8_seek 37 = .ok (.invokestatic 232, 3) := by decide +kernel
theorem dX8_seek_40 : decode cX8_seek 40 = .ok (.ireturn, 1) := by decide +kernel
set_option maxRecDepth 20000 in
theorem ggX8_problem_X4_isTold : GoodIn wsX8_problem wsX4_isTold := goodIn_r _ [5, 6] (by decide +kernel) (by decide +kernel)
set_option maxRecDepth 20000 in
theorem gX8_problem_X4_isTold : GoodIn wsX8_problem (va_wsS RX8 235 yX4_isTold wsX4_isTold) := goodIn_app (goodIn_of _ (by decide +kernel)) ggX8_problem_X4_isTold
set_option maxRecDepth 20000 in
theorem ggX8_problem_X4_shared : GoodIn wsX8_problem wsX4_shared := goodIn_r _ [9, 10] (by decide +kernel) (by decide +kernel)
set_option maxRecDepth 20000 in
theorem gX8_problem_X4_shared : GoodIn wsX8_problem (va_wsS RX8 240 yX4_shared wsX4_shared) := goodIn_app (goodIn_of _ (by decide +kernel)) ggX8_problem_X4_shared
set_option maxRecDepth 20000 in
theorem ggX8_problem_X4_side : GoodIn wsX8_problem wsX4_side := goodIn_r _ [13, 14] (by decide +kernel) (by decide +kernel)
set_option maxRecDepth 20000 in
theorem gX8_problem_X4_side : GoodIn wsX8_problem (va_wsS RX8 244 yX4_side wsX4_side) := goodIn_app (goodIn_of _ (by decide +kernel)) ggX8_problem_X4_side
set_option maxRecDepth 20000 in
theorem ggX8_problem_X4_birdsAndBeasts : GoodIn wsX8_problem wsX4_birdsAndBeasts := goodIn_r _ [17, 10] (by decide +kernel) (by decide +kernel)
set_option maxRecDepth 20000 in
theorem gX8_problem_X4_birdsAndBeasts : GoodIn wsX8_problem (va_wsS RX8 247 yX4_birdsAndBeasts wsX4_birdsAndBeasts) := goodIn_app (goodIn_of _ (by decide +kernel)) ggX8_problem_X4_birdsAndBeasts
set_option maxRecDepth 20000 in
theorem ggX8_problem_X4_leftByThreeFiveSeven : GoodIn wsX8_problem wsX4_leftByThreeFiveSeven := goodIn_r _ [20, 10] (by decide +kernel) (by decide +kernel)
set_option maxRecDepth 20000 in
theorem gX8_problem_X4_leftByThreeFiveSeven : GoodIn wsX8_problem (va_wsS RX8 251 yX4_leftByThreeFiveSeven wsX4_leftByThreeFiveSeven) := goodIn_app (goodIn_of _ (by decide +kernel)) ggX8_problem_X4_leftByThreeFiveSeven
set_option maxRecDepth 20000 in
theorem ggX8_problem_X4_boughtTogether : GoodIn wsX8_problem wsX4_boughtTogether := goodIn_r _ [23, 10] (by decide +kernel) (by decide +kernel)
set_option maxRecDepth 20000 in
theorem gX8_problem_X4_boughtTogether : GoodIn wsX8_problem (va_wsS RX8 254 yX4_boughtTogether wsX4_boughtTogether) := goodIn_app (goodIn_of _ (by decide +kernel)) ggX8_problem_X4_boughtTogether
theorem dX8_problem_0 : decode cX8_problem 0 = .ok (.iload_n 1, 1) := by decide +kernel
theorem dX8_problem_1 : decode cX8_problem 1 = .ok (.ifCond .lt 19, 3) := by decide +kernel
theorem dX8_problem_4 : decode cX8_problem 4 = .ok (.iload_n 1, 1) := by decide +kernel
theorem dX8_problem_5 : decode cX8_problem 5 = .ok (.iconst 5, 1) := by decide +kernel
theorem dX8_problem_6 : decode cX8_problem 6 = .ok (.if_icmp .gt 14, 3) := by decide +kernel
theorem dX8_problem_9 : decode cX8_problem 9 = .ok (.iload 6, 2) := by decide +kernel
theorem dX8_problem_11 : decode cX8_problem 11 = .ok (.ifCond .lt 9, 3) := by decide +kernel
theorem dX8_problem_14 : decode cX8_problem 14 = .ok (.iload 6, 2) := by decide +kernel
theorem dX8_problem_16 : decode cX8_problem 16 = .ok (.iconst 1, 1) := by decide +kernel
theorem dX8_problem_17 : decode cX8_problem 17 = .ok (.if_icmp .le 7, 3) := by decide +kernel
theorem dX8_problem_20 : decode cX8_problem 20 = .ok (.ldc2_w 206, 3) := by decide +kernel
theorem dX8_problem_23 : decode cX8_problem 23 = .ok (.lreturn, 1) := by decide +kernel
theorem dX8_problem_24 : decode cX8_problem 24 = .ok (.iload_n 2, 1) := by decide +kernel
theorem dX8_problem_25 : decode cX8_problem 25 = .ok (.invokestatic 235, 3) := by decide +kernel
theorem dX8_problem_28 : decode cX8_problem 28 = .ok (.ifCond .eq 10, 3) := by decide +kernel
theorem dX8_problem_31 : decode cX8_problem 31 = .ok (.iload_n 3, 1) := by decide +kernel
theorem dX8_problem_32 : decode cX8_problem 32 = .ok (.invokestatic 235, 3) := by decide +kernel
theorem dX8_problem_35 : decode cX8_problem 35 = .ok (.ifCond .ne 7, 3) := by decide +kernel
theorem dX8_problem_38 : decode cX8_problem 38 = .ok (.ldc2_w 206, 3) := by decide +kernel
theorem dX8_problem_41 : decode cX8_problem 41 = .ok (.lreturn, 1) := by decide +kernel
theorem dX8_problem_42 : decode cX8_problem 42 = .ok (.iload 4, 2) := by decide +kernel
theorem dX8_problem_44 : decode cX8_problem 44 = .ok (.invokestatic 235, 3) := by decide +kernel
theorem dX8_problem_47 : decode cX8_problem 47 = .ok (.ifCond .eq 11, 3) := by decide +kernel
theorem dX8_problem_50 : decode cX8_problem 50 = .ok (.iload 5, 2) := by decide +kernel
theorem dX8_problem_52 : decode cX8_problem 52 = .ok (.invokestatic 235, 3) := by decide +kernel
theorem dX8_problem_55 : decode cX8_problem 55 = .ok (.ifCond .ne 7, 3) := by decide +kernel
theorem dX8_problem_58 : decode cX8_problem 58 = .ok (.ldc2_w 206, 3) := by decide +kernel
theorem dX8_problem_61 : decode cX8_problem 61 = .ok (.lreturn, 1) := by decide +kernel
theorem dX8_problem_62 : decode cX8_problem 62 = .ok (.iload_n 1, 1) := by decide +kernel
theorem dX8_problem_63 : decode cX8_problem 63 = .ok (.tableswitch 83 0 4 #[33, 48, 56, 63, 73], 33) := by decide +kernel
theorem dX8_problem_96 : decode cX8_problem 96 = .ok (.iload 6, 2) := by decide +kernel
theorem dX8_problem_98 : decode cX8_problem 98 = .ok (.ifCond .ne 11, 3) := by decide +kernel
theorem dX8_problem_101 : decode cX8_problem 101 = .ok (.iload_n 2, 1) := by decide +kernel
theorem dX8_problem_102 : decode cX8_problem 102 = .ok (.i2l, 1) := by decide +kernel
theorem dX8_problem_103 : decode cX8_problem 103 = .ok (.iload_n 3, 1) := by decide +kernel
theorem dX8_problem_104 : decode cX8_problem 104 = .ok (.i2l, 1) := by decide +kernel
theorem dX8_problem_105 : decode cX8_problem 105 = .ok (.lmul, 1) := by decide +kernel
theorem dX8_problem_106 : decode cX8_problem 106 = .ok (.goto 4, 3) := by decide +kernel
theorem dX8_problem_109 : decode cX8_problem 109 = .ok (.lconst 0, 1) := by decide +kernel
theorem dX8_problem_110 : decode cX8_problem 110 = .ok (.lreturn, 1) := by decide +kernel
theorem dX8_problem_111 : decode cX8_problem 111 = .ok (.iload_n 2, 1) := by decide +kernel
theorem dX8_problem_112 : decode cX8_problem 112 = .ok (.iload_n 3, 1) := by decide +kernel
theorem dX8_problem_113 : decode cX8_problem 113 = .ok (.iload 6, 2) := by decide +kernel
theorem dX8_problem_115 : decode cX8_problem 115 = .ok (.invokestatic 240, 3) := by decide +kernel
theorem dX8_problem_118 : decode cX8_problem 118 = .ok (.lreturn, 1) := by decide +kernel
theorem dX8_problem_119 : decode cX8_problem 119 = .ok (.iload_n 2, 1) := by decide +kernel
theorem dX8_problem_120 : decode cX8_problem 120 = .ok (.iload 6, 2) := by decide +kernel
theorem dX8_problem_122 : decode cX8_problem 122 = .ok (.invokestatic 244, 3) := by decide +kernel
theorem dX8_problem_125 : decode cX8_problem 125 = .ok (.lreturn, 1) := by decide +kernel
theorem dX8_problem_126 : decode cX8_problem 126 = .ok (.iload_n 2, 1) := by decide +kernel
theorem dX8_problem_127 : decode cX8_problem 127 = .ok (.iload_n 3, 1) := by decide +kernel
theorem dX8_problem_128 : decode cX8_problem 128 = .ok (.iload 4, 2) := by decide +kernel
theorem dX8_problem_130 : decode cX8_problem 130 = .ok (.iload 6, 2) := by decide +kernel
theorem dX8_problem_132 : decode cX8_problem 132 = .ok (.invokestatic 247, 3) := by decide +kernel
theorem dX8_problem_135 : decode cX8_problem 135 = .ok (.lreturn, 1) := by decide +kernel
theorem dX8_problem_136 : decode cX8_problem 136 = .ok (.iload_n 2, 1) := by decide +kernel
theorem dX8_problem_137 : decode cX8_problem 137 = .ok (.iload_n 3, 1) := by decide +kernel
theorem dX8_problem_138 : decode cX8_problem 138 = .ok (.iload 4, 2) := by decide +kernel
theorem dX8_problem_140 : decode cX8_problem 140 = .ok (.iload 6, 2) := by decide +kernel
theorem dX8_problem_142 : decode cX8_problem 142 = .ok (.invokestatic 251, 3) := by decide +kernel
theorem dX8_problem_145 : decode cX8_problem 145 = .ok (.lreturn, 1) := by decide +kernel
theorem dX8_problem_146 : decode cX8_problem 146 = .ok (.iload_n 2, 1) := by decide +kernel
theorem dX8_problem_147 : decode cX8_problem 147 = .ok (.iload_n 3, 1) := by decide +kernel
theorem dX8_problem_148 : decode cX8_problem 148 = .ok (.iload 4, 2) := by decide +kernel
theorem dX8_problem_150 : decode cX8_problem 150 = .ok (.iload 5, 2) := by decide +kernel
theorem dX8_problem_152 : decode cX8_problem 152 = .ok (.iload 6, 2) := by decide +kernel
theorem dX8_problem_154 : decode cX8_problem 154 = .ok (.invokestatic 254, 3) := by decide +kernel
theorem dX8_problem_157 : decode cX8_problem 157 = .ok (.lreturn, 1) := by decide +kernel
set_option maxRecDepth 20000 in
theorem ggX8_told_X6_size : GoodIn wsX8_told wsX6_size := goodIn_r _ [10, 11, 85, 86, 87, 88] (by decide +kernel) (by decide +kernel)
set_option maxRecDepth 20000 in
theorem gX8_told_X6_size : GoodIn wsX8_told (wsV RX8 89 RX6 yX6_size wsX6_size) := goodIn_app (goodIn_of _ (by decide +kernel)) ggX8_told_X6_size
set_option maxRecDepth 20000 in
theorem ggX8_told_X3_steps : GoodIn wsX8_told wsX3_steps := goodIn_r _ [16, 17, 89, 90, 91] (by decide +kernel) (by decide +kernel)
set_option maxRecDepth 20000 in
theorem gX8_told_X3_steps : GoodIn wsX8_told (wsV RX8 147 RX3 yX3_steps wsX3_steps) := goodIn_app (goodIn_of _ (by decide +kernel)) ggX8_told_X3_steps
set_option maxRecDepth 20000 in
theorem ggX8_told_X1_hasCopy : GoodIn wsX8_told wsX1_hasCopy := goodIn_r _ [22, 23, 24, 25, 26, 15, 27, 17, 92, 89, 90, 91] (by decide +kernel) (by decide +kernel)
set_option maxRecDepth 20000 in
theorem gX8_told_X1_hasCopy : GoodIn wsX8_told (wsV RX8 158 RX1 yX1_hasCopy wsX1_hasCopy) := goodIn_app (goodIn_of _ (by decide +kernel)) ggX8_told_X1_hasCopy
set_option maxRecDepth 20000 in
theorem ggX8_told_X2_size : GoodIn wsX8_told wsX2_size := goodIn_r _ [32, 33, 93, 94, 95] (by decide +kernel) (by decide +kernel)
set_option maxRecDepth 20000 in
theorem gX8_told_X2_size : GoodIn wsX8_told (wsV RX8 218 RX2 yX2_size wsX2_size) := goodIn_app (goodIn_of _ (by decide +kernel)) ggX8_told_X2_size
set_option maxRecDepth 20000 in
theorem ggX8_told_X1_allGaps : GoodIn wsX8_told wsX1_allGaps := goodIn_r _ [37, 23, 24, 25, 26, 15, 27, 17, 38, 39, 40, 21, 41, 42, 43, 44, 45, 46, 47, 92, 89, 90, 91] (by decide +kernel) (by decide +kernel)
set_option maxRecDepth 20000 in
theorem gX8_told_X1_allGaps : GoodIn wsX8_told (wsV RX8 261 RX1 yX1_allGaps wsX1_allGaps) := goodIn_app (goodIn_of _ (by decide +kernel)) ggX8_told_X1_allGaps
set_option maxRecDepth 20000 in
theorem ggX8_told_X7_allSticks : GoodIn wsX8_told wsX7_allSticks := goodIn_r _ [52, 53, 54, 55, 56, 57, 58, 59, 60, 61, 62, 63, 64, 65, 66, 67, 68, 69, 75, 76] (by decide +kernel) (by decide +kernel)
set_option maxRecDepth 20000 in
theorem gX8_told_X7_allSticks : GoodIn wsX8_told (wsV RX8 264 RX7 yX7_allSticks wsX7_allSticks) := goodIn_app (goodIn_of _ (by decide +kernel)) ggX8_told_X7_allSticks
theorem dX8_told_0 : decode cX8_told 0 = .ok (.iload_n 1, 1) := by decide +kernel
theorem dX8_told_1 : decode cX8_told 1 = .ok (.tableswitch 122 0 7 #[47, 55, 66, 82, 90, 98, 106, 114], 47) := by decide +kernel
theorem dX8_told_48 : decode cX8_told 48 = .ok (.aload_n 0, 1) := by decide +kernel
theorem dX8_told_49 : decode cX8_told 49 = .ok (.getfield 19, 3) := by decide +kernel
theorem dX8_told_52 : decode cX8_told 52 = .ok (.invokevirtual 89, 3) := by decide +kernel
theorem dX8_told_55 : decode cX8_told 55 = .ok (.ireturn, 1) := by decide +kernel
theorem dX8_told_56 : decode cX8_told 56 = .ok (.aload_n 0, 1) := by decide +kernel
theorem dX8_told_57 : decode cX8_told 57 = .ok (.getfield 10, 3) := by decide +kernel
theorem dX8_told_60 : decode cX8_told 60 = .ok (.getfield 132, 3) := by decide +kernel
theorem dX8_told_63 : decode cX8_told 63 = .ok (.invokevirtual 147, 3) := by decide +kernel
theorem dX8_told_66 : decode cX8_told 66 = .ok (.ireturn, 1) := by decide +kernel
theorem dX8_told_67 : decode cX8_told 67 = .ok (.aload_n 0, 1) := by decide +kernel
theorem dX8_told_68 : decode cX8_told 68 = .ok (.getfield 26, 3) := by decide +kernel
theorem dX8_told_71 : decode cX8_told 71 = .ok (.invokevirtual 158, 3) := by decide +kernel
theorem dX8_told_74 : decode cX8_told 74 = .ok (.ifCond .eq 7, 3) := by decide +kernel
theorem dX8_told_77 : decode cX8_told 77 = .ok (.iconst 1, 1) := by decide +kernel
theorem dX8_told_78 : decode cX8_told 78 = .ok (.goto 4, 3) := by decide +kernel
theorem dX8_told_81 : decode cX8_told 81 = .ok (.iconst 0, 1) := by decide +kernel
theorem dX8_told_82 : decode cX8_told 82 = .ok (.ireturn, 1) := by decide +kernel
theorem dX8_told_83 : decode cX8_told 83 = .ok (.aload_n 0, 1) := by decide +kernel
theorem dX8_told_84 : decode cX8_told 84 = .ok (.getfield 33, 3) := by decide +kernel
theorem dX8_told_87 : decode cX8_told 87 = .ok (.getfield 187, 3) := by decide +kernel
theorem dX8_told_90 : decode cX8_told 90 = .ok (.ireturn, 1) := by decide +kernel
theorem dX8_told_91 : decode cX8_told 91 = .ok (.aload_n 0, 1) := by decide +kernel
theorem dX8_told_92 : decode cX8_told 92 = .ok (.getfield 33, 3) := by decide +kernel
theorem dX8_told_95 : decode cX8_told 95 = .ok (.getfield 258, 3) := by decide +kernel
theorem dX8_told_98 : decode cX8_told 98 = .ok (.ireturn, 1) := by decide +kernel
theorem dX8_told_99 : decode cX8_told 99 = .ok (.aload_n 0, 1) := by decide +kernel
theorem dX8_told_100 : decode cX8_told 100 = .ok (.getfield 40, 3) := by decide +kernel
theorem dX8_told_103 : decode cX8_told 103 = .ok (.invokevirtual 218, 3) := by decide +kernel
theorem dX8_told_106 : decode cX8_told 106 = .ok (.ireturn, 1) := by decide +kernel
theorem dX8_told_107 : decode cX8_told 107 = .ok (.aload_n 0, 1) := by decide +kernel
theorem dX8_told_108 : decode cX8_told 108 = .ok (.getfield 26, 3) := by decide +kernel
theorem dX8_told_111 : decode cX8_told 111 = .ok (.invokevirtual 261, 3) := by decide +kernel
theorem dX8_told_114 : decode cX8_told 114 = .ok (.ireturn, 1) := by decide +kernel
theorem dX8_told_115 : decode cX8_told 115 = .ok (.aload_n 0, 1) := by decide +kernel
theorem dX8_told_116 : decode cX8_told 116 = .ok (.getfield 10, 3) := by decide +kernel
theorem dX8_told_119 : decode cX8_told 119 = .ok (.invokevirtual 264, 3) := by decide +kernel
theorem dX8_told_122 : decode cX8_told 122 = .ok (.ireturn, 1) := by decide +kernel
theorem dX8_told_123 : decode cX8_told 123 = .ok (.bipush (-2), 2) := by decide +kernel
theorem dX8_told_125 : decode cX8_told 125 = .ok (.ireturn, 1) := by decide +kernel
theorem dX8_isRow_0 : decode cX8_isRow 0 = .ok (.iload_n 0, 1) := by decide +kernel
theorem dX8_isRow_1 : decode cX8_isRow 1 = .ok (.ifCond .lt 13, 3) := by decide +kernel
theorem dX8_isRow_4 : decode cX8_isRow 4 = .ok (.iload_n 0, 1) := by decide +kernel
theorem dX8_isRow_5 : decode cX8_isRow 5 = .ok (.bipush 8, 2) := by decide +kernel
theorem dX8_isRow_7 : decode cX8_isRow 7 = .ok (.if_icmp .ge 7, 3) := by decide +kernel
theorem dX8_isRow_10 : decode cX8_isRow 10 = .ok (.iconst 1, 1) := by decide +kernel
theorem dX8_isRow_11 : decode cX8_isRow 11 = .ok (.goto 4, 3) := by decide +kernel
theorem dX8_isRow_14 : decode cX8_isRow 14 = .ok (.iconst 0, 1) := by decide +kernel
theorem dX8_isRow_15 : decode cX8_isRow 15 = .ok (.ireturn, 1) := by decide +kernel
theorem dX9_init_0 : decode cX9_init 0 = .ok (.aload_n 0, 1) := by decide +kernel
theorem dX9_init_1 : decode cX9_init 1 = .ok (.invokespecial 1, 3) := by decide +kernel
theorem dX9_init_4 : decode cX9_init 4 = .ok (.aload_n 0, 1) := by decide +kernel
theorem dX9_init_5 : decode cX9_init 5 = .ok (.bipush 8, 2) := by decide +kernel
theorem dX9_init_7 : decode cX9_init 7 = .ok (.newarray .long, 2) := by decide +kernel
theorem dX9_init_9 : decode cX9_init 9 = .ok (.putfield 7, 3) := by decide +kernel
theorem dX9_init_12 : decode cX9_init 12 = .ok (.aload_n 0, 1) := by decide +kernel
theorem dX9_init_13 : decode cX9_init 13 = .ok (.bipush 12, 2) := by decide +kernel
theorem dX9_init_15 : decode cX9_init 15 = .ok (.newarray .int, 2) := by decide +kernel
theorem dX9_init_17 : decode cX9_init 17 = .ok (.putfield 13, 3) := by decide +kernel
theorem dX9_init_20 : decode cX9_init 20 = .ok (.aload_n 0, 1) := by decide +kernel
theorem dX9_init_21 : decode cX9_init 21 = .ok (.bipush 12, 2) := by decide +kernel
theorem dX9_init_23 : decode cX9_init 23 = .ok (.newarray .int, 2) := by decide +kernel
theorem dX9_init_25 : decode cX9_init 25 = .ok (.putfield 17, 3) := by decide +kernel
theorem dX9_init_28 : decode cX9_init 28 = .ok (.aload_n 0, 1) := by decide +kernel
theorem dX9_init_29 : decode cX9_init 29 = .ok (.sipush 1200, 3) := by decide +kernel
theorem dX9_init_32 : decode cX9_init 32 = .ok (.newarray .long, 2) := by decide +kernel
theorem dX9_init_34 : decode cX9_init 34 = .ok (.putfield 20, 3) := by decide +kernel
theorem dX9_init_37 : decode cX9_init 37 = .ok (.aload_n 0, 1) := by decide +kernel
theorem dX9_init_38 : decode cX9_init 38 = .ok (.sipush 900, 3) := by decide +kernel
theorem dX9_init_41 : decode cX9_init 41 = .ok (.newarray .int, 2) := by decide +kernel
theorem dX9_init_43 : decode cX9_init 43 = .ok (.putfield 23, 3) := by decide +kernel
theorem dX9_init_46 : decode cX9_init 46 = .ok (.aload_n 0, 1) := by decide +kernel
theorem dX9_init_47 : decode cX9_init 47 = .ok (.sipush 1200, 3) := by decide +kernel
theorem dX9_init_50 : decode cX9_init 50 = .ok (.newarray .long, 2) := by decide +kernel
theorem dX9_init_52 : decode cX9_init 52 = .ok (.putfield 26, 3) := by decide +kernel
theorem dX9_init_55 : decode cX9_init 55 = .ok (.aload_n 0, 1) := by decide +kernel
theorem dX9_init_56 : decode cX9_init 56 = .ok (.sipush 1200, 3) := by decide +kernel
theorem dX9_init_59 : decode cX9_init 59 = .ok (.newarray .boolean, 2) := by decide +kernel
theorem dX9_init_61 : decode cX9_init 61 = .ok (.putfield 29, 3) := by decide +kernel
theorem dX9_init_64 : decode cX9_init 64 = .ok (.aload_n 0, 1) := by decide +kernel
theorem dX9_init_65 : decode cX9_init 65 = .ok (.iconst 1, 1) := by decide +kernel
theorem dX9_init_66 : decode cX9_init 66 = .ok (.putfield 33, 3) := by decide +kernel
theorem dX9_init_69 : decode cX9_init 69 = .ok (.aload_n 0, 1) := by decide +kernel
theorem dX9_init_70 : decode cX9_init 70 = .ok (.iconst 1, 1) := by decide +kernel
theorem dX9_init_71 : decode cX9_init 71 = .ok (.putfield 37, 3) := by decide +kernel
theorem dX9_init_74 : decode cX9_init 74 = .ok (.aload_n 0, 1) := by decide +kernel
theorem dX9_init_75 : decode cX9_init 75 = .ok (.bipush 25, 2) := by decide +kernel
theorem dX9_init_77 : decode cX9_init 77 = .ok (.newarray .int, 2) := by decide +kernel
theorem dX9_init_79 : decode cX9_init 79 = .ok (.putfield 40, 3) := by decide +kernel
theorem dX9_init_82 : decode cX9_init 82 = .ok (.aload_n 0, 1) := by decide +kernel
theorem dX9_init_83 : decode cX9_init 83 = .ok (.bipush 6, 2) := by decide +kernel
theorem dX9_init_85 : decode cX9_init 85 = .ok (.newarray .int, 2) := by decide +kernel
theorem dX9_init_87 : decode cX9_init 87 = .ok (.putfield 43, 3) := by decide +kernel
theorem dX9_init_90 : decode cX9_init 90 = .ok (.aload_n 0, 1) := by decide +kernel
theorem dX9_init_91 : decode cX9_init 91 = .ok (.bipush 6, 2) := by decide +kernel
theorem dX9_init_93 : decode cX9_init 93 = .ok (.newarray .int, 2) := by decide +kernel
theorem dX9_init_95 : decode cX9_init 95 = .ok (.putfield 46, 3) := by decide +kernel
theorem dX9_init_98 : decode cX9_init 98 = .ok (.aload_n 0, 1) := by decide +kernel
theorem dX9_init_99 : decode cX9_init 99 = .ok (.bipush 8, 2) := by decide +kernel
theorem dX9_init_101 : decode cX9_init 101 = .ok (.newarray .long, 2) := by decide +kernel
theorem dX9_init_103 : decode cX9_init 103 = .ok (.putfield 49, 3) := by decide +kernel
theorem dX9_init_106 : decode cX9_init 106 = .ok (.aload_n 0, 1) := by decide +kernel
theorem dX9_init_107 : decode cX9_init 107 = .ok (.sipush 1200, 3) := by decide +kernel
theorem dX9_init_110 : decode cX9_init 110 = .ok (.newarray .long, 2) := by decide +kernel
theorem dX9_init_112 : decode cX9_init 112 = .ok (.putfield 52, 3) := by decide +kernel
theorem dX9_init_115 : decode cX9_init 115 = .ok (.aload_n 0, 1) := by decide +kernel
theorem dX9_init_116 : decode cX9_init 116 = .ok (.sipush 900, 3) := by decide +kernel
theorem dX9_init_119 : decode cX9_init 119 = .ok (.newarray .int, 2) := by decide +kernel
theorem dX9_init_121 : decode cX9_init 121 = .ok (.putfield 55, 3) := by decide +kernel
theorem dX9_init_124 : decode cX9_init 124 = .ok (.aload_n 0, 1) := by decide +kernel
theorem dX9_init_125 : decode cX9_init 125 = .ok (.bipush 25, 2) := by decide +kernel
theorem dX9_init_127 : decode cX9_init 127 = .ok (.newarray .long, 2) := by decide +kernel
theorem dX9_init_129 : decode cX9_init 129 = .ok (.putfield 58, 3) := by decide +kernel
theorem dX9_init_132 : decode cX9_init 132 = .ok (.aload_n 0, 1) := by decide +kernel
theorem dX9_init_133 : decode cX9_init 133 = .ok (.iconst 5, 1) := by decide +kernel
theorem dX9_init_134 : decode cX9_init 134 = .ok (.newarray .int, 2) := by decide +kernel
theorem dX9_init_136 : decode cX9_init 136 = .ok (.putfield 61, 3) := by decide +kernel
theorem dX9_init_139 : decode cX9_init 139 = .ok (.aload_n 0, 1) := by decide +kernel
theorem dX9_init_140 : decode cX9_init 140 = .ok (.iconst 4, 1) := by decide +kernel
theorem dX9_init_141 : decode cX9_init 141 = .ok (.newarray .int, 2) := by decide +kernel
theorem dX9_init_143 : decode cX9_init 143 = .ok (.putfield 64, 3) := by decide +kernel
theorem dX9_init_146 : decode cX9_init 146 = .ok (.return_, 1) := by decide +kernel
theorem dX9_in_0 : decode cX9_in 0 = .ok (.lload_n 0, 1) := by decide +kernel
theorem dX9_in_1 : decode cX9_in 1 = .ok (.lload_n 2, 1) := by decide +kernel
theorem dX9_in_2 : decode cX9_in 2 = .ok (.lcmp, 1) := by decide +kernel
theorem dX9_in_3 : decode cX9_in 3 = .ok (.ifCond .lt 14, 3) := by decide +kernel
theorem dX9_in_6 : decode cX9_in 6 = .ok (.lload_n 0, 1) := by decide +kernel
theorem dX9_in_7 : decode cX9_in 7 = .ok (.lload 4, 2) := by decide +kernel
theorem dX9_in_9 : decode cX9_in 9 = .ok (.lcmp, 1) := by decide +kernel
theorem dX9_in_10 : decode cX9_in 10 = .ok (.ifCond .gt 7, 3) := by decide +kernel
theorem dX9_in_13 : decode cX9_in 13 = .ok (.iconst 1, 1) := by decide +kernel
theorem dX9_in_14 : decode cX9_in 14 = .ok (.goto 4, 3) := by decide +kernel
theorem dX9_in_17 : decode cX9_in 17 = .ok (.iconst 0, 1) := by decide +kernel
theorem dX9_in_18 : decode cX9_in 18 = .ok (.ireturn, 1) := by decide +kernel
set_option maxRecDepth 20000 in
theorem ggX9_isRow_X9_in : GoodIn wsX9_isRow wsX9_in := goodIn_r _ [5] (by decide +kernel) (by decide +kernel)
set_option maxRecDepth 20000 in
theorem gX9_isRow_X9_in : GoodIn wsX9_isRow (va_wsS RX9 69 yX9_in wsX9_in) := goodIn_app (goodIn_of _ (by decide +kernel)) ggX9_isRow_X9_in
theorem dX9_isRow_0 : decode cX9_isRow 0 = .ok (.iload_n 0, 1) := by decide +kernel
theorem dX9_isRow_1 : decode cX9_isRow 1 = .ok (.i2l, 1) := by decide +kernel
theorem dX9_isRow_2 : decode cX9_isRow 2 = .ok (.lconst 0, 1) := by decide +kernel
theorem dX9_isRow_3 : decode cX9_isRow 3 = .ok (.ldc2_w 67, 3) := by decide +kernel
theorem dX9_isRow_6 : decode cX9_isRow 6 = .ok (.invokestatic 69, 3) := by decide +kernel
theorem dX9_isRow_9 : decode cX9_isRow 9 = .ok (.ireturn, 1) := by decide +kernel
theorem dX9_size_0 : decode cX9_size 0 = .ok (.lload_n 0, 1) := by decide +kernel
theorem dX9_size_1 : decode cX9_size 1 = .ok (.lconst 0, 1) := by decide +kernel
theorem dX9_size_2 : decode cX9_size 2 = .ok (.lcmp, 1) := by decide +kernel
theorem dX9_size_3 : decode cX9_size 3 = .ok (.ifCond .ge 8, 3) := by decide +kernel
theorem dX9_size_6 : decode cX9_size 6 = .ok (.lload_n 0, 1) := by decide +kernel
theorem dX9_size_7 : decode cX9_size 7 = .ok (.lneg, 1) := by decide +kernel
theorem dX9_size_8 : decode cX9_size 8 = .ok (.goto 4, 3) := by decide +kernel
theorem dX9_size_11 : decode cX9_size 11 = .ok (.lload_n 0, 1) := by decide +kernel
theorem dX9_size_12 : decode cX9_size 12 = .ok (.lreturn, 1) := by decide +kernel
set_option maxRecDepth 20000 in
theorem ggX9_fits_X9_size : GoodIn wsX9_fits wsX9_size := goodIn_r _ [5] (by decide +kernel) (by decide +kernel)
set_option maxRecDepth 20000 in
theorem gX9_fits_X9_size : GoodIn wsX9_fits (va_wsS RX9 73 yX9_size wsX9_size) := goodIn_app (goodIn_of _ (by decide +kernel)) ggX9_fits_X9_size
theorem dX9_fits_0 : decode cX9_fits 0 = .ok (.lload_n 0, 1) := by decide +kernel
theorem dX9_fits_1 : decode cX9_fits 1 = .ok (.invokestatic 73, 3) := by decide +kernel
theorem dX9_fits_4 : decode cX9_fits 4 = .ok (.ldc2_w 77, 3) := by decide +kernel
theorem dX9_fits_7 : decode cX9_fits 7 = .ok (.lcmp, 1) := by decide +kernel
theorem dX9_fits_8 : decode cX9_fits 8 = .ok (.ifCond .ge 7, 3) := by decide +kernel
theorem dX9_fits_11 : decode cX9_fits 11 = .ok (.iconst 1, 1) := by decide +kernel
theorem dX9_fits_12 : decode cX9_fits 12 = .ok (.goto 4, 3) := by decide +kernel
theorem dX9_fits_15 : decode cX9_fits 15 = .ok (.iconst 0, 1) := by decide +kernel
theorem dX9_fits_16 : decode cX9_fits 16 = .ok (.ireturn, 1) := by decide +kernel
theorem dX9_ten_0 : decode cX9_ten 0 = .ok (.lconst 1, 1) := by decide +kernel
theorem dX9_ten_1 : decode cX9_ten 1 = .ok (.lstore_n 1, 1) := by decide +kernel
theorem dX9_ten_2 : decode cX9_ten 2 = .ok (.iconst 0, 1) := by decide +kernel
theorem dX9_ten_3 : decode cX9_ten 3 = .ok (.istore_n 3, 1) := by decide +kernel
theorem dX9_ten_4 : decode cX9_ten 4 = .ok (.iload_n 3, 1) := by decide +kernel
theorem dX9_ten_5 : decode cX9_ten 5 = .ok (.iload_n 0, 1) := by decide +kernel
theorem dX9_ten_6 : decode cX9_ten 6 = .ok (.if_icmp .ge 15, 3) := by decide +kernel
theorem dX9_ten_9 : decode cX9_ten 9 = .ok (.lload_n 1, 1) := by decide +kernel
theorem dX9_ten_10 : decode cX9_ten 10 = .ok (.ldc2_w 79, 3) := by decide +kernel
theorem dX9_ten_13 : decode cX9_ten 13 = .ok (.lmul, 1) := by decide +kernel
theorem dX9_ten_14 : decode cX9_ten 14 = .ok (.lstore_n 1, 1) := by decide +kernel
theorem dX9_ten_15 : decode cX9_ten 15 = .ok (.iinc 3 1, 3) := by decide +kernel
theorem dX9_ten_18 : decode cX9_ten 18 = .ok (.goto (-14), 3) := by decide +kernel
theorem dX9_ten_21 : decode cX9_ten 21 = .ok (.lload_n 1, 1) := by decide +kernel
theorem dX9_ten_22 : decode cX9_ten 22 = .ok (.lreturn, 1) := by decide +kernel
set_option maxRecDepth 20000 in
theorem ggX9_digit_X9_size : GoodIn wsX9_digit wsX9_size := goodIn_r _ [5] (by decide +kernel) (by decide +kernel)
set_option maxRecDepth 20000 in
theorem gX9_digit_X9_size : GoodIn wsX9_digit (va_wsS RX9 73 yX9_size wsX9_size) := goodIn_app (goodIn_of _ (by decide +kernel)) ggX9_digit_X9_size
set_option maxRecDepth 20000 in
theorem ggX9_digit_X9_ten : GoodIn wsX9_digit wsX9_ten := goodIn_r _ [8, 1] (by decide +kernel) (by decide +kernel)
set_option maxRecDepth 20000 in
theorem gX9_digit_X9_ten : GoodIn wsX9_digit (va_wsS RX9 81 yX9_ten wsX9_ten) := goodIn_app (goodIn_of _ (by decide +kernel)) ggX9_digit_X9_ten
theorem dX9_digit_0 : decode cX9_digit 0 = .ok (.lload_n 0, 1) := by decide +kernel
theorem dX9_digit_1 : decode cX9_digit 1 = .ok (.invokestatic 73, 3) := by decide +kernel
theorem dX9_digit_4 : decode cX9_digit 4 = .ok (.iload_n 2, 1) := by decide +kernel
theorem dX9_digit_5 : decode cX9_digit 5 = .ok (.invokestatic 81, 3) := by decide +kernel
theorem dX9_digit_8 : decode cX9_digit 8 = .ok (.ldiv, 1) := by decide +kernel
theorem dX9_digit_9 : decode cX9_digit 9 = .ok (.ldc2_w 79, 3) := by decide +kernel
theorem dX9_digit_12 : decode cX9_digit 12 = .ok (.lrem, 1) := by decide +kernel
theorem dX9_digit_13 : decode cX9_digit 13 = .ok (.l2i, 1) := by decide +kernel
theorem dX9_digit_14 : decode cX9_digit 14 = .ok (.ireturn, 1) := by decide +kernel
theorem dX9_colour_0 : decode cX9_colour 0 = .ok (.lload_n 0, 1) := by decide +kernel
theorem dX9_colour_1 : decode cX9_colour 1 = .ok (.lconst 0, 1) := by decide +kernel
theorem dX9_colour_2 : decode cX9_colour 2 = .ok (.lcmp, 1) := by decide +kernel
theorem dX9_colour_3 : decode cX9_colour 3 = .ok (.ifCond .le 7, 3) := by decide +kernel
theorem dX9_colour_6 : decode cX9_colour 6 = .ok (.iconst 1, 1) := by decide +kernel
theorem dX9_colour_7 : decode cX9_colour 7 = .ok (.goto 14, 3) := by decide +kernel
theorem dX9_colour_10 : decode cX9_colour 10 = .ok (.lload_n 0, 1) := by decide +kernel
theorem dX9_colour_11 : decode cX9_colour 11 = .ok (.lconst 0, 1) := by decide +kernel
theorem dX9_colour_12 : decode cX9_colour 12 = .ok (.lcmp, 1) := by decide +kernel
theorem dX9_colour_13 : decode cX9_colour 13 = .ok (.ifCond .ge 7, 3) := by decide +kernel
theorem dX9_colour_16 : decode cX9_colour 16 = .ok (.iconst 2, 1) := by decide +kernel
theorem dX9_colour_17 : decode cX9_colour 17 = .ok (.goto 4, 3) := by decide +kernel
theorem dX9_colour_20 : decode cX9_colour 20 = .ok (.iconst 0, 1) := by decide +kernel
theorem dX9_colour_21 : decode cX9_colour 21 = .ok (.ireturn, 1) := by decide +kernel
set_option maxRecDepth 20000 in
theorem ggX9_highest_X9_digit : GoodIn wsX9_highest wsX9_digit := goodIn_r _ [4, 5, 6, 7, 3, 8, 9, 10, 11] (by decide +kernel) (by decide +kernel)
set_option maxRecDepth 20000 in
theorem gX9_highest_X9_digit : GoodIn wsX9_highest (va_wsS RX9 85 yX9_digit wsX9_digit) := goodIn_app (goodIn_of _ (by decide +kernel)) ggX9_highest_X9_digit
theorem dX9_highest_0 : decode cX9_highest 0 = .ok (.bipush (-6), 2) := by decide +kernel
theorem dX9_highest_2 : decode cX9_highest 2 = .ok (.istore_n 2, 1) := by decide +kernel
theorem dX9_highest_3 : decode cX9_highest 3 = .ok (.iconst 0, 1) := by decide +kernel
theorem dX9_highest_4 : decode cX9_highest 4 = .ok (.istore_n 3, 1) := by decide +kernel
theorem dX9_highest_5 : decode cX9_highest 5 = .ok (.iload_n 3, 1) := by decide +kernel
theorem dX9_highest_6 : decode cX9_highest 6 = .ok (.bipush 12, 2) := by decide +kernel
theorem dX9_highest_8 : decode cX9_highest 8 = .ok (.if_icmp .ge 23, 3) := by decide +kernel
theorem dX9_highest_11 : decode cX9_highest 11 = .ok (.lload_n 0, 1) := by decide +kernel
theorem dX9_highest_12 : decode cX9_highest 12 = .ok (.iload_n 3, 1) := by decide +kernel
theorem dX9_highest_13 : decode cX9_highest 13 = .ok (.invokestatic 85, 3) := by decide +kernel
theorem dX9_highest_16 : decode cX9_highest 16 = .ok (.ifCond .le 7, 3) := by decide +kernel
theorem dX9_highest_19 : decode cX9_highest 19 = .ok (.iload_n 3, 1) := by decide +kernel
theorem dX9_highest_20 : decode cX9_highest 20 = .ok (.goto 4, 3) := by decide +kernel
theorem dX9_highest_23 : decode cX9_highest 23 = .ok (.iload_n 2, 1) := by decide +kernel
theorem dX9_highest_24 : decode cX9_highest 24 = .ok (.istore_n 2, 1) := by decide +kernel
theorem dX9_highest_25 : decode cX9_highest 25 = .ok (.iinc 3 1, 3) := by decide +kernel
theorem dX9_highest_28 : decode cX9_highest 28 = .ok (.goto (-23), 3) := by decide +kernel
theorem dX9_highest_31 : decode cX9_highest 31 = .ok (.iload_n 2, 1) := by decide +kernel
theorem dX9_highest_32 : decode cX9_highest 32 = .ok (.ireturn, 1) := by decide +kernel
set_option maxRecDepth 20000 in
theorem ggX9_allSticks_X9_digit : GoodIn wsX9_allSticks wsX9_digit := goodIn_r _ [4, 5, 6, 7, 3, 8, 9, 10, 11] (by decide +kernel) (by decide +kernel)
set_option maxRecDepth 20000 in
theorem gX9_allSticks_X9_digit : GoodIn wsX9_allSticks (va_wsS RX9 85 yX9_digit wsX9_digit) := goodIn_app (goodIn_of _ (by decide +kernel)) ggX9_allSticks_X9_digit
theorem dX9_allSticks_0 : decode cX9_allSticks 0 = .ok (.iconst 0, 1) := by decide +kernel
theorem dX9_allSticks_1 : decode cX9_allSticks 1 = .ok (.istore_n 2, 1) := by decide +kernel
theorem dX9_allSticks_2 : decode cX9_allSticks 2 = .ok (.iconst 0, 1) := by decide +kernel
theorem dX9_allSticks_3 : decode cX9_allSticks 3 = .ok (.istore_n 3, 1) := by decide +kernel
theorem dX9_allSticks_4 : decode cX9_allSticks 4 = .ok (.iload_n 3, 1) := by decide +kernel
theorem dX9_allSticks_5 : decode cX9_allSticks 5 = .ok (.bipush 12, 2) := by decide +kernel
theorem dX9_allSticks_7 : decode cX9_allSticks 7 = .ok (.if_icmp .ge 17, 3) := by decide +kernel
theorem dX9_allSticks_10 : decode cX9_allSticks 10 = .ok (.iload_n 2, 1) := by decide +kernel
theorem dX9_allSticks_11 : decode cX9_allSticks 11 = .ok (.lload_n 0, 1) := by decide +kernel
theorem dX9_allSticks_12 : decode cX9_allSticks 12 = .ok (.iload_n 3, 1) := by decide +kernel
theorem dX9_allSticks_13 : decode cX9_allSticks 13 = .ok (.invokestatic 85, 3) := by decide +kernel
theorem dX9_allSticks_16 : decode cX9_allSticks 16 = .ok (.iadd, 1) := by decide +kernel
theorem dX9_allSticks_17 : decode cX9_allSticks 17 = .ok (.istore_n 2, 1) := by decide +kernel
theorem dX9_allSticks_18 : decode cX9_allSticks 18 = .ok (.iinc 3 1, 3) := by decide +kernel
theorem dX9_allSticks_21 : decode cX9_allSticks 21 = .ok (.goto (-17), 3) := by decide +kernel
theorem dX9_allSticks_24 : decode cX9_allSticks 24 = .ok (.iload_n 2, 1) := by decide +kernel
theorem dX9_allSticks_25 : decode cX9_allSticks 25 = .ok (.ireturn, 1) := by decide +kernel
set_option maxRecDepth 20000 in
theorem ggX9_lay_X9_isRow : GoodIn wsX9_lay wsX9_isRow := goodIn_r _ [7, 8, 9, 10, 6, 11] (by decide +kernel) (by decide +kernel)
set_option maxRecDepth 20000 in
theorem gX9_lay_X9_isRow : GoodIn wsX9_lay (va_wsS RX9 89 yX9_isRow wsX9_isRow) := goodIn_app (goodIn_of _ (by decide +kernel)) ggX9_lay_X9_isRow
set_option maxRecDepth 20000 in
theorem ggX9_lay_X9_in : GoodIn wsX9_lay wsX9_in := goodIn_r _ [11] (by decide +kernel) (by decide +kernel)
set_option maxRecDepth 20000 in
theorem gX9_lay_X9_in : GoodIn wsX9_lay (va_wsS RX9 69 yX9_in wsX9_in) := goodIn_app (goodIn_of _ (by decide +kernel)) ggX9_lay_X9_in
set_option maxRecDepth 20000 in
theorem ggX9_lay_X9_colour : GoodIn wsX9_lay wsX9_colour := goodIn_r _ [14] (by decide +kernel) (by decide +kernel)
set_option maxRecDepth 20000 in
theorem gX9_lay_X9_colour : GoodIn wsX9_lay (va_wsS RX9 97 yX9_colour wsX9_colour) := goodIn_app (goodIn_of _ (by decide +kernel)) ggX9_lay_X9_colour
theorem dX9_lay_0 : decode cX9_lay 0 = .ok (.iload_n 1, 1) := by decide +kernel
theorem dX9_lay_1 : decode cX9_lay 1 = .ok (.invokestatic 89, 3) := by decide +kernel
theorem dX9_lay_4 : decode cX9_lay 4 = .ok (.ifCond .ne 5, 3) := by decide +kernel
theorem dX9_lay_7 : decode cX9_lay 7 = .ok (.iconst (-1), 1) := by decide +kernel
theorem dX9_lay_8 : decode cX9_lay 8 = .ok (.ireturn, 1) := by decide +kernel
theorem dX9_lay_9 : decode cX9_lay 9 = .ok (.lload_n 2, 1) := by decide +kernel
theorem dX9_lay_10 : decode cX9_lay 10 = .ok (.ldc2_w 93, 3) := by decide +kernel
theorem dX9_lay_13 : decode cX9_lay 13 = .ok (.ldc2_w 95, 3) := by decide +kernel
theorem dX9_lay_16 : decode cX9_lay 16 = .ok (.invokestatic 69, 3) := by decide +kernel
theorem dX9_lay_19 : decode cX9_lay 19 = .ok (.ifCond .ne 6, 3) := by decide +kernel
theorem dX9_lay_22 : decode cX9_lay 22 = .ok (.bipush (-2), 2) := by decide +kernel
theorem dX9_lay_24 : decode cX9_lay 24 = .ok (.ireturn, 1) := by decide +kernel
theorem dX9_lay_25 : decode cX9_lay 25 = .ok (.aload_n 0, 1) := by decide +kernel
theorem dX9_lay_26 : decode cX9_lay 26 = .ok (.getfield 7, 3) := by decide +kernel
theorem dX9_lay_29 : decode cX9_lay 29 = .ok (.iload_n 1, 1) := by decide +kernel
theorem dX9_lay_30 : decode cX9_lay 30 = .ok (.lload_n 2, 1) := by decide +kernel
theorem dX9_lay_31 : decode cX9_lay 31 = .ok (.lastore, 1) := by decide +kernel
theorem dX9_lay_32 : decode cX9_lay 32 = .ok (.lload_n 2, 1) := by decide +kernel
theorem dX9_lay_33 : decode cX9_lay 33 = .ok (.invokestatic 97, 3) := by decide +kernel
theorem dX9_lay_36 : decode cX9_lay 36 = .ok (.ireturn, 1) := by decide +kernel
set_option maxRecDepth 20000 in
theorem ggX9_number_X9_isRow : GoodIn wsX9_number wsX9_isRow := goodIn_r _ [6, 7, 8, 9, 5, 10] (by decide +kernel) (by decide +kernel)
set_option maxRecDepth 20000 in
theorem gX9_number_X9_isRow : GoodIn wsX9_number (va_wsS RX9 89 yX9_isRow wsX9_isRow) := goodIn_app (goodIn_of _ (by decide +kernel)) ggX9_number_X9_isRow
theorem dX9_number_0 : decode cX9_number 0 = .ok (.iload_n 1, 1) := by decide +kernel
theorem dX9_number_1 : decode cX9_number 1 = .ok (.invokestatic 89, 3) := by decide +kernel
theorem dX9_number_4 : decode cX9_number 4 = .ok (.ifCond .eq 12, 3) := by decide +kernel
theorem dX9_number_7 : decode cX9_number 7 = .ok (.aload_n 0, 1) := by decide +kernel
theorem dX9_number_8 : decode cX9_number 8 = .ok (.getfield 7, 3) := by decide +kernel
theorem dX9_number_11 : decode cX9_number 11 = .ok (.iload_n 1, 1) := by decide +kernel
theorem dX9_number_12 : decode cX9_number 12 = .ok (.laload, 1) := by decide +kernel
theorem dX9_number_13 : decode cX9_number 13 = .ok (.goto 6, 3) := by decide +kernel
theorem dX9_number_16 : decode cX9_number 16 = .ok (.ldc2_w 101, 3) := by decide +kernel
theorem dX9_number_19 : decode cX9_number 19 = .ok (.lreturn, 1) := by decide +kernel
set_option maxRecDepth 20000 in
theorem ggX9_sticks_X9_isRow : GoodIn wsX9_sticks wsX9_isRow := goodIn_r _ [6, 7, 8, 9, 5, 10] (by decide +kernel) (by decide +kernel)
set_option maxRecDepth 20000 in
theorem gX9_sticks_X9_isRow : GoodIn wsX9_sticks (va_wsS RX9 89 yX9_isRow wsX9_isRow) := goodIn_app (goodIn_of _ (by decide +kernel)) ggX9_sticks_X9_isRow
set_option maxRecDepth 20000 in
theorem ggX9_sticks_X9_in : GoodIn wsX9_sticks wsX9_in := goodIn_r _ [10] (by decide +kernel) (by decide +kernel)
set_option maxRecDepth 20000 in
theorem gX9_sticks_X9_in : GoodIn wsX9_sticks (va_wsS RX9 69 yX9_in wsX9_in) := goodIn_app (goodIn_of _ (by decide +kernel)) ggX9_sticks_X9_in
set_option maxRecDepth 20000 in
theorem ggX9_sticks_X9_digit : GoodIn wsX9_sticks wsX9_digit := goodIn_r _ [13, 14, 15, 16, 5, 17, 18, 19, 20] (by decide +kernel) (by decide +kernel)
set_option maxRecDepth 20000 in
theorem gX9_sticks_X9_digit : GoodIn wsX9_sticks (va_wsS RX9 85 yX9_digit wsX9_digit) := goodIn_app (goodIn_of _ (by decide +kernel)) ggX9_sticks_X9_digit
theorem dX9_sticks_0 : decode cX9_sticks 0 = .ok (.iload_n 1, 1) := by decide +kernel
theorem dX9_sticks_1 : decode cX9_sticks 1 = .ok (.invokestatic 89, 3) := by decide +kernel
theorem dX9_sticks_4 : decode cX9_sticks 4 = .ok (.ifCond .eq 15, 3) := by decide +kernel
theorem dX9_sticks_7 : decode cX9_sticks 7 = .ok (.iload_n 2, 1) := by decide +kernel
theorem dX9_sticks_8 : decode cX9_sticks 8 = .ok (.i2l, 1) := by decide +kernel
theorem dX9_sticks_9 : decode cX9_sticks 9 = .ok (.lconst 0, 1) := by decide +kernel
theorem dX9_sticks_10 : decode cX9_sticks 10 = .ok (.ldc2_w 103, 3) := by decide +kernel
theorem dX9_sticks_13 : decode cX9_sticks 13 = .ok (.invokestatic 69, 3) := by decide +kernel
theorem dX9_sticks_16 : decode cX9_sticks 16 = .ok (.ifCond .ne 5, 3) := by decide +kernel
theorem dX9_sticks_19 : decode cX9_sticks 19 = .ok (.iconst (-1), 1) := by decide +kernel
theorem dX9_sticks_20 : decode cX9_sticks 20 = .ok (.ireturn, 1) := by decide +kernel
theorem dX9_sticks_21 : decode cX9_sticks 21 = .ok (.aload_n 0, 1) := by decide +kernel
theorem dX9_sticks_22 : decode cX9_sticks 22 = .ok (.getfield 7, 3) := by decide +kernel
theorem dX9_sticks_25 : decode cX9_sticks 25 = .ok (.iload_n 1, 1) := by decide +kernel
theorem dX9_sticks_26 : decode cX9_sticks 26 = .ok (.laload, 1) := by decide +kernel
theorem dX9_sticks_27 : decode cX9_sticks 27 = .ok (.iload_n 2, 1) := by decide +kernel
theorem dX9_sticks_28 : decode cX9_sticks 28 = .ok (.invokestatic 85, 3) := by decide +kernel
theorem dX9_sticks_31 : decode cX9_sticks 31 = .ok (.istore_n 3, 1) := by decide +kernel
theorem dX9_sticks_32 : decode cX9_sticks 32 = .ok (.iload_n 3, 1) := by decide +kernel
theorem dX9_sticks_33 : decode cX9_sticks 33 = .ok (.ifCond .ne 7, 3) := by decide +kernel
theorem dX9_sticks_36 : decode cX9_sticks 36 = .ok (.iconst 0, 1) := by decide +kernel
theorem dX9_sticks_37 : decode cX9_sticks 37 = .ok (.goto 11, 3) := by decide +kernel
theorem dX9_sticks_40 : decode cX9_sticks 40 = .ok (.bipush 10, 2) := by decide +kernel
theorem dX9_sticks_42 : decode cX9_sticks 42 = .ok (.iload_n 2, 1) := by decide +kernel
theorem dX9_sticks_43 : decode cX9_sticks 43 = .ok (.iconst 2, 1) := by decide +kernel
theorem dX9_sticks_44 : decode cX9_sticks 44 = .ok (.irem, 1) := by decide +kernel
theorem dX9_sticks_45 : decode cX9_sticks 45 = .ok (.imul, 1) := by decide +kernel
theorem dX9_sticks_46 : decode cX9_sticks 46 = .ok (.iload_n 3, 1) := by decide +kernel
theorem dX9_sticks_47 : decode cX9_sticks 47 = .ok (.iadd, 1) := by decide +kernel
theorem dX9_sticks_48 : decode cX9_sticks 48 = .ok (.ireturn, 1) := by decide +kernel
set_option maxRecDepth 20000 in
theorem ggX9_about_X9_isRow : GoodIn wsX9_about wsX9_isRow := goodIn_r _ [5, 6, 7, 8, 4, 9] (by decide +kernel) (by decide +kernel)
set_option maxRecDepth 20000 in
theorem gX9_about_X9_isRow : GoodIn wsX9_about (va_wsS RX9 89 yX9_isRow wsX9_isRow) := goodIn_app (goodIn_of _ (by decide +kernel)) ggX9_about_X9_isRow
set_option maxRecDepth 20000 in
theorem ggX9_about_X9_colour : GoodIn wsX9_about wsX9_colour := goodIn_r _ [12] (by decide +kernel) (by decide +kernel)
set_option maxRecDepth 20000 in
theorem gX9_about_X9_colour : GoodIn wsX9_about (va_wsS RX9 97 yX9_colour wsX9_colour) := goodIn_app (goodIn_of _ (by decide +kernel)) ggX9_about_X9_colour
set_option maxRecDepth 20000 in
theorem ggX9_about_X9_allSticks : GoodIn wsX9_about wsX9_allSticks := goodIn_r _ [15, 16, 17, 4, 18, 19, 20, 21, 22, 23, 24, 25] (by decide +kernel) (by decide +kernel)
set_option maxRecDepth 20000 in
theorem gX9_about_X9_allSticks : GoodIn wsX9_about (va_wsS RX9 105 yX9_allSticks wsX9_allSticks) := goodIn_app (goodIn_of _ (by decide +kernel)) ggX9_about_X9_allSticks
set_option maxRecDepth 20000 in
theorem ggX9_about_X9_highest : GoodIn wsX9_about wsX9_highest := goodIn_r _ [28, 16, 17, 4, 18, 19, 20, 21, 22, 23, 24, 25] (by decide +kernel) (by decide +kernel)
set_option maxRecDepth 20000 in
theorem gX9_about_X9_highest : GoodIn wsX9_about (va_wsS RX9 108 yX9_highest wsX9_highest) := goodIn_app (goodIn_of _ (by decide +kernel)) ggX9_about_X9_highest
set_option maxRecDepth 20000 in
theorem ggX9_about_X9_digit : GoodIn wsX9_about wsX9_digit := goodIn_r _ [18, 19, 20, 21, 4, 22, 23, 24, 25] (by decide +kernel) (by decide +kernel)
set_option maxRecDepth 20000 in
theorem gX9_about_X9_digit : GoodIn wsX9_about (va_wsS RX9 85 yX9_digit wsX9_digit) := goodIn_app (goodIn_of _ (by decide +kernel)) ggX9_about_X9_digit
theorem dX9_about_0 : decode cX9_about 0 = .ok (.iload_n 1, 1) := by decide +kernel
theorem dX9_about_1 : decode cX9_about 1 = .ok (.invokestatic 89, 3) := by decide +kernel
theorem dX9_about_4 : decode cX9_about 4 = .ok (.ifCond .ne 5, 3) := by decide +kernel
theorem dX9_about_7 : decode cX9_about 7 = .ok (.iconst (-1), 1) := by decide +kernel
theorem dX9_about_8 : decode cX9_about 8 = .ok (.ireturn, 1) := by decide +kernel
theorem dX9_about_9 : decode cX9_about 9 = .ok (.iload_n 2, 1) := by decide +kernel
theorem dX9_about_10 : decode cX9_about 10 = .ok (.tableswitch 109 0 3 #[30, 40, 50, 60], 30) := by decide +kernel
theorem dX9_about_40 : decode cX9_about 40 = .ok (.aload_n 0, 1) := by decide +kernel
theorem dX9_about_41 : decode cX9_about 41 = .ok (.getfield 7, 3) := by decide +kernel
theorem dX9_about_44 : decode cX9_about 44 = .ok (.iload_n 1, 1) := by decide +kernel
theorem dX9_about_45 : decode cX9_about 45 = .ok (.laload, 1) := by decide +kernel
theorem dX9_about_46 : decode cX9_about 46 = .ok (.invokestatic 97, 3) := by decide +kernel
theorem dX9_about_49 : decode cX9_about 49 = .ok (.ireturn, 1) := by decide +kernel
theorem dX9_about_50 : decode cX9_about 50 = .ok (.aload_n 0, 1) := by decide +kernel
theorem dX9_about_51 : decode cX9_about 51 = .ok (.getfield 7, 3) := by decide +kernel
theorem dX9_about_54 : decode cX9_about 54 = .ok (.iload_n 1, 1) := by decide +kernel
theorem dX9_about_55 : decode cX9_about 55 = .ok (.laload, 1) := by decide +kernel
theorem dX9_about_56 : decode cX9_about 56 = .ok (.invokestatic 105, 3) := by decide +kernel
theorem dX9_about_59 : decode cX9_about 59 = .ok (.ireturn, 1) := by decide +kernel
theorem dX9_about_60 : decode cX9_about 60 = .ok (.aload_n 0, 1) := by decide +kernel
theorem dX9_about_61 : decode cX9_about 61 = .ok (.getfield 7, 3) := by decide +kernel
theorem dX9_about_64 : decode cX9_about 64 = .ok (.iload_n 1, 1) := by decide +kernel
theorem dX9_about_65 : decode cX9_about 65 = .ok (.laload, 1) := by decide +kernel
theorem dX9_about_66 : decode cX9_about 66 = .ok (.invokestatic 108, 3) := by decide +kernel
theorem dX9_about_69 : decode cX9_about 69 = .ok (.ireturn, 1) := by decide +kernel
theorem dX9_about_70 : decode cX9_about 70 = .ok (.iconst 0, 1) := by decide +kernel
theorem dX9_about_71 : decode cX9_about 71 = .ok (.istore_n 3, 1) := by decide +kernel
theorem dX9_about_72 : decode cX9_about 72 = .ok (.iconst 0, 1) := by decide +kernel
theorem dX9_about_73 : decode cX9_about 73 = .ok (.istore 4, 2) := by decide +kernel
theorem dX9_about_75 : decode cX9_about 75 = .ok (.iload 4, 2) := by decide +kernel
theorem dX9_about_77 : decode cX9_about 77 = .ok (.aload_n 0, 1) := by decide +kernel
theorem dX9_about_78 : decode cX9_about 78 = .ok (.getfield 7, 3) := by decide +kernel
theorem dX9_about_81 : decode cX9_about 81 = .ok (.iload_n 1, 1) := by decide +kernel
theorem dX9_about_82 : decode cX9_about 82 = .ok (.laload, 1) := by decide +kernel
theorem dX9_about_83 : decode cX9_about 83 = .ok (.invokestatic 108, 3) := by decide +kernel
theorem dX9_about_86 : decode cX9_about 86 = .ok (.if_icmp .ge 31, 3) := by decide +kernel
theorem dX9_about_89 : decode cX9_about 89 = .ok (.iload_n 3, 1) := by decide +kernel
theorem dX9_about_90 : decode cX9_about 90 = .ok (.aload_n 0, 1) := by decide +kernel
theorem dX9_about_91 : decode cX9_about 91 = .ok (.getfield 7, 3) := by decide +kernel
theorem dX9_about_94 : decode cX9_about 94 = .ok (.iload_n 1, 1) := by decide +kernel
theorem dX9_about_95 : decode cX9_about 95 = .ok (.laload, 1) := by decide +kernel
theorem dX9_about_96 : decode cX9_about 96 = .ok (.iload 4, 2) := by decide +kernel
theorem dX9_about_98 : decode cX9_about 98 = .ok (.invokestatic 85, 3) := by decide +kernel
theorem dX9_about_101 : decode cX9_about 101 = .ok (.ifCond .ne 7, 3) := by decide +kernel
theorem dX9_about_104 : decode cX9_about 104 = .ok (.iconst 1, 1) := by decide +kernel
theorem dX9_about_105 : decode cX9_about 105 = .ok (.goto 4, 3) := by decide +kernel
theorem dX9_about_108 : decode cX9_about 108 = .ok (.iconst 0, 1) := by decide +kernel
theorem dX9_about_109 : decode cX9_about 109 = .ok (.iadd, 1) := by decide +kernel
theorem dX9_about_110 : decode cX9_about 110 = .ok (.istore_n 3, 1) := by decide +kernel
theorem dX9_about_111 : decode cX9_about 111 = .ok (.iinc 4 1, 3) := by decide +kernel
theorem dX9_about_114 : decode cX9_about 114 = .ok (.goto (-39), 3) := by decide +kernel
theorem dX9_about_117 : decode cX9_about 117 = .ok (.iload_n 3, 1) := by decide +kernel
theorem dX9_about_118 : decode cX9_about 118 = .ok (.ireturn, 1) := by decide +kernel
theorem dX9_about_119 : decode cX9_about 119 = .ok (.bipush (-2), 2) := by decide +kernel
theorem dX9_about_121 : decode cX9_about 121 = .ok (.ireturn, 1) := by decide +kernel
set_option maxRecDepth 20000 in
theorem ggX9_group_X9_in : GoodIn wsX9_group wsX9_in := goodIn_r _ [8] (by decide +kernel) (by decide +kernel)
set_option maxRecDepth 20000 in
theorem gX9_group_X9_in : GoodIn wsX9_group (va_wsS RX9 69 yX9_in wsX9_in) := goodIn_app (goodIn_of _ (by decide +kernel)) ggX9_group_X9_in
theorem dX9_group_0 : decode cX9_group 0 = .ok (.iload_n 1, 1) := by decide +kernel
theorem dX9_group_1 : decode cX9_group 1 = .ok (.i2l, 1) := by decide +kernel
theorem dX9_group_2 : decode cX9_group 2 = .ok (.lconst 1, 1) := by decide +kernel
theorem dX9_group_3 : decode cX9_group 3 = .ok (.ldc2_w 111, 3) := by decide +kernel
theorem dX9_group_6 : decode cX9_group 6 = .ok (.invokestatic 69, 3) := by decide +kernel
theorem dX9_group_9 : decode cX9_group 9 = .ok (.ifCond .eq 13, 3) := by decide +kernel
theorem dX9_group_12 : decode cX9_group 12 = .ok (.iload_n 2, 1) := by decide +kernel
theorem dX9_group_13 : decode cX9_group 13 = .ok (.i2l, 1) := by decide +kernel
theorem dX9_group_14 : decode cX9_group 14 = .ok (.lconst 0, 1) := by decide +kernel
theorem dX9_group_15 : decode cX9_group 15 = .ok (.lconst 1, 1) := by decide +kernel
theorem dX9_group_16 : decode cX9_group 16 = .ok (.invokestatic 69, 3) := by decide +kernel
theorem dX9_group_19 : decode cX9_group 19 = .ok (.ifCond .ne 6, 3) := by decide +kernel
theorem dX9_group_22 : decode cX9_group 22 = .ok (.bipush (-2), 2) := by decide +kernel
theorem dX9_group_24 : decode cX9_group 24 = .ok (.ireturn, 1) := by decide +kernel
theorem dX9_group_25 : decode cX9_group 25 = .ok (.aload_n 0, 1) := by decide +kernel
theorem dX9_group_26 : decode cX9_group 26 = .ok (.getfield 113, 3) := by decide +kernel
theorem dX9_group_29 : decode cX9_group 29 = .ok (.bipush 12, 2) := by decide +kernel
theorem dX9_group_31 : decode cX9_group 31 = .ok (.if_icmp .ne 6, 3) := by decide +kernel
theorem dX9_group_34 : decode cX9_group 34 = .ok (.bipush (-4), 2) := by decide +kernel
theorem dX9_group_36 : decode cX9_group 36 = .ok (.ireturn, 1) := by decide +kernel
theorem dX9_group_37 : decode cX9_group 37 = .ok (.aload_n 0, 1) := by decide +kernel
theorem dX9_group_38 : decode cX9_group 38 = .ok (.getfield 13, 3) := by decide +kernel
theorem dX9_group_41 : decode cX9_group 41 = .ok (.aload_n 0, 1) := by decide +kernel
theorem dX9_group_42 : decode cX9_group 42 = .ok (.getfield 113, 3) := by decide +kernel
theorem dX9_group_45 : decode cX9_group 45 = .ok (.iload_n 1, 1) := by decide +kernel
theorem dX9_group_46 : decode cX9_group 46 = .ok (.iastore, 1) := by decide +kernel
theorem dX9_group_47 : decode cX9_group 47 = .ok (.aload_n 0, 1) := by decide +kernel
theorem dX9_group_48 : decode cX9_group 48 = .ok (.getfield 17, 3) := by decide +kernel
theorem dX9_group_51 : decode cX9_group 51 = .ok (.aload_n 0, 1) := by decide +kernel
theorem dX9_group_52 : decode cX9_group 52 = .ok (.getfield 113, 3) := by decide +kernel
theorem dX9_group_55 : decode cX9_group 55 = .ok (.iload_n 2, 1) := by decide +kernel
theorem dX9_group_56 : decode cX9_group 56 = .ok (.iastore, 1) := by decide +kernel
theorem dX9_group_57 : decode cX9_group 57 = .ok (.aload_n 0, 1) := by decide +kernel
theorem dX9_group_58 : decode cX9_group 58 = .ok (.dup, 1) := by decide +kernel
theorem dX9_group_59 : decode cX9_group 59 = .ok (.getfield 113, 3) := by decide +kernel
theorem dX9_group_62 : decode cX9_group 62 = .ok (.iconst 1, 1) := by decide +kernel
theorem dX9_group_63 : decode cX9_group 63 = .ok (.iadd, 1) := by decide +kernel
theorem dX9_group_64 : decode cX9_group 64 = .ok (.putfield 113, 3) := by decide +kernel
theorem dX9_group_67 : decode cX9_group 67 = .ok (.aload_n 0, 1) := by decide +kernel
theorem dX9_group_68 : decode cX9_group 68 = .ok (.getfield 113, 3) := by decide +kernel
theorem dX9_group_71 : decode cX9_group 71 = .ok (.ireturn, 1) := by decide +kernel
set_option maxRecDepth 20000 in
theorem ggX9_strip_X9_isRow : GoodIn wsX9_strip wsX9_isRow := goodIn_r _ [8, 9, 10, 11, 7, 12] (by decide +kernel) (by decide +kernel)
set_option maxRecDepth 20000 in
theorem gX9_strip_X9_isRow : GoodIn wsX9_strip (va_wsS RX9 89 yX9_isRow wsX9_isRow) := goodIn_app (goodIn_of _ (by decide +kernel)) ggX9_strip_X9_isRow
set_option maxRecDepth 20000 in
theorem ggX9_strip_X9_digit : GoodIn wsX9_strip wsX9_digit := goodIn_r _ [15, 16, 17, 18, 7, 19, 20, 21, 22] (by decide +kernel) (by decide +kernel)
set_option maxRecDepth 20000 in
theorem gX9_strip_X9_digit : GoodIn wsX9_strip (va_wsS RX9 85 yX9_digit wsX9_digit) := goodIn_app (goodIn_of _ (by decide +kernel)) ggX9_strip_X9_digit
theorem dX9_strip_0 : decode cX9_strip 0 = .ok (.iload_n 1, 1) := by decide +kernel
theorem dX9_strip_1 : decode cX9_strip 1 = .ok (.invokestatic 89, 3) := by decide +kernel
theorem dX9_strip_4 : decode cX9_strip 4 = .ok (.ifCond .ne 5, 3) := by decide +kernel
theorem dX9_strip_7 : decode cX9_strip 7 = .ok (.iconst (-1), 1) := by decide +kernel
theorem dX9_strip_8 : decode cX9_strip 8 = .ok (.ireturn, 1) := by decide +kernel
theorem dX9_strip_9 : decode cX9_strip 9 = .ok (.aload_n 0, 1) := by decide +kernel
theorem dX9_strip_10 : decode cX9_strip 10 = .ok (.iconst 0, 1) := by decide +kernel
theorem dX9_strip_11 : decode cX9_strip 11 = .ok (.putfield 113, 3) := by decide +kernel
theorem dX9_strip_14 : decode cX9_strip 14 = .ok (.bipush 11, 2) := by decide +kernel
theorem dX9_strip_16 : decode cX9_strip 16 = .ok (.istore_n 2, 1) := by decide +kernel
theorem dX9_strip_17 : decode cX9_strip 17 = .ok (.iload_n 2, 1) := by decide +kernel
theorem dX9_strip_18 : decode cX9_strip 18 = .ok (.ifCond .lt 63, 3) := by decide +kernel
theorem dX9_strip_21 : decode cX9_strip 21 = .ok (.aload_n 0, 1) := by decide +kernel
theorem dX9_strip_22 : decode cX9_strip 22 = .ok (.getfield 7, 3) := by decide +kernel
theorem dX9_strip_25 : decode cX9_strip 25 = .ok (.iload_n 1, 1) := by decide +kernel
theorem dX9_strip_26 : decode cX9_strip 26 = .ok (.laload, 1) := by decide +kernel
theorem dX9_strip_27 : decode cX9_strip 27 = .ok (.iload_n 2, 1) := by decide +kernel
theorem dX9_strip_28 : decode cX9_strip 28 = .ok (.invokestatic 85, 3) := by decide +kernel
theorem dX9_strip_31 : decode cX9_strip 31 = .ok (.ifCond .le 44, 3) := by decide +kernel
theorem dX9_strip_34 : decode cX9_strip 34 = .ok (.aload_n 0, 1) := by decide +kernel
theorem dX9_strip_35 : decode cX9_strip 35 = .ok (.getfield 13, 3) := by decide +kernel
theorem dX9_strip_38 : decode cX9_strip 38 = .ok (.aload_n 0, 1) := by decide +kernel
theorem dX9_strip_39 : decode cX9_strip 39 = .ok (.getfield 113, 3) := by decide +kernel
theorem dX9_strip_42 : decode cX9_strip 42 = .ok (.aload_n 0, 1) := by decide +kernel
theorem dX9_strip_43 : decode cX9_strip 43 = .ok (.getfield 7, 3) := by decide +kernel
theorem dX9_strip_46 : decode cX9_strip 46 = .ok (.iload_n 1, 1) := by decide +kernel
theorem dX9_strip_47 : decode cX9_strip 47 = .ok (.laload, 1) := by decide +kernel
theorem dX9_strip_48 : decode cX9_strip 48 = .ok (.iload_n 2, 1) := by decide +kernel
theorem dX9_strip_49 : decode cX9_strip 49 = .ok (.invokestatic 85, 3) := by decide +kernel
theorem dX9_strip_52 : decode cX9_strip 52 = .ok (.iastore, 1) := by decide +kernel
theorem dX9_strip_53 : decode cX9_strip 53 = .ok (.aload_n 0, 1) := by decide +kernel
theorem dX9_strip_54 : decode cX9_strip 54 = .ok (.getfield 17, 3) := by decide +kernel
theorem dX9_strip_57 : decode cX9_strip 57 = .ok (.aload_n 0, 1) := by decide +kernel
theorem dX9_strip_58 : decode cX9_strip 58 = .ok (.getfield 113, 3) := by decide +kernel
theorem dX9_strip_61 : decode cX9_strip 61 = .ok (.iload_n 2, 1) := by decide +kernel
theorem dX9_strip_62 : decode cX9_strip 62 = .ok (.iconst 2, 1) := by decide +kernel
theorem dX9_strip_63 : decode cX9_strip 63 = .ok (.irem, 1) := by decide +kernel
theorem dX9_strip_64 : decode cX9_strip 64 = .ok (.iastore, 1) := by decide +kernel
theorem dX9_strip_65 : decode cX9_strip 65 = .ok (.aload_n 0, 1) := by decide +kernel
theorem dX9_strip_66 : decode cX9_strip 66 = .ok (.dup, 1) := by decide +kernel
theorem dX9_strip_67 : decode cX9_strip 67 = .ok (.getfield 113, 3) := by decide +kernel
theorem dX9_strip_70 : decode cX9_strip 70 = .ok (.iconst 1, 1) := by decide +kernel
theorem dX9_strip_71 : decode cX9_strip 71 = .ok (.iadd, 1) := by decide +kernel
theorem dX9_strip_72 : decode cX9_strip 72 = .ok (.putfield 113, 3) := by decide +kernel
theorem dX9_strip_75 : decode cX9_strip 75 = .ok (.iinc 2 (-1), 3) := by decide +kernel
theorem dX9_strip_78 : decode cX9_strip 78 = .ok (.goto (-61), 3) := by decide +kernel
theorem dX9_strip_81 : decode cX9_strip 81 = .ok (.aload_n 0, 1) := by decide +kernel
theorem dX9_strip_82 : decode cX9_strip 82 = .ok (.getfield 113, 3) := by decide +kernel
theorem dX9_strip_85 : decode cX9_strip 85 = .ok (.ireturn, 1) := by decide +kernel
theorem dX9_wipe_0 : decode cX9_wipe 0 = .ok (.aload_n 0, 1) := by decide +kernel
theorem dX9_wipe_1 : decode cX9_wipe 1 = .ok (.getfield 113, 3) := by decide +kernel
theorem dX9_wipe_4 : decode cX9_wipe 4 = .ok (.istore_n 1, 1) := by decide +kernel
theorem dX9_wipe_5 : decode cX9_wipe 5 = .ok (.aload_n 0, 1) := by decide +kernel
theorem dX9_wipe_6 : decode cX9_wipe 6 = .ok (.iconst 0, 1) := by decide +kernel
theorem dX9_wipe_7 : decode cX9_wipe 7 = .ok (.putfield 113, 3) := by decide +kernel
theorem dX9_wipe_10 : decode cX9_wipe 10 = .ok (.iload_n 1, 1) := by decide +kernel
theorem dX9_wipe_11 : decode cX9_wipe 11 = .ok (.ireturn, 1) := by decide +kernel
set_option maxRecDepth 20000 in
theorem ggX9_readingBy_X9_ten : GoodIn wsX9_readingBy wsX9_ten := goodIn_r _ [8, 9] (by decide +kernel) (by decide +kernel)
set_option maxRecDepth 20000 in
theorem gX9_readingBy_X9_ten : GoodIn wsX9_readingBy (va_wsS RX9 81 yX9_ten wsX9_ten) := goodIn_app (goodIn_of _ (by decide +kernel)) ggX9_readingBy_X9_ten
theorem dX9_readingBy_0 : decode cX9_readingBy 0 = .ok (.lconst 0, 1) := by decide +kernel
theorem dX9_readingBy_1 : decode cX9_readingBy 1 = .ok (.lstore_n 2, 1) := by decide +kernel
theorem dX9_readingBy_2 : decode cX9_readingBy 2 = .ok (.aload_n 0, 1) := by decide +kernel
theorem dX9_readingBy_3 : decode cX9_readingBy 3 = .ok (.getfield 113, 3) := by decide +kernel
theorem dX9_readingBy_6 : decode cX9_readingBy 6 = .ok (.istore 4, 2) := by decide +kernel
theorem dX9_readingBy_8 : decode cX9_readingBy 8 = .ok (.iconst 0, 1) := by decide +kernel
theorem dX9_readingBy_9 : decode cX9_readingBy 9 = .ok (.istore 5, 2) := by decide +kernel
theorem dX9_readingBy_11 : decode cX9_readingBy 11 = .ok (.iload 5, 2) := by decide +kernel
theorem dX9_readingBy_13 : decode cX9_readingBy 13 = .ok (.bipush 12, 2) := by decide +kernel
theorem dX9_readingBy_15 : decode cX9_readingBy 15 = .ok (.if_icmp .ge 62, 3) := by decide +kernel
theorem dX9_readingBy_18 : decode cX9_readingBy 18 = .ok (.iload_n 1, 1) := by decide +kernel
theorem dX9_readingBy_19 : decode cX9_readingBy 19 = .ok (.iload 5, 2) := by decide +kernel
theorem dX9_readingBy_21 : decode cX9_readingBy 21 = .ok (.ishr, 1) := by decide +kernel
theorem dX9_readingBy_22 : decode cX9_readingBy 22 = .ok (.iconst 1, 1) := by decide +kernel
theorem dX9_readingBy_23 : decode cX9_readingBy 23 = .ok (.iand, 1) := by decide +kernel
theorem dX9_readingBy_24 : decode cX9_readingBy 24 = .ok (.iconst 1, 1) := by decide +kernel
theorem dX9_readingBy_25 : decode cX9_readingBy 25 = .ok (.if_icmp .ne 46, 3) := by decide +kernel
theorem dX9_readingBy_28 : decode cX9_readingBy 28 = .ok (.iinc 4 (-1), 3) := by decide +kernel
theorem dX9_readingBy_31 : decode cX9_readingBy 31 = .ok (.iload 4, 2) := by decide +kernel
theorem dX9_readingBy_33 : decode cX9_readingBy 33 = .ok (.ifCond .lt 17, 3) := by decide +kernel
theorem dX9_readingBy_36 : decode cX9_readingBy 36 = .ok (.aload_n 0, 1) := by decide +kernel
theorem dX9_readingBy_37 : decode cX9_readingBy 37 = .ok (.getfield 17, 3) := by decide +kernel
theorem dX9_readingBy_40 : decode cX9_readingBy 40 = .ok (.iload 4, 2) := by decide +kernel
theorem dX9_readingBy_42 : decode cX9_readingBy 42 = .ok (.iaload, 1) := by decide +kernel
theorem dX9_readingBy_43 : decode cX9_readingBy 43 = .ok (.iload 5, 2) := by decide +kernel
theorem dX9_readingBy_45 : decode cX9_readingBy 45 = .ok (.iconst 2, 1) := by decide +kernel
theorem dX9_readingBy_46 : decode cX9_readingBy 46 = .ok (.irem, 1) := by decide +kernel
theorem dX9_readingBy_47 : decode cX9_readingBy 47 = .ok (.if_icmp .eq 7, 3) := by decide +kernel
theorem dX9_readingBy_50 : decode cX9_readingBy 50 = .ok (.ldc2_w 116, 3) := by decide +kernel
theorem dX9_readingBy_53 : decode cX9_readingBy 53 = .ok (.lreturn, 1) := by decide +kernel
theorem dX9_readingBy_54 : decode cX9_readingBy 54 = .ok (.lload_n 2, 1) := by decide +kernel
theorem dX9_readingBy_55 : decode cX9_readingBy 55 = .ok (.aload_n 0, 1) := by decide +kernel
theorem dX9_readingBy_56 : decode cX9_readingBy 56 = .ok (.getfield 13, 3) := by decide +kernel
theorem dX9_readingBy_59 : decode cX9_readingBy 59 = .ok (.iload 4, 2) := by decide +kernel
theorem dX9_readingBy_61 : decode cX9_readingBy 61 = .ok (.iaload, 1) := by decide +kernel
theorem dX9_readingBy_62 : decode cX9_readingBy 62 = .ok (.i2l, 1) := by decide +kernel
theorem dX9_readingBy_63 : decode cX9_readingBy 63 = .ok (.iload 5, 2) := by decide +kernel
theorem dX9_readingBy_65 : decode cX9_readingBy 65 = .ok (.invokestatic 81, 3) := by decide +kernel
theorem dX9_readingBy_68 : decode cX9_readingBy 68 = .ok (.lmul, 1) := by decide +kernel
theorem dX9_readingBy_69 : decode cX9_readingBy 69 = .ok (.ladd, 1) := by decide +kernel
theorem dX9_readingBy_70 : decode cX9_readingBy 70 = .ok (.lstore_n 2, 1) := by decide +kernel
theorem dX9_readingBy_71 : decode cX9_readingBy 71 = .ok (.iinc 5 1, 3) := by decide +kernel
theorem dX9_readingBy_74 : decode cX9_readingBy 74 = .ok (.goto (-63), 3) := by decide +kernel
theorem dX9_readingBy_77 : decode cX9_readingBy 77 = .ok (.iload 4, 2) := by decide +kernel
theorem dX9_readingBy_79 : decode cX9_readingBy 79 = .ok (.ifCond .ne 7, 3) := by decide +kernel
theorem dX9_readingBy_82 : decode cX9_readingBy 82 = .ok (.lload_n 2, 1) := by decide +kernel
theorem dX9_readingBy_83 : decode cX9_readingBy 83 = .ok (.goto 6, 3) := by decide +kernel
theorem dX9_readingBy_86 : decode cX9_readingBy 86 = .ok (.ldc2_w 116, 3) := by decide +kernel
theorem dX9_readingBy_89 : decode cX9_readingBy 89 = .ok (.lreturn, 1) := by decide +kernel
set_option maxRecDepth 20000 in
theorem ggX9_readings_X9_readingBy : GoodIn wsX9_readings wsX9_readingBy := goodIn_r _ [5, 6, 7, 8, 9, 10, 11, 4, 12, 13, 14, 15, 16, 17, 18, 19, 20, 21, 22, 23, 24, 25, 26, 27, 28, 29, 30, 31, 32, 33, 34, 35, 36, 37, 38, 39, 40] (by decide +kernel) (by decide +kernel)
set_option maxRecDepth 20000 in
theorem gX9_readings_X9_readingBy : GoodIn wsX9_readings (wsV RX9 118 RX9 yX9_readingBy wsX9_readingBy) := goodIn_app (goodIn_of _ (by decide +kernel)) ggX9_readings_X9_readingBy
theorem dX9_readings_0 : decode cX9_readings 0 = .ok (.iconst 0, 1) := by decide +kernel
theorem dX9_readings_1 : decode cX9_readings 1 = .ok (.istore_n 1, 1) := by decide +kernel
theorem dX9_readings_2 : decode cX9_readings 2 = .ok (.iconst 0, 1) := by decide +kernel
theorem dX9_readings_3 : decode cX9_readings 3 = .ok (.istore_n 2, 1) := by decide +kernel
theorem dX9_readings_4 : decode cX9_readings 4 = .ok (.iload_n 2, 1) := by decide +kernel
theorem dX9_readings_5 : decode cX9_readings 5 = .ok (.sipush 4096, 3) := by decide +kernel
theorem dX9_readings_8 : decode cX9_readings 8 = .ok (.if_icmp .ge 27, 3) := by decide +kernel
theorem dX9_readings_11 : decode cX9_readings 11 = .ok (.iload_n 1, 1) := by decide +kernel
theorem dX9_readings_12 : decode cX9_readings 12 = .ok (.aload_n 0, 1) := by decide +kernel
theorem dX9_readings_13 : decode cX9_readings 13 = .ok (.iload_n 2, 1) := by decide +kernel
theorem dX9_readings_14 : decode cX9_readings 14 = .ok (.invokevirtual 118, 3) := by decide +kernel
theorem dX9_readings_17 : decode cX9_readings 17 = .ok (.lconst 0, 1) := by decide +kernel
theorem dX9_readings_18 : decode cX9_readings 18 = .ok (.lcmp, 1) := by decide +kernel
theorem dX9_readings_19 : decode cX9_readings 19 = .ok (.ifCond .lt 7, 3) := by decide +kernel
theorem dX9_readings_22 : decode cX9_readings 22 = .ok (.iconst 1, 1) := by decide +kernel
theorem dX9_readings_23 : decode cX9_readings 23 = .ok (.goto 4, 3) := by decide +kernel
theorem dX9_readings_26 : decode cX9_readings 26 = .ok (.iconst 0, 1) := by decide +kernel
theorem dX9_readings_27 : decode cX9_readings 27 = .ok (.iadd, 1) := by decide +kernel
theorem dX9_readings_28 : decode cX9_readings 28 = .ok (.istore_n 1, 1) := by decide +kernel
theorem dX9_readings_29 : decode cX9_readings 29 = .ok (.iinc 2 1, 3) := by decide +kernel
theorem dX9_readings_32 : decode cX9_readings 32 = .ok (.goto (-28), 3) := by decide +kernel
theorem dX9_readings_35 : decode cX9_readings 35 = .ok (.iload_n 1, 1) := by decide +kernel
theorem dX9_readings_36 : decode cX9_readings 36 = .ok (.ireturn, 1) := by decide +kernel
set_option maxRecDepth 20000 in
theorem ggX9_reading_X9_readingBy : GoodIn wsX9_reading wsX9_readingBy := goodIn_r _ [6, 7, 8, 9, 10, 11, 12, 5, 13, 14, 15, 16, 17, 18, 19, 20, 21, 22, 23, 24, 25, 26, 27, 28, 29, 30, 31, 32, 33, 34, 35, 36, 37, 38, 39, 40, 41] (by decide +kernel) (by decide +kernel)
set_option maxRecDepth 20000 in
theorem gX9_reading_X9_readingBy : GoodIn wsX9_reading (wsV RX9 118 RX9 yX9_readingBy wsX9_readingBy) := goodIn_app (goodIn_of _ (by decide +kernel)) ggX9_reading_X9_readingBy
theorem dX9_reading_0 : decode cX9_reading 0 = .ok (.iconst 0, 1) := by decide +kernel
theorem dX9_reading_1 : decode cX9_reading 1 = .ok (.istore_n 2, 1) := by decide +kernel
theorem dX9_reading_2 : decode cX9_reading 2 = .ok (.iconst 0, 1) := by decide +kernel
theorem dX9_reading_3 : decode cX9_reading 3 = .ok (.istore_n 3, 1) := by decide +kernel
theorem dX9_reading_4 : decode cX9_reading 4 = .ok (.iload_n 3, 1) := by decide +kernel
theorem dX9_reading_5 : decode cX9_reading 5 = .ok (.sipush 4096, 3) := by decide +kernel
theorem dX9_reading_8 : decode cX9_reading 8 = .ok (.if_icmp .ge 34, 3) := by decide +kernel
theorem dX9_reading_11 : decode cX9_reading 11 = .ok (.aload_n 0, 1) := by decide +kernel
theorem dX9_reading_12 : decode cX9_reading 12 = .ok (.iload_n 3, 1) := by decide +kernel
theorem dX9_reading_13 : decode cX9_reading 13 = .ok (.invokevirtual 118, 3) := by decide +kernel
theorem dX9_reading_16 : decode cX9_reading 16 = .ok (.lstore 4, 2) := by decide +kernel
theorem dX9_reading_18 : decode cX9_reading 18 = .ok (.lload 4, 2) := by decide +kernel
theorem dX9_reading_20 : decode cX9_reading 20 = .ok (.lconst 0, 1) := by decide +kernel
theorem dX9_reading_21 : decode cX9_reading 21 = .ok (.lcmp, 1) := by decide +kernel
theorem dX9_reading_22 : decode cX9_reading 22 = .ok (.ifCond .lt 14, 3) := by decide +kernel
theorem dX9_reading_25 : decode cX9_reading 25 = .ok (.iload_n 2, 1) := by decide +kernel
theorem dX9_reading_26 : decode cX9_reading 26 = .ok (.iload_n 1, 1) := by decide +kernel
theorem dX9_reading_27 : decode cX9_reading 27 = .ok (.if_icmp .ne 6, 3) := by decide +kernel
theorem dX9_reading_30 : decode cX9_reading 30 = .ok (.lload 4, 2) := by decide +kernel
theorem dX9_reading_32 : decode cX9_reading 32 = .ok (.lreturn, 1) := by decide +kernel
theorem dX9_reading_33 : decode cX9_reading 33 = .ok (.iinc 2 1, 3) := by decide +kernel
theorem dX9_reading_36 : decode cX9_reading 36 = .ok (.iinc 3 1, 3) := by decide +kernel
theorem dX9_reading_39 : decode cX9_reading 39 = .ok (.goto (-35), 3) := by decide +kernel
theorem dX9_reading_42 : decode cX9_reading 42 = .ok (.ldc2_w 121, 3) := by decide +kernel
theorem dX9_reading_45 : decode cX9_reading 45 = .ok (.lreturn, 1) := by decide +kernel
theorem dX9_beginWork_0 : decode cX9_beginWork 0 = .ok (.iconst 0, 1) := by decide +kernel
theorem dX9_beginWork_1 : decode cX9_beginWork 1 = .ok (.istore_n 1, 1) := by decide +kernel
theorem dX9_beginWork_2 : decode cX9_beginWork 2 = .ok (.iload_n 1, 1) := by decide +kernel
theorem dX9_beginWork_3 : decode cX9_beginWork 3 = .ok (.bipush 8, 2) := by decide +kernel
theorem dX9_beginWork_5 : decode cX9_beginWork 5 = .ok (.if_icmp .ge 33, 3) := by decide +kernel
theorem dX9_beginWork_8 : decode cX9_beginWork 8 = .ok (.aload_n 0, 1) := by decide +kernel
theorem dX9_beginWork_9 : decode cX9_beginWork 9 = .ok (.getfield 49, 3) := by decide +kernel
theorem dX9_beginWork_12 : decode cX9_beginWork 12 = .ok (.iload_n 1, 1) := by decide +kernel
theorem dX9_beginWork_13 : decode cX9_beginWork 13 = .ok (.aload_n 0, 1) := by decide +kernel
theorem dX9_beginWork_14 : decode cX9_beginWork 14 = .ok (.getfield 7, 3) := by decide +kernel
theorem dX9_beginWork_17 : decode cX9_beginWork 17 = .ok (.iload_n 1, 1) := by decide +kernel
theorem dX9_beginWork_18 : decode cX9_beginWork 18 = .ok (.laload, 1) := by decide +kernel
theorem dX9_beginWork_19 : decode cX9_beginWork 19 = .ok (.lastore, 1) := by decide +kernel
theorem dX9_beginWork_20 : decode cX9_beginWork 20 = .ok (.aload_n 0, 1) := by decide +kernel
theorem dX9_beginWork_21 : decode cX9_beginWork 21 = .ok (.getfield 52, 3) := by decide +kernel
theorem dX9_beginWork_24 : decode cX9_beginWork 24 = .ok (.iload_n 1, 1) := by decide +kernel
theorem dX9_beginWork_25 : decode cX9_beginWork 25 = .ok (.aload_n 0, 1) := by decide +kernel
theorem dX9_beginWork_26 : decode cX9_beginWork 26 = .ok (.getfield 7, 3) := by decide +kernel
theorem dX9_beginWork_29 : decode cX9_beginWork 29 = .ok (.iload_n 1, 1) := by decide +kernel
theorem dX9_beginWork_30 : decode cX9_beginWork 30 = .ok (.laload, 1) := by decide +kernel
theorem dX9_beginWork_31 : decode cX9_beginWork 31 = .ok (.lastore, 1) := by decide +kernel
theorem dX9_beginWork_32 : decode cX9_beginWork 32 = .ok (.iinc 1 1, 3) := by decide +kernel
theorem dX9_beginWork_35 : decode cX9_beginWork 35 = .ok (.goto (-33), 3) := by decide +kernel
