theorem dX2_left_1 : decode cX2_left 1 = .ok (.ifCond .lt 21, 3) := by decide +kernel
theorem dX2_left_4 : decode cX2_left 4 = .ok (.iload_n 1, 1) := by decide +kernel
theorem dX2_left_5 : decode cX2_left 5 = .ok (.aload_n 0, 1) := by decide +kernel
theorem dX2_left_6 : decode cX2_left 6 = .ok (.getfield 15, 3) := by decide +kernel
theorem dX2_left_9 : decode cX2_left 9 = .ok (.arraylength, 1) := by decide +kernel
theorem dX2_left_10 : decode cX2_left 10 = .ok (.if_icmp .ge 12, 3) := by decide +kernel
theorem dX2_left_13 : decode cX2_left 13 = .ok (.aload_n 0, 1) := by decide +kernel
theorem dX2_left_14 : decode cX2_left 14 = .ok (.getfield 15, 3) := by decide +kernel
theorem dX2_left_17 : decode cX2_left 17 = .ok (.iload_n 1, 1) := by decide +kernel
theorem dX2_left_18 : decode cX2_left 18 = .ok (.iaload, 1) := by decide +kernel
theorem dX2_left_19 : decode cX2_left 19 = .ok (.goto 4, 3) := by decide +kernel
theorem dX2_left_22 : decode cX2_left 22 = .ok (.iconst 0, 1) := by decide +kernel
theorem dX2_left_23 : decode cX2_left 23 = .ok (.ireturn, 1) := by decide +kernel
set_option maxRecDepth 20000 in
theorem ggX2_firstClash_X2_by : GoodIn wsX2_firstClash wsX2_by := goodIn_r _ [6, 7, 21, 22, 23] (by decide +kernel) (by decide +kernel)
set_option maxRecDepth 20000 in
theorem gX2_firstClash_X2_by : GoodIn wsX2_firstClash (wsV RX2 22 RX2 yX2_by wsX2_by) := goodIn_app (goodIn_of _ (by decide +kernel)) ggX2_firstClash_X2_by
set_option maxRecDepth 20000 in
theorem ggX2_firstClash_X5_greatestPart : GoodIn wsX2_firstClash wsX5_greatestPart := goodIn_r _ [11, 12, 13, 14, 15] (by decide +kernel) (by decide +kernel)
set_option maxRecDepth 20000 in
theorem gX2_firstClash_X5_greatestPart : GoodIn wsX2_firstClash (va_wsS RX2 26 yX5_greatestPart wsX5_greatestPart) := goodIn_app (goodIn_of _ (by decide +kernel)) ggX2_firstClash_X5_greatestPart
set_option maxRecDepth 20000 in
theorem ggX2_firstClash_X2_left : GoodIn wsX2_firstClash wsX2_left := goodIn_r _ [19, 20, 21, 22, 23] (by decide +kernel) (by decide +kernel)
set_option maxRecDepth 20000 in
theorem gX2_firstClash_X2_left : GoodIn wsX2_firstClash (wsV RX2 32 RX2 yX2_left wsX2_left) := goodIn_app (goodIn_of _ (by decide +kernel)) ggX2_firstClash_X2_left
theorem dX2_firstClash_0 : decode cX2_firstClash 0 = .ok (.iconst 0, 1) := by decide +kernel
theorem dX2_firstClash_1 : decode cX2_firstClash 1 = .ok (.istore_n 1, 1) := by decide +kernel
theorem dX2_firstClash_2 : decode cX2_firstClash 2 = .ok (.iload_n 1, 1) := by decide +kernel
theorem dX2_firstClash_3 : decode cX2_firstClash 3 = .ok (.aload_n 0, 1) := by decide +kernel
theorem dX2_firstClash_4 : decode cX2_firstClash 4 = .ok (.getfield 18, 3) := by decide +kernel
theorem dX2_firstClash_7 : decode cX2_firstClash 7 = .ok (.if_icmp .ge 65, 3) := by decide +kernel
theorem dX2_firstClash_10 : decode cX2_firstClash 10 = .ok (.iconst 0, 1) := by decide +kernel
theorem dX2_firstClash_11 : decode cX2_firstClash 11 = .ok (.istore_n 2, 1) := by decide +kernel
theorem dX2_firstClash_12 : decode cX2_firstClash 12 = .ok (.iload_n 2, 1) := by decide +kernel
theorem dX2_firstClash_13 : decode cX2_firstClash 13 = .ok (.iload_n 1, 1) := by decide +kernel
theorem dX2_firstClash_14 : decode cX2_firstClash 14 = .ok (.if_icmp .ge 52, 3) := by decide +kernel
theorem dX2_firstClash_17 : decode cX2_firstClash 17 = .ok (.aload_n 0, 1) := by decide +kernel
theorem dX2_firstClash_18 : decode cX2_firstClash 18 = .ok (.iload_n 1, 1) := by decide +kernel
theorem dX2_firstClash_19 : decode cX2_firstClash 19 = .ok (.invokevirtual 22, 3) := by decide +kernel
theorem dX2_firstClash_22 : decode cX2_firstClash 22 = .ok (.i2l, 1) := by decide +kernel
theorem dX2_firstClash_23 : decode cX2_firstClash 23 = .ok (.aload_n 0, 1) := by decide +kernel
theorem dX2_firstClash_24 : decode cX2_firstClash 24 = .ok (.iload_n 2, 1) := by decide +kernel
theorem dX2_firstClash_25 : decode cX2_firstClash 25 = .ok (.invokevirtual 22, 3) := by decide +kernel
theorem dX2_firstClash_28 : decode cX2_firstClash 28 = .ok (.i2l, 1) := by decide +kernel
theorem dX2_firstClash_29 : decode cX2_firstClash 29 = .ok (.invokestatic 26, 3) := by decide +kernel
theorem dX2_firstClash_32 : decode cX2_firstClash 32 = .ok (.lstore_n 3, 1) := by decide +kernel
theorem dX2_firstClash_33 : decode cX2_firstClash 33 = .ok (.lload_n 3, 1) := by decide +kernel
theorem dX2_firstClash_34 : decode cX2_firstClash 34 = .ok (.lconst 0, 1) := by decide +kernel
theorem dX2_firstClash_35 : decode cX2_firstClash 35 = .ok (.lcmp, 1) := by decide +kernel
theorem dX2_firstClash_36 : decode cX2_firstClash 36 = .ok (.ifCond .eq 24, 3) := by decide +kernel
theorem dX2_firstClash_39 : decode cX2_firstClash 39 = .ok (.aload_n 0, 1) := by decide +kernel
theorem dX2_firstClash_40 : decode cX2_firstClash 40 = .ok (.iload_n 1, 1) := by decide +kernel
theorem dX2_firstClash_41 : decode cX2_firstClash 41 = .ok (.invokevirtual 32, 3) := by decide +kernel
theorem dX2_firstClash_44 : decode cX2_firstClash 44 = .ok (.aload_n 0, 1) := by decide +kernel
theorem dX2_firstClash_45 : decode cX2_firstClash 45 = .ok (.iload_n 2, 1) := by decide +kernel
theorem dX2_firstClash_46 : decode cX2_firstClash 46 = .ok (.invokevirtual 32, 3) := by decide +kernel
theorem dX2_firstClash_49 : decode cX2_firstClash 49 = .ok (.isub, 1) := by decide +kernel
theorem dX2_firstClash_50 : decode cX2_firstClash 50 = .ok (.i2l, 1) := by decide +kernel
theorem dX2_firstClash_51 : decode cX2_firstClash 51 = .ok (.lload_n 3, 1) := by decide +kernel
theorem dX2_firstClash_52 : decode cX2_firstClash 52 = .ok (.lrem, 1) := by decide +kernel
theorem dX2_firstClash_53 : decode cX2_firstClash 53 = .ok (.lconst 0, 1) := by decide +kernel
theorem dX2_firstClash_54 : decode cX2_firstClash 54 = .ok (.lcmp, 1) := by decide +kernel
theorem dX2_firstClash_55 : decode cX2_firstClash 55 = .ok (.ifCond .eq 5, 3) := by decide +kernel
theorem dX2_firstClash_58 : decode cX2_firstClash 58 = .ok (.iload_n 1, 1) := by decide +kernel
theorem dX2_firstClash_59 : decode cX2_firstClash 59 = .ok (.ireturn, 1) := by decide +kernel
theorem dX2_firstClash_60 : decode cX2_firstClash 60 = .ok (.iinc 2 1, 3) := by decide +kernel
theorem dX2_firstClash_63 : decode cX2_firstClash 63 = .ok (.goto (-51), 3) := by decide +kernel
theorem dX2_firstClash_66 : decode cX2_firstClash 66 = .ok (.iinc 1 1, 3) := by decide +kernel
theorem dX2_firstClash_69 : decode cX2_firstClash 69 = .ok (.goto (-67), 3) := by decide +kernel
theorem dX2_firstClash_72 : decode cX2_firstClash 72 = .ok (.bipush (-6), 2) := by decide +kernel
theorem dX2_firstClash_74 : decode cX2_firstClash 74 = .ok (.ireturn, 1) := by decide +kernel
set_option maxRecDepth 20000 in
theorem ggX2_allGoInto_X2_by : GoodIn wsX2_allGoInto wsX2_by := goodIn_r _ [6, 7, 19, 20, 21] (by decide +kernel) (by decide +kernel)
set_option maxRecDepth 20000 in
theorem gX2_allGoInto_X2_by : GoodIn wsX2_allGoInto (wsV RX2 22 RX2 yX2_by wsX2_by) := goodIn_app (goodIn_of _ (by decide +kernel)) ggX2_allGoInto_X2_by
set_option maxRecDepth 20000 in
theorem ggX2_allGoInto_X2_bothGoInto : GoodIn wsX2_allGoInto wsX2_bothGoInto := goodIn_r _ [10, 11, 12, 13, 14, 15, 16, 17, 18] (by decide +kernel) (by decide +kernel)
set_option maxRecDepth 20000 in
theorem gX2_allGoInto_X2_bothGoInto : GoodIn wsX2_allGoInto (va_wsS RX2 35 yX2_bothGoInto wsX2_bothGoInto) := goodIn_app (goodIn_of _ (by decide +kernel)) ggX2_allGoInto_X2_bothGoInto
theorem dX2_allGoInto_0 : decode cX2_allGoInto 0 = .ok (.lconst 1, 1) := by decide +kernel
theorem dX2_allGoInto_1 : decode cX2_allGoInto 1 = .ok (.lstore_n 1, 1) := by decide +kernel
theorem dX2_allGoInto_2 : decode cX2_allGoInto 2 = .ok (.iconst 0, 1) := by decide +kernel
theorem dX2_allGoInto_3 : decode cX2_allGoInto 3 = .ok (.istore_n 3, 1) := by decide +kernel
theorem dX2_allGoInto_4 : decode cX2_allGoInto 4 = .ok (.iload_n 3, 1) := by decide +kernel
theorem dX2_allGoInto_5 : decode cX2_allGoInto 5 = .ok (.aload_n 0, 1) := by decide +kernel
theorem dX2_allGoInto_6 : decode cX2_allGoInto 6 = .ok (.getfield 18, 3) := by decide +kernel
theorem dX2_allGoInto_9 : decode cX2_allGoInto 9 = .ok (.if_icmp .ge 20, 3) := by decide +kernel
theorem dX2_allGoInto_12 : decode cX2_allGoInto 12 = .ok (.lload_n 1, 1) := by decide +kernel
theorem dX2_allGoInto_13 : decode cX2_allGoInto 13 = .ok (.aload_n 0, 1) := by decide +kernel
theorem dX2_allGoInto_14 : decode cX2_allGoInto 14 = .ok (.iload_n 3, 1) := by decide +kernel
theorem dX2_allGoInto_15 : decode cX2_allGoInto 15 = .ok (.invokevirtual 22, 3) := by decide +kernel
theorem dX2_allGoInto_18 : decode cX2_allGoInto 18 = .ok (.i2l, 1) := by decide +kernel
theorem dX2_allGoInto_19 : decode cX2_allGoInto 19 = .ok (.invokestatic 35, 3) := by decide +kernel
theorem dX2_allGoInto_22 : decode cX2_allGoInto 22 = .ok (.lstore_n 1, 1) := by decide +kernel
theorem dX2_allGoInto_23 : decode cX2_allGoInto 23 = .ok (.iinc 3 1, 3) := by decide +kernel
theorem dX2_allGoInto_26 : decode cX2_allGoInto 26 = .ok (.goto (-22), 3) := by decide +kernel
theorem dX2_allGoInto_29 : decode cX2_allGoInto 29 = .ok (.lload_n 1, 1) := by decide +kernel
theorem dX2_allGoInto_30 : decode cX2_allGoInto 30 = .ok (.lreturn, 1) := by decide +kernel
set_option maxRecDepth 20000 in
theorem ggX2_bothGoInto_X5_greatestPart : GoodIn wsX2_bothGoInto wsX5_greatestPart := goodIn_r _ [4, 5, 6, 7, 8] (by decide +kernel) (by decide +kernel)
set_option maxRecDepth 20000 in
theorem gX2_bothGoInto_X5_greatestPart : GoodIn wsX2_bothGoInto (va_wsS RX2 26 yX5_greatestPart wsX5_greatestPart) := goodIn_app (goodIn_of _ (by decide +kernel)) ggX2_bothGoInto_X5_greatestPart
theorem dX2_bothGoInto_0 : decode cX2_bothGoInto 0 = .ok (.lload_n 0, 1) := by decide +kernel
theorem dX2_bothGoInto_1 : decode cX2_bothGoInto 1 = .ok (.lload_n 2, 1) := by decide +kernel
theorem dX2_bothGoInto_2 : decode cX2_bothGoInto 2 = .ok (.invokestatic 26, 3) := by decide +kernel
theorem dX2_bothGoInto_5 : decode cX2_bothGoInto 5 = .ok (.lstore 4, 2) := by decide +kernel
theorem dX2_bothGoInto_7 : decode cX2_bothGoInto 7 = .ok (.lload 4, 2) := by decide +kernel
theorem dX2_bothGoInto_9 : decode cX2_bothGoInto 9 = .ok (.lconst 0, 1) := by decide +kernel
theorem dX2_bothGoInto_10 : decode cX2_bothGoInto 10 = .ok (.lcmp, 1) := by decide +kernel
theorem dX2_bothGoInto_11 : decode cX2_bothGoInto 11 = .ok (.ifCond .ne 7, 3) := by decide +kernel
theorem dX2_bothGoInto_14 : decode cX2_bothGoInto 14 = .ok (.lconst 0, 1) := by decide +kernel
theorem dX2_bothGoInto_15 : decode cX2_bothGoInto 15 = .ok (.goto 9, 3) := by decide +kernel
theorem dX2_bothGoInto_18 : decode cX2_bothGoInto 18 = .ok (.lload_n 0, 1) := by decide +kernel
theorem dX2_bothGoInto_19 : decode cX2_bothGoInto 19 = .ok (.lload 4, 2) := by decide +kernel
theorem dX2_bothGoInto_21 : decode cX2_bothGoInto 21 = .ok (.ldiv, 1) := by decide +kernel
theorem dX2_bothGoInto_22 : decode cX2_bothGoInto 22 = .ok (.lload_n 2, 1) := by decide +kernel
theorem dX2_bothGoInto_23 : decode cX2_bothGoInto 23 = .ok (.lmul, 1) := by decide +kernel
theorem dX2_bothGoInto_24 : decode cX2_bothGoInto 24 = .ok (.lreturn, 1) := by decide +kernel
set_option maxRecDepth 20000 in
theorem ggX2_leastLeavingAll_X2_by : GoodIn wsX2_leastLeavingAll wsX2_by := goodIn_r _ [6, 7, 24, 25, 26] (by decide +kernel) (by decide +kernel)
set_option maxRecDepth 20000 in
theorem gX2_leastLeavingAll_X2_by : GoodIn wsX2_leastLeavingAll (wsV RX2 22 RX2 yX2_by wsX2_by) := goodIn_app (goodIn_of _ (by decide +kernel)) ggX2_leastLeavingAll_X2_by
set_option maxRecDepth 20000 in
theorem ggX2_leastLeavingAll_X2_left : GoodIn wsX2_leastLeavingAll wsX2_left := goodIn_r _ [11, 12, 24, 25, 26] (by decide +kernel) (by decide +kernel)
set_option maxRecDepth 20000 in
theorem gX2_leastLeavingAll_X2_left : GoodIn wsX2_leastLeavingAll (wsV RX2 32 RX2 yX2_left wsX2_left) := goodIn_app (goodIn_of _ (by decide +kernel)) ggX2_leastLeavingAll_X2_left
set_option maxRecDepth 20000 in
theorem ggX2_leastLeavingAll_X2_bothGoInto : GoodIn wsX2_leastLeavingAll wsX2_bothGoInto := goodIn_r _ [15, 16, 17, 18, 19, 20, 21, 22, 23] (by decide +kernel) (by decide +kernel)
set_option maxRecDepth 20000 in
theorem gX2_leastLeavingAll_X2_bothGoInto : GoodIn wsX2_leastLeavingAll (va_wsS RX2 35 yX2_bothGoInto wsX2_bothGoInto) := goodIn_app (goodIn_of _ (by decide +kernel)) ggX2_leastLeavingAll_X2_bothGoInto
theorem dX2_leastLeavingAll_0 : decode cX2_leastLeavingAll 0 = .ok (.lconst 0, 1) := by decide +kernel
theorem dX2_leastLeavingAll_1 : decode cX2_leastLeavingAll 1 = .ok (.lstore_n 1, 1) := by decide +kernel
theorem dX2_leastLeavingAll_2 : decode cX2_leastLeavingAll 2 = .ok (.lconst 1, 1) := by decide +kernel
theorem dX2_leastLeavingAll_3 : decode cX2_leastLeavingAll 3 = .ok (.lstore_n 3, 1) := by decide +kernel
theorem dX2_leastLeavingAll_4 : decode cX2_leastLeavingAll 4 = .ok (.iconst 0, 1) := by decide +kernel
theorem dX2_leastLeavingAll_5 : decode cX2_leastLeavingAll 5 = .ok (.istore 5, 2) := by decide +kernel
theorem dX2_leastLeavingAll_7 : decode cX2_leastLeavingAll 7 = .ok (.iload 5, 2) := by decide +kernel
theorem dX2_leastLeavingAll_9 : decode cX2_leastLeavingAll 9 = .ok (.aload_n 0, 1) := by decide +kernel
theorem dX2_leastLeavingAll_10 : decode cX2_leastLeavingAll 10 = .ok (.getfield 18, 3) := by decide +kernel
theorem dX2_leastLeavingAll_13 : decode cX2_leastLeavingAll 13 = .ok (.if_icmp .ge 71, 3) := by decide +kernel
theorem dX2_leastLeavingAll_16 : decode cX2_leastLeavingAll 16 = .ok (.aload_n 0, 1) := by decide +kernel
theorem dX2_leastLeavingAll_17 : decode cX2_leastLeavingAll 17 = .ok (.iload 5, 2) := by decide +kernel
theorem dX2_leastLeavingAll_19 : decode cX2_leastLeavingAll 19 = .ok (.invokevirtual 22, 3) := by decide +kernel
theorem dX2_leastLeavingAll_22 : decode cX2_leastLeavingAll 22 = .ok (.i2l, 1) := by decide +kernel
theorem dX2_leastLeavingAll_23 : decode cX2_leastLeavingAll 23 = .ok (.lstore 6, 2) := by decide +kernel
theorem dX2_leastLeavingAll_25 : decode cX2_leastLeavingAll 25 = .ok (.iconst 0, 1) := by decide +kernel
theorem dX2_leastLeavingAll_26 : decode cX2_leastLeavingAll 26 = .ok (.istore 8, 2) := by decide +kernel
theorem dX2_leastLeavingAll_28 : decode cX2_leastLeavingAll 28 = .ok (.iload 8, 2) := by decide +kernel
theorem dX2_leastLeavingAll_30 : decode cX2_leastLeavingAll 30 = .ok (.sipush 1000, 3) := by decide +kernel
theorem dX2_leastLeavingAll_33 : decode cX2_leastLeavingAll 33 = .ok (.if_icmp .ge 38, 3) := by decide +kernel
theorem dX2_leastLeavingAll_36 : decode cX2_leastLeavingAll 36 = .ok (.lload 6, 2) := by decide +kernel
theorem dX2_leastLeavingAll_38 : decode cX2_leastLeavingAll 38 = .ok (.lconst 0, 1) := by decide +kernel
theorem dX2_leastLeavingAll_39 : decode cX2_leastLeavingAll 39 = .ok (.lcmp, 1) := by decide +kernel
theorem dX2_leastLeavingAll_40 : decode cX2_leastLeavingAll 40 = .ok (.ifCond .eq 31, 3) := by decide +kernel
theorem dX2_leastLeavingAll_43 : decode cX2_leastLeavingAll 43 = .ok (.lload_n 1, 1) := by decide +kernel
theorem dX2_leastLeavingAll_44 : decode cX2_leastLeavingAll 44 = .ok (.lload 6, 2) := by decide +kernel
theorem dX2_leastLeavingAll_46 : decode cX2_leastLeavingAll 46 = .ok (.lrem, 1) := by decide +kernel
theorem dX2_leastLeavingAll_47 : decode cX2_leastLeavingAll 47 = .ok (.aload_n 0, 1) := by decide +kernel
theorem dX2_leastLeavingAll_48 : decode cX2_leastLeavingAll 48 = .ok (.iload 5, 2) := by decide +kernel
theorem dX2_leastLeavingAll_50 : decode cX2_leastLeavingAll 50 = .ok (.invokevirtual 32, 3) := by decide +kernel
theorem dX2_leastLeavingAll_53 : decode cX2_leastLeavingAll 53 = .ok (.i2l, 1) := by decide +kernel
theorem dX2_leastLeavingAll_54 : decode cX2_leastLeavingAll 54 = .ok (.lcmp, 1) := by decide +kernel
theorem dX2_leastLeavingAll_55 : decode cX2_leastLeavingAll 55 = .ok (.ifCond .ne 6, 3) := by decide +kernel
theorem dX2_leastLeavingAll_58 : decode cX2_leastLeavingAll 58 = .ok (.goto 13, 3) := by decide +kernel
theorem dX2_leastLeavingAll_61 : decode cX2_leastLeavingAll 61 = .ok (.lload_n 1, 1) := by decide +kernel
theorem dX2_leastLeavingAll_62 : decode cX2_leastLeavingAll 62 = .ok (.lload_n 3, 1) := by decide +kernel
theorem dX2_leastLeavingAll_63 : decode cX2_leastLeavingAll 63 = .ok (.ladd, 1) := by decide +kernel
theorem dX2_leastLeavingAll_64 : decode cX2_leastLeavingAll 64 = .ok (.lstore_n 1, 1) := by decide +kernel
theorem dX2_leastLeavingAll_65 : decode cX2_leastLeavingAll 65 = .ok (.iinc 8 1, 3) := by decide +kernel
theorem dX2_leastLeavingAll_68 : decode cX2_leastLeavingAll 68 = .ok (.goto (-40), 3) := by decide +kernel
theorem dX2_leastLeavingAll_71 : decode cX2_leastLeavingAll 71 = .ok (.lload_n 3, 1) := by decide +kernel
theorem dX2_leastLeavingAll_72 : decode cX2_leastLeavingAll 72 = .ok (.lload 6, 2) := by decide +kernel
theorem dX2_leastLeavingAll_74 : decode cX2_leastLeavingAll 74 = .ok (.invokestatic 35, 3) := by decide +kernel
theorem dX2_leastLeavingAll_77 : decode cX2_leastLeavingAll 77 = .ok (.lstore_n 3, 1) := by decide +kernel
theorem dX2_leastLeavingAll_78 : decode cX2_leastLeavingAll 78 = .ok (.iinc 5 1, 3) := by decide +kernel
theorem dX2_leastLeavingAll_81 : decode cX2_leastLeavingAll 81 = .ok (.goto (-74), 3) := by decide +kernel
theorem dX2_leastLeavingAll_84 : decode cX2_leastLeavingAll 84 = .ok (.lload_n 1, 1) := by decide +kernel
theorem dX2_leastLeavingAll_85 : decode cX2_leastLeavingAll 85 = .ok (.lreturn, 1) := by decide +kernel
theorem dX2_seekOne_0 : decode cX2_seekOne 0 = .ok (.iload_n 1, 1) := by decide +kernel
theorem dX2_seekOne_1 : decode cX2_seekOne 1 = .ok (.istore_n 3, 1) := by decide +kernel
theorem dX2_seekOne_2 : decode cX2_seekOne 2 = .ok (.iconst 0, 1) := by decide +kernel
theorem dX2_seekOne_3 : decode cX2_seekOne 3 = .ok (.istore 4, 2) := by decide +kernel
theorem dX2_seekOne_5 : decode cX2_seekOne 5 = .ok (.iload_n 0, 1) := by decide +kernel
theorem dX2_seekOne_6 : decode cX2_seekOne 6 = .ok (.istore 5, 2) := by decide +kernel
theorem dX2_seekOne_8 : decode cX2_seekOne 8 = .ok (.iconst 1, 1) := by decide +kernel
theorem dX2_seekOne_9 : decode cX2_seekOne 9 = .ok (.istore 6, 2) := by decide +kernel
theorem dX2_seekOne_11 : decode cX2_seekOne 11 = .ok (.iconst 0, 1) := by decide +kernel
theorem dX2_seekOne_12 : decode cX2_seekOne 12 = .ok (.istore 7, 2) := by decide +kernel
theorem dX2_seekOne_14 : decode cX2_seekOne 14 = .ok (.iload 7, 2) := by decide +kernel
theorem dX2_seekOne_16 : decode cX2_seekOne 16 = .ok (.sipush 1000, 3) := by decide +kernel
theorem dX2_seekOne_19 : decode cX2_seekOne 19 = .ok (.if_icmp .ge 54, 3) := by decide +kernel
theorem dX2_seekOne_22 : decode cX2_seekOne 22 = .ok (.iload 5, 2) := by decide +kernel
theorem dX2_seekOne_24 : decode cX2_seekOne 24 = .ok (.ifCond .eq 49, 3) := by decide +kernel
theorem dX2_seekOne_27 : decode cX2_seekOne 27 = .ok (.iload_n 3, 1) := by decide +kernel
theorem dX2_seekOne_28 : decode cX2_seekOne 28 = .ok (.iload 5, 2) := by decide +kernel
theorem dX2_seekOne_30 : decode cX2_seekOne 30 = .ok (.idiv, 1) := by decide +kernel
theorem dX2_seekOne_31 : decode cX2_seekOne 31 = .ok (.istore 8, 2) := by decide +kernel
theorem dX2_seekOne_33 : decode cX2_seekOne 33 = .ok (.iload_n 3, 1) := by decide +kernel
theorem dX2_seekOne_34 : decode cX2_seekOne 34 = .ok (.iload 8, 2) := by decide +kernel
theorem dX2_seekOne_36 : decode cX2_seekOne 36 = .ok (.iload 5, 2) := by decide +kernel
theorem dX2_seekOne_38 : decode cX2_seekOne 38 = .ok (.imul, 1) := by decide +kernel
theorem dX2_seekOne_39 : decode cX2_seekOne 39 = .ok (.isub, 1) := by decide +kernel
theorem dX2_seekOne_40 : decode cX2_seekOne 40 = .ok (.istore 9, 2) := by decide +kernel
theorem dX2_seekOne_42 : decode cX2_seekOne 42 = .ok (.iload 4, 2) := by decide +kernel
theorem dX2_seekOne_44 : decode cX2_seekOne 44 = .ok (.iload 8, 2) := by decide +kernel
theorem dX2_seekOne_46 : decode cX2_seekOne 46 = .ok (.iload 6, 2) := by decide +kernel
theorem dX2_seekOne_48 : decode cX2_seekOne 48 = .ok (.imul, 1) := by decide +kernel
theorem dX2_seekOne_49 : decode cX2_seekOne 49 = .ok (.isub, 1) := by decide +kernel
theorem dX2_seekOne_50 : decode cX2_seekOne 50 = .ok (.istore 10, 2) := by decide +kernel
theorem dX2_seekOne_52 : decode cX2_seekOne 52 = .ok (.iload 5, 2) := by decide +kernel
theorem dX2_seekOne_54 : decode cX2_seekOne 54 = .ok (.istore_n 3, 1) := by decide +kernel
theorem dX2_seekOne_55 : decode cX2_seekOne 55 = .ok (.iload 6, 2) := by decide +kernel
theorem dX2_seekOne_57 : decode cX2_seekOne 57 = .ok (.istore 4, 2) := by decide +kernel
theorem dX2_seekOne_59 : decode cX2_seekOne 59 = .ok (.iload 9, 2) := by decide +kernel
theorem dX2_seekOne_61 : decode cX2_seekOne 61 = .ok (.istore 5, 2) := by decide +kernel
theorem dX2_seekOne_63 : decode cX2_seekOne 63 = .ok (.iload 10, 2) := by decide +kernel
theorem dX2_seekOne_65 : decode cX2_seekOne 65 = .ok (.istore 6, 2) := by decide +kernel
theorem dX2_seekOne_67 : decode cX2_seekOne 67 = .ok (.iinc 7 1, 3) := by decide +kernel
theorem dX2_seekOne_70 : decode cX2_seekOne 70 = .ok (.goto (-56), 3) := by decide +kernel
theorem dX2_seekOne_73 : decode cX2_seekOne 73 = .ok (.iload_n 2, 1) := by decide +kernel
theorem dX2_seekOne_74 : decode cX2_seekOne 74 = .ok (.ifCond .ne 6, 3) := by decide +kernel
theorem dX2_seekOne_77 : decode cX2_seekOne 77 = .ok (.iload 7, 2) := by decide +kernel
theorem dX2_seekOne_79 : decode cX2_seekOne 79 = .ok (.ireturn, 1) := by decide +kernel
theorem dX2_seekOne_80 : decode cX2_seekOne 80 = .ok (.iload_n 2, 1) := by decide +kernel
theorem dX2_seekOne_81 : decode cX2_seekOne 81 = .ok (.iconst 2, 1) := by decide +kernel
theorem dX2_seekOne_82 : decode cX2_seekOne 82 = .ok (.if_icmp .ne 5, 3) := by decide +kernel
theorem dX2_seekOne_85 : decode cX2_seekOne 85 = .ok (.iload_n 3, 1) := by decide +kernel
theorem dX2_seekOne_86 : decode cX2_seekOne 86 = .ok (.ireturn, 1) := by decide +kernel
theorem dX2_seekOne_87 : decode cX2_seekOne 87 = .ok (.iload_n 3, 1) := by decide +kernel
theorem dX2_seekOne_88 : decode cX2_seekOne 88 = .ok (.iconst 1, 1) := by decide +kernel
theorem dX2_seekOne_89 : decode cX2_seekOne 89 = .ok (.if_icmp .eq 6, 3) := by decide +kernel
theorem dX2_seekOne_92 : decode cX2_seekOne 92 = .ok (.bipush (-6), 2) := by decide +kernel
theorem dX2_seekOne_94 : decode cX2_seekOne 94 = .ok (.ireturn, 1) := by decide +kernel
theorem dX2_seekOne_95 : decode cX2_seekOne 95 = .ok (.iload 4, 2) := by decide +kernel
theorem dX2_seekOne_97 : decode cX2_seekOne 97 = .ok (.ifCond .ge 10, 3) := by decide +kernel
theorem dX2_seekOne_100 : decode cX2_seekOne 100 = .ok (.iload 4, 2) := by decide +kernel
theorem dX2_seekOne_102 : decode cX2_seekOne 102 = .ok (.iload_n 1, 1) := by decide +kernel
theorem dX2_seekOne_103 : decode cX2_seekOne 103 = .ok (.iadd, 1) := by decide +kernel
theorem dX2_seekOne_104 : decode cX2_seekOne 104 = .ok (.goto 5, 3) := by decide +kernel
theorem dX2_seekOne_107 : decode cX2_seekOne 107 = .ok (.iload 4, 2) := by decide +kernel
theorem dX2_seekOne_109 : decode cX2_seekOne 109 = .ok (.ireturn, 1) := by decide +kernel
theorem dX3_init_0 : decode cX3_init 0 = .ok (.aload_n 0, 1) := by decide +kernel
theorem dX3_init_1 : decode cX3_init 1 = .ok (.invokespecial 3, 3) := by decide +kernel
theorem dX3_init_4 : decode cX3_init 4 = .ok (.aload_n 0, 1) := by decide +kernel
theorem dX3_init_5 : decode cX3_init 5 = .ok (.sipush 392, 3) := by decide +kernel
theorem dX3_init_8 : decode cX3_init 8 = .ok (.newarray .long, 2) := by decide +kernel
theorem dX3_init_10 : decode cX3_init 10 = .ok (.putfield 11, 3) := by decide +kernel
theorem dX3_init_13 : decode cX3_init 13 = .ok (.aload_n 0, 1) := by decide +kernel
theorem dX3_init_14 : decode cX3_init 14 = .ok (.sipush 288, 3) := by decide +kernel
theorem dX3_init_17 : decode cX3_init 17 = .ok (.newarray .int, 2) := by decide +kernel
theorem dX3_init_19 : decode cX3_init 19 = .ok (.putfield 15, 3) := by decide +kernel
theorem dX3_init_22 : decode cX3_init 22 = .ok (.return_, 1) := by decide +kernel
theorem dX3_size_0 : decode cX3_size 0 = .ok (.aload_n 0, 1) := by decide +kernel
theorem dX3_size_1 : decode cX3_size 1 = .ok (.getfield 19, 3) := by decide +kernel
theorem dX3_size_4 : decode cX3_size 4 = .ok (.ireturn, 1) := by decide +kernel
theorem dX3_steps_0 : decode cX3_steps 0 = .ok (.aload_n 0, 1) := by decide +kernel
theorem dX3_steps_1 : decode cX3_steps 1 = .ok (.getfield 19, 3) := by decide +kernel
theorem dX3_steps_4 : decode cX3_steps 4 = .ok (.ifCond .ne 7, 3) := by decide +kernel
theorem dX3_steps_7 : decode cX3_steps 7 = .ok (.iconst 0, 1) := by decide +kernel
theorem dX3_steps_8 : decode cX3_steps 8 = .ok (.goto 9, 3) := by decide +kernel
theorem dX3_steps_11 : decode cX3_steps 11 = .ok (.aload_n 0, 1) := by decide +kernel
theorem dX3_steps_12 : decode cX3_steps 12 = .ok (.getfield 19, 3) := by decide +kernel
theorem dX3_steps_15 : decode cX3_steps 15 = .ok (.iconst 1, 1) := by decide +kernel
theorem dX3_steps_16 : decode cX3_steps 16 = .ok (.isub, 1) := by decide +kernel
theorem dX3_steps_17 : decode cX3_steps 17 = .ok (.ireturn, 1) := by decide +kernel
set_option maxRecDepth 20000 in
theorem ggX3_has_X8_isRow : GoodIn wsX3_has wsX8_isRow := goodIn_r _ [4] (by decide +kernel) (by decide +kernel)
set_option maxRecDepth 20000 in
theorem gX3_has_X8_isRow_n23 : GoodIn wsX3_has (wsX8_isRow) := ggX3_has_X8_isRow
theorem dX3_has_0 : decode cX3_has 0 = .ok (.iload_n 1, 1) := by decide +kernel
theorem dX3_has_1 : decode cX3_has 1 = .ok (.ifCond .lt 22, 3) := by decide +kernel
theorem dX3_has_4 : decode cX3_has 4 = .ok (.iload_n 1, 1) := by decide +kernel
theorem dX3_has_5 : decode cX3_has 5 = .ok (.aload_n 0, 1) := by decide +kernel
theorem dX3_has_6 : decode cX3_has 6 = .ok (.getfield 19, 3) := by decide +kernel
theorem dX3_has_9 : decode cX3_has 9 = .ok (.if_icmp .ge 14, 3) := by decide +kernel
theorem dX3_has_12 : decode cX3_has 12 = .ok (.iload_n 2, 1) := by decide +kernel
theorem dX3_has_13 : decode cX3_has 13 = .ok (.invokestatic 23, 3) := by decide +kernel
theorem dX3_has_16 : decode cX3_has 16 = .ok (.ifCond .eq 7, 3) := by decide +kernel
theorem dX3_has_19 : decode cX3_has 19 = .ok (.iconst 1, 1) := by decide +kernel
theorem dX3_has_20 : decode cX3_has 20 = .ok (.goto 4, 3) := by decide +kernel
theorem dX3_has_23 : decode cX3_has 23 = .ok (.iconst 0, 1) := by decide +kernel
theorem dX3_has_24 : decode cX3_has 24 = .ok (.ireturn, 1) := by decide +kernel
theorem dX3_cell_0 : decode cX3_cell 0 = .ok (.iload_n 1, 1) := by decide +kernel
theorem dX3_cell_1 : decode cX3_cell 1 = .ok (.bipush 8, 2) := by decide +kernel
theorem dX3_cell_3 : decode cX3_cell 3 = .ok (.imul, 1) := by decide +kernel
theorem dX3_cell_4 : decode cX3_cell 4 = .ok (.iload_n 2, 1) := by decide +kernel
theorem dX3_cell_5 : decode cX3_cell 5 = .ok (.iadd, 1) := by decide +kernel
theorem dX3_cell_6 : decode cX3_cell 6 = .ok (.istore_n 3, 1) := by decide +kernel
theorem dX3_cell_7 : decode cX3_cell 7 = .ok (.iload_n 3, 1) := by decide +kernel
theorem dX3_cell_8 : decode cX3_cell 8 = .ok (.ifCond .lt 21, 3) := by decide +kernel
theorem dX3_cell_11 : decode cX3_cell 11 = .ok (.iload_n 3, 1) := by decide +kernel
theorem dX3_cell_12 : decode cX3_cell 12 = .ok (.aload_n 0, 1) := by decide +kernel
theorem dX3_cell_13 : decode cX3_cell 13 = .ok (.getfield 11, 3) := by decide +kernel
theorem dX3_cell_16 : decode cX3_cell 16 = .ok (.arraylength, 1) := by decide +kernel
theorem dX3_cell_17 : decode cX3_cell 17 = .ok (.if_icmp .ge 12, 3) := by decide +kernel
theorem dX3_cell_20 : decode cX3_cell 20 = .ok (.aload_n 0, 1) := by decide +kernel
theorem dX3_cell_21 : decode cX3_cell 21 = .ok (.getfield 11, 3) := by decide +kernel
theorem dX3_cell_24 : decode cX3_cell 24 = .ok (.iload_n 3, 1) := by decide +kernel
theorem dX3_cell_25 : decode cX3_cell 25 = .ok (.laload, 1) := by decide +kernel
theorem dX3_cell_26 : decode cX3_cell 26 = .ok (.goto 4, 3) := by decide +kernel
theorem dX3_cell_29 : decode cX3_cell 29 = .ok (.lconst 0, 1) := by decide +kernel
theorem dX3_cell_30 : decode cX3_cell 30 = .ok (.lreturn, 1) := by decide +kernel
theorem dX3_put_0 : decode cX3_put 0 = .ok (.iload_n 1, 1) := by decide +kernel
theorem dX3_put_1 : decode cX3_put 1 = .ok (.bipush 8, 2) := by decide +kernel
theorem dX3_put_3 : decode cX3_put 3 = .ok (.imul, 1) := by decide +kernel
theorem dX3_put_4 : decode cX3_put 4 = .ok (.iload_n 2, 1) := by decide +kernel
theorem dX3_put_5 : decode cX3_put 5 = .ok (.iadd, 1) := by decide +kernel
theorem dX3_put_6 : decode cX3_put 6 = .ok (.istore 5, 2) := by decide +kernel
theorem dX3_put_8 : decode cX3_put 8 = .ok (.iload 5, 2) := by decide +kernel
theorem dX3_put_10 : decode cX3_put 10 = .ok (.ifCond .lt 21, 3) := by decide +kernel
theorem dX3_put_13 : decode cX3_put 13 = .ok (.iload 5, 2) := by decide +kernel
theorem dX3_put_15 : decode cX3_put 15 = .ok (.aload_n 0, 1) := by decide +kernel
theorem dX3_put_16 : decode cX3_put 16 = .ok (.getfield 11, 3) := by decide +kernel
theorem dX3_put_19 : decode cX3_put 19 = .ok (.arraylength, 1) := by decide +kernel
theorem dX3_put_20 : decode cX3_put 20 = .ok (.if_icmp .ge 11, 3) := by decide +kernel
theorem dX3_put_23 : decode cX3_put 23 = .ok (.aload_n 0, 1) := by decide +kernel
theorem dX3_put_24 : decode cX3_put 24 = .ok (.getfield 11, 3) := by decide +kernel
theorem dX3_put_27 : decode cX3_put 27 = .ok (.iload 5, 2) := by decide +kernel
theorem dX3_put_29 : decode cX3_put 29 = .ok (.lload_n 3, 1) := by decide +kernel
theorem dX3_put_30 : decode cX3_put 30 = .ok (.lastore, 1) := by decide +kernel
theorem dX3_put_31 : decode cX3_put 31 = .ok (.return_, 1) := by decide +kernel
theorem dX3_noted_0 : decode cX3_noted 0 = .ok (.iload_n 1, 1) := by decide +kernel
theorem dX3_noted_1 : decode cX3_noted 1 = .ok (.bipush 6, 2) := by decide +kernel
theorem dX3_noted_3 : decode cX3_noted 3 = .ok (.imul, 1) := by decide +kernel
theorem dX3_noted_4 : decode cX3_noted 4 = .ok (.iload_n 2, 1) := by decide +kernel
theorem dX3_noted_5 : decode cX3_noted 5 = .ok (.iadd, 1) := by decide +kernel
theorem dX3_noted_6 : decode cX3_noted 6 = .ok (.istore_n 3, 1) := by decide +kernel
theorem dX3_noted_7 : decode cX3_noted 7 = .ok (.iload_n 3, 1) := by decide +kernel
theorem dX3_noted_8 : decode cX3_noted 8 = .ok (.ifCond .lt 21, 3) := by decide +kernel
theorem dX3_noted_11 : decode cX3_noted 11 = .ok (.iload_n 3, 1) := by decide +kernel
theorem dX3_noted_12 : decode cX3_noted 12 = .ok (.aload_n 0, 1) := by decide +kernel
theorem dX3_noted_13 : decode cX3_noted 13 = .ok (.getfield 15, 3) := by decide +kernel
theorem dX3_noted_16 : decode cX3_noted 16 = .ok (.arraylength, 1) := by decide +kernel
theorem dX3_noted_17 : decode cX3_noted 17 = .ok (.if_icmp .ge 12, 3) := by decide +kernel
theorem dX3_noted_20 : decode cX3_noted 20 = .ok (.aload_n 0, 1) := by decide +kernel
theorem dX3_noted_21 : decode cX3_noted 21 = .ok (.getfield 15, 3) := by decide +kernel
theorem dX3_noted_24 : decode cX3_noted 24 = .ok (.iload_n 3, 1) := by decide +kernel
theorem dX3_noted_25 : decode cX3_noted 25 = .ok (.iaload, 1) := by decide +kernel
theorem dX3_noted_26 : decode cX3_noted 26 = .ok (.goto 4, 3) := by decide +kernel
theorem dX3_noted_29 : decode cX3_noted 29 = .ok (.iconst 0, 1) := by decide +kernel
theorem dX3_noted_30 : decode cX3_noted 30 = .ok (.ireturn, 1) := by decide +kernel
theorem dX3_tell_0 : decode cX3_tell 0 = .ok (.iload_n 1, 1) := by decide +kernel
theorem dX3_tell_1 : decode cX3_tell 1 = .ok (.bipush 6, 2) := by decide +kernel
theorem dX3_tell_3 : decode cX3_tell 3 = .ok (.imul, 1) := by decide +kernel
theorem dX3_tell_4 : decode cX3_tell 4 = .ok (.iload_n 2, 1) := by decide +kernel
theorem dX3_tell_5 : decode cX3_tell 5 = .ok (.iadd, 1) := by decide +kernel
theorem dX3_tell_6 : decode cX3_tell 6 = .ok (.istore 4, 2) := by decide +kernel
theorem dX3_tell_8 : decode cX3_tell 8 = .ok (.iload 4, 2) := by decide +kernel
theorem dX3_tell_10 : decode cX3_tell 10 = .ok (.ifCond .lt 21, 3) := by decide +kernel
theorem dX3_tell_13 : decode cX3_tell 13 = .ok (.iload 4, 2) := by decide +kernel
theorem dX3_tell_15 : decode cX3_tell 15 = .ok (.aload_n 0, 1) := by decide +kernel
theorem dX3_tell_16 : decode cX3_tell 16 = .ok (.getfield 15, 3) := by decide +kernel
theorem dX3_tell_19 : decode cX3_tell 19 = .ok (.arraylength, 1) := by decide +kernel
theorem dX3_tell_20 : decode cX3_tell 20 = .ok (.if_icmp .ge 11, 3) := by decide +kernel
theorem dX3_tell_23 : decode cX3_tell 23 = .ok (.aload_n 0, 1) := by decide +kernel
theorem dX3_tell_24 : decode cX3_tell 24 = .ok (.getfield 15, 3) := by decide +kernel
theorem dX3_tell_27 : decode cX3_tell 27 = .ok (.iload 4, 2) := by decide +kernel
theorem dX3_tell_29 : decode cX3_tell 29 = .ok (.iload_n 3, 1) := by decide +kernel
theorem dX3_tell_30 : decode cX3_tell 30 = .ok (.iastore, 1) := by decide +kernel
theorem dX3_tell_31 : decode cX3_tell 31 = .ok (.return_, 1) := by decide +kernel
theorem dX3_forget_0 : decode cX3_forget 0 = .ok (.aload_n 0, 1) := by decide +kernel
theorem dX3_forget_1 : decode cX3_forget 1 = .ok (.iconst 0, 1) := by decide +kernel
theorem dX3_forget_2 : decode cX3_forget 2 = .ok (.putfield 19, 3) := by decide +kernel
theorem dX3_forget_5 : decode cX3_forget 5 = .ok (.return_, 1) := by decide +kernel
set_option maxRecDepth 20000 in
theorem ggX3_begin_X3_put : GoodIn wsX3_begin wsX3_put := goodIn_r _ [6, 7, 8, 9, 10] (by decide +kernel) (by decide +kernel)
set_option maxRecDepth 20000 in
theorem gX3_begin_X3_put : GoodIn wsX3_begin (wsV RX3 27 RX3 yX3_put wsX3_put) := goodIn_app (goodIn_of _ (by decide +kernel)) ggX3_begin_X3_put
theorem dX3_begin_0 : decode cX3_begin 0 = .ok (.aload_n 0, 1) := by decide +kernel
theorem dX3_begin_1 : decode cX3_begin 1 = .ok (.iconst 1, 1) := by decide +kernel
theorem dX3_begin_2 : decode cX3_begin 2 = .ok (.putfield 19, 3) := by decide +kernel
theorem dX3_begin_5 : decode cX3_begin 5 = .ok (.iconst 0, 1) := by decide +kernel
theorem dX3_begin_6 : decode cX3_begin 6 = .ok (.istore_n 2, 1) := by decide +kernel
theorem dX3_begin_7 : decode cX3_begin 7 = .ok (.iload_n 2, 1) := by decide +kernel
theorem dX3_begin_8 : decode cX3_begin 8 = .ok (.aload_n 1, 1) := by decide +kernel
theorem dX3_begin_9 : decode cX3_begin 9 = .ok (.arraylength, 1) := by decide +kernel
theorem dX3_begin_10 : decode cX3_begin 10 = .ok (.if_icmp .ge 18, 3) := by decide +kernel
theorem dX3_begin_13 : decode cX3_begin 13 = .ok (.aload_n 0, 1) := by decide +kernel
theorem dX3_begin_14 : decode cX3_begin 14 = .ok (.iconst 0, 1) := by decide +kernel
theorem dX3_begin_15 : decode cX3_begin 15 = .ok (.iload_n 2, 1) := by decide +kernel
theorem dX3_begin_16 : decode cX3_begin 16 = .ok (.aload_n 1, 1) := by decide +kernel
theorem dX3_begin_17 : decode cX3_begin 17 = .ok (.iload_n 2, 1) := by decide +kernel
theorem dX3_begin_18 : decode cX3_begin 18 = .ok (.laload, 1) := by decide +kernel
theorem dX3_begin_19 : decode cX3_begin 19 = .ok (.invokevirtual 27, 3) := by decide +kernel
theorem dX3_begin_22 : decode cX3_begin 22 = .ok (.iinc 2 1, 3) := by decide +kernel
theorem dX3_begin_25 : decode cX3_begin 25 = .ok (.goto (-18), 3) := by decide +kernel
theorem dX3_begin_28 : decode cX3_begin 28 = .ok (.return_, 1) := by decide +kernel
theorem dX3_takeFrom_0 : decode cX3_takeFrom 0 = .ok (.aload_n 0, 1) := by decide +kernel
theorem dX3_takeFrom_1 : decode cX3_takeFrom 1 = .ok (.aload_n 1, 1) := by decide +kernel
theorem dX3_takeFrom_2 : decode cX3_takeFrom 2 = .ok (.getfield 19, 3) := by decide +kernel
theorem dX3_takeFrom_5 : decode cX3_takeFrom 5 = .ok (.putfield 19, 3) := by decide +kernel
theorem dX3_takeFrom_8 : decode cX3_takeFrom 8 = .ok (.iconst 0, 1) := by decide +kernel
theorem dX3_takeFrom_9 : decode cX3_takeFrom 9 = .ok (.istore_n 2, 1) := by decide +kernel
theorem dX3_takeFrom_10 : decode cX3_takeFrom 10 = .ok (.iload_n 2, 1) := by decide +kernel
theorem dX3_takeFrom_11 : decode cX3_takeFrom 11 = .ok (.aload_n 0, 1) := by decide +kernel
theorem dX3_takeFrom_12 : decode cX3_takeFrom 12 = .ok (.getfield 11, 3) := by decide +kernel
theorem dX3_takeFrom_15 : decode cX3_takeFrom 15 = .ok (.arraylength, 1) := by decide +kernel
theorem dX3_takeFrom_16 : decode cX3_takeFrom 16 = .ok (.if_icmp .ge 30, 3) := by decide +kernel
theorem dX3_takeFrom_19 : decode cX3_takeFrom 19 = .ok (.iload_n 2, 1) := by decide +kernel
theorem dX3_takeFrom_20 : decode cX3_takeFrom 20 = .ok (.aload_n 1, 1) := by decide +kernel
theorem dX3_takeFrom_21 : decode cX3_takeFrom 21 = .ok (.getfield 11, 3) := by decide +kernel
theorem dX3_takeFrom_24 : decode cX3_takeFrom 24 = .ok (.arraylength, 1) := by decide +kernel
theorem dX3_takeFrom_25 : decode cX3_takeFrom 25 = .ok (.if_icmp .ge 21, 3) := by decide +kernel
theorem dX3_takeFrom_28 : decode cX3_takeFrom 28 = .ok (.aload_n 0, 1) := by decide +kernel
theorem dX3_takeFrom_29 : decode cX3_takeFrom 29 = .ok (.getfield 11, 3) := by decide +kernel
theorem dX3_takeFrom_32 : decode cX3_takeFrom 32 = .ok (.iload_n 2, 1) := by decide +kernel
theorem dX3_takeFrom_33 : decode cX3_takeFrom 33 = .ok (.aload_n 1, 1) := by decide +kernel
theorem dX3_takeFrom_34 : decode cX3_takeFrom 34 = .ok (.getfield 11, 3) := by decide +kernel
theorem dX3_takeFrom_37 : decode cX3_takeFrom 37 = .ok (.iload_n 2, 1) := by decide +kernel
theorem dX3_takeFrom_38 : decode cX3_takeFrom 38 = .ok (.laload, 1) := by decide +kernel
theorem dX3_takeFrom_39 : decode cX3_takeFrom 39 = .ok (.lastore, 1) := by decide +kernel
theorem dX3_takeFrom_40 : decode cX3_takeFrom 40 = .ok (.iinc 2 1, 3) := by decide +kernel
theorem dX3_takeFrom_43 : decode cX3_takeFrom 43 = .ok (.goto (-33), 3) := by decide +kernel
theorem dX3_takeFrom_46 : decode cX3_takeFrom 46 = .ok (.iconst 0, 1) := by decide +kernel
theorem dX3_takeFrom_47 : decode cX3_takeFrom 47 = .ok (.istore_n 2, 1) := by decide +kernel
theorem dX3_takeFrom_48 : decode cX3_takeFrom 48 = .ok (.iload_n 2, 1) := by decide +kernel
theorem dX3_takeFrom_49 : decode cX3_takeFrom 49 = .ok (.aload_n 0, 1) := by decide +kernel
theorem dX3_takeFrom_50 : decode cX3_takeFrom 50 = .ok (.getfield 15, 3) := by decide +kernel
theorem dX3_takeFrom_53 : decode cX3_takeFrom 53 = .ok (.arraylength, 1) := by decide +kernel
theorem dX3_takeFrom_54 : decode cX3_takeFrom 54 = .ok (.if_icmp .ge 30, 3) := by decide +kernel
theorem dX3_takeFrom_57 : decode cX3_takeFrom 57 = .ok (.iload_n 2, 1) := by decide +kernel
theorem dX3_takeFrom_58 : decode cX3_takeFrom 58 = .ok (.aload_n 1, 1) := by decide +kernel
theorem dX3_takeFrom_59 : decode cX3_takeFrom 59 = .ok (.getfield 15, 3) := by decide +kernel
theorem dX3_takeFrom_62 : decode cX3_takeFrom 62 = .ok (.arraylength, 1) := by decide +kernel
theorem dX3_takeFrom_63 : decode cX3_takeFrom 63 = .ok (.if_icmp .ge 21, 3) := by decide +kernel
theorem dX3_takeFrom_66 : decode cX3_takeFrom 66 = .ok (.aload_n 0, 1) := by decide +kernel
theorem dX3_takeFrom_67 : decode cX3_takeFrom 67 = .ok (.getfield 15, 3) := by decide +kernel
theorem dX3_takeFrom_70 : decode cX3_takeFrom 70 = .ok (.iload_n 2, 1) := by decide +kernel
theorem dX3_takeFrom_71 : decode cX3_takeFrom 71 = .ok (.aload_n 1, 1) := by decide +kernel
theorem dX3_takeFrom_72 : decode cX3_takeFrom 72 = .ok (.getfield 15, 3) := by decide +kernel
theorem dX3_takeFrom_75 : decode cX3_takeFrom 75 = .ok (.iload_n 2, 1) := by decide +kernel
theorem dX3_takeFrom_76 : decode cX3_takeFrom 76 = .ok (.iaload, 1) := by decide +kernel
theorem dX3_takeFrom_77 : decode cX3_takeFrom 77 = .ok (.iastore, 1) := by decide +kernel
theorem dX3_takeFrom_78 : decode cX3_takeFrom 78 = .ok (.iinc 2 1, 3) := by decide +kernel
theorem dX3_takeFrom_81 : decode cX3_takeFrom 81 = .ok (.goto (-33), 3) := by decide +kernel
theorem dX3_takeFrom_84 : decode cX3_takeFrom 84 = .ok (.return_, 1) := by decide +kernel
set_option maxRecDepth 20000 in
theorem ggX3_go_X3_tell : GoodIn wsX3_go wsX3_tell := goodIn_r _ [6, 7, 58, 59, 60] (by decide +kernel) (by decide +kernel)
set_option maxRecDepth 20000 in
theorem gX3_go_X3_tell : GoodIn wsX3_go (wsV RX3 31 RX3 yX3_tell wsX3_tell) := goodIn_app (goodIn_of _ (by decide +kernel)) ggX3_go_X3_tell
set_option maxRecDepth 20000 in
theorem ggX3_go_X3_walked : GoodIn wsX3_go wsX3_walked := goodIn_r _ [11, 12, 13, 14, 15, 5, 16, 17, 18, 19, 20, 21, 7, 22, 23, 24, 25, 26, 27, 28, 29, 30, 31, 32, 33, 34, 35, 36, 37, 38, 39, 40, 41, 42, 43, 44, 45, 46, 47, 48, 49, 50, 51, 52, 53, 58, 59, 60] (by decide +kernel) (by decide +kernel)
set_option maxRecDepth 20000 in
theorem gX3_go_X3_walked : GoodIn wsX3_go (wsV RX3 35 RX3 yX3_walked wsX3_walked) := goodIn_app (goodIn_of _ (by decide +kernel)) ggX3_go_X3_walked
set_option maxRecDepth 20000 in
theorem ggX3_go_X3_put : GoodIn wsX3_go wsX3_put := goodIn_r _ [57, 17, 58, 59, 60] (by decide +kernel) (by decide +kernel)
set_option maxRecDepth 20000 in
theorem gX3_go_X3_put : GoodIn wsX3_go (wsV RX3 27 RX3 yX3_put wsX3_put) := goodIn_app (goodIn_of _ (by decide +kernel)) ggX3_go_X3_put
theorem dX3_go_0 : decode cX3_go 0 = .ok (.aload_n 0, 1) := by decide +kernel
theorem dX3_go_1 : decode cX3_go 1 = .ok (.getfield 19, 3) := by decide +kernel
theorem dX3_go_4 : decode cX3_go 4 = .ok (.iconst 1, 1) := by decide +kernel
theorem dX3_go_5 : decode cX3_go 5 = .ok (.if_icmp .lt 12, 3) := by decide +kernel
theorem dX3_go_8 : decode cX3_go 8 = .ok (.aload_n 0, 1) := by decide +kernel
theorem dX3_go_9 : decode cX3_go 9 = .ok (.getfield 19, 3) := by decide +kernel
theorem dX3_go_12 : decode cX3_go 12 = .ok (.bipush 48, 2) := by decide +kernel
theorem dX3_go_14 : decode cX3_go 14 = .ok (.if_icmp .le 4, 3) := by decide +kernel
theorem dX3_go_17 : decode cX3_go 17 = .ok (.return_, 1) := by decide +kernel
theorem dX3_go_18 : decode cX3_go 18 = .ok (.aload_n 0, 1) := by decide +kernel
theorem dX3_go_19 : decode cX3_go 19 = .ok (.getfield 19, 3) := by decide +kernel
theorem dX3_go_22 : decode cX3_go 22 = .ok (.iconst 1, 1) := by decide +kernel
theorem dX3_go_23 : decode cX3_go 23 = .ok (.isub, 1) := by decide +kernel
theorem dX3_go_24 : decode cX3_go 24 = .ok (.istore 7, 2) := by decide +kernel
theorem dX3_go_26 : decode cX3_go 26 = .ok (.aload_n 0, 1) := by decide +kernel
theorem dX3_go_27 : decode cX3_go 27 = .ok (.iload 7, 2) := by decide +kernel
theorem dX3_go_29 : decode cX3_go 29 = .ok (.iconst 0, 1) := by decide +kernel
theorem dX3_go_30 : decode cX3_go 30 = .ok (.iload_n 1, 1) := by decide +kernel
theorem dX3_go_31 : decode cX3_go 31 = .ok (.invokevirtual 31, 3) := by decide +kernel
theorem dX3_go_34 : decode cX3_go 34 = .ok (.aload_n 0, 1) := by decide +kernel
theorem dX3_go_35 : decode cX3_go 35 = .ok (.iload 7, 2) := by decide +kernel
theorem dX3_go_37 : decode cX3_go 37 = .ok (.iconst 1, 1) := by decide +kernel
theorem dX3_go_38 : decode cX3_go 38 = .ok (.iload_n 2, 1) := by decide +kernel
theorem dX3_go_39 : decode cX3_go 39 = .ok (.invokevirtual 31, 3) := by decide +kernel
theorem dX3_go_42 : decode cX3_go 42 = .ok (.aload_n 0, 1) := by decide +kernel
theorem dX3_go_43 : decode cX3_go 43 = .ok (.iload 7, 2) := by decide +kernel
theorem dX3_go_45 : decode cX3_go 45 = .ok (.iconst 2, 1) := by decide +kernel
theorem dX3_go_46 : decode cX3_go 46 = .ok (.iload_n 3, 1) := by decide +kernel
theorem dX3_go_47 : decode cX3_go 47 = .ok (.invokevirtual 31, 3) := by decide +kernel
theorem dX3_go_50 : decode cX3_go 50 = .ok (.aload_n 0, 1) := by decide +kernel
theorem dX3_go_51 : decode cX3_go 51 = .ok (.iload 7, 2) := by decide +kernel
theorem dX3_go_53 : decode cX3_go 53 = .ok (.iconst 3, 1) := by decide +kernel
theorem dX3_go_54 : decode cX3_go 54 = .ok (.iload 4, 2) := by decide +kernel
theorem dX3_go_56 : decode cX3_go 56 = .ok (.invokevirtual 31, 3) := by decide +kernel
theorem dX3_go_59 : decode cX3_go 59 = .ok (.aload_n 0, 1) := by decide +kernel
theorem dX3_go_60 : decode cX3_go 60 = .ok (.iload 7, 2) := by decide +kernel
theorem dX3_go_62 : decode cX3_go 62 = .ok (.iconst 4, 1) := by decide +kernel
theorem dX3_go_63 : decode cX3_go 63 = .ok (.iload 5, 2) := by decide +kernel
theorem dX3_go_65 : decode cX3_go 65 = .ok (.invokevirtual 31, 3) := by decide +kernel
theorem dX3_go_68 : decode cX3_go 68 = .ok (.aload_n 0, 1) := by decide +kernel
theorem dX3_go_69 : decode cX3_go 69 = .ok (.iload 7, 2) := by decide +kernel
theorem dX3_go_71 : decode cX3_go 71 = .ok (.iconst 5, 1) := by decide +kernel
theorem dX3_go_72 : decode cX3_go 72 = .ok (.iload 6, 2) := by decide +kernel
theorem dX3_go_74 : decode cX3_go 74 = .ok (.invokevirtual 31, 3) := by decide +kernel
theorem dX3_go_77 : decode cX3_go 77 = .ok (.iconst 0, 1) := by decide +kernel
theorem dX3_go_78 : decode cX3_go 78 = .ok (.istore 8, 2) := by decide +kernel
theorem dX3_go_80 : decode cX3_go 80 = .ok (.iload 8, 2) := by decide +kernel
theorem dX3_go_82 : decode cX3_go 82 = .ok (.bipush 8, 2) := by decide +kernel
theorem dX3_go_84 : decode cX3_go 84 = .ok (.if_icmp .ge 27, 3) := by decide +kernel
theorem dX3_go_87 : decode cX3_go 87 = .ok (.aload_n 0, 1) := by decide +kernel
theorem dX3_go_88 : decode cX3_go 88 = .ok (.aload_n 0, 1) := by decide +kernel
theorem dX3_go_89 : decode cX3_go 89 = .ok (.getfield 19, 3) := by decide +kernel
theorem dX3_go_92 : decode cX3_go 92 = .ok (.iload 8, 2) := by decide +kernel
theorem dX3_go_94 : decode cX3_go 94 = .ok (.aload_n 0, 1) := by decide +kernel
theorem dX3_go_95 : decode cX3_go 95 = .ok (.iload 7, 2) := by decide +kernel
theorem dX3_go_97 : decode cX3_go 97 = .ok (.iload 8, 2) := by decide +kernel
theorem dX3_go_99 : decode cX3_go 99 = .ok (.invokevirtual 35, 3) := by decide +kernel
theorem dX3_go_102 : decode cX3_go 102 = .ok (.invokevirtual 27, 3) := by decide +kernel
theorem dX3_go_105 : decode cX3_go 105 = .ok (.iinc 8 1, 3) := by decide +kernel
theorem dX3_go_108 : decode cX3_go 108 = .ok (.goto (-28), 3) := by decide +kernel
theorem dX3_go_111 : decode cX3_go 111 = .ok (.aload_n 0, 1) := by decide +kernel
theorem dX3_go_112 : decode cX3_go 112 = .ok (.dup, 1) := by decide +kernel
theorem dX3_go_113 : decode cX3_go 113 = .ok (.getfield 19, 3) := by decide +kernel
theorem dX3_go_116 : decode cX3_go 116 = .ok (.iconst 1, 1) := by decide +kernel
theorem dX3_go_117 : decode cX3_go 117 = .ok (.iadd, 1) := by decide +kernel
theorem dX3_go_118 : decode cX3_go 118 = .ok (.putfield 19, 3) := by decide +kernel
theorem dX3_go_121 : decode cX3_go 121 = .ok (.return_, 1) := by decide +kernel
set_option maxRecDepth 20000 in
theorem ggX3_walked_X3_cell : GoodIn wsX3_walked wsX3_cell := goodIn_r _ [6, 7, 45, 46, 47] (by decide +kernel) (by decide +kernel)
set_option maxRecDepth 20000 in
theorem gX3_walked_X3_cell : GoodIn wsX3_walked (wsV RX3 39 RX3 yX3_cell wsX3_cell) := goodIn_app (goodIn_of _ (by decide +kernel)) ggX3_walked_X3_cell
set_option maxRecDepth 20000 in
theorem ggX3_walked_X3_noted : GoodIn wsX3_walked wsX3_noted := goodIn_r _ [11, 12, 45, 46, 47] (by decide +kernel) (by decide +kernel)
set_option maxRecDepth 20000 in
theorem gX3_walked_X3_noted : GoodIn wsX3_walked (wsV RX3 42 RX3 yX3_noted wsX3_noted) := goodIn_app (goodIn_of _ (by decide +kernel)) ggX3_walked_X3_noted
set_option maxRecDepth 20000 in
theorem ggX3_walked_X5_tenTo : GoodIn wsX3_walked wsX5_tenTo := goodIn_r _ [16, 17] (by decide +kernel) (by decide +kernel)
set_option maxRecDepth 20000 in
theorem gX3_walked_X5_tenTo : GoodIn wsX3_walked (va_wsS RX3 46 yX5_tenTo wsX5_tenTo) := goodIn_app (goodIn_of _ (by decide +kernel)) ggX3_walked_X5_tenTo
set_option maxRecDepth 20000 in
theorem ggX3_walked_X3_grown : GoodIn wsX3_walked wsX3_grown := goodIn_r _ [21, 8, 9, 10, 5, 11, 12, 45, 46, 47] (by decide +kernel) (by decide +kernel)
set_option maxRecDepth 20000 in
theorem gX3_walked_X3_grown : GoodIn wsX3_walked (wsV RX3 52 RX3 yX3_grown wsX3_grown) := goodIn_app (goodIn_of _ (by decide +kernel)) ggX3_walked_X3_grown
set_option maxRecDepth 20000 in
theorem ggX3_walked_X3_lessened : GoodIn wsX3_walked wsX3_lessened := goodIn_r _ [25, 1, 8, 9, 10, 5, 11, 12, 2, 3, 4, 6, 7, 26, 27, 15, 28, 29, 30, 31, 32, 33, 34, 35, 36, 37, 38, 39, 45, 46, 47] (by decide +kernel) (by decide +kernel)
set_option maxRecDepth 20000 in
theorem gX3_walked_X3_lessened : GoodIn wsX3_walked (wsV RX3 56 RX3 yX3_lessened wsX3_lessened) := goodIn_app (goodIn_of _ (by decide +kernel)) ggX3_walked_X3_lessened
set_option maxRecDepth 20000 in
theorem ggX3_walked_X5_isBeyond : GoodIn wsX3_walked wsX5_isBeyond := goodIn_r _ [42, 43, 44] (by decide +kernel) (by decide +kernel)
set_option maxRecDepth 20000 in
theorem gX3_walked_X5_isBeyond : GoodIn wsX3_walked (va_wsS RX3 60 yX5_isBeyond wsX5_isBeyond) := goodIn_app (goodIn_of _ (by decide +kernel)) ggX3_walked_X5_isBeyond
theorem dX3_walked_0 : decode cX3_walked 0 = .ok (.aload_n 0, 1) := by decide +kernel
theorem dX3_walked_1 : decode cX3_walked 1 = .ok (.iload_n 1, 1) := by decide +kernel
theorem dX3_walked_2 : decode cX3_walked 2 = .ok (.iload_n 2, 1) := by decide +kernel
theorem dX3_walked_3 : decode cX3_walked 3 = .ok (.invokevirtual 39, 3) := by decide +kernel
theorem dX3_walked_6 : decode cX3_walked 6 = .ok (.lstore_n 3, 1) := by decide +kernel
theorem dX3_walked_7 : decode cX3_walked 7 = .ok (.aload_n 0, 1) := by decide +kernel
theorem dX3_walked_8 : decode cX3_walked 8 = .ok (.iload_n 1, 1) := by decide +kernel
theorem dX3_walked_9 : decode cX3_walked 9 = .ok (.iconst 0, 1) := by decide +kernel
theorem dX3_walked_10 : decode cX3_walked 10 = .ok (.invokevirtual 42, 3) := by decide +kernel
theorem dX3_walked_13 : decode cX3_walked 13 = .ok (.istore 5, 2) := by decide +kernel
theorem dX3_walked_15 : decode cX3_walked 15 = .ok (.iload_n 2, 1) := by decide +kernel
theorem dX3_walked_16 : decode cX3_walked 16 = .ok (.aload_n 0, 1) := by decide +kernel
theorem dX3_walked_17 : decode cX3_walked 17 = .ok (.iload_n 1, 1) := by decide +kernel
theorem dX3_walked_18 : decode cX3_walked 18 = .ok (.iconst 1, 1) := by decide +kernel
theorem dX3_walked_19 : decode cX3_walked 19 = .ok (.invokevirtual 42, 3) := by decide +kernel
theorem dX3_walked_22 : decode cX3_walked 22 = .ok (.if_icmp .ne 7, 3) := by decide +kernel
theorem dX3_walked_25 : decode cX3_walked 25 = .ok (.iconst 1, 1) := by decide +kernel
theorem dX3_walked_26 : decode cX3_walked 26 = .ok (.goto 4, 3) := by decide +kernel
theorem dX3_walked_29 : decode cX3_walked 29 = .ok (.iconst 0, 1) := by decide +kernel
theorem dX3_walked_30 : decode cX3_walked 30 = .ok (.istore 6, 2) := by decide +kernel
theorem dX3_walked_32 : decode cX3_walked 32 = .ok (.iload 5, 2) := by decide +kernel
theorem dX3_walked_34 : decode cX3_walked 34 = .ok (.iconst 5, 1) := by decide +kernel
theorem dX3_walked_35 : decode cX3_walked 35 = .ok (.if_icmp .ne 14, 3) := by decide +kernel
theorem dX3_walked_38 : decode cX3_walked 38 = .ok (.iload 6, 2) := by decide +kernel
theorem dX3_walked_40 : decode cX3_walked 40 = .ok (.ifCond .eq 7, 3) := by decide +kernel
theorem dX3_walked_43 : decode cX3_walked 43 = .ok (.lconst 0, 1) := by decide +kernel
theorem dX3_walked_44 : decode cX3_walked 44 = .ok (.goto 4, 3) := by decide +kernel
theorem dX3_walked_47 : decode cX3_walked 47 = .ok (.lload_n 3, 1) := by decide +kernel
theorem dX3_walked_48 : decode cX3_walked 48 = .ok (.lreturn, 1) := by decide +kernel
theorem dX3_walked_49 : decode cX3_walked 49 = .ok (.aload_n 0, 1) := by decide +kernel
theorem dX3_walked_50 : decode cX3_walked 50 = .ok (.iload_n 1, 1) := by decide +kernel
theorem dX3_walked_51 : decode cX3_walked 51 = .ok (.iconst 3, 1) := by decide +kernel
theorem dX3_walked_52 : decode cX3_walked 52 = .ok (.invokevirtual 42, 3) := by decide +kernel
theorem dX3_walked_55 : decode cX3_walked 55 = .ok (.i2l, 1) := by decide +kernel
theorem dX3_walked_56 : decode cX3_walked 56 = .ok (.aload_n 0, 1) := by decide +kernel
theorem dX3_walked_57 : decode cX3_walked 57 = .ok (.iload_n 1, 1) := by decide +kernel
theorem dX3_walked_58 : decode cX3_walked 58 = .ok (.iconst 2, 1) := by decide +kernel
theorem dX3_walked_59 : decode cX3_walked 59 = .ok (.invokevirtual 42, 3) := by decide +kernel
theorem dX3_walked_62 : decode cX3_walked 62 = .ok (.invokestatic 46, 3) := by decide +kernel
theorem dX3_walked_65 : decode cX3_walked 65 = .ok (.lmul, 1) := by decide +kernel
theorem dX3_walked_66 : decode cX3_walked 66 = .ok (.lstore 7, 2) := by decide +kernel
theorem dX3_walked_68 : decode cX3_walked 68 = .ok (.iload_n 2, 1) := by decide +kernel
theorem dX3_walked_69 : decode cX3_walked 69 = .ok (.aload_n 0, 1) := by decide +kernel
theorem dX3_walked_70 : decode cX3_walked 70 = .ok (.iload_n 1, 1) := by decide +kernel
theorem dX3_walked_71 : decode cX3_walked 71 = .ok (.invokevirtual 52, 3) := by decide +kernel
theorem dX3_walked_74 : decode cX3_walked 74 = .ok (.if_icmp .ne 11, 3) := by decide +kernel
theorem dX3_walked_77 : decode cX3_walked 77 = .ok (.lload_n 3, 1) := by decide +kernel
theorem dX3_walked_78 : decode cX3_walked 78 = .ok (.lload 7, 2) := by decide +kernel
theorem dX3_walked_80 : decode cX3_walked 80 = .ok (.ladd, 1) := by decide +kernel
theorem dX3_walked_81 : decode cX3_walked 81 = .ok (.lstore_n 3, 1) := by decide +kernel
theorem dX3_walked_82 : decode cX3_walked 82 = .ok (.goto 34, 3) := by decide +kernel
theorem dX3_walked_85 : decode cX3_walked 85 = .ok (.iload 6, 2) := by decide +kernel
theorem dX3_walked_87 : decode cX3_walked 87 = .ok (.ifCond .eq 29, 3) := by decide +kernel
theorem dX3_walked_90 : decode cX3_walked 90 = .ok (.aload_n 0, 1) := by decide +kernel
theorem dX3_walked_91 : decode cX3_walked 91 = .ok (.iload_n 1, 1) := by decide +kernel
theorem dX3_walked_92 : decode cX3_walked 92 = .ok (.lload 7, 2) := by decide +kernel
theorem dX3_walked_94 : decode cX3_walked 94 = .ok (.invokevirtual 56, 3) := by decide +kernel
theorem dX3_walked_97 : decode cX3_walked 97 = .ok (.lstore 9, 2) := by decide +kernel
theorem dX3_walked_99 : decode cX3_walked 99 = .ok (.lload 9, 2) := by decide +kernel
theorem dX3_walked_101 : decode cX3_walked 101 = .ok (.invokestatic 60, 3) := by decide +kernel
theorem dX3_walked_104 : decode cX3_walked 104 = .ok (.ifCond .eq 7, 3) := by decide +kernel
theorem dX3_walked_107 : decode cX3_walked 107 = .ok (.ldc2_w 64, 3) := by decide +kernel
theorem dX3_walked_110 : decode cX3_walked 110 = .ok (.lreturn, 1) := by decide +kernel
theorem dX3_walked_111 : decode cX3_walked 111 = .ok (.lload_n 3, 1) := by decide +kernel
theorem dX3_walked_112 : decode cX3_walked 112 = .ok (.lload 9, 2) := by decide +kernel
theorem dX3_walked_114 : decode cX3_walked 114 = .ok (.lsub, 1) := by decide +kernel
theorem dX3_walked_115 : decode cX3_walked 115 = .ok (.lstore_n 3, 1) := by decide +kernel
theorem dX3_walked_116 : decode cX3_walked 116 = .ok (.lload_n 3, 1) := by decide +kernel
theorem dX3_walked_117 : decode cX3_walked 117 = .ok (.invokestatic 60, 3) := by decide +kernel
theorem dX3_walked_120 : decode cX3_walked 120 = .ok (.ifCond .eq 9, 3) := by decide +kernel
theorem dX3_walked_123 : decode cX3_walked 123 = .ok (.ldc2_w 64, 3) := by decide +kernel
theorem dX3_walked_126 : decode cX3_walked 126 = .ok (.goto 4, 3) := by decide +kernel
theorem dX3_walked_129 : decode cX3_walked 129 = .ok (.lload_n 3, 1) := by decide +kernel
theorem dX3_walked_130 : decode cX3_walked 130 = .ok (.lreturn, 1) := by decide +kernel
set_option maxRecDepth 20000 in
theorem ggX3_grown_X3_noted : GoodIn wsX3_grown wsX3_noted := goodIn_r _ [5, 6, 7, 8, 9] (by decide +kernel) (by decide +kernel)
set_option maxRecDepth 20000 in
theorem gX3_grown_X3_noted : GoodIn wsX3_grown (wsV RX3 42 RX3 yX3_noted wsX3_noted) := goodIn_app (goodIn_of _ (by decide +kernel)) ggX3_grown_X3_noted
theorem dX3_grown_0 : decode cX3_grown 0 = .ok (.aload_n 0, 1) := by decide +kernel
theorem dX3_grown_1 : decode cX3_grown 1 = .ok (.iload_n 1, 1) := by decide +kernel
theorem dX3_grown_2 : decode cX3_grown 2 = .ok (.iconst 0, 1) := by decide +kernel
theorem dX3_grown_3 : decode cX3_grown 3 = .ok (.invokevirtual 42, 3) := by decide +kernel
theorem dX3_grown_6 : decode cX3_grown 6 = .ok (.istore_n 2, 1) := by decide +kernel
theorem dX3_grown_7 : decode cX3_grown 7 = .ok (.iload_n 2, 1) := by decide +kernel
theorem dX3_grown_8 : decode cX3_grown 8 = .ok (.ifCond .eq 8, 3) := by decide +kernel
theorem dX3_grown_11 : decode cX3_grown 11 = .ok (.iload_n 2, 1) := by decide +kernel
theorem dX3_grown_12 : decode cX3_grown 12 = .ok (.iconst 1, 1) := by decide +kernel
theorem dX3_grown_13 : decode cX3_grown 13 = .ok (.if_icmp .ne 10, 3) := by decide +kernel
theorem dX3_grown_16 : decode cX3_grown 16 = .ok (.aload_n 0, 1) := by decide +kernel
theorem dX3_grown_17 : decode cX3_grown 17 = .ok (.iload_n 1, 1) := by decide +kernel
theorem dX3_grown_18 : decode cX3_grown 18 = .ok (.iconst 1, 1) := by decide +kernel
theorem dX3_grown_19 : decode cX3_grown 19 = .ok (.invokevirtual 42, 3) := by decide +kernel
theorem dX3_grown_22 : decode cX3_grown 22 = .ok (.ireturn, 1) := by decide +kernel
theorem dX3_grown_23 : decode cX3_grown 23 = .ok (.aload_n 0, 1) := by decide +kernel
theorem dX3_grown_24 : decode cX3_grown 24 = .ok (.iload_n 1, 1) := by decide +kernel
theorem dX3_grown_25 : decode cX3_grown 25 = .ok (.iload_n 2, 1) := by decide +kernel
theorem dX3_grown_26 : decode cX3_grown 26 = .ok (.iconst 2, 1) := by decide +kernel
theorem dX3_grown_27 : decode cX3_grown 27 = .ok (.if_icmp .ne 7, 3) := by decide +kernel
theorem dX3_grown_30 : decode cX3_grown 30 = .ok (.iconst 5, 1) := by decide +kernel
theorem dX3_grown_31 : decode cX3_grown 31 = .ok (.goto 4, 3) := by decide +kernel
theorem dX3_grown_34 : decode cX3_grown 34 = .ok (.iconst 4, 1) := by decide +kernel
theorem dX3_grown_35 : decode cX3_grown 35 = .ok (.invokevirtual 42, 3) := by decide +kernel
theorem dX3_grown_38 : decode cX3_grown 38 = .ok (.ireturn, 1) := by decide +kernel
set_option maxRecDepth 20000 in
theorem ggX3_lessened_X3_noted : GoodIn wsX3_lessened wsX3_noted := goodIn_r _ [6, 7, 28, 29, 30] (by decide +kernel) (by decide +kernel)
set_option maxRecDepth 20000 in
theorem gX3_lessened_X3_noted : GoodIn wsX3_lessened (wsV RX3 42 RX3 yX3_noted wsX3_noted) := goodIn_app (goodIn_of _ (by decide +kernel)) ggX3_lessened_X3_noted
set_option maxRecDepth 20000 in
theorem ggX3_lessened_X3_cell : GoodIn wsX3_lessened wsX3_cell := goodIn_r _ [11, 12, 28, 29, 30] (by decide +kernel) (by decide +kernel)
set_option maxRecDepth 20000 in
theorem gX3_lessened_X3_cell : GoodIn wsX3_lessened (wsV RX3 39 RX3 yX3_cell wsX3_cell) := goodIn_app (goodIn_of _ (by decide +kernel)) ggX3_lessened_X3_cell
set_option maxRecDepth 20000 in
theorem ggX3_lessened_X5_product : GoodIn wsX3_lessened wsX5_product := goodIn_r _ [16, 17, 18, 19, 20, 21, 22] (by decide +kernel) (by decide +kernel)
set_option maxRecDepth 20000 in
theorem gX3_lessened_X5_product : GoodIn wsX3_lessened (va_wsS RX3 66 yX5_product wsX5_product) := goodIn_app (goodIn_of _ (by decide +kernel)) ggX3_lessened_X5_product
set_option maxRecDepth 20000 in
theorem ggX3_lessened_X5_power : GoodIn wsX3_lessened wsX5_power := goodIn_r _ [25, 26, 27, 22] (by decide +kernel) (by decide +kernel)
set_option maxRecDepth 20000 in
theorem gX3_lessened_X5_power : GoodIn wsX3_lessened (va_wsS RX3 70 yX5_power wsX5_power) := goodIn_app (goodIn_of _ (by decide +kernel)) ggX3_lessened_X5_power
theorem dX3_lessened_0 : decode cX3_lessened 0 = .ok (.aload_n 0, 1) := by decide +kernel
theorem dX3_lessened_1 : decode cX3_lessened 1 = .ok (.iload_n 1, 1) := by decide +kernel
theorem dX3_lessened_2 : decode cX3_lessened 2 = .ok (.aload_n 0, 1) := by decide +kernel
theorem dX3_lessened_3 : decode cX3_lessened 3 = .ok (.iload_n 1, 1) := by decide +kernel
theorem dX3_lessened_4 : decode cX3_lessened 4 = .ok (.iconst 4, 1) := by decide +kernel
theorem dX3_lessened_5 : decode cX3_lessened 5 = .ok (.invokevirtual 42, 3) := by decide +kernel
theorem dX3_lessened_8 : decode cX3_lessened 8 = .ok (.invokevirtual 39, 3) := by decide +kernel
theorem dX3_lessened_11 : decode cX3_lessened 11 = .ok (.lstore 4, 2) := by decide +kernel
theorem dX3_lessened_13 : decode cX3_lessened 13 = .ok (.aload_n 0, 1) := by decide +kernel
theorem dX3_lessened_14 : decode cX3_lessened 14 = .ok (.iload_n 1, 1) := by decide +kernel
theorem dX3_lessened_15 : decode cX3_lessened 15 = .ok (.iconst 0, 1) := by decide +kernel
theorem dX3_lessened_16 : decode cX3_lessened 16 = .ok (.invokevirtual 42, 3) := by decide +kernel
theorem dX3_lessened_19 : decode cX3_lessened 19 = .ok (.iconst 2, 1) := by decide +kernel
theorem dX3_lessened_20 : decode cX3_lessened 20 = .ok (.if_icmp .ne 10, 3) := by decide +kernel
theorem dX3_lessened_23 : decode cX3_lessened 23 = .ok (.lload_n 2, 1) := by decide +kernel
theorem dX3_lessened_24 : decode cX3_lessened 24 = .ok (.lload 4, 2) := by decide +kernel
theorem dX3_lessened_26 : decode cX3_lessened 26 = .ok (.invokestatic 66, 3) := by decide +kernel
theorem dX3_lessened_29 : decode cX3_lessened 29 = .ok (.lreturn, 1) := by decide +kernel
theorem dX3_lessened_30 : decode cX3_lessened 30 = .ok (.aload_n 0, 1) := by decide +kernel
theorem dX3_lessened_31 : decode cX3_lessened 31 = .ok (.iload_n 1, 1) := by decide +kernel
theorem dX3_lessened_32 : decode cX3_lessened 32 = .ok (.iconst 0, 1) := by decide +kernel
theorem dX3_lessened_33 : decode cX3_lessened 33 = .ok (.invokevirtual 42, 3) := by decide +kernel
theorem dX3_lessened_36 : decode cX3_lessened 36 = .ok (.iconst 3, 1) := by decide +kernel
theorem dX3_lessened_37 : decode cX3_lessened 37 = .ok (.if_icmp .ne 7, 3) := by decide +kernel
theorem dX3_lessened_40 : decode cX3_lessened 40 = .ok (.iconst 2, 1) := by decide +kernel
theorem dX3_lessened_41 : decode cX3_lessened 41 = .ok (.goto 4, 3) := by decide +kernel
theorem dX3_lessened_44 : decode cX3_lessened 44 = .ok (.iconst 3, 1) := by decide +kernel
theorem dX3_lessened_45 : decode cX3_lessened 45 = .ok (.istore 6, 2) := by decide +kernel
theorem dX3_lessened_47 : decode cX3_lessened 47 = .ok (.lload 4, 2) := by decide +kernel
theorem dX3_lessened_49 : decode cX3_lessened 49 = .ok (.iload 6, 2) := by decide +kernel
theorem dX3_lessened_51 : decode cX3_lessened 51 = .ok (.invokestatic 70, 3) := by decide +kernel
theorem dX3_lessened_54 : decode cX3_lessened 54 = .ok (.lstore 7, 2) := by decide +kernel
theorem dX3_lessened_56 : decode cX3_lessened 56 = .ok (.lload 4, 2) := by decide +kernel
theorem dX3_lessened_58 : decode cX3_lessened 58 = .ok (.lload_n 2, 1) := by decide +kernel
theorem dX3_lessened_59 : decode cX3_lessened 59 = .ok (.ladd, 1) := by decide +kernel
theorem dX3_lessened_60 : decode cX3_lessened 60 = .ok (.iload 6, 2) := by decide +kernel
theorem dX3_lessened_62 : decode cX3_lessened 62 = .ok (.invokestatic 70, 3) := by decide +kernel
theorem dX3_lessened_65 : decode cX3_lessened 65 = .ok (.lstore 9, 2) := by decide +kernel
theorem dX3_lessened_67 : decode cX3_lessened 67 = .ok (.lload 7, 2) := by decide +kernel
theorem dX3_lessened_69 : decode cX3_lessened 69 = .ok (.ldc2_w 64, 3) := by decide +kernel
theorem dX3_lessened_72 : decode cX3_lessened 72 = .ok (.lcmp, 1) := by decide +kernel
theorem dX3_lessened_73 : decode cX3_lessened 73 = .ok (.ifCond .eq 12, 3) := by decide +kernel
theorem dX3_lessened_76 : decode cX3_lessened 76 = .ok (.lload 9, 2) := by decide +kernel
theorem dX3_lessened_78 : decode cX3_lessened 78 = .ok (.ldc2_w 64, 3) := by decide +kernel
theorem dX3_lessened_81 : decode cX3_lessened 81 = .ok (.lcmp, 1) := by decide +kernel
theorem dX3_lessened_82 : decode cX3_lessened 82 = .ok (.ifCond .ne 9, 3) := by decide +kernel
theorem dX3_lessened_85 : decode cX3_lessened 85 = .ok (.ldc2_w 64, 3) := by decide +kernel
theorem dX3_lessened_88 : decode cX3_lessened 88 = .ok (.goto 8, 3) := by decide +kernel
theorem dX3_lessened_91 : decode cX3_lessened 91 = .ok (.lload 9, 2) := by decide +kernel
theorem dX3_lessened_93 : decode cX3_lessened 93 = .ok (.lload 7, 2) := by decide +kernel
theorem dX3_lessened_95 : decode cX3_lessened 95 = .ok (.lsub, 1) := by decide +kernel
theorem dX3_lessened_96 : decode cX3_lessened 96 = .ok (.lreturn, 1) := by decide +kernel
set_option maxRecDepth 20000 in
theorem ggX3_actsOnFirst_X3_noted : GoodIn wsX3_actsOnFirst wsX3_noted := goodIn_r _ [5, 6, 7, 8, 9] (by decide +kernel) (by decide +kernel)
set_option maxRecDepth 20000 in
theorem gX3_actsOnFirst_X3_noted : GoodIn wsX3_actsOnFirst (wsV RX3 42 RX3 yX3_noted wsX3_noted) := goodIn_app (goodIn_of _ (by decide +kernel)) ggX3_actsOnFirst_X3_noted
theorem dX3_actsOnFirst_0 : decode cX3_actsOnFirst 0 = .ok (.aload_n 0, 1) := by decide +kernel
theorem dX3_actsOnFirst_1 : decode cX3_actsOnFirst 1 = .ok (.iload_n 1, 1) := by decide +kernel
theorem dX3_actsOnFirst_2 : decode cX3_actsOnFirst 2 = .ok (.iconst 0, 1) := by decide +kernel
theorem dX3_actsOnFirst_3 : decode cX3_actsOnFirst 3 = .ok (.invokevirtual 42, 3) := by decide +kernel
theorem dX3_actsOnFirst_6 : decode cX3_actsOnFirst 6 = .ok (.istore_n 3, 1) := by decide +kernel
theorem dX3_actsOnFirst_7 : decode cX3_actsOnFirst 7 = .ok (.iload_n 3, 1) := by decide +kernel
theorem dX3_actsOnFirst_8 : decode cX3_actsOnFirst 8 = .ok (.iconst 2, 1) := by decide +kernel
theorem dX3_actsOnFirst_9 : decode cX3_actsOnFirst 9 = .ok (.if_icmp .eq 13, 3) := by decide +kernel
theorem dX3_actsOnFirst_12 : decode cX3_actsOnFirst 12 = .ok (.iload_n 3, 1) := by decide +kernel
theorem dX3_actsOnFirst_13 : decode cX3_actsOnFirst 13 = .ok (.iconst 3, 1) := by decide +kernel
theorem dX3_actsOnFirst_14 : decode cX3_actsOnFirst 14 = .ok (.if_icmp .eq 8, 3) := by decide +kernel
theorem dX3_actsOnFirst_17 : decode cX3_actsOnFirst 17 = .ok (.iload_n 3, 1) := by decide +kernel
theorem dX3_actsOnFirst_18 : decode cX3_actsOnFirst 18 = .ok (.iconst 4, 1) := by decide +kernel
theorem dX3_actsOnFirst_19 : decode cX3_actsOnFirst 19 = .ok (.if_icmp .ne 7, 3) := by decide +kernel
theorem dX3_actsOnFirst_22 : decode cX3_actsOnFirst 22 = .ok (.iconst 1, 1) := by decide +kernel
theorem dX3_actsOnFirst_23 : decode cX3_actsOnFirst 23 = .ok (.goto 4, 3) := by decide +kernel
theorem dX3_actsOnFirst_26 : decode cX3_actsOnFirst 26 = .ok (.iconst 0, 1) := by decide +kernel
theorem dX3_actsOnFirst_27 : decode cX3_actsOnFirst 27 = .ok (.istore 4, 2) := by decide +kernel
theorem dX3_actsOnFirst_29 : decode cX3_actsOnFirst 29 = .ok (.iload 4, 2) := by decide +kernel
theorem dX3_actsOnFirst_31 : decode cX3_actsOnFirst 31 = .ok (.ifCond .eq 17, 3) := by decide +kernel
theorem dX3_actsOnFirst_34 : decode cX3_actsOnFirst 34 = .ok (.iload_n 2, 1) := by decide +kernel
theorem dX3_actsOnFirst_35 : decode cX3_actsOnFirst 35 = .ok (.aload_n 0, 1) := by decide +kernel
theorem dX3_actsOnFirst_36 : decode cX3_actsOnFirst 36 = .ok (.iload_n 1, 1) := by decide +kernel
theorem dX3_actsOnFirst_37 : decode cX3_actsOnFirst 37 = .ok (.iconst 4, 1) := by decide +kernel
theorem dX3_actsOnFirst_38 : decode cX3_actsOnFirst 38 = .ok (.invokevirtual 42, 3) := by decide +kernel
theorem dX3_actsOnFirst_41 : decode cX3_actsOnFirst 41 = .ok (.if_icmp .ne 7, 3) := by decide +kernel
theorem dX3_actsOnFirst_44 : decode cX3_actsOnFirst 44 = .ok (.iconst 1, 1) := by decide +kernel
theorem dX3_actsOnFirst_45 : decode cX3_actsOnFirst 45 = .ok (.goto 4, 3) := by decide +kernel
theorem dX3_actsOnFirst_48 : decode cX3_actsOnFirst 48 = .ok (.iconst 0, 1) := by decide +kernel
theorem dX3_actsOnFirst_49 : decode cX3_actsOnFirst 49 = .ok (.ireturn, 1) := by decide +kernel
theorem dX4_isTold_0 : decode cX4_isTold 0 = .ok (.iload_n 0, 1) := by decide +kernel
theorem dX4_isTold_1 : decode cX4_isTold 1 = .ok (.ifCond .lt 13, 3) := by decide +kernel
theorem dX4_isTold_4 : decode cX4_isTold 4 = .ok (.iload_n 0, 1) := by decide +kernel
theorem dX4_isTold_5 : decode cX4_isTold 5 = .ok (.ldc 9, 2) := by decide +kernel
theorem dX4_isTold_7 : decode cX4_isTold 7 = .ok (.if_icmp .gt 7, 3) := by decide +kernel
theorem dX4_isTold_10 : decode cX4_isTold 10 = .ok (.iconst 1, 1) := by decide +kernel
theorem dX4_isTold_11 : decode cX4_isTold 11 = .ok (.goto 4, 3) := by decide +kernel
theorem dX4_isTold_14 : decode cX4_isTold 14 = .ok (.iconst 0, 1) := by decide +kernel
theorem dX4_isTold_15 : decode cX4_isTold 15 = .ok (.ireturn, 1) := by decide +kernel
theorem dX4_shared_0 : decode cX4_shared 0 = .ok (.iload_n 1, 1) := by decide +kernel
theorem dX4_shared_1 : decode cX4_shared 1 = .ok (.ifCond .ne 7, 3) := by decide +kernel
theorem dX4_shared_4 : decode cX4_shared 4 = .ok (.ldc2_w 10, 3) := by decide +kernel
theorem dX4_shared_7 : decode cX4_shared 7 = .ok (.lreturn, 1) := by decide +kernel
theorem dX4_shared_8 : decode cX4_shared 8 = .ok (.iload_n 2, 1) := by decide +kernel
theorem dX4_shared_9 : decode cX4_shared 9 = .ok (.ifCond .ne 10, 3) := by decide +kernel
theorem dX4_shared_12 : decode cX4_shared 12 = .ok (.iload_n 0, 1) := by decide +kernel
theorem dX4_shared_13 : decode cX4_shared 13 = .ok (.iload_n 1, 1) := by decide +kernel
theorem dX4_shared_14 : decode cX4_shared 14 = .ok (.idiv, 1) := by decide +kernel
theorem dX4_shared_15 : decode cX4_shared 15 = .ok (.i2l, 1) := by decide +kernel
theorem dX4_shared_16 : decode cX4_shared 16 = .ok (.goto 7, 3) := by decide +kernel
theorem dX4_shared_19 : decode cX4_shared 19 = .ok (.iload_n 0, 1) := by decide +kernel
theorem dX4_shared_20 : decode cX4_shared 20 = .ok (.iload_n 1, 1) := by decide +kernel
theorem dX4_shared_21 : decode cX4_shared 21 = .ok (.irem, 1) := by decide +kernel
theorem dX4_shared_22 : decode cX4_shared 22 = .ok (.i2l, 1) := by decide +kernel
theorem dX4_shared_23 : decode cX4_shared 23 = .ok (.lreturn, 1) := by decide +kernel
theorem dX4_side_0 : decode cX4_side 0 = .ok (.lconst 0, 1) := by decide +kernel
theorem dX4_side_1 : decode cX4_side 1 = .ok (.lstore_n 2, 1) := by decide +kernel
theorem dX4_side_2 : decode cX4_side 2 = .ok (.lload_n 2, 1) := by decide +kernel
theorem dX4_side_3 : decode cX4_side 3 = .ok (.ldc2_w 12, 3) := by decide +kernel
theorem dX4_side_6 : decode cX4_side 6 = .ok (.lcmp, 1) := by decide +kernel
theorem dX4_side_7 : decode cX4_side 7 = .ok (.ifCond .ge 23, 3) := by decide +kernel
theorem dX4_side_10 : decode cX4_side 10 = .ok (.lload_n 2, 1) := by decide +kernel
theorem dX4_side_11 : decode cX4_side 11 = .ok (.lconst 1, 1) := by decide +kernel
theorem dX4_side_12 : decode cX4_side 12 = .ok (.ladd, 1) := by decide +kernel
theorem dX4_side_13 : decode cX4_side 13 = .ok (.lload_n 2, 1) := by decide +kernel
theorem dX4_side_14 : decode cX4_side 14 = .ok (.lconst 1, 1) := by decide +kernel
theorem dX4_side_15 : decode cX4_side 15 = .ok (.ladd, 1) := by decide +kernel
theorem dX4_side_16 : decode cX4_side 16 = .ok (.lmul, 1) := by decide +kernel
theorem dX4_side_17 : decode cX4_side 17 = .ok (.iload_n 0, 1) := by decide +kernel
theorem dX4_side_18 : decode cX4_side 18 = .ok (.i2l, 1) := by decide +kernel
theorem dX4_side_19 : decode cX4_side 19 = .ok (.lcmp, 1) := by decide +kernel
theorem dX4_side_20 : decode cX4_side 20 = .ok (.ifCond .gt 10, 3) := by decide +kernel
theorem dX4_side_23 : decode cX4_side 23 = .ok (.lload_n 2, 1) := by decide +kernel
theorem dX4_side_24 : decode cX4_side 24 = .ok (.lconst 1, 1) := by decide +kernel
theorem dX4_side_25 : decode cX4_side 25 = .ok (.ladd, 1) := by decide +kernel
theorem dX4_side_26 : decode cX4_side 26 = .ok (.lstore_n 2, 1) := by decide +kernel
theorem dX4_side_27 : decode cX4_side 27 = .ok (.goto (-25), 3) := by decide +kernel
theorem dX4_side_30 : decode cX4_side 30 = .ok (.iload_n 1, 1) := by decide +kernel
theorem dX4_side_31 : decode cX4_side 31 = .ok (.ifCond .ne 7, 3) := by decide +kernel
theorem dX4_side_34 : decode cX4_side 34 = .ok (.lload_n 2, 1) := by decide +kernel
theorem dX4_side_35 : decode cX4_side 35 = .ok (.goto 9, 3) := by decide +kernel
theorem dX4_side_38 : decode cX4_side 38 = .ok (.iload_n 0, 1) := by decide +kernel
theorem dX4_side_39 : decode cX4_side 39 = .ok (.i2l, 1) := by decide +kernel
theorem dX4_side_40 : decode cX4_side 40 = .ok (.lload_n 2, 1) := by decide +kernel
theorem dX4_side_41 : decode cX4_side 41 = .ok (.lload_n 2, 1) := by decide +kernel
theorem dX4_side_42 : decode cX4_side 42 = .ok (.lmul, 1) := by decide +kernel
theorem dX4_side_43 : decode cX4_side 43 = .ok (.lsub, 1) := by decide +kernel
theorem dX4_side_44 : decode cX4_side 44 = .ok (.lreturn, 1) := by decide +kernel
theorem dX4_birdsAndBeasts_0 : decode cX4_birdsAndBeasts 0 = .ok (.iload_n 1, 1) := by decide +kernel
theorem dX4_birdsAndBeasts_1 : decode cX4_birdsAndBeasts 1 = .ok (.iconst 2, 1) := by decide +kernel
theorem dX4_birdsAndBeasts_2 : decode cX4_birdsAndBeasts 2 = .ok (.iload_n 0, 1) := by decide +kernel
theorem dX4_birdsAndBeasts_3 : decode cX4_birdsAndBeasts 3 = .ok (.imul, 1) := by decide +kernel
theorem dX4_birdsAndBeasts_4 : decode cX4_birdsAndBeasts 4 = .ok (.isub, 1) := by decide +kernel
theorem dX4_birdsAndBeasts_5 : decode cX4_birdsAndBeasts 5 = .ok (.istore 4, 2) := by decide +kernel
theorem dX4_birdsAndBeasts_7 : decode cX4_birdsAndBeasts 7 = .ok (.iload_n 2, 1) := by decide +kernel
theorem dX4_birdsAndBeasts_8 : decode cX4_birdsAndBeasts 8 = .ok (.iconst 2, 1) := by decide +kernel
theorem dX4_birdsAndBeasts_9 : decode cX4_birdsAndBeasts 9 = .ok (.isub, 1) := by decide +kernel
theorem dX4_birdsAndBeasts_10 : decode cX4_birdsAndBeasts 10 = .ok (.istore 5, 2) := by decide +kernel
theorem dX4_birdsAndBeasts_12 : decode cX4_birdsAndBeasts 12 = .ok (.iload 5, 2) := by decide +kernel
theorem dX4_birdsAndBeasts_14 : decode cX4_birdsAndBeasts 14 = .ok (.ifCond .le 16, 3) := by decide +kernel
theorem dX4_birdsAndBeasts_17 : decode cX4_birdsAndBeasts 17 = .ok (.iload 4, 2) := by decide +kernel
theorem dX4_birdsAndBeasts_19 : decode cX4_birdsAndBeasts 19 = .ok (.ifCond .lt 11, 3) := by decide +kernel
theorem dX4_birdsAndBeasts_22 : decode cX4_birdsAndBeasts 22 = .ok (.iload 4, 2) := by decide +kernel
theorem dX4_birdsAndBeasts_24 : decode cX4_birdsAndBeasts 24 = .ok (.iload 5, 2) := by decide +kernel
theorem dX4_birdsAndBeasts_26 : decode cX4_birdsAndBeasts 26 = .ok (.irem, 1) := by decide +kernel
theorem dX4_birdsAndBeasts_27 : decode cX4_birdsAndBeasts 27 = .ok (.ifCond .eq 7, 3) := by decide +kernel
theorem dX4_birdsAndBeasts_30 : decode cX4_birdsAndBeasts 30 = .ok (.ldc2_w 10, 3) := by decide +kernel
theorem dX4_birdsAndBeasts_33 : decode cX4_birdsAndBeasts 33 = .ok (.lreturn, 1) := by decide +kernel
theorem dX4_birdsAndBeasts_34 : decode cX4_birdsAndBeasts 34 = .ok (.iload 4, 2) := by decide +kernel
theorem dX4_birdsAndBeasts_36 : decode cX4_birdsAndBeasts 36 = .ok (.iload 5, 2) := by decide +kernel
theorem dX4_birdsAndBeasts_38 : decode cX4_birdsAndBeasts 38 = .ok (.idiv, 1) := by decide +kernel
theorem dX4_birdsAndBeasts_39 : decode cX4_birdsAndBeasts 39 = .ok (.istore 6, 2) := by decide +kernel
theorem dX4_birdsAndBeasts_41 : decode cX4_birdsAndBeasts 41 = .ok (.iload 6, 2) := by decide +kernel
theorem dX4_birdsAndBeasts_43 : decode cX4_birdsAndBeasts 43 = .ok (.iload_n 0, 1) := by decide +kernel
theorem dX4_birdsAndBeasts_44 : decode cX4_birdsAndBeasts 44 = .ok (.if_icmp .le 7, 3) := by decide +kernel
theorem dX4_birdsAndBeasts_47 : decode cX4_birdsAndBeasts 47 = .ok (.ldc2_w 10, 3) := by decide +kernel
theorem dX4_birdsAndBeasts_50 : decode cX4_birdsAndBeasts 50 = .ok (.lreturn, 1) := by decide +kernel
theorem dX4_birdsAndBeasts_51 : decode cX4_birdsAndBeasts 51 = .ok (.iload_n 3, 1) := by decide +kernel
theorem dX4_birdsAndBeasts_52 : decode cX4_birdsAndBeasts 52 = .ok (.ifCond .ne 11, 3) := by decide +kernel
theorem dX4_birdsAndBeasts_55 : decode cX4_birdsAndBeasts 55 = .ok (.iload_n 0, 1) := by decide +kernel
theorem dX4_birdsAndBeasts_56 : decode cX4_birdsAndBeasts 56 = .ok (.iload 6, 2) := by decide +kernel
theorem dX4_birdsAndBeasts_58 : decode cX4_birdsAndBeasts 58 = .ok (.isub, 1) := by decide +kernel
theorem dX4_birdsAndBeasts_59 : decode cX4_birdsAndBeasts 59 = .ok (.i2l, 1) := by decide +kernel
theorem dX4_birdsAndBeasts_60 : decode cX4_birdsAndBeasts 60 = .ok (.goto 6, 3) := by decide +kernel
theorem dX4_birdsAndBeasts_63 : decode cX4_birdsAndBeasts 63 = .ok (.iload 6, 2) := by decide +kernel
theorem dX4_birdsAndBeasts_65 : decode cX4_birdsAndBeasts 65 = .ok (.i2l, 1) := by decide +kernel
theorem dX4_birdsAndBeasts_66 : decode cX4_birdsAndBeasts 66 = .ok (.lreturn, 1) := by decide +kernel
theorem dX4_leftByThreeFiveSeven_0 : decode cX4_leftByThreeFiveSeven 0 = .ok (.iload_n 0, 1) := by decide +kernel
theorem dX4_leftByThreeFiveSeven_1 : decode cX4_leftByThreeFiveSeven 1 = .ok (.iconst 3, 1) := by decide +kernel
theorem dX4_leftByThreeFiveSeven_2 : decode cX4_leftByThreeFiveSeven 2 = .ok (.if_icmp .ge 14, 3) := by decide +kernel
theorem dX4_leftByThreeFiveSeven_5 : decode cX4_leftByThreeFiveSeven 5 = .ok (.iload_n 1, 1) := by decide +kernel
theorem dX4_leftByThreeFiveSeven_6 : decode cX4_leftByThreeFiveSeven 6 = .ok (.iconst 5, 1) := by decide +kernel
theorem dX4_leftByThreeFiveSeven_7 : decode cX4_leftByThreeFiveSeven 7 = .ok (.if_icmp .ge 9, 3) := by decide +kernel
theorem dX4_leftByThreeFiveSeven_10 : decode cX4_leftByThreeFiveSeven 10 = .ok (.iload_n 2, 1) := by decide +kernel
theorem dX4_leftByThreeFiveSeven_11 : decode cX4_leftByThreeFiveSeven 11 = .ok (.bipush 7, 2) := by decide +kernel
theorem dX4_leftByThreeFiveSeven_13 : decode cX4_leftByThreeFiveSeven 13 = .ok (.if_icmp .lt 7, 3) := by decide +kernel
theorem dX4_leftByThreeFiveSeven_16 : decode cX4_leftByThreeFiveSeven 16 = .ok (.ldc2_w 10, 3) := by decide +kernel
theorem dX4_leftByThreeFiveSeven_19 : decode cX4_leftByThreeFiveSeven 19 = .ok (.lreturn, 1) := by decide +kernel
theorem dX4_leftByThreeFiveSeven_20 : decode cX4_leftByThreeFiveSeven 20 = .ok (.iload_n 3, 1) := by decide +kernel
theorem dX4_leftByThreeFiveSeven_21 : decode cX4_leftByThreeFiveSeven 21 = .ok (.iconst 1, 1) := by decide +kernel
theorem dX4_leftByThreeFiveSeven_22 : decode cX4_leftByThreeFiveSeven 22 = .ok (.if_icmp .ne 5, 3) := by decide +kernel
theorem dX4_leftByThreeFiveSeven_25 : decode cX4_leftByThreeFiveSeven 25 = .ok (.lconst 0, 1) := by decide +kernel
theorem dX4_leftByThreeFiveSeven_26 : decode cX4_leftByThreeFiveSeven 26 = .ok (.lreturn, 1) := by decide +kernel
theorem dX4_leftByThreeFiveSeven_27 : decode cX4_leftByThreeFiveSeven 27 = .ok (.iconst 0, 1) := by decide +kernel
theorem dX4_leftByThreeFiveSeven_28 : decode cX4_leftByThreeFiveSeven 28 = .ok (.istore 4, 2) := by decide +kernel
theorem dX4_leftByThreeFiveSeven_30 : decode cX4_leftByThreeFiveSeven 30 = .ok (.iload 4, 2) := by decide +kernel
theorem dX4_leftByThreeFiveSeven_32 : decode cX4_leftByThreeFiveSeven 32 = .ok (.bipush 105, 2) := by decide +kernel
theorem dX4_leftByThreeFiveSeven_34 : decode cX4_leftByThreeFiveSeven 34 = .ok (.if_icmp .ge 38, 3) := by decide +kernel
theorem dX4_leftByThreeFiveSeven_37 : decode cX4_leftByThreeFiveSeven 37 = .ok (.iload 4, 2) := by decide +kernel
theorem dX4_leftByThreeFiveSeven_39 : decode cX4_leftByThreeFiveSeven 39 = .ok (.iconst 3, 1) := by decide +kernel
theorem dX4_leftByThreeFiveSeven_40 : decode cX4_leftByThreeFiveSeven 40 = .ok (.irem, 1) := by decide +kernel
theorem dX4_leftByThreeFiveSeven_41 : decode cX4_leftByThreeFiveSeven 41 = .ok (.iload_n 0, 1) := by decide +kernel
theorem dX4_leftByThreeFiveSeven_42 : decode cX4_leftByThreeFiveSeven 42 = .ok (.if_icmp .ne 24, 3) := by decide +kernel
theorem dX4_leftByThreeFiveSeven_45 : decode cX4_leftByThreeFiveSeven 45 = .ok (.iload 4, 2) := by decide +kernel
theorem dX4_leftByThreeFiveSeven_47 : decode cX4_leftByThreeFiveSeven 47 = .ok (.iconst 5, 1) := by decide +kernel
theorem dX4_leftByThreeFiveSeven_48 : decode cX4_leftByThreeFiveSeven 48 = .ok (.irem, 1) := by decide +kernel
theorem dX4_leftByThreeFiveSeven_49 : decode cX4_leftByThreeFiveSeven 49 = .ok (.iload_n 1, 1) := by decide +kernel
theorem dX4_leftByThreeFiveSeven_50 : decode cX4_leftByThreeFiveSeven 50 = .ok (.if_icmp .ne 16, 3) := by decide +kernel
theorem dX4_leftByThreeFiveSeven_53 : decode cX4_leftByThreeFiveSeven 53 = .ok (.iload 4, 2) := by decide +kernel
theorem dX4_leftByThreeFiveSeven_55 : decode cX4_leftByThreeFiveSeven 55 = .ok (.bipush 7, 2) := by decide +kernel
theorem dX4_leftByThreeFiveSeven_57 : decode cX4_leftByThreeFiveSeven 57 = .ok (.irem, 1) := by decide +kernel
theorem dX4_leftByThreeFiveSeven_58 : decode cX4_leftByThreeFiveSeven 58 = .ok (.iload_n 2, 1) := by decide +kernel
theorem dX4_leftByThreeFiveSeven_59 : decode cX4_leftByThreeFiveSeven 59 = .ok (.if_icmp .ne 7, 3) := by decide +kernel
theorem dX4_leftByThreeFiveSeven_62 : decode cX4_leftByThreeFiveSeven 62 = .ok (.iload 4, 2) := by decide +kernel
theorem dX4_leftByThreeFiveSeven_64 : decode cX4_leftByThreeFiveSeven 64 = .ok (.i2l, 1) := by decide +kernel
theorem dX4_leftByThreeFiveSeven_65 : decode cX4_leftByThreeFiveSeven 65 = .ok (.lreturn, 1) := by decide +kernel
theorem dX4_leftByThreeFiveSeven_66 : decode cX4_leftByThreeFiveSeven 66 = .ok (.iinc 4 1, 3) := by decide +kernel
theorem dX4_leftByThreeFiveSeven_69 : decode cX4_leftByThreeFiveSeven 69 = .ok (.goto (-39), 3) := by decide +kernel
theorem dX4_leftByThreeFiveSeven_72 : decode cX4_leftByThreeFiveSeven 72 = .ok (.ldc2_w 10, 3) := by decide +kernel
theorem dX4_leftByThreeFiveSeven_75 : decode cX4_leftByThreeFiveSeven 75 = .ok (.lreturn, 1) := by decide +kernel
theorem dX4_boughtTogether_0 : decode cX4_boughtTogether 0 = .ok (.iload_n 0, 1) := by decide +kernel
theorem dX4_boughtTogether_1 : decode cX4_boughtTogether 1 = .ok (.iload_n 2, 1) := by decide +kernel
theorem dX4_boughtTogether_2 : decode cX4_boughtTogether 2 = .ok (.isub, 1) := by decide +kernel
theorem dX4_boughtTogether_3 : decode cX4_boughtTogether 3 = .ok (.istore 5, 2) := by decide +kernel
theorem dX4_boughtTogether_5 : decode cX4_boughtTogether 5 = .ok (.iload 5, 2) := by decide +kernel
theorem dX4_boughtTogether_7 : decode cX4_boughtTogether 7 = .ok (.ifCond .le 12, 3) := by decide +kernel
theorem dX4_boughtTogether_10 : decode cX4_boughtTogether 10 = .ok (.iload_n 1, 1) := by decide +kernel
theorem dX4_boughtTogether_11 : decode cX4_boughtTogether 11 = .ok (.iload_n 3, 1) := by decide +kernel
theorem dX4_boughtTogether_12 : decode cX4_boughtTogether 12 = .ok (.iadd, 1) := by decide +kernel
theorem dX4_boughtTogether_13 : decode cX4_boughtTogether 13 = .ok (.iload 5, 2) := by decide +kernel
theorem dX4_boughtTogether_15 : decode cX4_boughtTogether 15 = .ok (.irem, 1) := by decide +kernel
theorem dX4_boughtTogether_16 : decode cX4_boughtTogether 16 = .ok (.ifCond .eq 7, 3) := by decide +kernel
theorem dX4_boughtTogether_19 : decode cX4_boughtTogether 19 = .ok (.ldc2_w 10, 3) := by decide +kernel
theorem dX4_boughtTogether_22 : decode cX4_boughtTogether 22 = .ok (.lreturn, 1) := by decide +kernel
theorem dX4_boughtTogether_23 : decode cX4_boughtTogether 23 = .ok (.iload_n 1, 1) := by decide +kernel
theorem dX4_boughtTogether_24 : decode cX4_boughtTogether 24 = .ok (.iload_n 3, 1) := by decide +kernel
theorem dX4_boughtTogether_25 : decode cX4_boughtTogether 25 = .ok (.iadd, 1) := by decide +kernel
theorem dX4_boughtTogether_26 : decode cX4_boughtTogether 26 = .ok (.iload 5, 2) := by decide +kernel
theorem dX4_boughtTogether_28 : decode cX4_boughtTogether 28 = .ok (.idiv, 1) := by decide +kernel
theorem dX4_boughtTogether_29 : decode cX4_boughtTogether 29 = .ok (.i2l, 1) := by decide +kernel
theorem dX4_boughtTogether_30 : decode cX4_boughtTogether 30 = .ok (.lstore 6, 2) := by decide +kernel
theorem dX4_boughtTogether_32 : decode cX4_boughtTogether 32 = .ok (.iload 4, 2) := by decide +kernel
theorem dX4_boughtTogether_34 : decode cX4_boughtTogether 34 = .ok (.ifCond .ne 8, 3) := by decide +kernel
theorem dX4_boughtTogether_37 : decode cX4_boughtTogether 37 = .ok (.lload 6, 2) := by decide +kernel
theorem dX4_boughtTogether_39 : decode cX4_boughtTogether 39 = .ok (.goto 11, 3) := by decide +kernel
theorem dX4_boughtTogether_42 : decode cX4_boughtTogether 42 = .ok (.lload 6, 2) := by decide +kernel
theorem dX4_boughtTogether_44 : decode cX4_boughtTogether 44 = .ok (.iload_n 0, 1) := by decide +kernel
theorem dX4_boughtTogether_45 : decode cX4_boughtTogether 45 = .ok (.i2l, 1) := by decide +kernel
theorem dX4_boughtTogether_46 : decode cX4_boughtTogether 46 = .ok (.lmul, 1) := by decide +kernel
theorem dX4_boughtTogether_47 : decode cX4_boughtTogether 47 = .ok (.iload_n 1, 1) := by decide +kernel
theorem dX4_boughtTogether_48 : decode cX4_boughtTogether 48 = .ok (.i2l, 1) := by decide +kernel
theorem dX4_boughtTogether_49 : decode cX4_boughtTogether 49 = .ok (.lsub, 1) := by decide +kernel
theorem dX4_boughtTogether_50 : decode cX4_boughtTogether 50 = .ok (.lreturn, 1) := by decide +kernel
theorem dX5_tenTo_0 : decode cX5_tenTo 0 = .ok (.iload_n 0, 1) := by decide +kernel
theorem dX5_tenTo_1 : decode cX5_tenTo 1 = .ok (.ifCond .lt 19, 3) := by decide +kernel
theorem dX5_tenTo_4 : decode cX5_tenTo 4 = .ok (.iload_n 0, 1) := by decide +kernel
theorem dX5_tenTo_5 : decode cX5_tenTo 5 = .ok (.getstatic 9, 3) := by decide +kernel
theorem dX5_tenTo_8 : decode cX5_tenTo 8 = .ok (.arraylength, 1) := by decide +kernel
theorem dX5_tenTo_9 : decode cX5_tenTo 9 = .ok (.if_icmp .ge 11, 3) := by decide +kernel
theorem dX5_tenTo_12 : decode cX5_tenTo 12 = .ok (.getstatic 9, 3) := by decide +kernel
theorem dX5_tenTo_15 : decode cX5_tenTo 15 = .ok (.iload_n 0, 1) := by decide +kernel
theorem dX5_tenTo_16 : decode cX5_tenTo 16 = .ok (.laload, 1) := by decide +kernel
theorem dX5_tenTo_17 : decode cX5_tenTo 17 = .ok (.goto 4, 3) := by decide +kernel
theorem dX5_tenTo_20 : decode cX5_tenTo 20 = .ok (.lconst 0, 1) := by decide +kernel
theorem dX5_tenTo_21 : decode cX5_tenTo 21 = .ok (.lreturn, 1) := by decide +kernel
theorem dX5_isBeyond_0 : decode cX5_isBeyond 0 = .ok (.lload_n 0, 1) := by decide +kernel
theorem dX5_isBeyond_1 : decode cX5_isBeyond 1 = .ok (.ldc2_w 15, 3) := by decide +kernel
theorem dX5_isBeyond_4 : decode cX5_isBeyond 4 = .ok (.lcmp, 1) := by decide +kernel
theorem dX5_isBeyond_5 : decode cX5_isBeyond 5 = .ok (.ifCond .le 11, 3) := by decide +kernel
theorem dX5_isBeyond_8 : decode cX5_isBeyond 8 = .ok (.lload_n 0, 1) := by decide +kernel
theorem dX5_isBeyond_9 : decode cX5_isBeyond 9 = .ok (.ldc2_w 17, 3) := by decide +kernel
theorem dX5_isBeyond_12 : decode cX5_isBeyond 12 = .ok (.lcmp, 1) := by decide +kernel
theorem dX5_isBeyond_13 : decode cX5_isBeyond 13 = .ok (.ifCond .lt 7, 3) := by decide +kernel
theorem dX5_isBeyond_16 : decode cX5_isBeyond 16 = .ok (.iconst 1, 1) := by decide +kernel
theorem dX5_isBeyond_17 : decode cX5_isBeyond 17 = .ok (.goto 4, 3) := by decide +kernel
theorem dX5_isBeyond_20 : decode cX5_isBeyond 20 = .ok (.iconst 0, 1) := by decide +kernel
theorem dX5_isBeyond_21 : decode cX5_isBeyond 21 = .ok (.ireturn, 1) := by decide +kernel
theorem dX5_colour_0 : decode cX5_colour 0 = .ok (.lload_n 0, 1) := by decide +kernel
theorem dX5_colour_1 : decode cX5_colour 1 = .ok (.lconst 0, 1) := by decide +kernel
theorem dX5_colour_2 : decode cX5_colour 2 = .ok (.lcmp, 1) := by decide +kernel
theorem dX5_colour_3 : decode cX5_colour 3 = .ok (.ifCond .ne 5, 3) := by decide +kernel
theorem dX5_colour_6 : decode cX5_colour 6 = .ok (.iconst 0, 1) := by decide +kernel
theorem dX5_colour_7 : decode cX5_colour 7 = .ok (.ireturn, 1) := by decide +kernel
theorem dX5_colour_8 : decode cX5_colour 8 = .ok (.lload_n 0, 1) := by decide +kernel
theorem dX5_colour_9 : decode cX5_colour 9 = .ok (.lconst 0, 1) := by decide +kernel
theorem dX5_colour_10 : decode cX5_colour 10 = .ok (.lcmp, 1) := by decide +kernel
theorem dX5_colour_11 : decode cX5_colour 11 = .ok (.ifCond .le 7, 3) := by decide +kernel
theorem dX5_colour_14 : decode cX5_colour 14 = .ok (.iconst 1, 1) := by decide +kernel
theorem dX5_colour_15 : decode cX5_colour 15 = .ok (.goto 4, 3) := by decide +kernel
theorem dX5_colour_18 : decode cX5_colour 18 = .ok (.iconst 2, 1) := by decide +kernel
theorem dX5_colour_19 : decode cX5_colour 19 = .ok (.ireturn, 1) := by decide +kernel
theorem dX5_way_0 : decode cX5_way 0 = .ok (.iload_n 0, 1) := by decide +kernel
theorem dX5_way_1 : decode cX5_way 1 = .ok (.iconst 1, 1) := by decide +kernel
theorem dX5_way_2 : decode cX5_way 2 = .ok (.iand, 1) := by decide +kernel
theorem dX5_way_3 : decode cX5_way 3 = .ok (.ireturn, 1) := by decide +kernel
set_option maxRecDepth 20000 in
theorem ggX5_digit_X5_tenTo : GoodIn wsX5_digit wsX5_tenTo := goodIn_r _ [9, 10] (by decide +kernel) (by decide +kernel)
set_option maxRecDepth 20000 in
theorem gX5_digit_X5_tenTo : GoodIn wsX5_digit (va_wsS RX5 19 yX5_tenTo wsX5_tenTo) := goodIn_app (goodIn_of _ (by decide +kernel)) ggX5_digit_X5_tenTo
theorem dX5_digit_0 : decode cX5_digit 0 = .ok (.iload_n 2, 1) := by decide +kernel
theorem dX5_digit_1 : decode cX5_digit 1 = .ok (.invokestatic 19, 3) := by decide +kernel
theorem dX5_digit_4 : decode cX5_digit 4 = .ok (.lstore_n 3, 1) := by decide +kernel
theorem dX5_digit_5 : decode cX5_digit 5 = .ok (.lload_n 3, 1) := by decide +kernel
theorem dX5_digit_6 : decode cX5_digit 6 = .ok (.lconst 0, 1) := by decide +kernel
theorem dX5_digit_7 : decode cX5_digit 7 = .ok (.lcmp, 1) := by decide +kernel
theorem dX5_digit_8 : decode cX5_digit 8 = .ok (.ifCond .ne 7, 3) := by decide +kernel
theorem dX5_digit_11 : decode cX5_digit 11 = .ok (.iconst 0, 1) := by decide +kernel
theorem dX5_digit_12 : decode cX5_digit 12 = .ok (.goto 14, 3) := by decide +kernel
theorem dX5_digit_15 : decode cX5_digit 15 = .ok (.lload_n 0, 1) := by decide +kernel
theorem dX5_digit_16 : decode cX5_digit 16 = .ok (.invokestatic 23, 3) := by decide +kernel
theorem dX5_digit_19 : decode cX5_digit 19 = .ok (.lload_n 3, 1) := by decide +kernel
theorem dX5_digit_20 : decode cX5_digit 20 = .ok (.ldiv, 1) := by decide +kernel
theorem dX5_digit_21 : decode cX5_digit 21 = .ok (.ldc2_w 29, 3) := by decide +kernel
theorem dX5_digit_24 : decode cX5_digit 24 = .ok (.lrem, 1) := by decide +kernel
theorem dX5_digit_25 : decode cX5_digit 25 = .ok (.l2i, 1) := by decide +kernel
theorem dX5_digit_26 : decode cX5_digit 26 = .ok (.ireturn, 1) := by decide +kernel
set_option maxRecDepth 20000 in
theorem ggX5_withDigit_X5_digit : GoodIn wsX5_withDigit wsX5_digit := goodIn_r _ [4, 5, 6, 7, 8, 9, 10, 11, 3, 12, 13] (by decide +kernel) (by decide +kernel)
set_option maxRecDepth 20000 in
theorem gX5_withDigit_X5_digit : GoodIn wsX5_withDigit (va_wsS RX5 31 yX5_digit wsX5_digit) := goodIn_app (goodIn_of _ (by decide +kernel)) ggX5_withDigit_X5_digit
set_option maxRecDepth 20000 in
theorem ggX5_withDigit_X5_tenTo : GoodIn wsX5_withDigit wsX5_tenTo := goodIn_r _ [12, 13] (by decide +kernel) (by decide +kernel)
set_option maxRecDepth 20000 in
theorem gX5_withDigit_X5_tenTo : GoodIn wsX5_withDigit (va_wsS RX5 19 yX5_tenTo wsX5_tenTo) := goodIn_app (goodIn_of _ (by decide +kernel)) ggX5_withDigit_X5_tenTo
theorem dX5_withDigit_0 : decode cX5_withDigit 0 = .ok (.iload_n 3, 1) := by decide +kernel
theorem dX5_withDigit_1 : decode cX5_withDigit 1 = .ok (.lload_n 0, 1) := by decide +kernel
theorem dX5_withDigit_2 : decode cX5_withDigit 2 = .ok (.iload_n 2, 1) := by decide +kernel
theorem dX5_withDigit_3 : decode cX5_withDigit 3 = .ok (.invokestatic 31, 3) := by decide +kernel
theorem dX5_withDigit_6 : decode cX5_withDigit 6 = .ok (.isub, 1) := by decide +kernel
theorem dX5_withDigit_7 : decode cX5_withDigit 7 = .ok (.i2l, 1) := by decide +kernel
theorem dX5_withDigit_8 : decode cX5_withDigit 8 = .ok (.iload_n 2, 1) := by decide +kernel
theorem dX5_withDigit_9 : decode cX5_withDigit 9 = .ok (.invokestatic 19, 3) := by decide +kernel
theorem dX5_withDigit_12 : decode cX5_withDigit 12 = .ok (.lmul, 1) := by decide +kernel
theorem dX5_withDigit_13 : decode cX5_withDigit 13 = .ok (.lstore 4, 2) := by decide +kernel
theorem dX5_withDigit_15 : decode cX5_withDigit 15 = .ok (.lload_n 0, 1) := by decide +kernel
theorem dX5_withDigit_16 : decode cX5_withDigit 16 = .ok (.lconst 0, 1) := by decide +kernel
theorem dX5_withDigit_17 : decode cX5_withDigit 17 = .ok (.lcmp, 1) := by decide +kernel
theorem dX5_withDigit_18 : decode cX5_withDigit 18 = .ok (.ifCond .ge 10, 3) := by decide +kernel
theorem dX5_withDigit_21 : decode cX5_withDigit 21 = .ok (.lload_n 0, 1) := by decide +kernel
theorem dX5_withDigit_22 : decode cX5_withDigit 22 = .ok (.lload 4, 2) := by decide +kernel
theorem dX5_withDigit_24 : decode cX5_withDigit 24 = .ok (.lsub, 1) := by decide +kernel
theorem dX5_withDigit_25 : decode cX5_withDigit 25 = .ok (.goto 7, 3) := by decide +kernel
theorem dX5_withDigit_28 : decode cX5_withDigit 28 = .ok (.lload_n 0, 1) := by decide +kernel
theorem dX5_withDigit_29 : decode cX5_withDigit 29 = .ok (.lload 4, 2) := by decide +kernel
theorem dX5_withDigit_31 : decode cX5_withDigit 31 = .ok (.ladd, 1) := by decide +kernel
theorem dX5_withDigit_32 : decode cX5_withDigit 32 = .ok (.lreturn, 1) := by decide +kernel
set_option maxRecDepth 20000 in
theorem ggX5_allSticks_X5_digit : GoodIn wsX5_allSticks wsX5_digit := goodIn_r _ [4, 5, 6, 7, 8, 9, 10, 11, 3, 12, 13] (by decide +kernel) (by decide +kernel)
set_option maxRecDepth 20000 in
theorem gX5_allSticks_X5_digit : GoodIn wsX5_allSticks (va_wsS RX5 31 yX5_digit wsX5_digit) := goodIn_app (goodIn_of _ (by decide +kernel)) ggX5_allSticks_X5_digit
theorem dX5_allSticks_0 : decode cX5_allSticks 0 = .ok (.iconst 0, 1) := by decide +kernel
theorem dX5_allSticks_1 : decode cX5_allSticks 1 = .ok (.istore_n 2, 1) := by decide +kernel
theorem dX5_allSticks_2 : decode cX5_allSticks 2 = .ok (.iconst 0, 1) := by decide +kernel
theorem dX5_allSticks_3 : decode cX5_allSticks 3 = .ok (.istore_n 3, 1) := by decide +kernel
theorem dX5_allSticks_4 : decode cX5_allSticks 4 = .ok (.iload_n 3, 1) := by decide +kernel
theorem dX5_allSticks_5 : decode cX5_allSticks 5 = .ok (.bipush 12, 2) := by decide +kernel
theorem dX5_allSticks_7 : decode cX5_allSticks 7 = .ok (.if_icmp .ge 17, 3) := by decide +kernel
theorem dX5_allSticks_10 : decode cX5_allSticks 10 = .ok (.iload_n 2, 1) := by decide +kernel
theorem dX5_allSticks_11 : decode cX5_allSticks 11 = .ok (.lload_n 0, 1) := by decide +kernel
theorem dX5_allSticks_12 : decode cX5_allSticks 12 = .ok (.iload_n 3, 1) := by decide +kernel
theorem dX5_allSticks_13 : decode cX5_allSticks 13 = .ok (.invokestatic 31, 3) := by decide +kernel
theorem dX5_allSticks_16 : decode cX5_allSticks 16 = .ok (.iadd, 1) := by decide +kernel
theorem dX5_allSticks_17 : decode cX5_allSticks 17 = .ok (.istore_n 2, 1) := by decide +kernel
theorem dX5_allSticks_18 : decode cX5_allSticks 18 = .ok (.iinc 3 1, 3) := by decide +kernel
theorem dX5_allSticks_21 : decode cX5_allSticks 21 = .ok (.goto (-17), 3) := by decide +kernel
theorem dX5_allSticks_24 : decode cX5_allSticks 24 = .ok (.iload_n 2, 1) := by decide +kernel
theorem dX5_allSticks_25 : decode cX5_allSticks 25 = .ok (.ireturn, 1) := by decide +kernel
set_option maxRecDepth 20000 in
theorem ggX5_highestPlace_X5_digit : GoodIn wsX5_highestPlace wsX5_digit := goodIn_r _ [4, 5, 6, 7, 8, 9, 10, 11, 3, 12, 13] (by decide +kernel) (by decide +kernel)
set_option maxRecDepth 20000 in
theorem gX5_highestPlace_X5_digit : GoodIn wsX5_highestPlace (va_wsS RX5 31 yX5_digit wsX5_digit) := goodIn_app (goodIn_of _ (by decide +kernel)) ggX5_highestPlace_X5_digit
theorem dX5_highestPlace_0 : decode cX5_highestPlace 0 = .ok (.bipush 11, 2) := by decide +kernel
theorem dX5_highestPlace_2 : decode cX5_highestPlace 2 = .ok (.istore_n 2, 1) := by decide +kernel
theorem dX5_highestPlace_3 : decode cX5_highestPlace 3 = .ok (.iload_n 2, 1) := by decide +kernel
theorem dX5_highestPlace_4 : decode cX5_highestPlace 4 = .ok (.ifCond .lt 19, 3) := by decide +kernel
theorem dX5_highestPlace_7 : decode cX5_highestPlace 7 = .ok (.lload_n 0, 1) := by decide +kernel
theorem dX5_highestPlace_8 : decode cX5_highestPlace 8 = .ok (.iload_n 2, 1) := by decide +kernel
theorem dX5_highestPlace_9 : decode cX5_highestPlace 9 = .ok (.invokestatic 31, 3) := by decide +kernel
theorem dX5_highestPlace_12 : decode cX5_highestPlace 12 = .ok (.ifCond .eq 5, 3) := by decide +kernel
theorem dX5_highestPlace_15 : decode cX5_highestPlace 15 = .ok (.iload_n 2, 1) := by decide +kernel
theorem dX5_highestPlace_16 : decode cX5_highestPlace 16 = .ok (.ireturn, 1) := by decide +kernel
theorem dX5_highestPlace_17 : decode cX5_highestPlace 17 = .ok (.iinc 2 (-1), 3) := by decide +kernel
theorem dX5_highestPlace_20 : decode cX5_highestPlace 20 = .ok (.goto (-17), 3) := by decide +kernel
theorem dX5_highestPlace_23 : decode cX5_highestPlace 23 = .ok (.bipush (-6), 2) := by decide +kernel
theorem dX5_highestPlace_25 : decode cX5_highestPlace 25 = .ok (.ireturn, 1) := by decide +kernel
set_option maxRecDepth 20000 in
theorem ggX5_emptyPlaces_X5_highestPlace : GoodIn wsX5_emptyPlaces wsX5_highestPlace := goodIn_r _ [4, 5, 6, 3, 7, 8, 9, 10, 11, 12, 13, 14, 15, 16] (by decide +kernel) (by decide +kernel)
set_option maxRecDepth 20000 in
theorem gX5_emptyPlaces_X5_highestPlace : GoodIn wsX5_emptyPlaces (va_wsS RX5 35 yX5_highestPlace wsX5_highestPlace) := goodIn_app (goodIn_of _ (by decide +kernel)) ggX5_emptyPlaces_X5_highestPlace
set_option maxRecDepth 20000 in
theorem ggX5_emptyPlaces_X5_digit : GoodIn wsX5_emptyPlaces wsX5_digit := goodIn_r _ [7, 8, 9, 10, 11, 12, 13, 14, 3, 15, 16] (by decide +kernel) (by decide +kernel)
set_option maxRecDepth 20000 in
theorem gX5_emptyPlaces_X5_digit : GoodIn wsX5_emptyPlaces (va_wsS RX5 31 yX5_digit wsX5_digit) := goodIn_app (goodIn_of _ (by decide +kernel)) ggX5_emptyPlaces_X5_digit
theorem dX5_emptyPlaces_0 : decode cX5_emptyPlaces 0 = .ok (.iconst 0, 1) := by decide +kernel
theorem dX5_emptyPlaces_1 : decode cX5_emptyPlaces 1 = .ok (.istore_n 2, 1) := by decide +kernel
theorem dX5_emptyPlaces_2 : decode cX5_emptyPlaces 2 = .ok (.lload_n 0, 1) := by decide +kernel
theorem dX5_emptyPlaces_3 : decode cX5_emptyPlaces 3 = .ok (.invokestatic 35, 3) := by decide +kernel
theorem dX5_emptyPlaces_6 : decode cX5_emptyPlaces 6 = .ok (.istore_n 3, 1) := by decide +kernel
theorem dX5_emptyPlaces_7 : decode cX5_emptyPlaces 7 = .ok (.iconst 0, 1) := by decide +kernel
theorem dX5_emptyPlaces_8 : decode cX5_emptyPlaces 8 = .ok (.istore 4, 2) := by decide +kernel
theorem dX5_emptyPlaces_10 : decode cX5_emptyPlaces 10 = .ok (.iload 4, 2) := by decide +kernel
theorem dX5_emptyPlaces_12 : decode cX5_emptyPlaces 12 = .ok (.iload_n 3, 1) := by decide +kernel
theorem dX5_emptyPlaces_13 : decode cX5_emptyPlaces 13 = .ok (.if_icmp .ge 21, 3) := by decide +kernel
theorem dX5_emptyPlaces_16 : decode cX5_emptyPlaces 16 = .ok (.lload_n 0, 1) := by decide +kernel
theorem dX5_emptyPlaces_17 : decode cX5_emptyPlaces 17 = .ok (.iload 4, 2) := by decide +kernel
theorem dX5_emptyPlaces_19 : decode cX5_emptyPlaces 19 = .ok (.invokestatic 31, 3) := by decide +kernel
theorem dX5_emptyPlaces_22 : decode cX5_emptyPlaces 22 = .ok (.ifCond .ne 6, 3) := by decide +kernel
theorem dX5_emptyPlaces_25 : decode cX5_emptyPlaces 25 = .ok (.iinc 2 1, 3) := by decide +kernel
theorem dX5_emptyPlaces_28 : decode cX5_emptyPlaces 28 = .ok (.iinc 4 1, 3) := by decide +kernel
theorem dX5_emptyPlaces_31 : decode cX5_emptyPlaces 31 = .ok (.goto (-21), 3) := by decide +kernel
theorem dX5_emptyPlaces_34 : decode cX5_emptyPlaces 34 = .ok (.iload_n 2, 1) := by decide +kernel
theorem dX5_emptyPlaces_35 : decode cX5_emptyPlaces 35 = .ok (.ireturn, 1) := by decide +kernel
theorem dX5_product_0 : decode cX5_product 0 = .ok (.lload_n 2, 1) := by decide +kernel
theorem dX5_product_1 : decode cX5_product 1 = .ok (.invokestatic 23, 3) := by decide +kernel
theorem dX5_product_4 : decode cX5_product 4 = .ok (.lstore 4, 2) := by decide +kernel
theorem dX5_product_6 : decode cX5_product 6 = .ok (.lload 4, 2) := by decide +kernel
theorem dX5_product_8 : decode cX5_product 8 = .ok (.lconst 0, 1) := by decide +kernel
theorem dX5_product_9 : decode cX5_product 9 = .ok (.lcmp, 1) := by decide +kernel
theorem dX5_product_10 : decode cX5_product 10 = .ok (.ifCond .ne 5, 3) := by decide +kernel
theorem dX5_product_13 : decode cX5_product 13 = .ok (.lconst 0, 1) := by decide +kernel
theorem dX5_product_14 : decode cX5_product 14 = .ok (.lreturn, 1) := by decide +kernel
theorem dX5_product_15 : decode cX5_product 15 = .ok (.lload_n 0, 1) := by decide +kernel
theorem dX5_product_16 : decode cX5_product 16 = .ok (.invokestatic 23, 3) := by decide +kernel
theorem dX5_product_19 : decode cX5_product 19 = .ok (.ldc2_w 39, 3) := by decide +kernel
theorem dX5_product_22 : decode cX5_product 22 = .ok (.lload 4, 2) := by decide +kernel
theorem dX5_product_24 : decode cX5_product 24 = .ok (.ldiv, 1) := by decide +kernel
theorem dX5_product_25 : decode cX5_product 25 = .ok (.lcmp, 1) := by decide +kernel
theorem dX5_product_26 : decode cX5_product 26 = .ok (.ifCond .le 9, 3) := by decide +kernel
theorem dX5_product_29 : decode cX5_product 29 = .ok (.ldc2_w 41, 3) := by decide +kernel
theorem dX5_product_32 : decode cX5_product 32 = .ok (.goto 6, 3) := by decide +kernel
theorem dX5_product_35 : decode cX5_product 35 = .ok (.lload_n 0, 1) := by decide +kernel
theorem dX5_product_36 : decode cX5_product 36 = .ok (.lload_n 2, 1) := by decide +kernel
theorem dX5_product_37 : decode cX5_product 37 = .ok (.lmul, 1) := by decide +kernel
theorem dX5_product_38 : decode cX5_product 38 = .ok (.lreturn, 1) := by decide +kernel
theorem dX5_power_0 : decode cX5_power 0 = .ok (.iload_n 2, 1) := by decide +kernel
theorem dX5_power_1 : decode cX5_power 1 = .ok (.iconst 2, 1) := by decide +kernel
theorem dX5_power_2 : decode cX5_power 2 = .ok (.if_icmp .ne 9, 3) := by decide +kernel
theorem dX5_power_5 : decode cX5_power 5 = .ok (.ldc2_w 43, 3) := by decide +kernel
theorem dX5_power_8 : decode cX5_power 8 = .ok (.goto 6, 3) := by decide +kernel
theorem dX5_power_11 : decode cX5_power 11 = .ok (.ldc2_w 45, 3) := by decide +kernel
theorem dX5_power_14 : decode cX5_power 14 = .ok (.lstore_n 3, 1) := by decide +kernel
theorem dX5_power_15 : decode cX5_power 15 = .ok (.lload_n 0, 1) := by decide +kernel
theorem dX5_power_16 : decode cX5_power 16 = .ok (.lload_n 3, 1) := by decide +kernel
theorem dX5_power_17 : decode cX5_power 17 = .ok (.lneg, 1) := by decide +kernel
theorem dX5_power_18 : decode cX5_power 18 = .ok (.lcmp, 1) := by decide +kernel
theorem dX5_power_19 : decode cX5_power 19 = .ok (.ifCond .le 9, 3) := by decide +kernel
theorem dX5_power_22 : decode cX5_power 22 = .ok (.lload_n 0, 1) := by decide +kernel
theorem dX5_power_23 : decode cX5_power 23 = .ok (.lload_n 3, 1) := by decide +kernel
theorem dX5_power_24 : decode cX5_power 24 = .ok (.lcmp, 1) := by decide +kernel
theorem dX5_power_25 : decode cX5_power 25 = .ok (.ifCond .lt 7, 3) := by decide +kernel
theorem dX5_power_28 : decode cX5_power 28 = .ok (.ldc2_w 41, 3) := by decide +kernel
theorem dX5_power_31 : decode cX5_power 31 = .ok (.lreturn, 1) := by decide +kernel
theorem dX5_power_32 : decode cX5_power 32 = .ok (.iload_n 2, 1) := by decide +kernel
theorem dX5_power_33 : decode cX5_power 33 = .ok (.iconst 2, 1) := by decide +kernel
theorem dX5_power_34 : decode cX5_power 34 = .ok (.if_icmp .ne 9, 3) := by decide +kernel
theorem dX5_power_37 : decode cX5_power 37 = .ok (.lload_n 0, 1) := by decide +kernel
theorem dX5_power_38 : decode cX5_power 38 = .ok (.lload_n 0, 1) := by decide +kernel
theorem dX5_power_39 : decode cX5_power 39 = .ok (.lmul, 1) := by decide +kernel
theorem dX5_power_40 : decode cX5_power 40 = .ok (.goto 8, 3) := by decide +kernel
theorem dX5_power_43 : decode cX5_power 43 = .ok (.lload_n 0, 1) := by decide +kernel
theorem dX5_power_44 : decode cX5_power 44 = .ok (.lload_n 0, 1) := by decide +kernel
theorem dX5_power_45 : decode cX5_power 45 = .ok (.lmul, 1) := by decide +kernel
theorem dX5_power_46 : decode cX5_power 46 = .ok (.lload_n 0, 1) := by decide +kernel
theorem dX5_power_47 : decode cX5_power 47 = .ok (.lmul, 1) := by decide +kernel
theorem dX5_power_48 : decode cX5_power 48 = .ok (.lreturn, 1) := by decide +kernel
theorem dX5_greatestPart_0 : decode cX5_greatestPart 0 = .ok (.lload_n 0, 1) := by decide +kernel
theorem dX5_greatestPart_1 : decode cX5_greatestPart 1 = .ok (.invokestatic 23, 3) := by decide +kernel
theorem dX5_greatestPart_4 : decode cX5_greatestPart 4 = .ok (.lstore 4, 2) := by decide +kernel
theorem dX5_greatestPart_6 : decode cX5_greatestPart 6 = .ok (.lload_n 2, 1) := by decide +kernel
theorem dX5_greatestPart_7 : decode cX5_greatestPart 7 = .ok (.invokestatic 23, 3) := by decide +kernel
theorem dX5_greatestPart_10 : decode cX5_greatestPart 10 = .ok (.lstore 6, 2) := by decide +kernel
theorem dX5_greatestPart_12 : decode cX5_greatestPart 12 = .ok (.iconst 0, 1) := by decide +kernel
theorem dX5_greatestPart_13 : decode cX5_greatestPart 13 = .ok (.istore 8, 2) := by decide +kernel
theorem dX5_greatestPart_15 : decode cX5_greatestPart 15 = .ok (.iload 8, 2) := by decide +kernel
theorem dX5_greatestPart_17 : decode cX5_greatestPart 17 = .ok (.sipush 1000, 3) := by decide +kernel
theorem dX5_greatestPart_20 : decode cX5_greatestPart 20 = .ok (.if_icmp .ge 31, 3) := by decide +kernel
theorem dX5_greatestPart_23 : decode cX5_greatestPart 23 = .ok (.lload 6, 2) := by decide +kernel
theorem dX5_greatestPart_25 : decode cX5_greatestPart 25 = .ok (.lconst 0, 1) := by decide +kernel
theorem dX5_greatestPart_26 : decode cX5_greatestPart 26 = .ok (.lcmp, 1) := by decide +kernel
theorem dX5_greatestPart_27 : decode cX5_greatestPart 27 = .ok (.ifCond .eq 24, 3) := by decide +kernel
theorem dX5_greatestPart_30 : decode cX5_greatestPart 30 = .ok (.lload 4, 2) := by decide +kernel
theorem dX5_greatestPart_32 : decode cX5_greatestPart 32 = .ok (.lload 6, 2) := by decide +kernel
theorem dX5_greatestPart_34 : decode cX5_greatestPart 34 = .ok (.lrem, 1) := by decide +kernel
theorem dX5_greatestPart_35 : decode cX5_greatestPart 35 = .ok (.lstore 9, 2) := by decide +kernel
theorem dX5_greatestPart_37 : decode cX5_greatestPart 37 = .ok (.lload 6, 2) := by decide +kernel
theorem dX5_greatestPart_39 : decode cX5_greatestPart 39 = .ok (.lstore 4, 2) := by decide +kernel
theorem dX5_greatestPart_41 : decode cX5_greatestPart 41 = .ok (.lload 9, 2) := by decide +kernel
theorem dX5_greatestPart_43 : decode cX5_greatestPart 43 = .ok (.lstore 6, 2) := by decide +kernel
theorem dX5_greatestPart_45 : decode cX5_greatestPart 45 = .ok (.iinc 8 1, 3) := by decide +kernel
theorem dX5_greatestPart_48 : decode cX5_greatestPart 48 = .ok (.goto (-33), 3) := by decide +kernel
theorem dX5_greatestPart_51 : decode cX5_greatestPart 51 = .ok (.lload 4, 2) := by decide +kernel
theorem dX5_greatestPart_53 : decode cX5_greatestPart 53 = .ok (.lreturn, 1) := by decide +kernel
theorem dX6_init_0 : decode cX6_init 0 = .ok (.aload_n 0, 1) := by decide +kernel
theorem dX6_init_1 : decode cX6_init 1 = .ok (.invokespecial 3, 3) := by decide +kernel
theorem dX6_init_4 : decode cX6_init 4 = .ok (.aload_n 0, 1) := by decide +kernel
theorem dX6_init_5 : decode cX6_init 5 = .ok (.bipush 12, 2) := by decide +kernel
theorem dX6_init_7 : decode cX6_init 7 = .ok (.newarray .int, 2) := by decide +kernel
theorem dX6_init_9 : decode cX6_init 9 = .ok (.putfield 9, 3) := by decide +kernel
theorem dX6_init_12 : decode cX6_init 12 = .ok (.aload_n 0, 1) := by decide +kernel
theorem dX6_init_13 : decode cX6_init 13 = .ok (.bipush 12, 2) := by decide +kernel
theorem dX6_init_15 : decode cX6_init 15 = .ok (.newarray .int, 2) := by decide +kernel
theorem dX6_init_17 : decode cX6_init 17 = .ok (.putfield 15, 3) := by decide +kernel
theorem dX6_init_20 : decode cX6_init 20 = .ok (.aload_n 0, 1) := by decide +kernel
theorem dX6_init_21 : decode cX6_init 21 = .ok (.sipush 169, 3) := by decide +kernel
theorem dX6_init_24 : decode cX6_init 24 = .ok (.newarray .int, 2) := by decide +kernel
theorem dX6_init_26 : decode cX6_init 26 = .ok (.putfield 18, 3) := by decide +kernel
theorem dX6_init_29 : decode cX6_init 29 = .ok (.return_, 1) := by decide +kernel
theorem dX6_size_0 : decode cX6_size 0 = .ok (.aload_n 0, 1) := by decide +kernel
theorem dX6_size_1 : decode cX6_size 1 = .ok (.getfield 21, 3) := by decide +kernel
theorem dX6_size_4 : decode cX6_size 4 = .ok (.ireturn, 1) := by decide +kernel
theorem dX6_clear_0 : decode cX6_clear 0 = .ok (.aload_n 0, 1) := by decide +kernel
theorem dX6_clear_1 : decode cX6_clear 1 = .ok (.iconst 0, 1) := by decide +kernel
theorem dX6_clear_2 : decode cX6_clear 2 = .ok (.putfield 21, 3) := by decide +kernel
theorem dX6_clear_5 : decode cX6_clear 5 = .ok (.return_, 1) := by decide +kernel
theorem dX6_append_0 : decode cX6_append 0 = .ok (.aload_n 0, 1) := by decide +kernel
theorem dX6_append_1 : decode cX6_append 1 = .ok (.getfield 21, 3) := by decide +kernel
theorem dX6_append_4 : decode cX6_append 4 = .ok (.ifCond .lt 27, 3) := by decide +kernel
theorem dX6_append_7 : decode cX6_append 7 = .ok (.aload_n 0, 1) := by decide +kernel
theorem dX6_append_8 : decode cX6_append 8 = .ok (.getfield 21, 3) := by decide +kernel
theorem dX6_append_11 : decode cX6_append 11 = .ok (.aload_n 0, 1) := by decide +kernel
theorem dX6_append_12 : decode cX6_append 12 = .ok (.getfield 9, 3) := by decide +kernel
theorem dX6_append_15 : decode cX6_append 15 = .ok (.arraylength, 1) := by decide +kernel
theorem dX6_append_16 : decode cX6_append 16 = .ok (.if_icmp .ge 15, 3) := by decide +kernel
theorem dX6_append_19 : decode cX6_append 19 = .ok (.aload_n 0, 1) := by decide +kernel
theorem dX6_append_20 : decode cX6_append 20 = .ok (.getfield 21, 3) := by decide +kernel
theorem dX6_append_23 : decode cX6_append 23 = .ok (.aload_n 0, 1) := by decide +kernel
theorem dX6_append_24 : decode cX6_append 24 = .ok (.getfield 15, 3) := by decide +kernel
theorem dX6_append_27 : decode cX6_append 27 = .ok (.arraylength, 1) := by decide +kernel
theorem dX6_append_28 : decode cX6_append 28 = .ok (.if_icmp .lt 4, 3) := by decide +kernel
theorem dX6_append_31 : decode cX6_append 31 = .ok (.return_, 1) := by decide +kernel
theorem dX6_append_32 : decode cX6_append 32 = .ok (.aload_n 0, 1) := by decide +kernel
theorem dX6_append_33 : decode cX6_append 33 = .ok (.getfield 9, 3) := by decide +kernel
theorem dX6_append_36 : decode cX6_append 36 = .ok (.aload_n 0, 1) := by decide +kernel
theorem dX6_append_37 : decode cX6_append 37 = .ok (.getfield 21, 3) := by decide +kernel
theorem dX6_append_40 : decode cX6_append 40 = .ok (.iload_n 1, 1) := by decide +kernel
theorem dX6_append_41 : decode cX6_append 41 = .ok (.iastore, 1) := by decide +kernel
theorem dX6_append_42 : decode cX6_append 42 = .ok (.aload_n 0, 1) := by decide +kernel
theorem dX6_append_43 : decode cX6_append 43 = .ok (.getfield 15, 3) := by decide +kernel
theorem dX6_append_46 : decode cX6_append 46 = .ok (.aload_n 0, 1) := by decide +kernel
theorem dX6_append_47 : decode cX6_append 47 = .ok (.getfield 21, 3) := by decide +kernel
theorem dX6_append_50 : decode cX6_append 50 = .ok (.iload_n 2, 1) := by decide +kernel
theorem dX6_append_51 : decode cX6_append 51 = .ok (.iastore, 1) := by decide +kernel
theorem dX6_append_52 : decode cX6_append 52 = .ok (.aload_n 0, 1) := by decide +kernel
theorem dX6_append_53 : decode cX6_append 53 = .ok (.dup, 1) := by decide +kernel
theorem dX6_append_54 : decode cX6_append 54 = .ok (.getfield 21, 3) := by decide +kernel
theorem dX6_append_57 : decode cX6_append 57 = .ok (.iconst 1, 1) := by decide +kernel
theorem dX6_append_58 : decode cX6_append 58 = .ok (.iadd, 1) := by decide +kernel
theorem dX6_append_59 : decode cX6_append 59 = .ok (.putfield 21, 3) := by decide +kernel
theorem dX6_append_62 : decode cX6_append 62 = .ok (.return_, 1) := by decide +kernel
set_option maxRecDepth 20000 in
theorem ggX6_show_X6_clear : GoodIn wsX6_show wsX6_clear := goodIn_r _ [5, 6, 29, 30, 31, 32] (by decide +kernel) (by decide +kernel)
set_option maxRecDepth 20000 in
theorem gX6_show_X6_clear : GoodIn wsX6_show (wsV RX6 25 RX6 yX6_clear wsX6_clear) := goodIn_app (goodIn_of _ (by decide +kernel)) ggX6_show_X6_clear
set_option maxRecDepth 20000 in
theorem ggX6_show_X5_digit : GoodIn wsX6_show wsX5_digit := goodIn_r _ [10, 11, 12, 13, 14, 15, 16, 17, 9, 18, 19] (by decide +kernel) (by decide +kernel)
set_option maxRecDepth 20000 in
theorem gX6_show_X5_digit : GoodIn wsX6_show (va_wsS RX6 28 yX5_digit wsX5_digit) := goodIn_app (goodIn_of _ (by decide +kernel)) ggX6_show_X5_digit
set_option maxRecDepth 20000 in
theorem ggX6_show_X5_way : GoodIn wsX6_show wsX5_way := goodIn_r _ [22] (by decide +kernel) (by decide +kernel)
set_option maxRecDepth 20000 in
theorem gX6_show_X5_way : GoodIn wsX6_show (va_wsS RX6 34 yX5_way wsX5_way) := goodIn_app (goodIn_of _ (by decide +kernel)) ggX6_show_X5_way
set_option maxRecDepth 20000 in
theorem ggX6_show_X6_append : GoodIn wsX6_show wsX6_append := goodIn_r _ [26, 6, 27, 28, 29, 30, 31, 32] (by decide +kernel) (by decide +kernel)
set_option maxRecDepth 20000 in
theorem gX6_show_X6_append : GoodIn wsX6_show (wsV RX6 38 RX6 yX6_append wsX6_append) := goodIn_app (goodIn_of _ (by decide +kernel)) ggX6_show_X6_append
theorem dX6_show_0 : decode cX6_show 0 = .ok (.aload_n 0, 1) := by decide +kernel
theorem dX6_show_1 : decode cX6_show 1 = .ok (.invokevirtual 25, 3) := by decide +kernel
theorem dX6_show_4 : decode cX6_show 4 = .ok (.bipush 11, 2) := by decide +kernel
theorem dX6_show_6 : decode cX6_show 6 = .ok (.istore_n 3, 1) := by decide +kernel
theorem dX6_show_7 : decode cX6_show 7 = .ok (.iload_n 3, 1) := by decide +kernel
theorem dX6_show_8 : decode cX6_show 8 = .ok (.ifCond .lt 31, 3) := by decide +kernel
theorem dX6_show_11 : decode cX6_show 11 = .ok (.lload_n 1, 1) := by decide +kernel
theorem dX6_show_12 : decode cX6_show 12 = .ok (.iload_n 3, 1) := by decide +kernel
theorem dX6_show_13 : decode cX6_show 13 = .ok (.invokestatic 28, 3) := by decide +kernel
theorem dX6_show_16 : decode cX6_show 16 = .ok (.istore 4, 2) := by decide +kernel
theorem dX6_show_18 : decode cX6_show 18 = .ok (.iload 4, 2) := by decide +kernel
theorem dX6_show_20 : decode cX6_show 20 = .ok (.ifCond .eq 13, 3) := by decide +kernel
theorem dX6_show_23 : decode cX6_show 23 = .ok (.aload_n 0, 1) := by decide +kernel
theorem dX6_show_24 : decode cX6_show 24 = .ok (.iload 4, 2) := by decide +kernel
theorem dX6_show_26 : decode cX6_show 26 = .ok (.iload_n 3, 1) := by decide +kernel
theorem dX6_show_27 : decode cX6_show 27 = .ok (.invokestatic 34, 3) := by decide +kernel
theorem dX6_show_30 : decode cX6_show 30 = .ok (.invokevirtual 38, 3) := by decide +kernel
theorem dX6_show_33 : decode cX6_show 33 = .ok (.iinc 3 (-1), 3) := by decide +kernel
theorem dX6_show_36 : decode cX6_show 36 = .ok (.goto (-29), 3) := by decide +kernel
theorem dX6_show_39 : decode cX6_show 39 = .ok (.return_, 1) := by decide +kernel
set_option maxRecDepth 20000 in
theorem ggX6_countReadings_X6_countLayouts : GoodIn wsX6_countReadings wsX6_countLayouts := goodIn_r _ [6, 1, 7, 8, 9, 10, 5, 11, 12, 13, 14, 15, 16, 17, 18, 19, 20, 21, 22, 23, 24] (by decide +kernel) (by decide +kernel)
set_option maxRecDepth 20000 in
theorem gX6_countReadings_X6_countLayouts : GoodIn wsX6_countReadings (wsV RX6 42 RX6 yX6_countLayouts wsX6_countLayouts) := goodIn_app (goodIn_of _ (by decide +kernel)) ggX6_countReadings_X6_countLayouts
set_option maxRecDepth 20000 in
theorem ggX6_countReadings_X6_layoutsBelow : GoodIn wsX6_countReadings wsX6_layoutsBelow := goodIn_r _ [11, 7, 21, 22, 23, 24] (by decide +kernel) (by decide +kernel)
set_option maxRecDepth 20000 in
theorem gX6_countReadings_X6_layoutsBelow : GoodIn wsX6_countReadings (wsV RX6 45 RX6 yX6_layoutsBelow wsX6_layoutsBelow) := goodIn_app (goodIn_of _ (by decide +kernel)) ggX6_countReadings_X6_layoutsBelow
theorem dX6_countReadings_0 : decode cX6_countReadings 0 = .ok (.aload_n 0, 1) := by decide +kernel
theorem dX6_countReadings_1 : decode cX6_countReadings 1 = .ok (.getfield 21, 3) := by decide +kernel
theorem dX6_countReadings_4 : decode cX6_countReadings 4 = .ok (.istore_n 1, 1) := by decide +kernel
theorem dX6_countReadings_5 : decode cX6_countReadings 5 = .ok (.iload_n 1, 1) := by decide +kernel
theorem dX6_countReadings_6 : decode cX6_countReadings 6 = .ok (.ifCond .lt 29, 3) := by decide +kernel
theorem dX6_countReadings_9 : decode cX6_countReadings 9 = .ok (.iconst 0, 1) := by decide +kernel
theorem dX6_countReadings_10 : decode cX6_countReadings 10 = .ok (.istore_n 2, 1) := by decide +kernel
theorem dX6_countReadings_11 : decode cX6_countReadings 11 = .ok (.iload_n 2, 1) := by decide +kernel
theorem dX6_countReadings_12 : decode cX6_countReadings 12 = .ok (.bipush 12, 2) := by decide +kernel
theorem dX6_countReadings_14 : decode cX6_countReadings 14 = .ok (.if_icmp .gt 15, 3) := by decide +kernel
theorem dX6_countReadings_17 : decode cX6_countReadings 17 = .ok (.aload_n 0, 1) := by decide +kernel
theorem dX6_countReadings_18 : decode cX6_countReadings 18 = .ok (.iload_n 1, 1) := by decide +kernel
theorem dX6_countReadings_19 : decode cX6_countReadings 19 = .ok (.iload_n 2, 1) := by decide +kernel
theorem dX6_countReadings_20 : decode cX6_countReadings 20 = .ok (.invokevirtual 42, 3) := by decide +kernel
theorem dX6_countReadings_23 : decode cX6_countReadings 23 = .ok (.iinc 2 1, 3) := by decide +kernel
theorem dX6_countReadings_26 : decode cX6_countReadings 26 = .ok (.goto (-15), 3) := by decide +kernel
theorem dX6_countReadings_29 : decode cX6_countReadings 29 = .ok (.iinc 1 (-1), 3) := by decide +kernel
theorem dX6_countReadings_32 : decode cX6_countReadings 32 = .ok (.goto (-27), 3) := by decide +kernel
theorem dX6_countReadings_35 : decode cX6_countReadings 35 = .ok (.aload_n 0, 1) := by decide +kernel
theorem dX6_countReadings_36 : decode cX6_countReadings 36 = .ok (.iconst 0, 1) := by decide +kernel
theorem dX6_countReadings_37 : decode cX6_countReadings 37 = .ok (.bipush 12, 2) := by decide +kernel
theorem dX6_countReadings_39 : decode cX6_countReadings 39 = .ok (.invokevirtual 45, 3) := by decide +kernel
theorem dX6_countReadings_42 : decode cX6_countReadings 42 = .ok (.ireturn, 1) := by decide +kernel
set_option maxRecDepth 20000 in
theorem ggX6_countLayouts_X6_layoutsBelow : GoodIn wsX6_countLayouts wsX6_layoutsBelow := goodIn_r _ [7, 2, 17, 18, 19, 20] (by decide +kernel) (by decide +kernel)
set_option maxRecDepth 20000 in
theorem gX6_countLayouts_X6_layoutsBelow : GoodIn wsX6_countLayouts (wsV RX6 45 RX6 yX6_layoutsBelow wsX6_layoutsBelow) := goodIn_app (goodIn_of _ (by decide +kernel)) ggX6_countLayouts_X6_layoutsBelow
set_option maxRecDepth 20000 in
theorem ggX6_countLayouts_X6_layoutsWith : GoodIn wsX6_countLayouts wsX6_layoutsWith := goodIn_r _ [11, 12, 13, 14, 15, 16, 3, 4, 5, 6, 7, 2, 17, 18, 19, 20] (by decide +kernel) (by decide +kernel)
set_option maxRecDepth 20000 in
theorem gX6_countLayouts_X6_layoutsWith : GoodIn wsX6_countLayouts (wsV RX6 49 RX6 yX6_layoutsWith wsX6_layoutsWith) := goodIn_app (goodIn_of _ (by decide +kernel)) ggX6_countLayouts_X6_layoutsWith
theorem dX6_countLayouts_0 : decode cX6_countLayouts 0 = .ok (.iconst 0, 1) := by decide +kernel
theorem dX6_countLayouts_1 : decode cX6_countLayouts 1 = .ok (.istore_n 3, 1) := by decide +kernel
theorem dX6_countLayouts_2 : decode cX6_countLayouts 2 = .ok (.iload_n 1, 1) := by decide +kernel
theorem dX6_countLayouts_3 : decode cX6_countLayouts 3 = .ok (.aload_n 0, 1) := by decide +kernel
theorem dX6_countLayouts_4 : decode cX6_countLayouts 4 = .ok (.getfield 21, 3) := by decide +kernel
theorem dX6_countLayouts_7 : decode cX6_countLayouts 7 = .ok (.if_icmp .ne 8, 3) := by decide +kernel
theorem dX6_countLayouts_10 : decode cX6_countLayouts 10 = .ok (.iconst 1, 1) := by decide +kernel
theorem dX6_countLayouts_11 : decode cX6_countLayouts 11 = .ok (.istore_n 3, 1) := by decide +kernel
theorem dX6_countLayouts_12 : decode cX6_countLayouts 12 = .ok (.goto 25, 3) := by decide +kernel
theorem dX6_countLayouts_15 : decode cX6_countLayouts 15 = .ok (.iload_n 2, 1) := by decide +kernel
theorem dX6_countLayouts_16 : decode cX6_countLayouts 16 = .ok (.ifCond .le 21, 3) := by decide +kernel
theorem dX6_countLayouts_19 : decode cX6_countLayouts 19 = .ok (.aload_n 0, 1) := by decide +kernel
