theorem dX6_countLayouts_20 : decode cX6_countLayouts 20 = .ok (.iload_n 1, 1) := by decide +kernel
theorem dX6_countLayouts_21 : decode cX6_countLayouts 21 = .ok (.iload_n 2, 1) := by decide +kernel
theorem dX6_countLayouts_22 : decode cX6_countLayouts 22 = .ok (.iconst 1, 1) := by decide +kernel
theorem dX6_countLayouts_23 : decode cX6_countLayouts 23 = .ok (.isub, 1) := by decide +kernel
theorem dX6_countLayouts_24 : decode cX6_countLayouts 24 = .ok (.invokevirtual 45, 3) := by decide +kernel
theorem dX6_countLayouts_27 : decode cX6_countLayouts 27 = .ok (.aload_n 0, 1) := by decide +kernel
theorem dX6_countLayouts_28 : decode cX6_countLayouts 28 = .ok (.iload_n 1, 1) := by decide +kernel
theorem dX6_countLayouts_29 : decode cX6_countLayouts 29 = .ok (.iload_n 2, 1) := by decide +kernel
theorem dX6_countLayouts_30 : decode cX6_countLayouts 30 = .ok (.iconst 1, 1) := by decide +kernel
theorem dX6_countLayouts_31 : decode cX6_countLayouts 31 = .ok (.isub, 1) := by decide +kernel
theorem dX6_countLayouts_32 : decode cX6_countLayouts 32 = .ok (.invokevirtual 49, 3) := by decide +kernel
theorem dX6_countLayouts_35 : decode cX6_countLayouts 35 = .ok (.iadd, 1) := by decide +kernel
theorem dX6_countLayouts_36 : decode cX6_countLayouts 36 = .ok (.istore_n 3, 1) := by decide +kernel
theorem dX6_countLayouts_37 : decode cX6_countLayouts 37 = .ok (.iload_n 1, 1) := by decide +kernel
theorem dX6_countLayouts_38 : decode cX6_countLayouts 38 = .ok (.bipush 13, 2) := by decide +kernel
theorem dX6_countLayouts_40 : decode cX6_countLayouts 40 = .ok (.imul, 1) := by decide +kernel
theorem dX6_countLayouts_41 : decode cX6_countLayouts 41 = .ok (.iload_n 2, 1) := by decide +kernel
theorem dX6_countLayouts_42 : decode cX6_countLayouts 42 = .ok (.iadd, 1) := by decide +kernel
theorem dX6_countLayouts_43 : decode cX6_countLayouts 43 = .ok (.istore 4, 2) := by decide +kernel
theorem dX6_countLayouts_45 : decode cX6_countLayouts 45 = .ok (.iload 4, 2) := by decide +kernel
theorem dX6_countLayouts_47 : decode cX6_countLayouts 47 = .ok (.ifCond .lt 21, 3) := by decide +kernel
theorem dX6_countLayouts_50 : decode cX6_countLayouts 50 = .ok (.iload 4, 2) := by decide +kernel
theorem dX6_countLayouts_52 : decode cX6_countLayouts 52 = .ok (.aload_n 0, 1) := by decide +kernel
theorem dX6_countLayouts_53 : decode cX6_countLayouts 53 = .ok (.getfield 18, 3) := by decide +kernel
theorem dX6_countLayouts_56 : decode cX6_countLayouts 56 = .ok (.arraylength, 1) := by decide +kernel
theorem dX6_countLayouts_57 : decode cX6_countLayouts 57 = .ok (.if_icmp .ge 11, 3) := by decide +kernel
theorem dX6_countLayouts_60 : decode cX6_countLayouts 60 = .ok (.aload_n 0, 1) := by decide +kernel
theorem dX6_countLayouts_61 : decode cX6_countLayouts 61 = .ok (.getfield 18, 3) := by decide +kernel
theorem dX6_countLayouts_64 : decode cX6_countLayouts 64 = .ok (.iload 4, 2) := by decide +kernel
theorem dX6_countLayouts_66 : decode cX6_countLayouts 66 = .ok (.iload_n 3, 1) := by decide +kernel
theorem dX6_countLayouts_67 : decode cX6_countLayouts 67 = .ok (.iastore, 1) := by decide +kernel
theorem dX6_countLayouts_68 : decode cX6_countLayouts 68 = .ok (.return_, 1) := by decide +kernel
theorem dX6_layoutsBelow_0 : decode cX6_layoutsBelow 0 = .ok (.iload_n 1, 1) := by decide +kernel
theorem dX6_layoutsBelow_1 : decode cX6_layoutsBelow 1 = .ok (.bipush 13, 2) := by decide +kernel
theorem dX6_layoutsBelow_3 : decode cX6_layoutsBelow 3 = .ok (.imul, 1) := by decide +kernel
theorem dX6_layoutsBelow_4 : decode cX6_layoutsBelow 4 = .ok (.iload_n 2, 1) := by decide +kernel
theorem dX6_layoutsBelow_5 : decode cX6_layoutsBelow 5 = .ok (.iadd, 1) := by decide +kernel
theorem dX6_layoutsBelow_6 : decode cX6_layoutsBelow 6 = .ok (.istore_n 3, 1) := by decide +kernel
theorem dX6_layoutsBelow_7 : decode cX6_layoutsBelow 7 = .ok (.iload_n 3, 1) := by decide +kernel
theorem dX6_layoutsBelow_8 : decode cX6_layoutsBelow 8 = .ok (.ifCond .lt 21, 3) := by decide +kernel
theorem dX6_layoutsBelow_11 : decode cX6_layoutsBelow 11 = .ok (.iload_n 3, 1) := by decide +kernel
theorem dX6_layoutsBelow_12 : decode cX6_layoutsBelow 12 = .ok (.aload_n 0, 1) := by decide +kernel
theorem dX6_layoutsBelow_13 : decode cX6_layoutsBelow 13 = .ok (.getfield 18, 3) := by decide +kernel
theorem dX6_layoutsBelow_16 : decode cX6_layoutsBelow 16 = .ok (.arraylength, 1) := by decide +kernel
theorem dX6_layoutsBelow_17 : decode cX6_layoutsBelow 17 = .ok (.if_icmp .ge 12, 3) := by decide +kernel
theorem dX6_layoutsBelow_20 : decode cX6_layoutsBelow 20 = .ok (.aload_n 0, 1) := by decide +kernel
theorem dX6_layoutsBelow_21 : decode cX6_layoutsBelow 21 = .ok (.getfield 18, 3) := by decide +kernel
theorem dX6_layoutsBelow_24 : decode cX6_layoutsBelow 24 = .ok (.iload_n 3, 1) := by decide +kernel
theorem dX6_layoutsBelow_25 : decode cX6_layoutsBelow 25 = .ok (.iaload, 1) := by decide +kernel
theorem dX6_layoutsBelow_26 : decode cX6_layoutsBelow 26 = .ok (.goto 4, 3) := by decide +kernel
theorem dX6_layoutsBelow_29 : decode cX6_layoutsBelow 29 = .ok (.iconst 0, 1) := by decide +kernel
theorem dX6_layoutsBelow_30 : decode cX6_layoutsBelow 30 = .ok (.ireturn, 1) := by decide +kernel
set_option maxRecDepth 20000 in
theorem ggX6_layoutsWith_X5_way : GoodIn wsX6_layoutsWith wsX5_way := goodIn_r _ [5] (by decide +kernel) (by decide +kernel)
set_option maxRecDepth 20000 in
theorem gX6_layoutsWith_X5_way : GoodIn wsX6_layoutsWith (va_wsS RX6 34 yX5_way wsX5_way) := goodIn_app (goodIn_of _ (by decide +kernel)) ggX6_layoutsWith_X5_way
set_option maxRecDepth 20000 in
theorem ggX6_layoutsWith_X6_layoutsBelow : GoodIn wsX6_layoutsWith wsX6_layoutsBelow := goodIn_r _ [10, 11, 12, 13, 14, 15] (by decide +kernel) (by decide +kernel)
set_option maxRecDepth 20000 in
theorem gX6_layoutsWith_X6_layoutsBelow : GoodIn wsX6_layoutsWith (wsV RX6 45 RX6 yX6_layoutsBelow wsX6_layoutsBelow) := goodIn_app (goodIn_of _ (by decide +kernel)) ggX6_layoutsWith_X6_layoutsBelow
theorem dX6_layoutsWith_0 : decode cX6_layoutsWith 0 = .ok (.iload_n 1, 1) := by decide +kernel
theorem dX6_layoutsWith_1 : decode cX6_layoutsWith 1 = .ok (.ifCond .lt 25, 3) := by decide +kernel
theorem dX6_layoutsWith_4 : decode cX6_layoutsWith 4 = .ok (.iload_n 1, 1) := by decide +kernel
theorem dX6_layoutsWith_5 : decode cX6_layoutsWith 5 = .ok (.aload_n 0, 1) := by decide +kernel
theorem dX6_layoutsWith_6 : decode cX6_layoutsWith 6 = .ok (.getfield 15, 3) := by decide +kernel
theorem dX6_layoutsWith_9 : decode cX6_layoutsWith 9 = .ok (.arraylength, 1) := by decide +kernel
theorem dX6_layoutsWith_10 : decode cX6_layoutsWith 10 = .ok (.if_icmp .ge 16, 3) := by decide +kernel
theorem dX6_layoutsWith_13 : decode cX6_layoutsWith 13 = .ok (.aload_n 0, 1) := by decide +kernel
theorem dX6_layoutsWith_14 : decode cX6_layoutsWith 14 = .ok (.getfield 15, 3) := by decide +kernel
theorem dX6_layoutsWith_17 : decode cX6_layoutsWith 17 = .ok (.iload_n 1, 1) := by decide +kernel
theorem dX6_layoutsWith_18 : decode cX6_layoutsWith 18 = .ok (.iaload, 1) := by decide +kernel
theorem dX6_layoutsWith_19 : decode cX6_layoutsWith 19 = .ok (.iload_n 2, 1) := by decide +kernel
theorem dX6_layoutsWith_20 : decode cX6_layoutsWith 20 = .ok (.invokestatic 34, 3) := by decide +kernel
theorem dX6_layoutsWith_23 : decode cX6_layoutsWith 23 = .ok (.if_icmp .eq 5, 3) := by decide +kernel
theorem dX6_layoutsWith_26 : decode cX6_layoutsWith 26 = .ok (.iconst 0, 1) := by decide +kernel
theorem dX6_layoutsWith_27 : decode cX6_layoutsWith 27 = .ok (.ireturn, 1) := by decide +kernel
theorem dX6_layoutsWith_28 : decode cX6_layoutsWith 28 = .ok (.aload_n 0, 1) := by decide +kernel
theorem dX6_layoutsWith_29 : decode cX6_layoutsWith 29 = .ok (.iload_n 1, 1) := by decide +kernel
theorem dX6_layoutsWith_30 : decode cX6_layoutsWith 30 = .ok (.iconst 1, 1) := by decide +kernel
theorem dX6_layoutsWith_31 : decode cX6_layoutsWith 31 = .ok (.iadd, 1) := by decide +kernel
theorem dX6_layoutsWith_32 : decode cX6_layoutsWith 32 = .ok (.iload_n 2, 1) := by decide +kernel
theorem dX6_layoutsWith_33 : decode cX6_layoutsWith 33 = .ok (.invokevirtual 45, 3) := by decide +kernel
theorem dX6_layoutsWith_36 : decode cX6_layoutsWith 36 = .ok (.ireturn, 1) := by decide +kernel
set_option maxRecDepth 20000 in
theorem ggX6_findReading_X6_countReadings : GoodIn wsX6_findReading wsX6_countReadings := goodIn_r _ [8, 2, 9, 10, 11, 7, 12, 13, 14, 15, 16, 17, 18, 19, 20, 21, 22, 23, 24, 25, 26, 31, 32, 33, 34] (by decide +kernel) (by decide +kernel)
set_option maxRecDepth 20000 in
theorem gX6_findReading_X6_countReadings : GoodIn wsX6_findReading (wsV RX6 52 RX6 yX6_countReadings wsX6_countReadings) := goodIn_app (goodIn_of _ (by decide +kernel)) ggX6_findReading_X6_countReadings
set_option maxRecDepth 20000 in
theorem ggX6_findReading_X6_layoutsWith : GoodIn wsX6_findReading wsX6_layoutsWith := goodIn_r _ [21, 22, 23, 24, 25, 26, 14, 15, 16, 7, 17, 13, 31, 32, 33, 34] (by decide +kernel) (by decide +kernel)
set_option maxRecDepth 20000 in
theorem gX6_findReading_X6_layoutsWith : GoodIn wsX6_findReading (wsV RX6 49 RX6 yX6_layoutsWith wsX6_layoutsWith) := goodIn_app (goodIn_of _ (by decide +kernel)) ggX6_findReading_X6_layoutsWith
set_option maxRecDepth 20000 in
theorem ggX6_findReading_X5_tenTo : GoodIn wsX6_findReading wsX5_tenTo := goodIn_r _ [29, 30] (by decide +kernel) (by decide +kernel)
set_option maxRecDepth 20000 in
theorem gX6_findReading_X5_tenTo : GoodIn wsX6_findReading (va_wsS RX6 58 yX5_tenTo wsX5_tenTo) := goodIn_app (goodIn_of _ (by decide +kernel)) ggX6_findReading_X5_tenTo
theorem dX6_findReading_0 : decode cX6_findReading 0 = .ok (.iload_n 1, 1) := by decide +kernel
theorem dX6_findReading_1 : decode cX6_findReading 1 = .ok (.ifCond .lt 11, 3) := by decide +kernel
theorem dX6_findReading_4 : decode cX6_findReading 4 = .ok (.iload_n 1, 1) := by decide +kernel
theorem dX6_findReading_5 : decode cX6_findReading 5 = .ok (.aload_n 0, 1) := by decide +kernel
theorem dX6_findReading_6 : decode cX6_findReading 6 = .ok (.invokevirtual 52, 3) := by decide +kernel
theorem dX6_findReading_9 : decode cX6_findReading 9 = .ok (.if_icmp .lt 7, 3) := by decide +kernel
theorem dX6_findReading_12 : decode cX6_findReading 12 = .ok (.ldc2_w 56, 3) := by decide +kernel
theorem dX6_findReading_15 : decode cX6_findReading 15 = .ok (.lreturn, 1) := by decide +kernel
theorem dX6_findReading_16 : decode cX6_findReading 16 = .ok (.iload_n 1, 1) := by decide +kernel
theorem dX6_findReading_17 : decode cX6_findReading 17 = .ok (.istore_n 2, 1) := by decide +kernel
theorem dX6_findReading_18 : decode cX6_findReading 18 = .ok (.bipush 12, 2) := by decide +kernel
theorem dX6_findReading_20 : decode cX6_findReading 20 = .ok (.istore_n 3, 1) := by decide +kernel
theorem dX6_findReading_21 : decode cX6_findReading 21 = .ok (.lconst 0, 1) := by decide +kernel
theorem dX6_findReading_22 : decode cX6_findReading 22 = .ok (.lstore 4, 2) := by decide +kernel
theorem dX6_findReading_24 : decode cX6_findReading 24 = .ok (.iconst 0, 1) := by decide +kernel
theorem dX6_findReading_25 : decode cX6_findReading 25 = .ok (.istore 6, 2) := by decide +kernel
theorem dX6_findReading_27 : decode cX6_findReading 27 = .ok (.iload 6, 2) := by decide +kernel
theorem dX6_findReading_29 : decode cX6_findReading 29 = .ok (.aload_n 0, 1) := by decide +kernel
theorem dX6_findReading_30 : decode cX6_findReading 30 = .ok (.getfield 21, 3) := by decide +kernel
theorem dX6_findReading_33 : decode cX6_findReading 33 = .ok (.if_icmp .ge 82, 3) := by decide +kernel
theorem dX6_findReading_36 : decode cX6_findReading 36 = .ok (.iload 6, 2) := by decide +kernel
theorem dX6_findReading_38 : decode cX6_findReading 38 = .ok (.aload_n 0, 1) := by decide +kernel
theorem dX6_findReading_39 : decode cX6_findReading 39 = .ok (.getfield 9, 3) := by decide +kernel
theorem dX6_findReading_42 : decode cX6_findReading 42 = .ok (.arraylength, 1) := by decide +kernel
theorem dX6_findReading_43 : decode cX6_findReading 43 = .ok (.if_icmp .ge 72, 3) := by decide +kernel
theorem dX6_findReading_46 : decode cX6_findReading 46 = .ok (.iconst 0, 1) := by decide +kernel
theorem dX6_findReading_47 : decode cX6_findReading 47 = .ok (.istore 7, 2) := by decide +kernel
theorem dX6_findReading_49 : decode cX6_findReading 49 = .ok (.iload 7, 2) := by decide +kernel
theorem dX6_findReading_51 : decode cX6_findReading 51 = .ok (.iload_n 3, 1) := by decide +kernel
theorem dX6_findReading_52 : decode cX6_findReading 52 = .ok (.iconst 1, 1) := by decide +kernel
theorem dX6_findReading_53 : decode cX6_findReading 53 = .ok (.isub, 1) := by decide +kernel
theorem dX6_findReading_54 : decode cX6_findReading 54 = .ok (.if_icmp .ge 33, 3) := by decide +kernel
theorem dX6_findReading_57 : decode cX6_findReading 57 = .ok (.aload_n 0, 1) := by decide +kernel
theorem dX6_findReading_58 : decode cX6_findReading 58 = .ok (.iload 6, 2) := by decide +kernel
theorem dX6_findReading_60 : decode cX6_findReading 60 = .ok (.iload 7, 2) := by decide +kernel
theorem dX6_findReading_62 : decode cX6_findReading 62 = .ok (.invokevirtual 49, 3) := by decide +kernel
theorem dX6_findReading_65 : decode cX6_findReading 65 = .ok (.istore 8, 2) := by decide +kernel
theorem dX6_findReading_67 : decode cX6_findReading 67 = .ok (.iload_n 2, 1) := by decide +kernel
theorem dX6_findReading_68 : decode cX6_findReading 68 = .ok (.iload 8, 2) := by decide +kernel
theorem dX6_findReading_70 : decode cX6_findReading 70 = .ok (.if_icmp .ge 6, 3) := by decide +kernel
theorem dX6_findReading_73 : decode cX6_findReading 73 = .ok (.goto 14, 3) := by decide +kernel
theorem dX6_findReading_76 : decode cX6_findReading 76 = .ok (.iload_n 2, 1) := by decide +kernel
theorem dX6_findReading_77 : decode cX6_findReading 77 = .ok (.iload 8, 2) := by decide +kernel
theorem dX6_findReading_79 : decode cX6_findReading 79 = .ok (.isub, 1) := by decide +kernel
theorem dX6_findReading_80 : decode cX6_findReading 80 = .ok (.istore_n 2, 1) := by decide +kernel
theorem dX6_findReading_81 : decode cX6_findReading 81 = .ok (.iinc 7 1, 3) := by decide +kernel
theorem dX6_findReading_84 : decode cX6_findReading 84 = .ok (.goto (-35), 3) := by decide +kernel
theorem dX6_findReading_87 : decode cX6_findReading 87 = .ok (.lload 4, 2) := by decide +kernel
theorem dX6_findReading_89 : decode cX6_findReading 89 = .ok (.aload_n 0, 1) := by decide +kernel
theorem dX6_findReading_90 : decode cX6_findReading 90 = .ok (.getfield 9, 3) := by decide +kernel
theorem dX6_findReading_93 : decode cX6_findReading 93 = .ok (.iload 6, 2) := by decide +kernel
theorem dX6_findReading_95 : decode cX6_findReading 95 = .ok (.iaload, 1) := by decide +kernel
theorem dX6_findReading_96 : decode cX6_findReading 96 = .ok (.i2l, 1) := by decide +kernel
theorem dX6_findReading_97 : decode cX6_findReading 97 = .ok (.iload 7, 2) := by decide +kernel
theorem dX6_findReading_99 : decode cX6_findReading 99 = .ok (.invokestatic 58, 3) := by decide +kernel
theorem dX6_findReading_102 : decode cX6_findReading 102 = .ok (.lmul, 1) := by decide +kernel
theorem dX6_findReading_103 : decode cX6_findReading 103 = .ok (.ladd, 1) := by decide +kernel
theorem dX6_findReading_104 : decode cX6_findReading 104 = .ok (.lstore 4, 2) := by decide +kernel
theorem dX6_findReading_106 : decode cX6_findReading 106 = .ok (.iload 7, 2) := by decide +kernel
theorem dX6_findReading_108 : decode cX6_findReading 108 = .ok (.istore_n 3, 1) := by decide +kernel
theorem dX6_findReading_109 : decode cX6_findReading 109 = .ok (.iinc 6 1, 3) := by decide +kernel
theorem dX6_findReading_112 : decode cX6_findReading 112 = .ok (.goto (-85), 3) := by decide +kernel
theorem dX6_findReading_115 : decode cX6_findReading 115 = .ok (.lload 4, 2) := by decide +kernel
theorem dX6_findReading_117 : decode cX6_findReading 117 = .ok (.lreturn, 1) := by decide +kernel
set_option maxRecDepth 20000 in
theorem ggX7_init_X3_init : GoodIn wsX7_init wsX3_init := goodIn_r _ [11, 12, 2, 3, 4, 13, 14, 15, 18, 19, 20] (by decide +kernel) (by decide +kernel)
set_option maxRecDepth 20000 in
theorem gX7_init_X3_init_n17 : GoodIn wsX7_init (wsX3_init) := ggX7_init_X3_init
theorem dX7_init_0 : decode cX7_init 0 = .ok (.aload_n 0, 1) := by decide +kernel
theorem dX7_init_1 : decode cX7_init 1 = .ok (.invokespecial 3, 3) := by decide +kernel
theorem dX7_init_4 : decode cX7_init 4 = .ok (.aload_n 0, 1) := by decide +kernel
theorem dX7_init_5 : decode cX7_init 5 = .ok (.bipush 8, 2) := by decide +kernel
theorem dX7_init_7 : decode cX7_init 7 = .ok (.newarray .long, 2) := by decide +kernel
theorem dX7_init_9 : decode cX7_init 9 = .ok (.putfield 9, 3) := by decide +kernel
theorem dX7_init_12 : decode cX7_init 12 = .ok (.aload_n 0, 1) := by decide +kernel
theorem dX7_init_13 : decode cX7_init 13 = .ok (.new 15, 3) := by decide +kernel
theorem dX7_init_16 : decode cX7_init 16 = .ok (.dup, 1) := by decide +kernel
theorem dX7_init_17 : decode cX7_init 17 = .ok (.invokespecial 17, 3) := by decide +kernel
theorem dX7_init_20 : decode cX7_init 20 = .ok (.putfield 18, 3) := by decide +kernel
theorem dX7_init_23 : decode cX7_init 23 = .ok (.return_, 1) := by decide +kernel
theorem dX7_held_0 : decode cX7_held 0 = .ok (.iload_n 1, 1) := by decide +kernel
theorem dX7_held_1 : decode cX7_held 1 = .ok (.ifCond .lt 21, 3) := by decide +kernel
theorem dX7_held_4 : decode cX7_held 4 = .ok (.iload_n 1, 1) := by decide +kernel
theorem dX7_held_5 : decode cX7_held 5 = .ok (.aload_n 0, 1) := by decide +kernel
theorem dX7_held_6 : decode cX7_held 6 = .ok (.getfield 9, 3) := by decide +kernel
theorem dX7_held_9 : decode cX7_held 9 = .ok (.arraylength, 1) := by decide +kernel
theorem dX7_held_10 : decode cX7_held 10 = .ok (.if_icmp .ge 12, 3) := by decide +kernel
theorem dX7_held_13 : decode cX7_held 13 = .ok (.aload_n 0, 1) := by decide +kernel
theorem dX7_held_14 : decode cX7_held 14 = .ok (.getfield 9, 3) := by decide +kernel
theorem dX7_held_17 : decode cX7_held 17 = .ok (.iload_n 1, 1) := by decide +kernel
theorem dX7_held_18 : decode cX7_held 18 = .ok (.laload, 1) := by decide +kernel
theorem dX7_held_19 : decode cX7_held 19 = .ok (.goto 4, 3) := by decide +kernel
theorem dX7_held_22 : decode cX7_held 22 = .ok (.lconst 0, 1) := by decide +kernel
theorem dX7_held_23 : decode cX7_held 23 = .ok (.lreturn, 1) := by decide +kernel
theorem dX7_hold_0 : decode cX7_hold 0 = .ok (.iload_n 1, 1) := by decide +kernel
theorem dX7_hold_1 : decode cX7_hold 1 = .ok (.ifCond .lt 19, 3) := by decide +kernel
theorem dX7_hold_4 : decode cX7_hold 4 = .ok (.iload_n 1, 1) := by decide +kernel
theorem dX7_hold_5 : decode cX7_hold 5 = .ok (.aload_n 0, 1) := by decide +kernel
theorem dX7_hold_6 : decode cX7_hold 6 = .ok (.getfield 9, 3) := by decide +kernel
theorem dX7_hold_9 : decode cX7_hold 9 = .ok (.arraylength, 1) := by decide +kernel
theorem dX7_hold_10 : decode cX7_hold 10 = .ok (.if_icmp .ge 10, 3) := by decide +kernel
theorem dX7_hold_13 : decode cX7_hold 13 = .ok (.aload_n 0, 1) := by decide +kernel
theorem dX7_hold_14 : decode cX7_hold 14 = .ok (.getfield 9, 3) := by decide +kernel
theorem dX7_hold_17 : decode cX7_hold 17 = .ok (.iload_n 1, 1) := by decide +kernel
theorem dX7_hold_18 : decode cX7_hold 18 = .ok (.lload_n 2, 1) := by decide +kernel
theorem dX7_hold_19 : decode cX7_hold 19 = .ok (.lastore, 1) := by decide +kernel
theorem dX7_hold_20 : decode cX7_hold 20 = .ok (.return_, 1) := by decide +kernel
set_option maxRecDepth 20000 in
theorem ggX7_allSticks_X5_allSticks : GoodIn wsX7_allSticks wsX5_allSticks := goodIn_r _ [5, 6, 7, 4, 8, 9, 10, 11, 12, 13, 14, 15, 16, 17] (by decide +kernel) (by decide +kernel)
set_option maxRecDepth 20000 in
theorem gX7_allSticks_X5_allSticks : GoodIn wsX7_allSticks (va_wsS RX7 22 yX5_allSticks wsX5_allSticks) := goodIn_app (goodIn_of _ (by decide +kernel)) ggX7_allSticks_X5_allSticks
theorem dX7_allSticks_0 : decode cX7_allSticks 0 = .ok (.iconst 0, 1) := by decide +kernel
theorem dX7_allSticks_1 : decode cX7_allSticks 1 = .ok (.istore_n 1, 1) := by decide +kernel
theorem dX7_allSticks_2 : decode cX7_allSticks 2 = .ok (.iconst 0, 1) := by decide +kernel
theorem dX7_allSticks_3 : decode cX7_allSticks 3 = .ok (.istore_n 2, 1) := by decide +kernel
theorem dX7_allSticks_4 : decode cX7_allSticks 4 = .ok (.iload_n 2, 1) := by decide +kernel
theorem dX7_allSticks_5 : decode cX7_allSticks 5 = .ok (.aload_n 0, 1) := by decide +kernel
theorem dX7_allSticks_6 : decode cX7_allSticks 6 = .ok (.getfield 9, 3) := by decide +kernel
theorem dX7_allSticks_9 : decode cX7_allSticks 9 = .ok (.arraylength, 1) := by decide +kernel
theorem dX7_allSticks_10 : decode cX7_allSticks 10 = .ok (.if_icmp .ge 21, 3) := by decide +kernel
theorem dX7_allSticks_13 : decode cX7_allSticks 13 = .ok (.iload_n 1, 1) := by decide +kernel
theorem dX7_allSticks_14 : decode cX7_allSticks 14 = .ok (.aload_n 0, 1) := by decide +kernel
theorem dX7_allSticks_15 : decode cX7_allSticks 15 = .ok (.getfield 9, 3) := by decide +kernel
theorem dX7_allSticks_18 : decode cX7_allSticks 18 = .ok (.iload_n 2, 1) := by decide +kernel
theorem dX7_allSticks_19 : decode cX7_allSticks 19 = .ok (.laload, 1) := by decide +kernel
theorem dX7_allSticks_20 : decode cX7_allSticks 20 = .ok (.invokestatic 22, 3) := by decide +kernel
theorem dX7_allSticks_23 : decode cX7_allSticks 23 = .ok (.iadd, 1) := by decide +kernel
theorem dX7_allSticks_24 : decode cX7_allSticks 24 = .ok (.istore_n 1, 1) := by decide +kernel
theorem dX7_allSticks_25 : decode cX7_allSticks 25 = .ok (.iinc 2 1, 3) := by decide +kernel
theorem dX7_allSticks_28 : decode cX7_allSticks 28 = .ok (.goto (-24), 3) := by decide +kernel
theorem dX7_allSticks_31 : decode cX7_allSticks 31 = .ok (.iload_n 1, 1) := by decide +kernel
theorem dX7_allSticks_32 : decode cX7_allSticks 32 = .ok (.ireturn, 1) := by decide +kernel
set_option maxRecDepth 20000 in
theorem ggX7_addRows_X3_begin : GoodIn wsX7_addRows wsX3_begin := goodIn_r _ [7, 8, 9, 10, 11, 6, 12, 13, 93, 94, 95] (by decide +kernel) (by decide +kernel)
set_option maxRecDepth 20000 in
theorem gX7_addRows_X3_begin : GoodIn wsX7_addRows (wsV RX7 28 RX3 yX3_begin wsX3_begin) := goodIn_app (goodIn_of _ (by decide +kernel)) ggX7_addRows_X3_begin
set_option maxRecDepth 20000 in
theorem ggX7_addRows_X7_held : GoodIn wsX7_addRows wsX7_held := goodIn_r _ [18, 2, 91, 92] (by decide +kernel) (by decide +kernel)
set_option maxRecDepth 20000 in
theorem gX7_addRows_X7_held : GoodIn wsX7_addRows (wsV RX7 32 RX7 yX7_held wsX7_held) := goodIn_app (goodIn_of _ (by decide +kernel)) ggX7_addRows_X7_held
set_option maxRecDepth 20000 in
theorem ggX7_addRows_X5_digit : GoodIn wsX7_addRows wsX5_digit := goodIn_r _ [22, 23, 24, 25, 26, 27, 28, 29, 21, 30, 31] (by decide +kernel) (by decide +kernel)
set_option maxRecDepth 20000 in
theorem gX7_addRows_X5_digit : GoodIn wsX7_addRows (va_wsS RX7 36 yX5_digit wsX5_digit) := goodIn_app (goodIn_of _ (by decide +kernel)) ggX7_addRows_X5_digit
set_option maxRecDepth 20000 in
theorem ggX7_addRows_X3_go : GoodIn wsX7_addRows wsX3_go := goodIn_r _ [35, 8, 36, 37, 38, 6, 39, 40, 41, 42, 43, 44, 45, 46, 47, 48, 49, 13, 50, 51, 52, 53, 54, 29, 21, 30, 31, 55, 56, 57, 58, 59, 60, 61, 62, 63, 64, 65, 23, 24, 25, 26, 66, 67, 68, 69, 70, 71, 72, 73, 74, 75, 76, 77, 9, 10, 11, 12, 93, 94, 95] (by decide +kernel) (by decide +kernel)
set_option maxRecDepth 20000 in
theorem gX7_addRows_X3_go : GoodIn wsX7_addRows (wsV RX7 40 RX3 yX3_go wsX3_go) := goodIn_app (goodIn_of _ (by decide +kernel)) ggX7_addRows_X3_go
set_option maxRecDepth 20000 in
theorem ggX7_addRows_X7_end : GoodIn wsX7_addRows wsX7_end := goodIn_r _ [81, 2, 1, 82, 83, 84, 17, 85, 86, 87, 88, 6, 89, 8, 90, 47, 48, 49, 13, 91, 92, 93, 94, 95] (by decide +kernel) (by decide +kernel)
set_option maxRecDepth 20000 in
theorem gX7_addRows_X7_end : GoodIn wsX7_addRows (wsV RX7 44 RX7 yX7_end wsX7_end) := goodIn_app (goodIn_of _ (by decide +kernel)) ggX7_addRows_X7_end
theorem dX7_addRows_0 : decode cX7_addRows 0 = .ok (.aload_n 0, 1) := by decide +kernel
theorem dX7_addRows_1 : decode cX7_addRows 1 = .ok (.getfield 18, 3) := by decide +kernel
theorem dX7_addRows_4 : decode cX7_addRows 4 = .ok (.aload_n 0, 1) := by decide +kernel
theorem dX7_addRows_5 : decode cX7_addRows 5 = .ok (.getfield 9, 3) := by decide +kernel
theorem dX7_addRows_8 : decode cX7_addRows 8 = .ok (.invokevirtual 28, 3) := by decide +kernel
theorem dX7_addRows_11 : decode cX7_addRows 11 = .ok (.aload_n 0, 1) := by decide +kernel
theorem dX7_addRows_12 : decode cX7_addRows 12 = .ok (.iload_n 2, 1) := by decide +kernel
theorem dX7_addRows_13 : decode cX7_addRows 13 = .ok (.invokevirtual 32, 3) := by decide +kernel
theorem dX7_addRows_16 : decode cX7_addRows 16 = .ok (.lstore_n 3, 1) := by decide +kernel
theorem dX7_addRows_17 : decode cX7_addRows 17 = .ok (.bipush 11, 2) := by decide +kernel
theorem dX7_addRows_19 : decode cX7_addRows 19 = .ok (.istore 5, 2) := by decide +kernel
theorem dX7_addRows_21 : decode cX7_addRows 21 = .ok (.iload 5, 2) := by decide +kernel
theorem dX7_addRows_23 : decode cX7_addRows 23 = .ok (.ifCond .lt 50, 3) := by decide +kernel
theorem dX7_addRows_26 : decode cX7_addRows 26 = .ok (.lload_n 3, 1) := by decide +kernel
theorem dX7_addRows_27 : decode cX7_addRows 27 = .ok (.iload 5, 2) := by decide +kernel
theorem dX7_addRows_29 : decode cX7_addRows 29 = .ok (.invokestatic 36, 3) := by decide +kernel
theorem dX7_addRows_32 : decode cX7_addRows 32 = .ok (.istore 6, 2) := by decide +kernel
theorem dX7_addRows_34 : decode cX7_addRows 34 = .ok (.iload 6, 2) := by decide +kernel
theorem dX7_addRows_36 : decode cX7_addRows 36 = .ok (.ifCond .eq 31, 3) := by decide +kernel
theorem dX7_addRows_39 : decode cX7_addRows 39 = .ok (.aload_n 0, 1) := by decide +kernel
theorem dX7_addRows_40 : decode cX7_addRows 40 = .ok (.getfield 18, 3) := by decide +kernel
theorem dX7_addRows_43 : decode cX7_addRows 43 = .ok (.iconst 0, 1) := by decide +kernel
theorem dX7_addRows_44 : decode cX7_addRows 44 = .ok (.iload_n 1, 1) := by decide +kernel
theorem dX7_addRows_45 : decode cX7_addRows 45 = .ok (.iload 5, 2) := by decide +kernel
theorem dX7_addRows_47 : decode cX7_addRows 47 = .ok (.lload_n 3, 1) := by decide +kernel
theorem dX7_addRows_48 : decode cX7_addRows 48 = .ok (.lconst 0, 1) := by decide +kernel
theorem dX7_addRows_49 : decode cX7_addRows 49 = .ok (.lcmp, 1) := by decide +kernel
theorem dX7_addRows_50 : decode cX7_addRows 50 = .ok (.ifCond .ge 9, 3) := by decide +kernel
theorem dX7_addRows_53 : decode cX7_addRows 53 = .ok (.iload 6, 2) := by decide +kernel
theorem dX7_addRows_55 : decode cX7_addRows 55 = .ok (.ineg, 1) := by decide +kernel
theorem dX7_addRows_56 : decode cX7_addRows 56 = .ok (.goto 5, 3) := by decide +kernel
theorem dX7_addRows_59 : decode cX7_addRows 59 = .ok (.iload 6, 2) := by decide +kernel
theorem dX7_addRows_61 : decode cX7_addRows 61 = .ok (.iload_n 2, 1) := by decide +kernel
theorem dX7_addRows_62 : decode cX7_addRows 62 = .ok (.bipush (-6), 2) := by decide +kernel
theorem dX7_addRows_64 : decode cX7_addRows 64 = .ok (.invokevirtual 40, 3) := by decide +kernel
theorem dX7_addRows_67 : decode cX7_addRows 67 = .ok (.iinc 5 (-1), 3) := by decide +kernel
theorem dX7_addRows_70 : decode cX7_addRows 70 = .ok (.goto (-49), 3) := by decide +kernel
theorem dX7_addRows_73 : decode cX7_addRows 73 = .ok (.aload_n 0, 1) := by decide +kernel
theorem dX7_addRows_74 : decode cX7_addRows 74 = .ok (.invokevirtual 44, 3) := by decide +kernel
theorem dX7_addRows_77 : decode cX7_addRows 77 = .ok (.ireturn, 1) := by decide +kernel
set_option maxRecDepth 20000 in
theorem ggX7_multiplyRows_X7_begin : GoodIn wsX7_multiplyRows wsX7_begin := goodIn_r _ [6, 1, 7, 8, 9, 10, 11, 12, 13, 14, 15, 16, 17, 18, 19, 20, 21, 5, 22, 23, 24, 25, 26, 27, 28, 29, 30, 31, 32, 33, 34, 35, 36, 37, 38, 39, 40, 41, 42, 43, 44, 45, 46, 47, 48, 49, 50, 51, 52, 53, 54, 55, 56, 57, 58, 59, 60, 61, 62, 63, 64, 65, 66, 67, 68, 69, 70, 71, 72, 73, 74, 75, 76, 95, 96, 97, 98, 99] (by decide +kernel) (by decide +kernel)
set_option maxRecDepth 20000 in
theorem gX7_multiplyRows_X7_begin : GoodIn wsX7_multiplyRows (wsV RX7 48 RX7 yX7_begin wsX7_begin) := goodIn_app (goodIn_of _ (by decide +kernel)) ggX7_multiplyRows_X7_begin
set_option maxRecDepth 20000 in
theorem ggX7_multiplyRows_X7_held : GoodIn wsX7_multiplyRows wsX7_held := goodIn_r _ [22, 7, 95, 96] (by decide +kernel) (by decide +kernel)
set_option maxRecDepth 20000 in
theorem gX7_multiplyRows_X7_held : GoodIn wsX7_multiplyRows (wsV RX7 32 RX7 yX7_held wsX7_held) := goodIn_app (goodIn_of _ (by decide +kernel)) ggX7_multiplyRows_X7_held
set_option maxRecDepth 20000 in
theorem ggX7_multiplyRows_X5_digit : GoodIn wsX7_multiplyRows wsX5_digit := goodIn_r _ [79, 61, 62, 63, 64, 80, 81, 46, 47, 48, 49] (by decide +kernel) (by decide +kernel)
set_option maxRecDepth 20000 in
theorem gX7_multiplyRows_X5_digit : GoodIn wsX7_multiplyRows (va_wsS RX7 36 yX5_digit wsX5_digit) := goodIn_app (goodIn_of _ (by decide +kernel)) ggX7_multiplyRows_X5_digit
set_option maxRecDepth 20000 in
theorem ggX7_multiplyRows_X3_go : GoodIn wsX7_multiplyRows wsX3_go := goodIn_r _ [26, 13, 27, 28, 29, 11, 30, 31, 32, 33, 34, 35, 36, 37, 38, 39, 40, 18, 41, 42, 43, 44, 45, 46, 47, 48, 49, 50, 51, 52, 53, 54, 55, 56, 57, 58, 59, 60, 61, 62, 63, 64, 65, 66, 67, 68, 69, 70, 71, 72, 73, 74, 75, 76, 14, 15, 16, 17, 97, 98, 99] (by decide +kernel) (by decide +kernel)
set_option maxRecDepth 20000 in
theorem gX7_multiplyRows_X3_go : GoodIn wsX7_multiplyRows (wsV RX7 40 RX3 yX3_go wsX3_go) := goodIn_app (goodIn_of _ (by decide +kernel)) ggX7_multiplyRows_X3_go
set_option maxRecDepth 20000 in
theorem ggX7_multiplyRows_X7_end : GoodIn wsX7_multiplyRows wsX7_end := goodIn_r _ [85, 7, 1, 86, 87, 88, 5, 89, 90, 91, 92, 11, 93, 13, 94, 38, 39, 40, 18, 95, 96, 97, 98, 99] (by decide +kernel) (by decide +kernel)
set_option maxRecDepth 20000 in
theorem gX7_multiplyRows_X7_end : GoodIn wsX7_multiplyRows (wsV RX7 44 RX7 yX7_end wsX7_end) := goodIn_app (goodIn_of _ (by decide +kernel)) ggX7_multiplyRows_X7_end
theorem dX7_multiplyRows_0 : decode cX7_multiplyRows 0 = .ok (.aload_n 0, 1) := by decide +kernel
theorem dX7_multiplyRows_1 : decode cX7_multiplyRows 1 = .ok (.iload_n 3, 1) := by decide +kernel
theorem dX7_multiplyRows_2 : decode cX7_multiplyRows 2 = .ok (.invokevirtual 48, 3) := by decide +kernel
theorem dX7_multiplyRows_5 : decode cX7_multiplyRows 5 = .ok (.aload_n 0, 1) := by decide +kernel
theorem dX7_multiplyRows_6 : decode cX7_multiplyRows 6 = .ok (.iload_n 1, 1) := by decide +kernel
theorem dX7_multiplyRows_7 : decode cX7_multiplyRows 7 = .ok (.invokevirtual 32, 3) := by decide +kernel
theorem dX7_multiplyRows_10 : decode cX7_multiplyRows 10 = .ok (.lconst 0, 1) := by decide +kernel
theorem dX7_multiplyRows_11 : decode cX7_multiplyRows 11 = .ok (.lcmp, 1) := by decide +kernel
theorem dX7_multiplyRows_12 : decode cX7_multiplyRows 12 = .ok (.ifCond .ge 7, 3) := by decide +kernel
theorem dX7_multiplyRows_15 : decode cX7_multiplyRows 15 = .ok (.iconst 1, 1) := by decide +kernel
theorem dX7_multiplyRows_16 : decode cX7_multiplyRows 16 = .ok (.goto 4, 3) := by decide +kernel
theorem dX7_multiplyRows_19 : decode cX7_multiplyRows 19 = .ok (.iconst 0, 1) := by decide +kernel
theorem dX7_multiplyRows_20 : decode cX7_multiplyRows 20 = .ok (.aload_n 0, 1) := by decide +kernel
theorem dX7_multiplyRows_21 : decode cX7_multiplyRows 21 = .ok (.iload_n 2, 1) := by decide +kernel
theorem dX7_multiplyRows_22 : decode cX7_multiplyRows 22 = .ok (.invokevirtual 32, 3) := by decide +kernel
theorem dX7_multiplyRows_25 : decode cX7_multiplyRows 25 = .ok (.lconst 0, 1) := by decide +kernel
theorem dX7_multiplyRows_26 : decode cX7_multiplyRows 26 = .ok (.lcmp, 1) := by decide +kernel
theorem dX7_multiplyRows_27 : decode cX7_multiplyRows 27 = .ok (.ifCond .ge 7, 3) := by decide +kernel
theorem dX7_multiplyRows_30 : decode cX7_multiplyRows 30 = .ok (.iconst 1, 1) := by decide +kernel
theorem dX7_multiplyRows_31 : decode cX7_multiplyRows 31 = .ok (.goto 4, 3) := by decide +kernel
theorem dX7_multiplyRows_34 : decode cX7_multiplyRows 34 = .ok (.iconst 0, 1) := by decide +kernel
theorem dX7_multiplyRows_35 : decode cX7_multiplyRows 35 = .ok (.if_icmp .eq 7, 3) := by decide +kernel
theorem dX7_multiplyRows_38 : decode cX7_multiplyRows 38 = .ok (.iconst 1, 1) := by decide +kernel
theorem dX7_multiplyRows_39 : decode cX7_multiplyRows 39 = .ok (.goto 4, 3) := by decide +kernel
theorem dX7_multiplyRows_42 : decode cX7_multiplyRows 42 = .ok (.iconst 0, 1) := by decide +kernel
theorem dX7_multiplyRows_43 : decode cX7_multiplyRows 43 = .ok (.istore 4, 2) := by decide +kernel
theorem dX7_multiplyRows_45 : decode cX7_multiplyRows 45 = .ok (.bipush 11, 2) := by decide +kernel
theorem dX7_multiplyRows_47 : decode cX7_multiplyRows 47 = .ok (.istore 5, 2) := by decide +kernel
theorem dX7_multiplyRows_49 : decode cX7_multiplyRows 49 = .ok (.iload 5, 2) := by decide +kernel
theorem dX7_multiplyRows_51 : decode cX7_multiplyRows 51 = .ok (.ifCond .lt 83, 3) := by decide +kernel
theorem dX7_multiplyRows_54 : decode cX7_multiplyRows 54 = .ok (.bipush 11, 2) := by decide +kernel
theorem dX7_multiplyRows_56 : decode cX7_multiplyRows 56 = .ok (.istore 6, 2) := by decide +kernel
theorem dX7_multiplyRows_58 : decode cX7_multiplyRows 58 = .ok (.iload 6, 2) := by decide +kernel
theorem dX7_multiplyRows_60 : decode cX7_multiplyRows 60 = .ok (.ifCond .lt 68, 3) := by decide +kernel
theorem dX7_multiplyRows_63 : decode cX7_multiplyRows 63 = .ok (.aload_n 0, 1) := by decide +kernel
theorem dX7_multiplyRows_64 : decode cX7_multiplyRows 64 = .ok (.iload_n 1, 1) := by decide +kernel
theorem dX7_multiplyRows_65 : decode cX7_multiplyRows 65 = .ok (.invokevirtual 32, 3) := by decide +kernel
theorem dX7_multiplyRows_68 : decode cX7_multiplyRows 68 = .ok (.iload 5, 2) := by decide +kernel
theorem dX7_multiplyRows_70 : decode cX7_multiplyRows 70 = .ok (.invokestatic 36, 3) := by decide +kernel
theorem dX7_multiplyRows_73 : decode cX7_multiplyRows 73 = .ok (.aload_n 0, 1) := by decide +kernel
theorem dX7_multiplyRows_74 : decode cX7_multiplyRows 74 = .ok (.iload_n 2, 1) := by decide +kernel
theorem dX7_multiplyRows_75 : decode cX7_multiplyRows 75 = .ok (.invokevirtual 32, 3) := by decide +kernel
theorem dX7_multiplyRows_78 : decode cX7_multiplyRows 78 = .ok (.iload 6, 2) := by decide +kernel
theorem dX7_multiplyRows_80 : decode cX7_multiplyRows 80 = .ok (.invokestatic 36, 3) := by decide +kernel
theorem dX7_multiplyRows_83 : decode cX7_multiplyRows 83 = .ok (.imul, 1) := by decide +kernel
theorem dX7_multiplyRows_84 : decode cX7_multiplyRows 84 = .ok (.istore 7, 2) := by decide +kernel
theorem dX7_multiplyRows_86 : decode cX7_multiplyRows 86 = .ok (.iload 7, 2) := by decide +kernel
theorem dX7_multiplyRows_88 : decode cX7_multiplyRows 88 = .ok (.ifCond .eq 34, 3) := by decide +kernel
theorem dX7_multiplyRows_91 : decode cX7_multiplyRows 91 = .ok (.aload_n 0, 1) := by decide +kernel
theorem dX7_multiplyRows_92 : decode cX7_multiplyRows 92 = .ok (.getfield 18, 3) := by decide +kernel
theorem dX7_multiplyRows_95 : decode cX7_multiplyRows 95 = .ok (.iconst 1, 1) := by decide +kernel
theorem dX7_multiplyRows_96 : decode cX7_multiplyRows 96 = .ok (.iload_n 3, 1) := by decide +kernel
theorem dX7_multiplyRows_97 : decode cX7_multiplyRows 97 = .ok (.iload 5, 2) := by decide +kernel
theorem dX7_multiplyRows_99 : decode cX7_multiplyRows 99 = .ok (.iload 6, 2) := by decide +kernel
theorem dX7_multiplyRows_101 : decode cX7_multiplyRows 101 = .ok (.iadd, 1) := by decide +kernel
theorem dX7_multiplyRows_102 : decode cX7_multiplyRows 102 = .ok (.iload 4, 2) := by decide +kernel
theorem dX7_multiplyRows_104 : decode cX7_multiplyRows 104 = .ok (.ifCond .eq 9, 3) := by decide +kernel
theorem dX7_multiplyRows_107 : decode cX7_multiplyRows 107 = .ok (.iload 7, 2) := by decide +kernel
theorem dX7_multiplyRows_109 : decode cX7_multiplyRows 109 = .ok (.ineg, 1) := by decide +kernel
theorem dX7_multiplyRows_110 : decode cX7_multiplyRows 110 = .ok (.goto 5, 3) := by decide +kernel
theorem dX7_multiplyRows_113 : decode cX7_multiplyRows 113 = .ok (.iload 7, 2) := by decide +kernel
theorem dX7_multiplyRows_115 : decode cX7_multiplyRows 115 = .ok (.bipush (-6), 2) := by decide +kernel
theorem dX7_multiplyRows_117 : decode cX7_multiplyRows 117 = .ok (.bipush (-6), 2) := by decide +kernel
theorem dX7_multiplyRows_119 : decode cX7_multiplyRows 119 = .ok (.invokevirtual 40, 3) := by decide +kernel
theorem dX7_multiplyRows_122 : decode cX7_multiplyRows 122 = .ok (.iinc 6 (-1), 3) := by decide +kernel
theorem dX7_multiplyRows_125 : decode cX7_multiplyRows 125 = .ok (.goto (-67), 3) := by decide +kernel
theorem dX7_multiplyRows_128 : decode cX7_multiplyRows 128 = .ok (.iinc 5 (-1), 3) := by decide +kernel
theorem dX7_multiplyRows_131 : decode cX7_multiplyRows 131 = .ok (.goto (-82), 3) := by decide +kernel
theorem dX7_multiplyRows_134 : decode cX7_multiplyRows 134 = .ok (.aload_n 0, 1) := by decide +kernel
theorem dX7_multiplyRows_135 : decode cX7_multiplyRows 135 = .ok (.invokevirtual 44, 3) := by decide +kernel
theorem dX7_multiplyRows_138 : decode cX7_multiplyRows 138 = .ok (.ireturn, 1) := by decide +kernel
set_option maxRecDepth 20000 in
theorem ggX7_partRows_X7_begin : GoodIn wsX7_partRows wsX7_begin := goodIn_r _ [6, 1, 7, 8, 9, 10, 11, 12, 13, 14, 15, 16, 17, 18, 19, 20, 21, 5, 22, 23, 24, 25, 26, 27, 28, 29, 30, 31, 32, 33, 34, 35, 36, 37, 38, 39, 40, 41, 42, 43, 44, 45, 46, 47, 48, 49, 50, 51, 52, 53, 54, 55, 56, 57, 58, 59, 60, 61, 62, 63, 64, 65, 66, 67, 68, 69, 70, 71, 72, 73, 74, 75, 76, 94, 95, 96, 97, 98] (by decide +kernel) (by decide +kernel)
set_option maxRecDepth 20000 in
theorem gX7_partRows_X7_begin : GoodIn wsX7_partRows (wsV RX7 48 RX7 yX7_begin wsX7_begin) := goodIn_app (goodIn_of _ (by decide +kernel)) ggX7_partRows_X7_begin
set_option maxRecDepth 20000 in
theorem ggX7_partRows_X7_latest : GoodIn wsX7_partRows wsX7_latest := goodIn_r _ [80, 1, 81, 82, 83, 11, 84, 13, 85, 38, 39, 40, 18, 94, 95, 96, 97, 98] (by decide +kernel) (by decide +kernel)
set_option maxRecDepth 20000 in
theorem gX7_partRows_X7_latest : GoodIn wsX7_partRows (wsV RX7 51 RX7 yX7_latest wsX7_latest) := goodIn_app (goodIn_of _ (by decide +kernel)) ggX7_partRows_X7_latest
set_option maxRecDepth 20000 in
theorem ggX7_partRows_X7_held : GoodIn wsX7_partRows wsX7_held := goodIn_r _ [22, 7, 94, 95] (by decide +kernel) (by decide +kernel)
set_option maxRecDepth 20000 in
theorem gX7_partRows_X7_held : GoodIn wsX7_partRows (wsV RX7 32 RX7 yX7_held wsX7_held) := goodIn_app (goodIn_of _ (by decide +kernel)) ggX7_partRows_X7_held
set_option maxRecDepth 20000 in
theorem ggX7_partRows_X7_quotientDigit : GoodIn wsX7_partRows wsX7_quotientDigit := goodIn_r _ [88, 89, 46, 47, 48, 49] (by decide +kernel) (by decide +kernel)
set_option maxRecDepth 20000 in
theorem gX7_partRows_X7_quotientDigit : GoodIn wsX7_partRows (va_wsS RX7 54 yX7_quotientDigit wsX7_quotientDigit) := goodIn_app (goodIn_of _ (by decide +kernel)) ggX7_partRows_X7_quotientDigit
set_option maxRecDepth 20000 in
theorem ggX7_partRows_X3_go : GoodIn wsX7_partRows wsX3_go := goodIn_r _ [26, 13, 27, 28, 29, 11, 30, 31, 32, 33, 34, 35, 36, 37, 38, 39, 40, 18, 41, 42, 43, 44, 45, 46, 47, 48, 49, 50, 51, 52, 53, 54, 55, 56, 57, 58, 59, 60, 61, 62, 63, 64, 65, 66, 67, 68, 69, 70, 71, 72, 73, 74, 75, 76, 14, 15, 16, 17, 96, 97, 98] (by decide +kernel) (by decide +kernel)
set_option maxRecDepth 20000 in
theorem gX7_partRows_X3_go : GoodIn wsX7_partRows (wsV RX7 40 RX3 yX3_go wsX3_go) := goodIn_app (goodIn_of _ (by decide +kernel)) ggX7_partRows_X3_go
set_option maxRecDepth 20000 in
theorem ggX7_partRows_X7_end : GoodIn wsX7_partRows wsX7_end := goodIn_r _ [93, 7, 1, 77, 78, 79, 5, 80, 81, 82, 83, 11, 84, 13, 85, 38, 39, 40, 18, 94, 95, 96, 97, 98] (by decide +kernel) (by decide +kernel)
set_option maxRecDepth 20000 in
theorem gX7_partRows_X7_end : GoodIn wsX7_partRows (wsV RX7 44 RX7 yX7_end wsX7_end) := goodIn_app (goodIn_of _ (by decide +kernel)) ggX7_partRows_X7_end
theorem dX7_partRows_0 : decode cX7_partRows 0 = .ok (.aload_n 0, 1) := by decide +kernel
theorem dX7_partRows_1 : decode cX7_partRows 1 = .ok (.iload_n 3, 1) := by decide +kernel
theorem dX7_partRows_2 : decode cX7_partRows 2 = .ok (.invokevirtual 48, 3) := by decide +kernel
theorem dX7_partRows_5 : decode cX7_partRows 5 = .ok (.bipush 11, 2) := by decide +kernel
theorem dX7_partRows_7 : decode cX7_partRows 7 = .ok (.istore 4, 2) := by decide +kernel
theorem dX7_partRows_9 : decode cX7_partRows 9 = .ok (.iload 4, 2) := by decide +kernel
theorem dX7_partRows_11 : decode cX7_partRows 11 = .ok (.ifCond .lt 46, 3) := by decide +kernel
theorem dX7_partRows_14 : decode cX7_partRows 14 = .ok (.aload_n 0, 1) := by decide +kernel
theorem dX7_partRows_15 : decode cX7_partRows 15 = .ok (.iload_n 1, 1) := by decide +kernel
theorem dX7_partRows_16 : decode cX7_partRows 16 = .ok (.invokevirtual 51, 3) := by decide +kernel
theorem dX7_partRows_19 : decode cX7_partRows 19 = .ok (.aload_n 0, 1) := by decide +kernel
theorem dX7_partRows_20 : decode cX7_partRows 20 = .ok (.iload_n 2, 1) := by decide +kernel
theorem dX7_partRows_21 : decode cX7_partRows 21 = .ok (.invokevirtual 32, 3) := by decide +kernel
theorem dX7_partRows_24 : decode cX7_partRows 24 = .ok (.iload 4, 2) := by decide +kernel
theorem dX7_partRows_26 : decode cX7_partRows 26 = .ok (.invokestatic 54, 3) := by decide +kernel
theorem dX7_partRows_29 : decode cX7_partRows 29 = .ok (.istore 5, 2) := by decide +kernel
theorem dX7_partRows_31 : decode cX7_partRows 31 = .ok (.iload 5, 2) := by decide +kernel
theorem dX7_partRows_33 : decode cX7_partRows 33 = .ok (.ifCond .eq 18, 3) := by decide +kernel
theorem dX7_partRows_36 : decode cX7_partRows 36 = .ok (.aload_n 0, 1) := by decide +kernel
theorem dX7_partRows_37 : decode cX7_partRows 37 = .ok (.getfield 18, 3) := by decide +kernel
theorem dX7_partRows_40 : decode cX7_partRows 40 = .ok (.iconst 2, 1) := by decide +kernel
theorem dX7_partRows_41 : decode cX7_partRows 41 = .ok (.iload_n 1, 1) := by decide +kernel
theorem dX7_partRows_42 : decode cX7_partRows 42 = .ok (.iload 4, 2) := by decide +kernel
theorem dX7_partRows_44 : decode cX7_partRows 44 = .ok (.iload 5, 2) := by decide +kernel
theorem dX7_partRows_46 : decode cX7_partRows 46 = .ok (.iload_n 2, 1) := by decide +kernel
theorem dX7_partRows_47 : decode cX7_partRows 47 = .ok (.iload_n 3, 1) := by decide +kernel
theorem dX7_partRows_48 : decode cX7_partRows 48 = .ok (.invokevirtual 40, 3) := by decide +kernel
theorem dX7_partRows_51 : decode cX7_partRows 51 = .ok (.iinc 4 (-1), 3) := by decide +kernel
theorem dX7_partRows_54 : decode cX7_partRows 54 = .ok (.goto (-45), 3) := by decide +kernel
theorem dX7_partRows_57 : decode cX7_partRows 57 = .ok (.aload_n 0, 1) := by decide +kernel
theorem dX7_partRows_58 : decode cX7_partRows 58 = .ok (.invokevirtual 44, 3) := by decide +kernel
theorem dX7_partRows_61 : decode cX7_partRows 61 = .ok (.ireturn, 1) := by decide +kernel
set_option maxRecDepth 20000 in
theorem ggX7_quotientDigit_X5_tenTo : GoodIn wsX7_quotientDigit wsX5_tenTo := goodIn_r _ [4, 5] (by decide +kernel) (by decide +kernel)
set_option maxRecDepth 20000 in
theorem gX7_quotientDigit_X5_tenTo : GoodIn wsX7_quotientDigit (va_wsS RX7 58 yX5_tenTo wsX5_tenTo) := goodIn_app (goodIn_of _ (by decide +kernel)) ggX7_quotientDigit_X5_tenTo
theorem dX7_quotientDigit_0 : decode cX7_quotientDigit 0 = .ok (.iload 4, 2) := by decide +kernel
theorem dX7_quotientDigit_2 : decode cX7_quotientDigit 2 = .ok (.invokestatic 58, 3) := by decide +kernel
theorem dX7_quotientDigit_5 : decode cX7_quotientDigit 5 = .ok (.lstore 5, 2) := by decide +kernel
theorem dX7_quotientDigit_7 : decode cX7_quotientDigit 7 = .ok (.lload 5, 2) := by decide +kernel
theorem dX7_quotientDigit_9 : decode cX7_quotientDigit 9 = .ok (.lconst 0, 1) := by decide +kernel
theorem dX7_quotientDigit_10 : decode cX7_quotientDigit 10 = .ok (.lcmp, 1) := by decide +kernel
theorem dX7_quotientDigit_11 : decode cX7_quotientDigit 11 = .ok (.ifCond .eq 9, 3) := by decide +kernel
theorem dX7_quotientDigit_14 : decode cX7_quotientDigit 14 = .ok (.lload_n 2, 1) := by decide +kernel
theorem dX7_quotientDigit_15 : decode cX7_quotientDigit 15 = .ok (.lconst 0, 1) := by decide +kernel
theorem dX7_quotientDigit_16 : decode cX7_quotientDigit 16 = .ok (.lcmp, 1) := by decide +kernel
theorem dX7_quotientDigit_17 : decode cX7_quotientDigit 17 = .ok (.ifCond .ne 7, 3) := by decide +kernel
theorem dX7_quotientDigit_20 : decode cX7_quotientDigit 20 = .ok (.iconst 0, 1) := by decide +kernel
theorem dX7_quotientDigit_21 : decode cX7_quotientDigit 21 = .ok (.goto 10, 3) := by decide +kernel
theorem dX7_quotientDigit_24 : decode cX7_quotientDigit 24 = .ok (.lload_n 0, 1) := by decide +kernel
theorem dX7_quotientDigit_25 : decode cX7_quotientDigit 25 = .ok (.lload 5, 2) := by decide +kernel
theorem dX7_quotientDigit_27 : decode cX7_quotientDigit 27 = .ok (.ldiv, 1) := by decide +kernel
theorem dX7_quotientDigit_28 : decode cX7_quotientDigit 28 = .ok (.lload_n 2, 1) := by decide +kernel
theorem dX7_quotientDigit_29 : decode cX7_quotientDigit 29 = .ok (.ldiv, 1) := by decide +kernel
theorem dX7_quotientDigit_30 : decode cX7_quotientDigit 30 = .ok (.l2i, 1) := by decide +kernel
theorem dX7_quotientDigit_31 : decode cX7_quotientDigit 31 = .ok (.ireturn, 1) := by decide +kernel
set_option maxRecDepth 20000 in
theorem ggX7_rootRow_X7_begin : GoodIn wsX7_rootRow wsX7_begin := goodIn_r _ [6, 1, 7, 8, 9, 10, 11, 12, 13, 14, 15, 16, 17, 18, 19, 20, 21, 5, 22, 23, 24, 25, 26, 27, 28, 29, 30, 31, 32, 33, 34, 35, 36, 37, 38, 39, 40, 41, 42, 43, 44, 45, 46, 47, 48, 49, 50, 51, 52, 53, 54, 55, 56, 57, 58, 59, 60, 61, 62, 63, 64, 65, 66, 67, 68, 69, 70, 71, 72, 73, 74, 75, 76, 96, 97, 98, 99, 100] (by decide +kernel) (by decide +kernel)
set_option maxRecDepth 20000 in
theorem gX7_rootRow_X7_begin : GoodIn wsX7_rootRow (wsV RX7 48 RX7 yX7_begin wsX7_begin) := goodIn_app (goodIn_of _ (by decide +kernel)) ggX7_rootRow_X7_begin
set_option maxRecDepth 20000 in
theorem ggX7_rootRow_X7_held : GoodIn wsX7_rootRow wsX7_held := goodIn_r _ [22, 7, 96, 97] (by decide +kernel) (by decide +kernel)
set_option maxRecDepth 20000 in
theorem gX7_rootRow_X7_held : GoodIn wsX7_rootRow (wsV RX7 32 RX7 yX7_held wsX7_held) := goodIn_app (goodIn_of _ (by decide +kernel)) ggX7_rootRow_X7_held
set_option maxRecDepth 20000 in
theorem ggX7_rootRow_X7_latest : GoodIn wsX7_rootRow wsX7_latest := goodIn_r _ [80, 1, 81, 82, 83, 11, 84, 13, 85, 38, 39, 40, 18, 96, 97, 98, 99, 100] (by decide +kernel) (by decide +kernel)
set_option maxRecDepth 20000 in
theorem gX7_rootRow_X7_latest : GoodIn wsX7_rootRow (wsV RX7 51 RX7 yX7_latest wsX7_latest) := goodIn_app (goodIn_of _ (by decide +kernel)) ggX7_rootRow_X7_latest
set_option maxRecDepth 20000 in
theorem ggX7_rootRow_X7_rootDigit : GoodIn wsX7_rootRow wsX7_rootDigit := goodIn_r _ [88, 89, 90, 46, 47, 48, 49, 91, 68, 69, 70, 71, 66] (by decide +kernel) (by decide +kernel)
set_option maxRecDepth 20000 in
theorem gX7_rootRow_X7_rootDigit : GoodIn wsX7_rootRow (va_wsS RX7 61 yX7_rootDigit wsX7_rootDigit) := goodIn_app (goodIn_of _ (by decide +kernel)) ggX7_rootRow_X7_rootDigit
set_option maxRecDepth 20000 in
theorem ggX7_rootRow_X3_go : GoodIn wsX7_rootRow wsX3_go := goodIn_r _ [26, 13, 27, 28, 29, 11, 30, 31, 32, 33, 34, 35, 36, 37, 38, 39, 40, 18, 41, 42, 43, 44, 45, 46, 47, 48, 49, 50, 51, 52, 53, 54, 55, 56, 57, 58, 59, 60, 61, 62, 63, 64, 65, 66, 67, 68, 69, 70, 71, 72, 73, 74, 75, 76, 14, 15, 16, 17, 98, 99, 100] (by decide +kernel) (by decide +kernel)
set_option maxRecDepth 20000 in
theorem gX7_rootRow_X3_go : GoodIn wsX7_rootRow (wsV RX7 40 RX3 yX3_go wsX3_go) := goodIn_app (goodIn_of _ (by decide +kernel)) ggX7_rootRow_X3_go
set_option maxRecDepth 20000 in
theorem ggX7_rootRow_X7_end : GoodIn wsX7_rootRow wsX7_end := goodIn_r _ [95, 7, 1, 77, 78, 79, 5, 80, 81, 82, 83, 11, 84, 13, 85, 38, 39, 40, 18, 96, 97, 98, 99, 100] (by decide +kernel) (by decide +kernel)
set_option maxRecDepth 20000 in
theorem gX7_rootRow_X7_end : GoodIn wsX7_rootRow (wsV RX7 44 RX7 yX7_end wsX7_end) := goodIn_app (goodIn_of _ (by decide +kernel)) ggX7_rootRow_X7_end
theorem dX7_rootRow_0 : decode cX7_rootRow 0 = .ok (.aload_n 0, 1) := by decide +kernel
theorem dX7_rootRow_1 : decode cX7_rootRow 1 = .ok (.iload_n 2, 1) := by decide +kernel
theorem dX7_rootRow_2 : decode cX7_rootRow 2 = .ok (.invokevirtual 48, 3) := by decide +kernel
theorem dX7_rootRow_5 : decode cX7_rootRow 5 = .ok (.iload_n 3, 1) := by decide +kernel
theorem dX7_rootRow_6 : decode cX7_rootRow 6 = .ok (.iconst 2, 1) := by decide +kernel
theorem dX7_rootRow_7 : decode cX7_rootRow 7 = .ok (.if_icmp .ne 7, 3) := by decide +kernel
theorem dX7_rootRow_10 : decode cX7_rootRow 10 = .ok (.iconst 5, 1) := by decide +kernel
theorem dX7_rootRow_11 : decode cX7_rootRow 11 = .ok (.goto 4, 3) := by decide +kernel
theorem dX7_rootRow_14 : decode cX7_rootRow 14 = .ok (.iconst 3, 1) := by decide +kernel
theorem dX7_rootRow_15 : decode cX7_rootRow 15 = .ok (.istore 4, 2) := by decide +kernel
theorem dX7_rootRow_17 : decode cX7_rootRow 17 = .ok (.iload 4, 2) := by decide +kernel
theorem dX7_rootRow_19 : decode cX7_rootRow 19 = .ok (.ifCond .lt 57, 3) := by decide +kernel
theorem dX7_rootRow_22 : decode cX7_rootRow 22 = .ok (.aload_n 0, 1) := by decide +kernel
theorem dX7_rootRow_23 : decode cX7_rootRow 23 = .ok (.iload_n 1, 1) := by decide +kernel
theorem dX7_rootRow_24 : decode cX7_rootRow 24 = .ok (.invokevirtual 32, 3) := by decide +kernel
theorem dX7_rootRow_27 : decode cX7_rootRow 27 = .ok (.aload_n 0, 1) := by decide +kernel
theorem dX7_rootRow_28 : decode cX7_rootRow 28 = .ok (.iload_n 2, 1) := by decide +kernel
theorem dX7_rootRow_29 : decode cX7_rootRow 29 = .ok (.invokevirtual 51, 3) := by decide +kernel
theorem dX7_rootRow_32 : decode cX7_rootRow 32 = .ok (.iload 4, 2) := by decide +kernel
theorem dX7_rootRow_34 : decode cX7_rootRow 34 = .ok (.iload_n 3, 1) := by decide +kernel
theorem dX7_rootRow_35 : decode cX7_rootRow 35 = .ok (.invokestatic 61, 3) := by decide +kernel
theorem dX7_rootRow_38 : decode cX7_rootRow 38 = .ok (.istore 5, 2) := by decide +kernel
theorem dX7_rootRow_40 : decode cX7_rootRow 40 = .ok (.iload 5, 2) := by decide +kernel
theorem dX7_rootRow_42 : decode cX7_rootRow 42 = .ok (.ifCond .eq 28, 3) := by decide +kernel
theorem dX7_rootRow_45 : decode cX7_rootRow 45 = .ok (.aload_n 0, 1) := by decide +kernel
theorem dX7_rootRow_46 : decode cX7_rootRow 46 = .ok (.getfield 18, 3) := by decide +kernel
theorem dX7_rootRow_49 : decode cX7_rootRow 49 = .ok (.iload_n 3, 1) := by decide +kernel
theorem dX7_rootRow_50 : decode cX7_rootRow 50 = .ok (.iconst 2, 1) := by decide +kernel
theorem dX7_rootRow_51 : decode cX7_rootRow 51 = .ok (.if_icmp .ne 7, 3) := by decide +kernel
theorem dX7_rootRow_54 : decode cX7_rootRow 54 = .ok (.iconst 3, 1) := by decide +kernel
theorem dX7_rootRow_55 : decode cX7_rootRow 55 = .ok (.goto 4, 3) := by decide +kernel
theorem dX7_rootRow_58 : decode cX7_rootRow 58 = .ok (.iconst 4, 1) := by decide +kernel
theorem dX7_rootRow_59 : decode cX7_rootRow 59 = .ok (.iload_n 1, 1) := by decide +kernel
theorem dX7_rootRow_60 : decode cX7_rootRow 60 = .ok (.iload 4, 2) := by decide +kernel
theorem dX7_rootRow_62 : decode cX7_rootRow 62 = .ok (.iload 5, 2) := by decide +kernel
theorem dX7_rootRow_64 : decode cX7_rootRow 64 = .ok (.iload_n 2, 1) := by decide +kernel
theorem dX7_rootRow_65 : decode cX7_rootRow 65 = .ok (.bipush (-6), 2) := by decide +kernel
theorem dX7_rootRow_67 : decode cX7_rootRow 67 = .ok (.invokevirtual 40, 3) := by decide +kernel
theorem dX7_rootRow_70 : decode cX7_rootRow 70 = .ok (.iinc 4 (-1), 3) := by decide +kernel
theorem dX7_rootRow_73 : decode cX7_rootRow 73 = .ok (.goto (-56), 3) := by decide +kernel
theorem dX7_rootRow_76 : decode cX7_rootRow 76 = .ok (.aload_n 0, 1) := by decide +kernel
theorem dX7_rootRow_77 : decode cX7_rootRow 77 = .ok (.invokevirtual 44, 3) := by decide +kernel
theorem dX7_rootRow_80 : decode cX7_rootRow 80 = .ok (.ireturn, 1) := by decide +kernel
set_option maxRecDepth 20000 in
theorem ggX7_rootDigit_X5_tenTo : GoodIn wsX7_rootDigit wsX5_tenTo := goodIn_r _ [5, 6] (by decide +kernel) (by decide +kernel)
set_option maxRecDepth 20000 in
theorem gX7_rootDigit_X5_tenTo : GoodIn wsX7_rootDigit (va_wsS RX7 58 yX5_tenTo wsX5_tenTo) := goodIn_app (goodIn_of _ (by decide +kernel)) ggX7_rootDigit_X5_tenTo
set_option maxRecDepth 20000 in
theorem ggX7_rootDigit_X5_power : GoodIn wsX7_rootDigit wsX5_power := goodIn_r _ [9, 10, 11, 12] (by decide +kernel) (by decide +kernel)
set_option maxRecDepth 20000 in
theorem gX7_rootDigit_X5_power : GoodIn wsX7_rootDigit (va_wsS RX7 65 yX5_power wsX5_power) := goodIn_app (goodIn_of _ (by decide +kernel)) ggX7_rootDigit_X5_power
theorem dX7_rootDigit_0 : decode cX7_rootDigit 0 = .ok (.bipush 9, 2) := by decide +kernel
theorem dX7_rootDigit_2 : decode cX7_rootDigit 2 = .ok (.istore 6, 2) := by decide +kernel
theorem dX7_rootDigit_4 : decode cX7_rootDigit 4 = .ok (.iload 6, 2) := by decide +kernel
theorem dX7_rootDigit_6 : decode cX7_rootDigit 6 = .ok (.ifCond .le 46, 3) := by decide +kernel
theorem dX7_rootDigit_9 : decode cX7_rootDigit 9 = .ok (.lload_n 2, 1) := by decide +kernel
theorem dX7_rootDigit_10 : decode cX7_rootDigit 10 = .ok (.iload 6, 2) := by decide +kernel
theorem dX7_rootDigit_12 : decode cX7_rootDigit 12 = .ok (.i2l, 1) := by decide +kernel
theorem dX7_rootDigit_13 : decode cX7_rootDigit 13 = .ok (.iload 4, 2) := by decide +kernel
theorem dX7_rootDigit_15 : decode cX7_rootDigit 15 = .ok (.invokestatic 58, 3) := by decide +kernel
theorem dX7_rootDigit_18 : decode cX7_rootDigit 18 = .ok (.lmul, 1) := by decide +kernel
theorem dX7_rootDigit_19 : decode cX7_rootDigit 19 = .ok (.ladd, 1) := by decide +kernel
theorem dX7_rootDigit_20 : decode cX7_rootDigit 20 = .ok (.iload 5, 2) := by decide +kernel
theorem dX7_rootDigit_22 : decode cX7_rootDigit 22 = .ok (.invokestatic 65, 3) := by decide +kernel
theorem dX7_rootDigit_25 : decode cX7_rootDigit 25 = .ok (.lstore 7, 2) := by decide +kernel
theorem dX7_rootDigit_27 : decode cX7_rootDigit 27 = .ok (.lload 7, 2) := by decide +kernel
theorem dX7_rootDigit_29 : decode cX7_rootDigit 29 = .ok (.ldc2_w 69, 3) := by decide +kernel
theorem dX7_rootDigit_32 : decode cX7_rootDigit 32 = .ok (.lcmp, 1) := by decide +kernel
theorem dX7_rootDigit_33 : decode cX7_rootDigit 33 = .ok (.ifCond .eq 13, 3) := by decide +kernel
theorem dX7_rootDigit_36 : decode cX7_rootDigit 36 = .ok (.lload 7, 2) := by decide +kernel
theorem dX7_rootDigit_38 : decode cX7_rootDigit 38 = .ok (.lload_n 0, 1) := by decide +kernel
theorem dX7_rootDigit_39 : decode cX7_rootDigit 39 = .ok (.lcmp, 1) := by decide +kernel
theorem dX7_rootDigit_40 : decode cX7_rootDigit 40 = .ok (.ifCond .gt 6, 3) := by decide +kernel
theorem dX7_rootDigit_43 : decode cX7_rootDigit 43 = .ok (.iload 6, 2) := by decide +kernel
theorem dX7_rootDigit_45 : decode cX7_rootDigit 45 = .ok (.ireturn, 1) := by decide +kernel
theorem dX7_rootDigit_46 : decode cX7_rootDigit 46 = .ok (.iinc 6 (-1), 3) := by decide +kernel
theorem dX7_rootDigit_49 : decode cX7_rootDigit 49 = .ok (.goto (-45), 3) := by decide +kernel
theorem dX7_rootDigit_52 : decode cX7_rootDigit 52 = .ok (.iconst 0, 1) := by decide +kernel
theorem dX7_rootDigit_53 : decode cX7_rootDigit 53 = .ok (.ireturn, 1) := by decide +kernel
set_option maxRecDepth 20000 in
theorem ggX7_begin_X3_begin : GoodIn wsX7_begin wsX3_begin := goodIn_r _ [7, 8, 9, 10, 11, 6, 12, 13, 75, 76, 77] (by decide +kernel) (by decide +kernel)
set_option maxRecDepth 20000 in
theorem gX7_begin_X3_begin : GoodIn wsX7_begin (wsV RX7 28 RX3 yX3_begin wsX3_begin) := goodIn_app (goodIn_of _ (by decide +kernel)) ggX7_begin_X3_begin
set_option maxRecDepth 20000 in
theorem ggX7_begin_X7_held : GoodIn wsX7_begin wsX7_held := goodIn_r _ [18, 2, 73, 74] (by decide +kernel) (by decide +kernel)
set_option maxRecDepth 20000 in
theorem gX7_begin_X7_held : GoodIn wsX7_begin (wsV RX7 32 RX7 yX7_held wsX7_held) := goodIn_app (goodIn_of _ (by decide +kernel)) ggX7_begin_X7_held
set_option maxRecDepth 20000 in
theorem ggX7_begin_X3_go : GoodIn wsX7_begin wsX3_go := goodIn_r _ [22, 8, 23, 24, 25, 6, 26, 27, 28, 29, 30, 31, 32, 33, 34, 35, 36, 13, 37, 38, 39, 40, 41, 42, 43, 44, 45, 46, 47, 48, 49, 50, 51, 52, 53, 54, 55, 56, 57, 58, 59, 60, 61, 62, 63, 64, 65, 66, 67, 68, 69, 70, 71, 72, 9, 10, 11, 12, 75, 76, 77] (by decide +kernel) (by decide +kernel)
set_option maxRecDepth 20000 in
theorem gX7_begin_X3_go : GoodIn wsX7_begin (wsV RX7 40 RX3 yX3_go wsX3_go) := goodIn_app (goodIn_of _ (by decide +kernel)) ggX7_begin_X3_go
theorem dX7_begin_0 : decode cX7_begin 0 = .ok (.aload_n 0, 1) := by decide +kernel
theorem dX7_begin_1 : decode cX7_begin 1 = .ok (.getfield 18, 3) := by decide +kernel
theorem dX7_begin_4 : decode cX7_begin 4 = .ok (.aload_n 0, 1) := by decide +kernel
theorem dX7_begin_5 : decode cX7_begin 5 = .ok (.getfield 9, 3) := by decide +kernel
theorem dX7_begin_8 : decode cX7_begin 8 = .ok (.invokevirtual 28, 3) := by decide +kernel
theorem dX7_begin_11 : decode cX7_begin 11 = .ok (.aload_n 0, 1) := by decide +kernel
theorem dX7_begin_12 : decode cX7_begin 12 = .ok (.iload_n 1, 1) := by decide +kernel
theorem dX7_begin_13 : decode cX7_begin 13 = .ok (.invokevirtual 32, 3) := by decide +kernel
theorem dX7_begin_16 : decode cX7_begin 16 = .ok (.lconst 0, 1) := by decide +kernel
theorem dX7_begin_17 : decode cX7_begin 17 = .ok (.lcmp, 1) := by decide +kernel
theorem dX7_begin_18 : decode cX7_begin 18 = .ok (.ifCond .eq 18, 3) := by decide +kernel
theorem dX7_begin_21 : decode cX7_begin 21 = .ok (.aload_n 0, 1) := by decide +kernel
theorem dX7_begin_22 : decode cX7_begin 22 = .ok (.getfield 18, 3) := by decide +kernel
theorem dX7_begin_25 : decode cX7_begin 25 = .ok (.iconst 5, 1) := by decide +kernel
theorem dX7_begin_26 : decode cX7_begin 26 = .ok (.iload_n 1, 1) := by decide +kernel
theorem dX7_begin_27 : decode cX7_begin 27 = .ok (.iconst 0, 1) := by decide +kernel
theorem dX7_begin_28 : decode cX7_begin 28 = .ok (.iconst 0, 1) := by decide +kernel
theorem dX7_begin_29 : decode cX7_begin 29 = .ok (.bipush (-6), 2) := by decide +kernel
theorem dX7_begin_31 : decode cX7_begin 31 = .ok (.bipush (-6), 2) := by decide +kernel
theorem dX7_begin_33 : decode cX7_begin 33 = .ok (.invokevirtual 40, 3) := by decide +kernel
theorem dX7_begin_36 : decode cX7_begin 36 = .ok (.return_, 1) := by decide +kernel
set_option maxRecDepth 20000 in
theorem ggX7_latest_X3_steps : GoodIn wsX7_latest wsX3_steps := goodIn_r _ [6, 7, 15, 16, 17] (by decide +kernel) (by decide +kernel)
set_option maxRecDepth 20000 in
theorem gX7_latest_X3_steps : GoodIn wsX7_latest (wsV RX7 71 RX3 yX3_steps wsX3_steps) := goodIn_app (goodIn_of _ (by decide +kernel)) ggX7_latest_X3_steps
set_option maxRecDepth 20000 in
theorem ggX7_latest_X3_cell : GoodIn wsX7_latest wsX3_cell := goodIn_r _ [11, 12, 15, 16, 17] (by decide +kernel) (by decide +kernel)
set_option maxRecDepth 20000 in
theorem gX7_latest_X3_cell : GoodIn wsX7_latest (wsV RX7 74 RX3 yX3_cell wsX3_cell) := goodIn_app (goodIn_of _ (by decide +kernel)) ggX7_latest_X3_cell
theorem dX7_latest_0 : decode cX7_latest 0 = .ok (.aload_n 0, 1) := by decide +kernel
theorem dX7_latest_1 : decode cX7_latest 1 = .ok (.getfield 18, 3) := by decide +kernel
theorem dX7_latest_4 : decode cX7_latest 4 = .ok (.aload_n 0, 1) := by decide +kernel
theorem dX7_latest_5 : decode cX7_latest 5 = .ok (.getfield 18, 3) := by decide +kernel
theorem dX7_latest_8 : decode cX7_latest 8 = .ok (.invokevirtual 71, 3) := by decide +kernel
theorem dX7_latest_11 : decode cX7_latest 11 = .ok (.iload_n 1, 1) := by decide +kernel
theorem dX7_latest_12 : decode cX7_latest 12 = .ok (.invokevirtual 74, 3) := by decide +kernel
theorem dX7_latest_15 : decode cX7_latest 15 = .ok (.lreturn, 1) := by decide +kernel
set_option maxRecDepth 20000 in
theorem ggX7_end_X7_latest : GoodIn wsX7_end wsX7_latest := goodIn_r _ [7, 2, 8, 9, 10, 11, 12, 13, 14, 15, 16, 17, 18, 19, 20, 21, 22, 23] (by decide +kernel) (by decide +kernel)
set_option maxRecDepth 20000 in
theorem gX7_end_X7_latest : GoodIn wsX7_end (wsV RX7 51 RX7 yX7_latest wsX7_latest) := goodIn_app (goodIn_of _ (by decide +kernel)) ggX7_end_X7_latest
set_option maxRecDepth 20000 in
theorem ggX7_end_X3_steps : GoodIn wsX7_end wsX3_steps := goodIn_r _ [12, 13, 21, 22, 23] (by decide +kernel) (by decide +kernel)
set_option maxRecDepth 20000 in
theorem gX7_end_X3_steps : GoodIn wsX7_end (wsV RX7 71 RX3 yX3_steps wsX3_steps) := goodIn_app (goodIn_of _ (by decide +kernel)) ggX7_end_X3_steps
theorem dX7_end_0 : decode cX7_end 0 = .ok (.iconst 0, 1) := by decide +kernel
theorem dX7_end_1 : decode cX7_end 1 = .ok (.istore_n 1, 1) := by decide +kernel
theorem dX7_end_2 : decode cX7_end 2 = .ok (.iload_n 1, 1) := by decide +kernel
theorem dX7_end_3 : decode cX7_end 3 = .ok (.aload_n 0, 1) := by decide +kernel
theorem dX7_end_4 : decode cX7_end 4 = .ok (.getfield 9, 3) := by decide +kernel
theorem dX7_end_7 : decode cX7_end 7 = .ok (.arraylength, 1) := by decide +kernel
theorem dX7_end_8 : decode cX7_end 8 = .ok (.if_icmp .ge 20, 3) := by decide +kernel
theorem dX7_end_11 : decode cX7_end 11 = .ok (.aload_n 0, 1) := by decide +kernel
theorem dX7_end_12 : decode cX7_end 12 = .ok (.getfield 9, 3) := by decide +kernel
theorem dX7_end_15 : decode cX7_end 15 = .ok (.iload_n 1, 1) := by decide +kernel
theorem dX7_end_16 : decode cX7_end 16 = .ok (.aload_n 0, 1) := by decide +kernel
theorem dX7_end_17 : decode cX7_end 17 = .ok (.iload_n 1, 1) := by decide +kernel
theorem dX7_end_18 : decode cX7_end 18 = .ok (.invokevirtual 51, 3) := by decide +kernel
theorem dX7_end_21 : decode cX7_end 21 = .ok (.lastore, 1) := by decide +kernel
theorem dX7_end_22 : decode cX7_end 22 = .ok (.iinc 1 1, 3) := by decide +kernel
theorem dX7_end_25 : decode cX7_end 25 = .ok (.goto (-23), 3) := by decide +kernel
theorem dX7_end_28 : decode cX7_end 28 = .ok (.aload_n 0, 1) := by decide +kernel
theorem dX7_end_29 : decode cX7_end 29 = .ok (.getfield 18, 3) := by decide +kernel
theorem dX7_end_32 : decode cX7_end 32 = .ok (.invokevirtual 71, 3) := by decide +kernel
theorem dX7_end_35 : decode cX7_end 35 = .ok (.ireturn, 1) := by decide +kernel
set_option maxRecDepth 20000 in
theorem ggX8_init_X7_init : GoodIn wsX8_init wsX7_init := goodIn_r _ [25, 26, 2, 3, 27, 28, 29, 30, 31, 32, 33, 34, 35, 36, 37, 38, 69, 70, 92, 93, 94] (by decide +kernel) (by decide +kernel)
set_option maxRecDepth 20000 in
theorem gX8_init_X7_init_n9 : GoodIn wsX8_init (wsX7_init) := ggX8_init_X7_init
set_option maxRecDepth 20000 in
theorem ggX8_init_X6_init : GoodIn wsX8_init wsX6_init := goodIn_r _ [40, 41, 2, 3, 37, 42, 43, 44, 76, 77, 78, 79] (by decide +kernel) (by decide +kernel)
set_option maxRecDepth 20000 in
theorem gX8_init_X6_init_n18 : GoodIn wsX8_init (wsX6_init) := ggX8_init_X6_init
set_option maxRecDepth 20000 in
theorem ggX8_init_X1_init : GoodIn wsX8_init wsX1_init := goodIn_r _ [46, 47, 2, 3, 48, 30, 31, 49, 33, 34, 35, 27, 36, 37, 38, 92, 93, 94, 80] (by decide +kernel) (by decide +kernel)
set_option maxRecDepth 20000 in
theorem gX8_init_X1_init_n25 : GoodIn wsX8_init (wsX1_init) := ggX8_init_X1_init
set_option maxRecDepth 20000 in
theorem ggX8_init_X0_init : GoodIn wsX8_init wsX0_init := goodIn_r _ [51, 52, 2, 3, 37, 53, 27, 54, 55, 56, 57, 81, 82, 83, 84, 85, 86, 87, 88] (by decide +kernel) (by decide +kernel)
set_option maxRecDepth 20000 in
theorem gX8_init_X0_init_n32 : GoodIn wsX8_init (wsX0_init) := ggX8_init_X0_init
set_option maxRecDepth 20000 in
theorem ggX8_init_X2_init : GoodIn wsX8_init wsX2_init := goodIn_r _ [59, 60, 2, 3, 37, 61, 62, 89, 90, 91] (by decide +kernel) (by decide +kernel)
set_option maxRecDepth 20000 in
theorem gX8_init_X2_init_n39 : GoodIn wsX8_init (wsX2_init) := ggX8_init_X2_init
set_option maxRecDepth 20000 in
theorem ggX8_init_X0_begin : GoodIn wsX8_init wsX0_begin := goodIn_r _ [66, 67, 68, 53, 81, 82, 83, 84, 85, 86, 87, 88] (by decide +kernel) (by decide +kernel)
set_option maxRecDepth 20000 in
theorem gX8_init_X0_begin : GoodIn wsX8_init (wsV RX8 44 RX0 yX0_begin wsX0_begin) := goodIn_app (goodIn_of _ (by decide +kernel)) ggX8_init_X0_begin
theorem dX8_init_0 : decode cX8_init 0 = .ok (.aload_n 0, 1) := by decide +kernel
theorem dX8_init_1 : decode cX8_init 1 = .ok (.invokespecial 1, 3) := by decide +kernel
theorem dX8_init_4 : decode cX8_init 4 = .ok (.aload_n 0, 1) := by decide +kernel
theorem dX8_init_5 : decode cX8_init 5 = .ok (.new 7, 3) := by decide +kernel
theorem dX8_init_8 : decode cX8_init 8 = .ok (.dup, 1) := by decide +kernel
theorem dX8_init_9 : decode cX8_init 9 = .ok (.invokespecial 9, 3) := by decide +kernel
theorem dX8_init_12 : decode cX8_init 12 = .ok (.putfield 10, 3) := by decide +kernel
theorem dX8_init_15 : decode cX8_init 15 = .ok (.aload_n 0, 1) := by decide +kernel
theorem dX8_init_16 : decode cX8_init 16 = .ok (.new 16, 3) := by decide +kernel
theorem dX8_init_19 : decode cX8_init 19 = .ok (.dup, 1) := by decide +kernel
theorem dX8_init_20 : decode cX8_init 20 = .ok (.invokespecial 18, 3) := by decide +kernel
theorem dX8_init_23 : decode cX8_init 23 = .ok (.putfield 19, 3) := by decide +kernel
theorem dX8_init_26 : decode cX8_init 26 = .ok (.aload_n 0, 1) := by decide +kernel
theorem dX8_init_27 : decode cX8_init 27 = .ok (.new 23, 3) := by decide +kernel
theorem dX8_init_30 : decode cX8_init 30 = .ok (.dup, 1) := by decide +kernel
theorem dX8_init_31 : decode cX8_init 31 = .ok (.invokespecial 25, 3) := by decide +kernel
theorem dX8_init_34 : decode cX8_init 34 = .ok (.putfield 26, 3) := by decide +kernel
theorem dX8_init_37 : decode cX8_init 37 = .ok (.aload_n 0, 1) := by decide +kernel
theorem dX8_init_38 : decode cX8_init 38 = .ok (.new 30, 3) := by decide +kernel
theorem dX8_init_41 : decode cX8_init 41 = .ok (.dup, 1) := by decide +kernel
theorem dX8_init_42 : decode cX8_init 42 = .ok (.invokespecial 32, 3) := by decide +kernel
theorem dX8_init_45 : decode cX8_init 45 = .ok (.putfield 33, 3) := by decide +kernel
theorem dX8_init_48 : decode cX8_init 48 = .ok (.aload_n 0, 1) := by decide +kernel
theorem dX8_init_49 : decode cX8_init 49 = .ok (.new 37, 3) := by decide +kernel
theorem dX8_init_52 : decode cX8_init 52 = .ok (.dup, 1) := by decide +kernel
theorem dX8_init_53 : decode cX8_init 53 = .ok (.invokespecial 39, 3) := by decide +kernel
theorem dX8_init_56 : decode cX8_init 56 = .ok (.putfield 40, 3) := by decide +kernel
theorem dX8_init_59 : decode cX8_init 59 = .ok (.aload_n 0, 1) := by decide +kernel
theorem dX8_init_60 : decode cX8_init 60 = .ok (.getfield 33, 3) := by decide +kernel
theorem dX8_init_63 : decode cX8_init 63 = .ok (.iconst 1, 1) := by decide +kernel
theorem dX8_init_64 : decode cX8_init 64 = .ok (.iconst 1, 1) := by decide +kernel
theorem dX8_init_65 : decode cX8_init 65 = .ok (.invokevirtual 44, 3) := by decide +kernel
theorem dX8_init_68 : decode cX8_init 68 = .ok (.return_, 1) := by decide +kernel
set_option maxRecDepth 20000 in
theorem ggX8_lay_X8_isRow : GoodIn wsX8_lay wsX8_isRow := goodIn_r _ [5] (by decide +kernel) (by decide +kernel)
set_option maxRecDepth 20000 in
theorem gX8_lay_X8_isRow : GoodIn wsX8_lay (va_wsS RX8 48 yX8_isRow wsX8_isRow) := goodIn_app (goodIn_of _ (by decide +kernel)) ggX8_lay_X8_isRow
set_option maxRecDepth 20000 in
theorem ggX8_lay_X5_isBeyond : GoodIn wsX8_lay wsX5_isBeyond := goodIn_r _ [9, 10, 11] (by decide +kernel) (by decide +kernel)
set_option maxRecDepth 20000 in
theorem gX8_lay_X5_isBeyond : GoodIn wsX8_lay (va_wsS RX8 52 yX5_isBeyond wsX5_isBeyond) := goodIn_app (goodIn_of _ (by decide +kernel)) ggX8_lay_X5_isBeyond
set_option maxRecDepth 20000 in
theorem ggX8_lay_X7_hold : GoodIn wsX8_lay wsX7_hold := goodIn_r _ [16, 17, 26, 27] (by decide +kernel) (by decide +kernel)
set_option maxRecDepth 20000 in
theorem gX8_lay_X7_hold : GoodIn wsX8_lay (wsV RX8 58 RX7 yX7_hold wsX7_hold) := goodIn_app (goodIn_of _ (by decide +kernel)) ggX8_lay_X7_hold
set_option maxRecDepth 20000 in
theorem ggX8_lay_X5_colour : GoodIn wsX8_lay wsX5_colour := goodIn_r _ [20] (by decide +kernel) (by decide +kernel)
set_option maxRecDepth 20000 in
theorem gX8_lay_X5_colour : GoodIn wsX8_lay (va_wsS RX8 62 yX5_colour wsX5_colour) := goodIn_app (goodIn_of _ (by decide +kernel)) ggX8_lay_X5_colour
theorem dX8_lay_0 : decode cX8_lay 0 = .ok (.iload_n 1, 1) := by decide +kernel
theorem dX8_lay_1 : decode cX8_lay 1 = .ok (.invokestatic 48, 3) := by decide +kernel
theorem dX8_lay_4 : decode cX8_lay 4 = .ok (.ifCond .ne 5, 3) := by decide +kernel
theorem dX8_lay_7 : decode cX8_lay 7 = .ok (.iconst (-1), 1) := by decide +kernel
theorem dX8_lay_8 : decode cX8_lay 8 = .ok (.ireturn, 1) := by decide +kernel
theorem dX8_lay_9 : decode cX8_lay 9 = .ok (.lload_n 2, 1) := by decide +kernel
theorem dX8_lay_10 : decode cX8_lay 10 = .ok (.invokestatic 52, 3) := by decide +kernel
theorem dX8_lay_13 : decode cX8_lay 13 = .ok (.ifCond .eq 6, 3) := by decide +kernel
theorem dX8_lay_16 : decode cX8_lay 16 = .ok (.bipush (-2), 2) := by decide +kernel
theorem dX8_lay_18 : decode cX8_lay 18 = .ok (.ireturn, 1) := by decide +kernel
theorem dX8_lay_19 : decode cX8_lay 19 = .ok (.aload_n 0, 1) := by decide +kernel
theorem dX8_lay_20 : decode cX8_lay 20 = .ok (.getfield 10, 3) := by decide +kernel
theorem dX8_lay_23 : decode cX8_lay 23 = .ok (.iload_n 1, 1) := by decide +kernel
theorem dX8_lay_24 : decode cX8_lay 24 = .ok (.lload_n 2, 1) := by decide +kernel
theorem dX8_lay_25 : decode cX8_lay 25 = .ok (.invokevirtual 58, 3) := by decide +kernel
theorem dX8_lay_28 : decode cX8_lay 28 = .ok (.lload_n 2, 1) := by decide +kernel
theorem dX8_lay_29 : decode cX8_lay 29 = .ok (.invokestatic 62, 3) := by decide +kernel
theorem dX8_lay_32 : decode cX8_lay 32 = .ok (.ireturn, 1) := by decide +kernel
set_option maxRecDepth 20000 in
theorem ggX8_number_X8_isRow : GoodIn wsX8_number wsX8_isRow := goodIn_r _ [6] (by decide +kernel) (by decide +kernel)
set_option maxRecDepth 20000 in
theorem gX8_number_X8_isRow : GoodIn wsX8_number (va_wsS RX8 48 yX8_isRow wsX8_isRow) := goodIn_app (goodIn_of _ (by decide +kernel)) ggX8_number_X8_isRow
set_option maxRecDepth 20000 in
theorem ggX8_number_X7_held : GoodIn wsX8_number wsX7_held := goodIn_r _ [11, 12, 18, 19] (by decide +kernel) (by decide +kernel)
set_option maxRecDepth 20000 in
theorem gX8_number_X7_held : GoodIn wsX8_number (wsV RX8 66 RX7 yX7_held wsX7_held) := goodIn_app (goodIn_of _ (by decide +kernel)) ggX8_number_X7_held
theorem dX8_number_0 : decode cX8_number 0 = .ok (.iload_n 1, 1) := by decide +kernel
theorem dX8_number_1 : decode cX8_number 1 = .ok (.invokestatic 48, 3) := by decide +kernel
theorem dX8_number_4 : decode cX8_number 4 = .ok (.ifCond .eq 14, 3) := by decide +kernel
theorem dX8_number_7 : decode cX8_number 7 = .ok (.aload_n 0, 1) := by decide +kernel
theorem dX8_number_8 : decode cX8_number 8 = .ok (.getfield 10, 3) := by decide +kernel
theorem dX8_number_11 : decode cX8_number 11 = .ok (.iload_n 1, 1) := by decide +kernel
theorem dX8_number_12 : decode cX8_number 12 = .ok (.invokevirtual 66, 3) := by decide +kernel
theorem dX8_number_15 : decode cX8_number 15 = .ok (.goto 6, 3) := by decide +kernel
theorem dX8_number_18 : decode cX8_number 18 = .ok (.ldc2_w 70, 3) := by decide +kernel
theorem dX8_number_21 : decode cX8_number 21 = .ok (.lreturn, 1) := by decide +kernel
set_option maxRecDepth 20000 in
theorem ggX8_sticks_X8_isRow : GoodIn wsX8_sticks wsX8_isRow := goodIn_r _ [5] (by decide +kernel) (by decide +kernel)
set_option maxRecDepth 20000 in
theorem gX8_sticks_X8_isRow : GoodIn wsX8_sticks (va_wsS RX8 48 yX8_isRow wsX8_isRow) := goodIn_app (goodIn_of _ (by decide +kernel)) ggX8_sticks_X8_isRow
set_option maxRecDepth 20000 in
theorem ggX8_sticks_X7_held : GoodIn wsX8_sticks wsX7_held := goodIn_r _ [10, 11, 33, 34] (by decide +kernel) (by decide +kernel)
set_option maxRecDepth 20000 in
theorem gX8_sticks_X7_held : GoodIn wsX8_sticks (wsV RX8 66 RX7 yX7_held wsX7_held) := goodIn_app (goodIn_of _ (by decide +kernel)) ggX8_sticks_X7_held
set_option maxRecDepth 20000 in
theorem ggX8_sticks_X5_digit : GoodIn wsX8_sticks wsX5_digit := goodIn_r _ [15, 16, 17, 18, 19, 20, 21, 22, 14, 23, 24] (by decide +kernel) (by decide +kernel)
set_option maxRecDepth 20000 in
theorem gX8_sticks_X5_digit : GoodIn wsX8_sticks (va_wsS RX8 72 yX5_digit wsX5_digit) := goodIn_app (goodIn_of _ (by decide +kernel)) ggX8_sticks_X5_digit
set_option maxRecDepth 20000 in
theorem ggX8_sticks_X5_way : GoodIn wsX8_sticks wsX5_way := goodIn_r _ [27] (by decide +kernel) (by decide +kernel)
set_option maxRecDepth 20000 in
theorem gX8_sticks_X5_way : GoodIn wsX8_sticks (va_wsS RX8 76 yX5_way wsX5_way) := goodIn_app (goodIn_of _ (by decide +kernel)) ggX8_sticks_X5_way
theorem dX8_sticks_0 : decode cX8_sticks 0 = .ok (.iload_n 1, 1) := by decide +kernel
theorem dX8_sticks_1 : decode cX8_sticks 1 = .ok (.invokestatic 48, 3) := by decide +kernel
theorem dX8_sticks_4 : decode cX8_sticks 4 = .ok (.ifCond .eq 13, 3) := by decide +kernel
theorem dX8_sticks_7 : decode cX8_sticks 7 = .ok (.iload_n 2, 1) := by decide +kernel
theorem dX8_sticks_8 : decode cX8_sticks 8 = .ok (.ifCond .lt 9, 3) := by decide +kernel
theorem dX8_sticks_11 : decode cX8_sticks 11 = .ok (.iload_n 2, 1) := by decide +kernel
theorem dX8_sticks_12 : decode cX8_sticks 12 = .ok (.bipush 12, 2) := by decide +kernel
theorem dX8_sticks_14 : decode cX8_sticks 14 = .ok (.if_icmp .lt 5, 3) := by decide +kernel
theorem dX8_sticks_17 : decode cX8_sticks 17 = .ok (.iconst (-1), 1) := by decide +kernel
theorem dX8_sticks_18 : decode cX8_sticks 18 = .ok (.ireturn, 1) := by decide +kernel
theorem dX8_sticks_19 : decode cX8_sticks 19 = .ok (.aload_n 0, 1) := by decide +kernel
theorem dX8_sticks_20 : decode cX8_sticks 20 = .ok (.getfield 10, 3) := by decide +kernel
theorem dX8_sticks_23 : decode cX8_sticks 23 = .ok (.iload_n 1, 1) := by decide +kernel
theorem dX8_sticks_24 : decode cX8_sticks 24 = .ok (.invokevirtual 66, 3) := by decide +kernel
theorem dX8_sticks_27 : decode cX8_sticks 27 = .ok (.iload_n 2, 1) := by decide +kernel
theorem dX8_sticks_28 : decode cX8_sticks 28 = .ok (.invokestatic 72, 3) := by decide +kernel
theorem dX8_sticks_31 : decode cX8_sticks 31 = .ok (.istore_n 3, 1) := by decide +kernel
theorem dX8_sticks_32 : decode cX8_sticks 32 = .ok (.iload_n 3, 1) := by decide +kernel
theorem dX8_sticks_33 : decode cX8_sticks 33 = .ok (.ifCond .ne 7, 3) := by decide +kernel
theorem dX8_sticks_36 : decode cX8_sticks 36 = .ok (.iconst 0, 1) := by decide +kernel
theorem dX8_sticks_37 : decode cX8_sticks 37 = .ok (.goto 12, 3) := by decide +kernel
theorem dX8_sticks_40 : decode cX8_sticks 40 = .ok (.bipush 10, 2) := by decide +kernel
theorem dX8_sticks_42 : decode cX8_sticks 42 = .ok (.iload_n 2, 1) := by decide +kernel
theorem dX8_sticks_43 : decode cX8_sticks 43 = .ok (.invokestatic 76, 3) := by decide +kernel
theorem dX8_sticks_46 : decode cX8_sticks 46 = .ok (.imul, 1) := by decide +kernel
theorem dX8_sticks_47 : decode cX8_sticks 47 = .ok (.iload_n 3, 1) := by decide +kernel
theorem dX8_sticks_48 : decode cX8_sticks 48 = .ok (.iadd, 1) := by decide +kernel
theorem dX8_sticks_49 : decode cX8_sticks 49 = .ok (.ireturn, 1) := by decide +kernel
set_option maxRecDepth 20000 in
theorem ggX8_about_X8_isRow : GoodIn wsX8_about wsX8_isRow := goodIn_r _ [5] (by decide +kernel) (by decide +kernel)
set_option maxRecDepth 20000 in
theorem gX8_about_X8_isRow : GoodIn wsX8_about (va_wsS RX8 48 yX8_isRow wsX8_isRow) := goodIn_app (goodIn_of _ (by decide +kernel)) ggX8_about_X8_isRow
set_option maxRecDepth 20000 in
theorem ggX8_about_X7_held : GoodIn wsX8_about wsX7_held := goodIn_r _ [10, 11, 43, 44] (by decide +kernel) (by decide +kernel)
set_option maxRecDepth 20000 in
theorem gX8_about_X7_held : GoodIn wsX8_about (wsV RX8 66 RX7 yX7_held wsX7_held) := goodIn_app (goodIn_of _ (by decide +kernel)) ggX8_about_X7_held
set_option maxRecDepth 20000 in
theorem ggX8_about_X5_colour : GoodIn wsX8_about wsX5_colour := goodIn_r _ [15] (by decide +kernel) (by decide +kernel)
set_option maxRecDepth 20000 in
theorem gX8_about_X5_colour : GoodIn wsX8_about (va_wsS RX8 62 yX5_colour wsX5_colour) := goodIn_app (goodIn_of _ (by decide +kernel)) ggX8_about_X5_colour
set_option maxRecDepth 20000 in
theorem ggX8_about_X5_allSticks : GoodIn wsX8_about wsX5_allSticks := goodIn_r _ [18, 19, 20, 14, 21, 22, 23, 24, 25, 26, 27, 28, 29, 30] (by decide +kernel) (by decide +kernel)
set_option maxRecDepth 20000 in
theorem gX8_about_X5_allSticks : GoodIn wsX8_about (va_wsS RX8 80 yX5_allSticks wsX5_allSticks) := goodIn_app (goodIn_of _ (by decide +kernel)) ggX8_about_X5_allSticks
set_option maxRecDepth 20000 in
theorem ggX8_about_X5_highestPlace : GoodIn wsX8_about wsX5_highestPlace := goodIn_r _ [33, 19, 20, 14, 21, 22, 23, 24, 25, 26, 27, 28, 29, 30] (by decide +kernel) (by decide +kernel)
set_option maxRecDepth 20000 in
theorem gX8_about_X5_highestPlace : GoodIn wsX8_about (va_wsS RX8 83 yX5_highestPlace wsX5_highestPlace) := goodIn_app (goodIn_of _ (by decide +kernel)) ggX8_about_X5_highestPlace
set_option maxRecDepth 20000 in
theorem ggX8_about_X5_emptyPlaces : GoodIn wsX8_about wsX5_emptyPlaces := goodIn_r _ [36, 37, 32, 14, 33, 19, 20, 21, 22, 23, 24, 25, 26, 27, 28, 29, 30] (by decide +kernel) (by decide +kernel)
set_option maxRecDepth 20000 in
theorem gX8_about_X5_emptyPlaces : GoodIn wsX8_about (va_wsS RX8 86 yX5_emptyPlaces wsX5_emptyPlaces) := goodIn_app (goodIn_of _ (by decide +kernel)) ggX8_about_X5_emptyPlaces
theorem dX8_about_0 : decode cX8_about 0 = .ok (.iload_n 1, 1) := by decide +kernel
theorem dX8_about_1 : decode cX8_about 1 = .ok (.invokestatic 48, 3) := by decide +kernel
theorem dX8_about_4 : decode cX8_about 4 = .ok (.ifCond .ne 5, 3) := by decide +kernel
theorem dX8_about_7 : decode cX8_about 7 = .ok (.iconst (-1), 1) := by decide +kernel
theorem dX8_about_8 : decode cX8_about 8 = .ok (.ireturn, 1) := by decide +kernel
theorem dX8_about_9 : decode cX8_about 9 = .ok (.aload_n 0, 1) := by decide +kernel
theorem dX8_about_10 : decode cX8_about 10 = .ok (.getfield 10, 3) := by decide +kernel
theorem dX8_about_13 : decode cX8_about 13 = .ok (.iload_n 1, 1) := by decide +kernel
theorem dX8_about_14 : decode cX8_about 14 = .ok (.invokevirtual 66, 3) := by decide +kernel
theorem dX8_about_17 : decode cX8_about 17 = .ok (.lstore_n 3, 1) := by decide +kernel
theorem dX8_about_18 : decode cX8_about 18 = .ok (.iload_n 2, 1) := by decide +kernel
theorem dX8_about_19 : decode cX8_about 19 = .ok (.tableswitch 49 0 3 #[29, 34, 39, 44], 29) := by decide +kernel
theorem dX8_about_48 : decode cX8_about 48 = .ok (.lload_n 3, 1) := by decide +kernel
theorem dX8_about_49 : decode cX8_about 49 = .ok (.invokestatic 62, 3) := by decide +kernel
theorem dX8_about_52 : decode cX8_about 52 = .ok (.ireturn, 1) := by decide +kernel
theorem dX8_about_53 : decode cX8_about 53 = .ok (.lload_n 3, 1) := by decide +kernel
theorem dX8_about_54 : decode cX8_about 54 = .ok (.invokestatic 80, 3) := by decide +kernel
theorem dX8_about_57 : decode cX8_about 57 = .ok (.ireturn, 1) := by decide +kernel
theorem dX8_about_58 : decode cX8_about 58 = .ok (.lload_n 3, 1) := by decide +kernel
theorem dX8_about_59 : decode cX8_about 59 = .ok (.invokestatic 83, 3) := by decide +kernel
theorem dX8_about_62 : decode cX8_about 62 = .ok (.ireturn, 1) := by decide +kernel
theorem dX8_about_63 : decode cX8_about 63 = .ok (.lload_n 3, 1) := by decide +kernel
theorem dX8_about_64 : decode cX8_about 64 = .ok (.invokestatic 86, 3) := by decide +kernel
theorem dX8_about_67 : decode cX8_about 67 = .ok (.ireturn, 1) := by decide +kernel
theorem dX8_about_68 : decode cX8_about 68 = .ok (.bipush (-2), 2) := by decide +kernel
theorem dX8_about_70 : decode cX8_about 70 = .ok (.ireturn, 1) := by decide +kernel
set_option maxRecDepth 20000 in
theorem ggX8_group_X6_size : GoodIn wsX8_group wsX6_size := goodIn_r _ [6, 7, 19, 20, 21, 22] (by decide +kernel) (by decide +kernel)
set_option maxRecDepth 20000 in
theorem gX8_group_X6_size : GoodIn wsX8_group (wsV RX8 89 RX6 yX6_size wsX6_size) := goodIn_app (goodIn_of _ (by decide +kernel)) ggX8_group_X6_size
set_option maxRecDepth 20000 in
theorem ggX8_group_X6_append : GoodIn wsX8_group wsX6_append := goodIn_r _ [11, 7, 12, 13, 19, 20, 21, 22] (by decide +kernel) (by decide +kernel)
set_option maxRecDepth 20000 in
theorem gX8_group_X6_append : GoodIn wsX8_group (wsV RX8 93 RX6 yX6_append wsX6_append) := goodIn_app (goodIn_of _ (by decide +kernel)) ggX8_group_X6_append
theorem dX8_group_0 : decode cX8_group 0 = .ok (.iload_n 1, 1) := by decide +kernel
theorem dX8_group_1 : decode cX8_group 1 = .ok (.iconst 1, 1) := by decide +kernel
theorem dX8_group_2 : decode cX8_group 2 = .ok (.if_icmp .lt 18, 3) := by decide +kernel
theorem dX8_group_5 : decode cX8_group 5 = .ok (.iload_n 1, 1) := by decide +kernel
theorem dX8_group_6 : decode cX8_group 6 = .ok (.bipush 9, 2) := by decide +kernel
theorem dX8_group_8 : decode cX8_group 8 = .ok (.if_icmp .gt 12, 3) := by decide +kernel
theorem dX8_group_11 : decode cX8_group 11 = .ok (.iload_n 2, 1) := by decide +kernel
theorem dX8_group_12 : decode cX8_group 12 = .ok (.ifCond .lt 8, 3) := by decide +kernel
theorem dX8_group_15 : decode cX8_group 15 = .ok (.iload_n 2, 1) := by decide +kernel
theorem dX8_group_16 : decode cX8_group 16 = .ok (.iconst 1, 1) := by decide +kernel
theorem dX8_group_17 : decode cX8_group 17 = .ok (.if_icmp .le 6, 3) := by decide +kernel
theorem dX8_group_20 : decode cX8_group 20 = .ok (.bipush (-2), 2) := by decide +kernel
theorem dX8_group_22 : decode cX8_group 22 = .ok (.ireturn, 1) := by decide +kernel
theorem dX8_group_23 : decode cX8_group 23 = .ok (.aload_n 0, 1) := by decide +kernel
theorem dX8_group_24 : decode cX8_group 24 = .ok (.getfield 19, 3) := by decide +kernel
theorem dX8_group_27 : decode cX8_group 27 = .ok (.invokevirtual 89, 3) := by decide +kernel
theorem dX8_group_30 : decode cX8_group 30 = .ok (.bipush 12, 2) := by decide +kernel
theorem dX8_group_32 : decode cX8_group 32 = .ok (.if_icmp .lt 6, 3) := by decide +kernel
theorem dX8_group_35 : decode cX8_group 35 = .ok (.bipush (-4), 2) := by decide +kernel
theorem dX8_group_37 : decode cX8_group 37 = .ok (.ireturn, 1) := by decide +kernel
theorem dX8_group_38 : decode cX8_group 38 = .ok (.aload_n 0, 1) := by decide +kernel
theorem dX8_group_39 : decode cX8_group 39 = .ok (.getfield 19, 3) := by decide +kernel
theorem dX8_group_42 : decode cX8_group 42 = .ok (.iload_n 1, 1) := by decide +kernel
theorem dX8_group_43 : decode cX8_group 43 = .ok (.iload_n 2, 1) := by decide +kernel
theorem dX8_group_44 : decode cX8_group 44 = .ok (.invokevirtual 93, 3) := by decide +kernel
theorem dX8_group_47 : decode cX8_group 47 = .ok (.aload_n 0, 1) := by decide +kernel
theorem dX8_group_48 : decode cX8_group 48 = .ok (.getfield 19, 3) := by decide +kernel
theorem dX8_group_51 : decode cX8_group 51 = .ok (.invokevirtual 89, 3) := by decide +kernel
theorem dX8_group_54 : decode cX8_group 54 = .ok (.ireturn, 1) := by decide +kernel
set_option maxRecDepth 20000 in
theorem ggX8_strip_X8_isRow : GoodIn wsX8_strip wsX8_isRow := goodIn_r _ [6] (by decide +kernel) (by decide +kernel)
set_option maxRecDepth 20000 in
theorem gX8_strip_X8_isRow : GoodIn wsX8_strip (va_wsS RX8 48 yX8_isRow wsX8_isRow) := goodIn_app (goodIn_of _ (by decide +kernel)) ggX8_strip_X8_isRow
set_option maxRecDepth 20000 in
theorem ggX8_strip_X7_held : GoodIn wsX8_strip wsX7_held := goodIn_r _ [11, 12, 54, 55] (by decide +kernel) (by decide +kernel)
set_option maxRecDepth 20000 in
theorem gX8_strip_X7_held : GoodIn wsX8_strip (wsV RX8 66 RX7 yX7_held wsX7_held) := goodIn_app (goodIn_of _ (by decide +kernel)) ggX8_strip_X7_held
set_option maxRecDepth 20000 in
theorem ggX8_strip_X6_show : GoodIn wsX8_strip wsX6_show := goodIn_r _ [17, 18, 19, 20, 16, 21, 22, 23, 24, 25, 26, 27, 28, 29, 30, 31, 32, 33, 34, 35, 36, 37, 38, 39, 40, 41, 42, 43, 44, 56, 57, 58, 59] (by decide +kernel) (by decide +kernel)
set_option maxRecDepth 20000 in
theorem gX8_strip_X6_show : GoodIn wsX8_strip (wsV RX8 96 RX6 yX6_show wsX6_show) := goodIn_app (goodIn_of _ (by decide +kernel)) ggX8_strip_X6_show
set_option maxRecDepth 20000 in
theorem ggX8_strip_X6_size : GoodIn wsX8_strip wsX6_size := goodIn_r _ [48, 22, 56, 57, 58, 59] (by decide +kernel) (by decide +kernel)
set_option maxRecDepth 20000 in
theorem gX8_strip_X6_size : GoodIn wsX8_strip (wsV RX8 89 RX6 yX6_size wsX6_size) := goodIn_app (goodIn_of _ (by decide +kernel)) ggX8_strip_X6_size
theorem dX8_strip_0 : decode cX8_strip 0 = .ok (.iload_n 1, 1) := by decide +kernel
theorem dX8_strip_1 : decode cX8_strip 1 = .ok (.invokestatic 48, 3) := by decide +kernel
theorem dX8_strip_4 : decode cX8_strip 4 = .ok (.ifCond .ne 5, 3) := by decide +kernel
theorem dX8_strip_7 : decode cX8_strip 7 = .ok (.iconst (-1), 1) := by decide +kernel
theorem dX8_strip_8 : decode cX8_strip 8 = .ok (.ireturn, 1) := by decide +kernel
theorem dX8_strip_9 : decode cX8_strip 9 = .ok (.aload_n 0, 1) := by decide +kernel
theorem dX8_strip_10 : decode cX8_strip 10 = .ok (.getfield 19, 3) := by decide +kernel
theorem dX8_strip_13 : decode cX8_strip 13 = .ok (.aload_n 0, 1) := by decide +kernel
theorem dX8_strip_14 : decode cX8_strip 14 = .ok (.getfield 10, 3) := by decide +kernel
theorem dX8_strip_17 : decode cX8_strip 17 = .ok (.iload_n 1, 1) := by decide +kernel
theorem dX8_strip_18 : decode cX8_strip 18 = .ok (.invokevirtual 66, 3) := by decide +kernel
theorem dX8_strip_21 : decode cX8_strip 21 = .ok (.invokevirtual 96, 3) := by decide +kernel
theorem dX8_strip_24 : decode cX8_strip 24 = .ok (.aload_n 0, 1) := by decide +kernel
theorem dX8_strip_25 : decode cX8_strip 25 = .ok (.getfield 19, 3) := by decide +kernel
theorem dX8_strip_28 : decode cX8_strip 28 = .ok (.invokevirtual 89, 3) := by decide +kernel
theorem dX8_strip_31 : decode cX8_strip 31 = .ok (.ireturn, 1) := by decide +kernel
set_option maxRecDepth 20000 in
theorem ggX8_wipe_X6_size : GoodIn wsX8_wipe wsX6_size := goodIn_r _ [6, 7, 17, 18, 19, 20] (by decide +kernel) (by decide +kernel)
set_option maxRecDepth 20000 in
theorem gX8_wipe_X6_size : GoodIn wsX8_wipe (wsV RX8 89 RX6 yX6_size wsX6_size) := goodIn_app (goodIn_of _ (by decide +kernel)) ggX8_wipe_X6_size
set_option maxRecDepth 20000 in
theorem ggX8_wipe_X6_clear : GoodIn wsX8_wipe wsX6_clear := goodIn_r _ [11, 7, 17, 18, 19, 20] (by decide +kernel) (by decide +kernel)
set_option maxRecDepth 20000 in
theorem gX8_wipe_X6_clear : GoodIn wsX8_wipe (wsV RX8 100 RX6 yX6_clear wsX6_clear) := goodIn_app (goodIn_of _ (by decide +kernel)) ggX8_wipe_X6_clear
theorem dX8_wipe_0 : decode cX8_wipe 0 = .ok (.aload_n 0, 1) := by decide +kernel
theorem dX8_wipe_1 : decode cX8_wipe 1 = .ok (.getfield 19, 3) := by decide +kernel
theorem dX8_wipe_4 : decode cX8_wipe 4 = .ok (.invokevirtual 89, 3) := by decide +kernel
theorem dX8_wipe_7 : decode cX8_wipe 7 = .ok (.istore_n 1, 1) := by decide +kernel
theorem dX8_wipe_8 : decode cX8_wipe 8 = .ok (.aload_n 0, 1) := by decide +kernel
theorem dX8_wipe_9 : decode cX8_wipe 9 = .ok (.getfield 19, 3) := by decide +kernel
theorem dX8_wipe_12 : decode cX8_wipe 12 = .ok (.invokevirtual 100, 3) := by decide +kernel
theorem dX8_wipe_15 : decode cX8_wipe 15 = .ok (.iload_n 1, 1) := by decide +kernel
theorem dX8_wipe_16 : decode cX8_wipe 16 = .ok (.ireturn, 1) := by decide +kernel
set_option maxRecDepth 20000 in
theorem ggX8_readings_X6_countReadings : GoodIn wsX8_readings wsX6_countReadings := goodIn_r _ [6, 7, 8, 9, 10, 5, 11, 12, 13, 14, 15, 16, 17, 18, 19, 20, 21, 22, 23, 24, 25, 31, 32, 33, 34] (by decide +kernel) (by decide +kernel)
set_option maxRecDepth 20000 in
theorem gX8_readings_X6_countReadings : GoodIn wsX8_readings (wsV RX8 103 RX6 yX6_countReadings wsX6_countReadings) := goodIn_app (goodIn_of _ (by decide +kernel)) ggX8_readings_X6_countReadings
theorem dX8_readings_0 : decode cX8_readings 0 = .ok (.aload_n 0, 1) := by decide +kernel
theorem dX8_readings_1 : decode cX8_readings 1 = .ok (.getfield 19, 3) := by decide +kernel
theorem dX8_readings_4 : decode cX8_readings 4 = .ok (.invokevirtual 103, 3) := by decide +kernel
theorem dX8_readings_7 : decode cX8_readings 7 = .ok (.ireturn, 1) := by decide +kernel
set_option maxRecDepth 20000 in
theorem ggX8_reading_X6_findReading : GoodIn wsX8_reading wsX6_findReading := goodIn_r _ [6, 7, 8, 9, 10, 11, 12, 5, 13, 14, 15, 16, 17, 18, 19, 20, 21, 22, 23, 24, 25, 26, 27, 28, 29, 30, 31, 32, 33, 34, 35, 41, 42, 43, 44] (by decide +kernel) (by decide +kernel)
set_option maxRecDepth 20000 in
theorem gX8_reading_X6_findReading : GoodIn wsX8_reading (wsV RX8 106 RX6 yX6_findReading wsX6_findReading) := goodIn_app (goodIn_of _ (by decide +kernel)) ggX8_reading_X6_findReading
theorem dX8_reading_0 : decode cX8_reading 0 = .ok (.aload_n 0, 1) := by decide +kernel
theorem dX8_reading_1 : decode cX8_reading 1 = .ok (.getfield 19, 3) := by decide +kernel
theorem dX8_reading_4 : decode cX8_reading 4 = .ok (.iload_n 1, 1) := by decide +kernel
theorem dX8_reading_5 : decode cX8_reading 5 = .ok (.invokevirtual 106, 3) := by decide +kernel
theorem dX8_reading_8 : decode cX8_reading 8 = .ok (.lreturn, 1) := by decide +kernel
set_option maxRecDepth 20000 in
theorem ggX8_add_X8_isRow : GoodIn wsX8_add wsX8_isRow := goodIn_r _ [6] (by decide +kernel) (by decide +kernel)
set_option maxRecDepth 20000 in
theorem gX8_add_X8_isRow : GoodIn wsX8_add (va_wsS RX8 48 yX8_isRow wsX8_isRow) := goodIn_app (goodIn_of _ (by decide +kernel)) ggX8_add_X8_isRow
set_option maxRecDepth 20000 in
theorem ggX8_add_X7_held : GoodIn wsX8_add wsX7_held := goodIn_r _ [11, 12, 118, 119] (by decide +kernel) (by decide +kernel)
set_option maxRecDepth 20000 in
theorem gX8_add_X7_held : GoodIn wsX8_add (wsV RX8 66 RX7 yX7_held wsX7_held) := goodIn_app (goodIn_of _ (by decide +kernel)) ggX8_add_X7_held
set_option maxRecDepth 20000 in
theorem ggX8_add_X5_isBeyond : GoodIn wsX8_add wsX5_isBeyond := goodIn_r _ [16, 17, 18] (by decide +kernel) (by decide +kernel)
set_option maxRecDepth 20000 in
theorem gX8_add_X5_isBeyond : GoodIn wsX8_add (va_wsS RX8 52 yX5_isBeyond wsX5_isBeyond) := goodIn_app (goodIn_of _ (by decide +kernel)) ggX8_add_X5_isBeyond
set_option maxRecDepth 20000 in
theorem ggX8_add_X1_forget : GoodIn wsX8_add wsX1_forget := goodIn_r _ [23, 24, 25, 26, 27, 28, 29, 30, 120, 121, 122, 123] (by decide +kernel) (by decide +kernel)
set_option maxRecDepth 20000 in
theorem gX8_add_X1_forget : GoodIn wsX8_add (wsV RX8 109 RX1 yX1_forget wsX1_forget) := goodIn_app (goodIn_of _ (by decide +kernel)) ggX8_add_X1_forget
set_option maxRecDepth 20000 in
theorem ggX8_add_X7_addRows : GoodIn wsX8_add wsX7_addRows := goodIn_r _ [34, 35, 12, 36, 37, 38, 28, 39, 30, 40, 41, 42, 43, 44, 45, 8, 9, 10, 11, 46, 47, 15, 48, 49, 50, 51, 52, 53, 54, 55, 56, 57, 58, 59, 60, 61, 62, 63, 64, 65, 66, 67, 68, 69, 70, 71, 72, 73, 74, 75, 76, 77, 78, 79, 80, 81, 82, 83, 84, 85, 86, 87, 88, 89, 90, 91, 92, 93, 94, 95, 96, 97, 98, 99, 14, 16, 17, 18, 100, 101, 102, 103, 104, 105, 106, 107, 108, 109, 110, 111, 112, 118, 119, 121, 122, 123] (by decide +kernel) (by decide +kernel)
set_option maxRecDepth 20000 in
theorem gX8_add_X7_addRows : GoodIn wsX8_add (wsV RX8 112 RX7 yX7_addRows wsX7_addRows) := goodIn_app (goodIn_of _ (by decide +kernel)) ggX8_add_X7_addRows
theorem dX8_add_0 : decode cX8_add 0 = .ok (.iload_n 1, 1) := by decide +kernel
theorem dX8_add_1 : decode cX8_add 1 = .ok (.invokestatic 48, 3) := by decide +kernel
theorem dX8_add_4 : decode cX8_add 4 = .ok (.ifCond .eq 10, 3) := by decide +kernel
theorem dX8_add_7 : decode cX8_add 7 = .ok (.iload_n 2, 1) := by decide +kernel
theorem dX8_add_8 : decode cX8_add 8 = .ok (.invokestatic 48, 3) := by decide +kernel
theorem dX8_add_11 : decode cX8_add 11 = .ok (.ifCond .ne 5, 3) := by decide +kernel
theorem dX8_add_14 : decode cX8_add 14 = .ok (.iconst (-1), 1) := by decide +kernel
theorem dX8_add_15 : decode cX8_add 15 = .ok (.ireturn, 1) := by decide +kernel
theorem dX8_add_16 : decode cX8_add 16 = .ok (.aload_n 0, 1) := by decide +kernel
theorem dX8_add_17 : decode cX8_add 17 = .ok (.getfield 10, 3) := by decide +kernel
theorem dX8_add_20 : decode cX8_add 20 = .ok (.iload_n 1, 1) := by decide +kernel
theorem dX8_add_21 : decode cX8_add 21 = .ok (.invokevirtual 66, 3) := by decide +kernel
theorem dX8_add_24 : decode cX8_add 24 = .ok (.aload_n 0, 1) := by decide +kernel
theorem dX8_add_25 : decode cX8_add 25 = .ok (.getfield 10, 3) := by decide +kernel
theorem dX8_add_28 : decode cX8_add 28 = .ok (.iload_n 2, 1) := by decide +kernel
theorem dX8_add_29 : decode cX8_add 29 = .ok (.invokevirtual 66, 3) := by decide +kernel
theorem dX8_add_32 : decode cX8_add 32 = .ok (.ladd, 1) := by decide +kernel
theorem dX8_add_33 : decode cX8_add 33 = .ok (.invokestatic 52, 3) := by decide +kernel
theorem dX8_add_36 : decode cX8_add 36 = .ok (.ifCond .eq 6, 3) := by decide +kernel
theorem dX8_add_39 : decode cX8_add 39 = .ok (.bipush (-4), 2) := by decide +kernel
theorem dX8_add_41 : decode cX8_add 41 = .ok (.ireturn, 1) := by decide +kernel
theorem dX8_add_42 : decode cX8_add 42 = .ok (.aload_n 0, 1) := by decide +kernel
theorem dX8_add_43 : decode cX8_add 43 = .ok (.getfield 26, 3) := by decide +kernel
theorem dX8_add_46 : decode cX8_add 46 = .ok (.invokevirtual 109, 3) := by decide +kernel
theorem dX8_add_49 : decode cX8_add 49 = .ok (.aload_n 0, 1) := by decide +kernel
theorem dX8_add_50 : decode cX8_add 50 = .ok (.getfield 10, 3) := by decide +kernel
theorem dX8_add_53 : decode cX8_add 53 = .ok (.iload_n 1, 1) := by decide +kernel
theorem dX8_add_54 : decode cX8_add 54 = .ok (.iload_n 2, 1) := by decide +kernel
theorem dX8_add_55 : decode cX8_add 55 = .ok (.invokevirtual 112, 3) := by decide +kernel
theorem dX8_add_58 : decode cX8_add 58 = .ok (.ireturn, 1) := by decide +kernel
set_option maxRecDepth 20000 in
theorem ggX8_times_X8_isRow : GoodIn wsX8_times wsX8_isRow := goodIn_r _ [7] (by decide +kernel) (by decide +kernel)
set_option maxRecDepth 20000 in
theorem gX8_times_X8_isRow : GoodIn wsX8_times (va_wsS RX8 48 yX8_isRow wsX8_isRow) := goodIn_app (goodIn_of _ (by decide +kernel)) ggX8_times_X8_isRow
set_option maxRecDepth 20000 in
theorem ggX8_times_X7_held : GoodIn wsX8_times wsX7_held := goodIn_r _ [12, 13, 123, 124] (by decide +kernel) (by decide +kernel)
set_option maxRecDepth 20000 in
theorem gX8_times_X7_held : GoodIn wsX8_times (wsV RX8 66 RX7 yX7_held wsX7_held) := goodIn_app (goodIn_of _ (by decide +kernel)) ggX8_times_X7_held
set_option maxRecDepth 20000 in
theorem ggX8_times_X5_product : GoodIn wsX8_times wsX5_product := goodIn_r _ [17, 18, 19, 20, 21, 22, 23] (by decide +kernel) (by decide +kernel)
set_option maxRecDepth 20000 in
theorem gX8_times_X5_product : GoodIn wsX8_times (va_wsS RX8 116 yX5_product wsX5_product) := goodIn_app (goodIn_of _ (by decide +kernel)) ggX8_times_X5_product
set_option maxRecDepth 20000 in
theorem ggX8_times_X1_forget : GoodIn wsX8_times wsX1_forget := goodIn_r _ [28, 29, 30, 31, 32, 33, 34, 35, 125, 126, 127, 128] (by decide +kernel) (by decide +kernel)
set_option maxRecDepth 20000 in
theorem gX8_times_X1_forget : GoodIn wsX8_times (wsV RX8 109 RX1 yX1_forget wsX1_forget) := goodIn_app (goodIn_of _ (by decide +kernel)) ggX8_times_X1_forget
set_option maxRecDepth 20000 in
theorem ggX8_times_X7_multiplyRows : GoodIn wsX8_times wsX7_multiplyRows := goodIn_r _ [39, 40, 41, 42, 43, 11, 44, 13, 45, 46, 47, 33, 48, 35, 49, 50, 51, 52, 53, 54, 9, 10, 12, 55, 56, 57, 58, 59, 60, 61, 62, 63, 64, 65, 66, 67, 68, 69, 70, 71, 72, 73, 74, 75, 76, 77, 78, 16, 79, 80, 81, 82, 83, 84, 85, 86, 87, 88, 89, 15, 17, 18, 19, 20, 21, 22, 23, 90, 91, 92, 93, 94, 95, 96, 97, 98, 99, 100, 101, 102, 103, 104, 105, 106, 107, 108, 109, 110, 111, 112, 113, 114, 115, 116, 117, 123, 124, 126, 127, 128] (by decide +kernel) (by decide +kernel)
set_option maxRecDepth 20000 in
theorem gX8_times_X7_multiplyRows : GoodIn wsX8_times (wsV RX8 122 RX7 yX7_multiplyRows wsX7_multiplyRows) := goodIn_app (goodIn_of _ (by decide +kernel)) ggX8_times_X7_multiplyRows
theorem dX8_times_0 : decode cX8_times 0 = .ok (.iload_n 1, 1) := by decide +kernel
theorem dX8_times_1 : decode cX8_times 1 = .ok (.invokestatic 48, 3) := by decide +kernel
theorem dX8_times_4 : decode cX8_times 4 = .ok (.ifCond .eq 17, 3) := by decide +kernel
theorem dX8_times_7 : decode cX8_times 7 = .ok (.iload_n 2, 1) := by decide +kernel
theorem dX8_times_8 : decode cX8_times 8 = .ok (.invokestatic 48, 3) := by decide +kernel
theorem dX8_times_11 : decode cX8_times 11 = .ok (.ifCond .eq 10, 3) := by decide +kernel
theorem dX8_times_14 : decode cX8_times 14 = .ok (.iload_n 3, 1) := by decide +kernel
theorem dX8_times_15 : decode cX8_times 15 = .ok (.invokestatic 48, 3) := by decide +kernel
theorem dX8_times_18 : decode cX8_times 18 = .ok (.ifCond .ne 5, 3) := by decide +kernel
theorem dX8_times_21 : decode cX8_times 21 = .ok (.iconst (-1), 1) := by decide +kernel
theorem dX8_times_22 : decode cX8_times 22 = .ok (.ireturn, 1) := by decide +kernel
theorem dX8_times_23 : decode cX8_times 23 = .ok (.iload_n 1, 1) := by decide +kernel
theorem dX8_times_24 : decode cX8_times 24 = .ok (.iload_n 2, 1) := by decide +kernel
theorem dX8_times_25 : decode cX8_times 25 = .ok (.if_icmp .eq 13, 3) := by decide +kernel
theorem dX8_times_28 : decode cX8_times 28 = .ok (.iload_n 1, 1) := by decide +kernel
theorem dX8_times_29 : decode cX8_times 29 = .ok (.iload_n 3, 1) := by decide +kernel
theorem dX8_times_30 : decode cX8_times 30 = .ok (.if_icmp .eq 8, 3) := by decide +kernel
theorem dX8_times_33 : decode cX8_times 33 = .ok (.iload_n 2, 1) := by decide +kernel
theorem dX8_times_34 : decode cX8_times 34 = .ok (.iload_n 3, 1) := by decide +kernel
theorem dX8_times_35 : decode cX8_times 35 = .ok (.if_icmp .ne 6, 3) := by decide +kernel
theorem dX8_times_38 : decode cX8_times 38 = .ok (.bipush (-3), 2) := by decide +kernel
theorem dX8_times_40 : decode cX8_times 40 = .ok (.ireturn, 1) := by decide +kernel
theorem dX8_times_41 : decode cX8_times 41 = .ok (.aload_n 0, 1) := by decide +kernel
theorem dX8_times_42 : decode cX8_times 42 = .ok (.getfield 10, 3) := by decide +kernel
theorem dX8_times_45 : decode cX8_times 45 = .ok (.iload_n 1, 1) := by decide +kernel
theorem dX8_times_46 : decode cX8_times 46 = .ok (.invokevirtual 66, 3) := by decide +kernel
theorem dX8_times_49 : decode cX8_times 49 = .ok (.aload_n 0, 1) := by decide +kernel
theorem dX8_times_50 : decode cX8_times 50 = .ok (.getfield 10, 3) := by decide +kernel
theorem dX8_times_53 : decode cX8_times 53 = .ok (.iload_n 2, 1) := by decide +kernel
theorem dX8_times_54 : decode cX8_times 54 = .ok (.invokevirtual 66, 3) := by decide +kernel
theorem dX8_times_57 : decode cX8_times 57 = .ok (.invokestatic 116, 3) := by decide +kernel
theorem dX8_times_60 : decode cX8_times 60 = .ok (.ldc2_w 120, 3) := by decide +kernel
theorem dX8_times_63 : decode cX8_times 63 = .ok (.lcmp, 1) := by decide +kernel
theorem dX8_times_64 : decode cX8_times 64 = .ok (.ifCond .ne 6, 3) := by decide +kernel
theorem dX8_times_67 : decode cX8_times 67 = .ok (.bipush (-4), 2) := by decide +kernel
theorem dX8_times_69 : decode cX8_times 69 = .ok (.ireturn, 1) := by decide +kernel
theorem dX8_times_70 : decode cX8_times 70 = .ok (.aload_n 0, 1) := by decide +kernel
theorem dX8_times_71 : decode cX8_times 71 = .ok (.getfield 26, 3) := by decide +kernel
theorem dX8_times_74 : decode cX8_times 74 = .ok (.invokevirtual 109, 3) := by decide +kernel
theorem dX8_times_77 : decode cX8_times 77 = .ok (.aload_n 0, 1) := by decide +kernel
theorem dX8_times_78 : decode cX8_times 78 = .ok (.getfield 10, 3) := by decide +kernel
theorem dX8_times_81 : decode cX8_times 81 = .ok (.iload_n 1, 1) := by decide +kernel
theorem dX8_times_82 : decode cX8_times 82 = .ok (.iload_n 2, 1) := by decide +kernel
theorem dX8_times_83 : decode cX8_times 83 = .ok (.iload_n 3, 1) := by decide +kernel
theorem dX8_times_84 : decode cX8_times 84 = .ok (.invokevirtual 122, 3) := by decide +kernel
theorem dX8_times_87 : decode cX8_times 87 = .ok (.ireturn, 1) := by decide +kernel
set_option maxRecDepth 20000 in
theorem ggX8_part_X8_isRow : GoodIn wsX8_part wsX8_isRow := goodIn_r _ [6] (by decide +kernel) (by decide +kernel)
set_option maxRecDepth 20000 in
theorem gX8_part_X8_isRow : GoodIn wsX8_part (va_wsS RX8 48 yX8_isRow wsX8_isRow) := goodIn_app (goodIn_of _ (by decide +kernel)) ggX8_part_X8_isRow
set_option maxRecDepth 20000 in
theorem ggX8_part_X7_held : GoodIn wsX8_part wsX7_held := goodIn_r _ [11, 12, 120, 121] (by decide +kernel) (by decide +kernel)
set_option maxRecDepth 20000 in
theorem gX8_part_X7_held : GoodIn wsX8_part (wsV RX8 66 RX7 yX7_held wsX7_held) := goodIn_app (goodIn_of _ (by decide +kernel)) ggX8_part_X7_held
set_option maxRecDepth 20000 in
theorem ggX8_part_X1_forget : GoodIn wsX8_part wsX1_forget := goodIn_r _ [17, 18, 19, 20, 21, 22, 23, 24, 122, 123, 124, 125] (by decide +kernel) (by decide +kernel)
set_option maxRecDepth 20000 in
theorem gX8_part_X1_forget : GoodIn wsX8_part (wsV RX8 109 RX1 yX1_forget wsX1_forget) := goodIn_app (goodIn_of _ (by decide +kernel)) ggX8_part_X1_forget
set_option maxRecDepth 20000 in
theorem ggX8_part_X7_partRows : GoodIn wsX8_part wsX7_partRows := goodIn_r _ [28, 29, 30, 31, 32, 10, 33, 12, 34, 35, 36, 22, 37, 24, 38, 39, 40, 41, 42, 43, 8, 9, 11, 44, 45, 46, 47, 48, 49, 50, 51, 52, 53, 54, 55, 56, 57, 58, 59, 60, 61, 62, 63, 64, 65, 66, 67, 68, 69, 70, 71, 72, 73, 74, 75, 76, 77, 78, 79, 80, 81, 82, 83, 84, 85, 86, 87, 88, 89, 90, 91, 92, 93, 94, 95, 96, 97, 98, 99, 100, 101, 102, 103, 104, 105, 106, 107, 108, 109, 110, 111, 112, 113, 114, 120, 121, 123, 124, 125] (by decide +kernel) (by decide +kernel)
set_option maxRecDepth 20000 in
theorem gX8_part_X7_partRows : GoodIn wsX8_part (wsV RX8 126 RX7 yX7_partRows wsX7_partRows) := goodIn_app (goodIn_of _ (by decide +kernel)) ggX8_part_X7_partRows
theorem dX8_part_0 : decode cX8_part 0 = .ok (.iload_n 1, 1) := by decide +kernel
theorem dX8_part_1 : decode cX8_part 1 = .ok (.invokestatic 48, 3) := by decide +kernel
theorem dX8_part_4 : decode cX8_part 4 = .ok (.ifCond .eq 17, 3) := by decide +kernel
theorem dX8_part_7 : decode cX8_part 7 = .ok (.iload_n 2, 1) := by decide +kernel
theorem dX8_part_8 : decode cX8_part 8 = .ok (.invokestatic 48, 3) := by decide +kernel
theorem dX8_part_11 : decode cX8_part 11 = .ok (.ifCond .eq 10, 3) := by decide +kernel
theorem dX8_part_14 : decode cX8_part 14 = .ok (.iload_n 3, 1) := by decide +kernel
theorem dX8_part_15 : decode cX8_part 15 = .ok (.invokestatic 48, 3) := by decide +kernel
theorem dX8_part_18 : decode cX8_part 18 = .ok (.ifCond .ne 5, 3) := by decide +kernel
theorem dX8_part_21 : decode cX8_part 21 = .ok (.iconst (-1), 1) := by decide +kernel
theorem dX8_part_22 : decode cX8_part 22 = .ok (.ireturn, 1) := by decide +kernel
theorem dX8_part_23 : decode cX8_part 23 = .ok (.iload_n 1, 1) := by decide +kernel
theorem dX8_part_24 : decode cX8_part 24 = .ok (.iload_n 2, 1) := by decide +kernel
theorem dX8_part_25 : decode cX8_part 25 = .ok (.if_icmp .eq 13, 3) := by decide +kernel
theorem dX8_part_28 : decode cX8_part 28 = .ok (.iload_n 1, 1) := by decide +kernel
theorem dX8_part_29 : decode cX8_part 29 = .ok (.iload_n 3, 1) := by decide +kernel
theorem dX8_part_30 : decode cX8_part 30 = .ok (.if_icmp .eq 8, 3) := by decide +kernel
theorem dX8_part_33 : decode cX8_part 33 = .ok (.iload_n 2, 1) := by decide +kernel
theorem dX8_part_34 : decode cX8_part 34 = .ok (.iload_n 3, 1) := by decide +kernel
theorem dX8_part_35 : decode cX8_part 35 = .ok (.if_icmp .ne 6, 3) := by decide +kernel
theorem dX8_part_38 : decode cX8_part 38 = .ok (.bipush (-3), 2) := by decide +kernel
theorem dX8_part_40 : decode cX8_part 40 = .ok (.ireturn, 1) := by decide +kernel
theorem dX8_part_41 : decode cX8_part 41 = .ok (.aload_n 0, 1) := by decide +kernel
theorem dX8_part_42 : decode cX8_part 42 = .ok (.getfield 10, 3) := by decide +kernel
theorem dX8_part_45 : decode cX8_part 45 = .ok (.iload_n 1, 1) := by decide +kernel
theorem dX8_part_46 : decode cX8_part 46 = .ok (.invokevirtual 66, 3) := by decide +kernel
theorem dX8_part_49 : decode cX8_part 49 = .ok (.lconst 0, 1) := by decide +kernel
theorem dX8_part_50 : decode cX8_part 50 = .ok (.lcmp, 1) := by decide +kernel
theorem dX8_part_51 : decode cX8_part 51 = .ok (.ifCond .lt 16, 3) := by decide +kernel
theorem dX8_part_54 : decode cX8_part 54 = .ok (.aload_n 0, 1) := by decide +kernel
theorem dX8_part_55 : decode cX8_part 55 = .ok (.getfield 10, 3) := by decide +kernel
theorem dX8_part_58 : decode cX8_part 58 = .ok (.iload_n 2, 1) := by decide +kernel
theorem dX8_part_59 : decode cX8_part 59 = .ok (.invokevirtual 66, 3) := by decide +kernel
theorem dX8_part_62 : decode cX8_part 62 = .ok (.lconst 0, 1) := by decide +kernel
theorem dX8_part_63 : decode cX8_part 63 = .ok (.lcmp, 1) := by decide +kernel
theorem dX8_part_64 : decode cX8_part 64 = .ok (.ifCond .gt 6, 3) := by decide +kernel
theorem dX8_part_67 : decode cX8_part 67 = .ok (.bipush (-5), 2) := by decide +kernel
theorem dX8_part_69 : decode cX8_part 69 = .ok (.ireturn, 1) := by decide +kernel
theorem dX8_part_70 : decode cX8_part 70 = .ok (.aload_n 0, 1) := by decide +kernel
theorem dX8_part_71 : decode cX8_part 71 = .ok (.getfield 26, 3) := by decide +kernel
theorem dX8_part_74 : decode cX8_part 74 = .ok (.invokevirtual 109, 3) := by decide +kernel
theorem dX8_part_77 : decode cX8_part 77 = .ok (.aload_n 0, 1) := by decide +kernel
theorem dX8_part_78 : decode cX8_part 78 = .ok (.getfield 10, 3) := by decide +kernel
theorem dX8_part_81 : decode cX8_part 81 = .ok (.iload_n 1, 1) := by decide +kernel
theorem dX8_part_82 : decode cX8_part 82 = .ok (.iload_n 2, 1) := by decide +kernel
theorem dX8_part_83 : decode cX8_part 83 = .ok (.iload_n 3, 1) := by decide +kernel
theorem dX8_part_84 : decode cX8_part 84 = .ok (.invokevirtual 126, 3) := by decide +kernel
theorem dX8_part_87 : decode cX8_part 87 = .ok (.ireturn, 1) := by decide +kernel
set_option maxRecDepth 20000 in
theorem ggX8_root_X8_isRow : GoodIn wsX8_root wsX8_isRow := goodIn_r _ [6] (by decide +kernel) (by decide +kernel)
set_option maxRecDepth 20000 in
theorem gX8_root_X8_isRow : GoodIn wsX8_root (va_wsS RX8 48 yX8_isRow wsX8_isRow) := goodIn_app (goodIn_of _ (by decide +kernel)) ggX8_root_X8_isRow
set_option maxRecDepth 20000 in
theorem ggX8_root_X7_held : GoodIn wsX8_root wsX7_held := goodIn_r _ [11, 12, 122, 123] (by decide +kernel) (by decide +kernel)
set_option maxRecDepth 20000 in
theorem gX8_root_X7_held : GoodIn wsX8_root (wsV RX8 66 RX7 yX7_held wsX7_held) := goodIn_app (goodIn_of _ (by decide +kernel)) ggX8_root_X7_held
set_option maxRecDepth 20000 in
theorem ggX8_root_X1_forget : GoodIn wsX8_root wsX1_forget := goodIn_r _ [17, 18, 19, 20, 21, 22, 23, 24, 124, 125, 126, 127] (by decide +kernel) (by decide +kernel)
set_option maxRecDepth 20000 in
theorem gX8_root_X1_forget : GoodIn wsX8_root (wsV RX8 109 RX1 yX1_forget wsX1_forget) := goodIn_app (goodIn_of _ (by decide +kernel)) ggX8_root_X1_forget
set_option maxRecDepth 20000 in
theorem ggX8_root_X7_rootRow : GoodIn wsX8_root wsX7_rootRow := goodIn_r _ [28, 29, 30, 31, 32, 10, 33, 12, 34, 35, 36, 22, 37, 24, 38, 39, 40, 41, 42, 43, 8, 9, 11, 44, 45, 46, 47, 48, 49, 50, 51, 52, 53, 54, 55, 56, 57, 58, 59, 60, 61, 62, 63, 64, 65, 66, 67, 68, 69, 70, 71, 72, 73, 74, 75, 76, 77, 78, 79, 80, 81, 82, 83, 84, 85, 86, 87, 88, 89, 90, 91, 92, 93, 94, 95, 96, 97, 98, 99, 100, 101, 102, 103, 104, 105, 106, 107, 108, 109, 110, 111, 112, 113, 114, 115, 116, 122, 123, 125, 126, 127] (by decide +kernel) (by decide +kernel)
set_option maxRecDepth 20000 in
theorem gX8_root_X7_rootRow : GoodIn wsX8_root (wsV RX8 129 RX7 yX7_rootRow wsX7_rootRow) := goodIn_app (goodIn_of _ (by decide +kernel)) ggX8_root_X7_rootRow
theorem dX8_root_0 : decode cX8_root 0 = .ok (.iload_n 1, 1) := by decide +kernel
theorem dX8_root_1 : decode cX8_root 1 = .ok (.invokestatic 48, 3) := by decide +kernel
theorem dX8_root_4 : decode cX8_root 4 = .ok (.ifCond .eq 10, 3) := by decide +kernel
theorem dX8_root_7 : decode cX8_root 7 = .ok (.iload_n 2, 1) := by decide +kernel
theorem dX8_root_8 : decode cX8_root 8 = .ok (.invokestatic 48, 3) := by decide +kernel
theorem dX8_root_11 : decode cX8_root 11 = .ok (.ifCond .ne 5, 3) := by decide +kernel
theorem dX8_root_14 : decode cX8_root 14 = .ok (.iconst (-1), 1) := by decide +kernel
theorem dX8_root_15 : decode cX8_root 15 = .ok (.ireturn, 1) := by decide +kernel
theorem dX8_root_16 : decode cX8_root 16 = .ok (.iload_n 3, 1) := by decide +kernel
theorem dX8_root_17 : decode cX8_root 17 = .ok (.iconst 2, 1) := by decide +kernel
theorem dX8_root_18 : decode cX8_root 18 = .ok (.if_icmp .eq 11, 3) := by decide +kernel
theorem dX8_root_21 : decode cX8_root 21 = .ok (.iload_n 3, 1) := by decide +kernel
theorem dX8_root_22 : decode cX8_root 22 = .ok (.iconst 3, 1) := by decide +kernel
theorem dX8_root_23 : decode cX8_root 23 = .ok (.if_icmp .eq 6, 3) := by decide +kernel
theorem dX8_root_26 : decode cX8_root 26 = .ok (.bipush (-2), 2) := by decide +kernel
theorem dX8_root_28 : decode cX8_root 28 = .ok (.ireturn, 1) := by decide +kernel
theorem dX8_root_29 : decode cX8_root 29 = .ok (.iload_n 1, 1) := by decide +kernel
theorem dX8_root_30 : decode cX8_root 30 = .ok (.iload_n 2, 1) := by decide +kernel
theorem dX8_root_31 : decode cX8_root 31 = .ok (.if_icmp .ne 6, 3) := by decide +kernel
theorem dX8_root_34 : decode cX8_root 34 = .ok (.bipush (-3), 2) := by decide +kernel
theorem dX8_root_36 : decode cX8_root 36 = .ok (.ireturn, 1) := by decide +kernel
theorem dX8_root_37 : decode cX8_root 37 = .ok (.aload_n 0, 1) := by decide +kernel
theorem dX8_root_38 : decode cX8_root 38 = .ok (.getfield 10, 3) := by decide +kernel
theorem dX8_root_41 : decode cX8_root 41 = .ok (.iload_n 1, 1) := by decide +kernel
theorem dX8_root_42 : decode cX8_root 42 = .ok (.invokevirtual 66, 3) := by decide +kernel
theorem dX8_root_45 : decode cX8_root 45 = .ok (.lconst 0, 1) := by decide +kernel
theorem dX8_root_46 : decode cX8_root 46 = .ok (.lcmp, 1) := by decide +kernel
theorem dX8_root_47 : decode cX8_root 47 = .ok (.ifCond .ge 6, 3) := by decide +kernel
theorem dX8_root_50 : decode cX8_root 50 = .ok (.bipush (-5), 2) := by decide +kernel
theorem dX8_root_52 : decode cX8_root 52 = .ok (.ireturn, 1) := by decide +kernel
theorem dX8_root_53 : decode cX8_root 53 = .ok (.aload_n 0, 1) := by decide +kernel
theorem dX8_root_54 : decode cX8_root 54 = .ok (.getfield 26, 3) := by decide +kernel
theorem dX8_root_57 : decode cX8_root 57 = .ok (.invokevirtual 109, 3) := by decide +kernel
theorem dX8_root_60 : decode cX8_root 60 = .ok (.aload_n 0, 1) := by decide +kernel
theorem dX8_root_61 : decode cX8_root 61 = .ok (.getfield 10, 3) := by decide +kernel
theorem dX8_root_64 : decode cX8_root 64 = .ok (.iload_n 1, 1) := by decide +kernel
theorem dX8_root_65 : decode cX8_root 65 = .ok (.iload_n 2, 1) := by decide +kernel
theorem dX8_root_66 : decode cX8_root 66 = .ok (.iload_n 3, 1) := by decide +kernel
theorem dX8_root_67 : decode cX8_root 67 = .ok (.invokevirtual 129, 3) := by decide +kernel
theorem dX8_root_70 : decode cX8_root 70 = .ok (.ireturn, 1) := by decide +kernel
set_option maxRecDepth 20000 in
theorem ggX8_boards_X3_size : GoodIn wsX8_boards wsX3_size := goodIn_r _ [6, 7, 15, 16, 17] (by decide +kernel) (by decide +kernel)
set_option maxRecDepth 20000 in
theorem gX8_boards_X3_size : GoodIn wsX8_boards (wsV RX8 136 RX3 yX3_size wsX3_size) := goodIn_app (goodIn_of _ (by decide +kernel)) ggX8_boards_X3_size
theorem dX8_boards_0 : decode cX8_boards 0 = .ok (.aload_n 0, 1) := by decide +kernel
theorem dX8_boards_1 : decode cX8_boards 1 = .ok (.getfield 10, 3) := by decide +kernel
theorem dX8_boards_4 : decode cX8_boards 4 = .ok (.getfield 132, 3) := by decide +kernel
theorem dX8_boards_7 : decode cX8_boards 7 = .ok (.invokevirtual 136, 3) := by decide +kernel
theorem dX8_boards_10 : decode cX8_boards 10 = .ok (.ireturn, 1) := by decide +kernel
set_option maxRecDepth 20000 in
theorem ggX8_board_X3_has : GoodIn wsX8_board wsX3_has := goodIn_r _ [7, 8, 9, 10, 11, 24, 25, 26] (by decide +kernel) (by decide +kernel)
set_option maxRecDepth 20000 in
theorem gX8_board_X3_has : GoodIn wsX8_board (wsV RX8 139 RX3 yX3_has wsX3_has) := goodIn_app (goodIn_of _ (by decide +kernel)) ggX8_board_X3_has
set_option maxRecDepth 20000 in
theorem ggX8_board_X3_cell : GoodIn wsX8_board wsX3_cell := goodIn_r _ [15, 16, 24, 25, 26] (by decide +kernel) (by decide +kernel)
set_option maxRecDepth 20000 in
theorem gX8_board_X3_cell : GoodIn wsX8_board (wsV RX8 143 RX3 yX3_cell wsX3_cell) := goodIn_app (goodIn_of _ (by decide +kernel)) ggX8_board_X3_cell
theorem dX8_board_0 : decode cX8_board 0 = .ok (.aload_n 0, 1) := by decide +kernel
theorem dX8_board_1 : decode cX8_board 1 = .ok (.getfield 10, 3) := by decide +kernel
theorem dX8_board_4 : decode cX8_board 4 = .ok (.getfield 132, 3) := by decide +kernel
theorem dX8_board_7 : decode cX8_board 7 = .ok (.iload_n 1, 1) := by decide +kernel
theorem dX8_board_8 : decode cX8_board 8 = .ok (.iload_n 2, 1) := by decide +kernel
theorem dX8_board_9 : decode cX8_board 9 = .ok (.invokevirtual 139, 3) := by decide +kernel
theorem dX8_board_12 : decode cX8_board 12 = .ok (.ifCond .eq 18, 3) := by decide +kernel
theorem dX8_board_15 : decode cX8_board 15 = .ok (.aload_n 0, 1) := by decide +kernel
theorem dX8_board_16 : decode cX8_board 16 = .ok (.getfield 10, 3) := by decide +kernel
theorem dX8_board_19 : decode cX8_board 19 = .ok (.getfield 132, 3) := by decide +kernel
theorem dX8_board_22 : decode cX8_board 22 = .ok (.iload_n 1, 1) := by decide +kernel
theorem dX8_board_23 : decode cX8_board 23 = .ok (.iload_n 2, 1) := by decide +kernel
theorem dX8_board_24 : decode cX8_board 24 = .ok (.invokevirtual 143, 3) := by decide +kernel
theorem dX8_board_27 : decode cX8_board 27 = .ok (.goto 6, 3) := by decide +kernel
theorem dX8_board_30 : decode cX8_board 30 = .ok (.ldc2_w 70, 3) := by decide +kernel
theorem dX8_board_33 : decode cX8_board 33 = .ok (.lreturn, 1) := by decide +kernel
set_option maxRecDepth 20000 in
theorem ggX8_note_X3_steps : GoodIn wsX8_note wsX3_steps := goodIn_r _ [6, 7, 20, 21, 22] (by decide +kernel) (by decide +kernel)
set_option maxRecDepth 20000 in
theorem gX8_note_X3_steps : GoodIn wsX8_note (wsV RX8 147 RX3 yX3_steps wsX3_steps) := goodIn_app (goodIn_of _ (by decide +kernel)) ggX8_note_X3_steps
set_option maxRecDepth 20000 in
theorem ggX8_note_X3_noted : GoodIn wsX8_note wsX3_noted := goodIn_r _ [11, 12, 20, 21, 22] (by decide +kernel) (by decide +kernel)
set_option maxRecDepth 20000 in
theorem gX8_note_X3_noted : GoodIn wsX8_note (wsV RX8 150 RX3 yX3_noted wsX3_noted) := goodIn_app (goodIn_of _ (by decide +kernel)) ggX8_note_X3_noted
theorem dX8_note_0 : decode cX8_note 0 = .ok (.iload_n 1, 1) := by decide +kernel
theorem dX8_note_1 : decode cX8_note 1 = .ok (.ifCond .lt 17, 3) := by decide +kernel
theorem dX8_note_4 : decode cX8_note 4 = .ok (.iload_n 1, 1) := by decide +kernel
theorem dX8_note_5 : decode cX8_note 5 = .ok (.aload_n 0, 1) := by decide +kernel
theorem dX8_note_6 : decode cX8_note 6 = .ok (.getfield 10, 3) := by decide +kernel
theorem dX8_note_9 : decode cX8_note 9 = .ok (.getfield 132, 3) := by decide +kernel
theorem dX8_note_12 : decode cX8_note 12 = .ok (.invokevirtual 147, 3) := by decide +kernel
theorem dX8_note_15 : decode cX8_note 15 = .ok (.if_icmp .lt 6, 3) := by decide +kernel
theorem dX8_note_18 : decode cX8_note 18 = .ok (.bipush (-101), 2) := by decide +kernel
theorem dX8_note_20 : decode cX8_note 20 = .ok (.ireturn, 1) := by decide +kernel
theorem dX8_note_21 : decode cX8_note 21 = .ok (.iload_n 2, 1) := by decide +kernel
theorem dX8_note_22 : decode cX8_note 22 = .ok (.ifCond .lt 9, 3) := by decide +kernel
theorem dX8_note_25 : decode cX8_note 25 = .ok (.iload_n 2, 1) := by decide +kernel
theorem dX8_note_26 : decode cX8_note 26 = .ok (.bipush 6, 2) := by decide +kernel
theorem dX8_note_28 : decode cX8_note 28 = .ok (.if_icmp .lt 6, 3) := by decide +kernel
theorem dX8_note_31 : decode cX8_note 31 = .ok (.bipush (-102), 2) := by decide +kernel
theorem dX8_note_33 : decode cX8_note 33 = .ok (.ireturn, 1) := by decide +kernel
theorem dX8_note_34 : decode cX8_note 34 = .ok (.aload_n 0, 1) := by decide +kernel
theorem dX8_note_35 : decode cX8_note 35 = .ok (.getfield 10, 3) := by decide +kernel
theorem dX8_note_38 : decode cX8_note 38 = .ok (.getfield 132, 3) := by decide +kernel
theorem dX8_note_41 : decode cX8_note 41 = .ok (.iload_n 1, 1) := by decide +kernel
theorem dX8_note_42 : decode cX8_note 42 = .ok (.iload_n 2, 1) := by decide +kernel
theorem dX8_note_43 : decode cX8_note 43 = .ok (.invokevirtual 150, 3) := by decide +kernel
theorem dX8_note_46 : decode cX8_note 46 = .ok (.ireturn, 1) := by decide +kernel
set_option maxRecDepth 20000 in
theorem ggX8_copy_X3_size : GoodIn wsX8_copy wsX3_size := goodIn_r _ [7, 8, 29, 30, 31] (by decide +kernel) (by decide +kernel)
set_option maxRecDepth 20000 in
theorem gX8_copy_X3_size : GoodIn wsX8_copy (wsV RX8 136 RX3 yX3_size wsX3_size) := goodIn_app (goodIn_of _ (by decide +kernel)) ggX8_copy_X3_size
set_option maxRecDepth 20000 in
theorem ggX8_copy_X1_copyFrom : GoodIn wsX8_copy wsX1_copyFrom := goodIn_r _ [13, 14, 15, 16, 17, 6, 18, 8, 19, 20, 28, 29, 30, 31] (by decide +kernel) (by decide +kernel)
set_option maxRecDepth 20000 in
theorem gX8_copy_X1_copyFrom : GoodIn wsX8_copy (wsV RX8 153 RX1 yX1_copyFrom wsX1_copyFrom) := goodIn_app (goodIn_of _ (by decide +kernel)) ggX8_copy_X1_copyFrom
theorem dX8_copy_0 : decode cX8_copy 0 = .ok (.aload_n 0, 1) := by decide +kernel
theorem dX8_copy_1 : decode cX8_copy 1 = .ok (.getfield 10, 3) := by decide +kernel
theorem dX8_copy_4 : decode cX8_copy 4 = .ok (.getfield 132, 3) := by decide +kernel
theorem dX8_copy_7 : decode cX8_copy 7 = .ok (.invokevirtual 136, 3) := by decide +kernel
theorem dX8_copy_10 : decode cX8_copy 10 = .ok (.ifCond .ne 6, 3) := by decide +kernel
theorem dX8_copy_13 : decode cX8_copy 13 = .ok (.bipush (-3), 2) := by decide +kernel
theorem dX8_copy_15 : decode cX8_copy 15 = .ok (.ireturn, 1) := by decide +kernel
theorem dX8_copy_16 : decode cX8_copy 16 = .ok (.aload_n 0, 1) := by decide +kernel
theorem dX8_copy_17 : decode cX8_copy 17 = .ok (.getfield 26, 3) := by decide +kernel
theorem dX8_copy_20 : decode cX8_copy 20 = .ok (.aload_n 0, 1) := by decide +kernel
theorem dX8_copy_21 : decode cX8_copy 21 = .ok (.getfield 10, 3) := by decide +kernel
theorem dX8_copy_24 : decode cX8_copy 24 = .ok (.getfield 132, 3) := by decide +kernel
theorem dX8_copy_27 : decode cX8_copy 27 = .ok (.invokevirtual 153, 3) := by decide +kernel
theorem dX8_copy_30 : decode cX8_copy 30 = .ok (.aload_n 0, 1) := by decide +kernel
theorem dX8_copy_31 : decode cX8_copy 31 = .ok (.getfield 26, 3) := by decide +kernel
theorem dX8_copy_34 : decode cX8_copy 34 = .ok (.getfield 157, 3) := by decide +kernel
theorem dX8_copy_37 : decode cX8_copy 37 = .ok (.invokevirtual 136, 3) := by decide +kernel
theorem dX8_copy_40 : decode cX8_copy 40 = .ok (.bipush 8, 2) := by decide +kernel
theorem dX8_copy_42 : decode cX8_copy 42 = .ok (.imul, 1) := by decide +kernel
theorem dX8_copy_43 : decode cX8_copy 43 = .ok (.ireturn, 1) := by decide +kernel
set_option maxRecDepth 20000 in
theorem ggX8_write_X1_hasCopy : GoodIn wsX8_write wsX1_hasCopy := goodIn_r _ [6, 7, 8, 9, 10, 11, 12, 13, 45, 46, 47, 48] (by decide +kernel) (by decide +kernel)
set_option maxRecDepth 20000 in
theorem gX8_write_X1_hasCopy : GoodIn wsX8_write (wsV RX8 158 RX1 yX1_hasCopy wsX1_hasCopy) := goodIn_app (goodIn_of _ (by decide +kernel)) ggX8_write_X1_hasCopy
set_option maxRecDepth 20000 in
theorem ggX8_write_X3_has : GoodIn wsX8_write wsX3_has := goodIn_r _ [17, 13, 18, 19, 20, 46, 47, 48] (by decide +kernel) (by decide +kernel)
set_option maxRecDepth 20000 in
theorem gX8_write_X3_has : GoodIn wsX8_write (wsV RX8 139 RX3 yX3_has wsX3_has) := goodIn_app (goodIn_of _ (by decide +kernel)) ggX8_write_X3_has
set_option maxRecDepth 20000 in
theorem ggX8_write_X5_isBeyond : GoodIn wsX8_write wsX5_isBeyond := goodIn_r _ [24, 25, 26] (by decide +kernel) (by decide +kernel)
set_option maxRecDepth 20000 in
theorem gX8_write_X5_isBeyond : GoodIn wsX8_write (va_wsS RX8 52 yX5_isBeyond wsX5_isBeyond) := goodIn_app (goodIn_of _ (by decide +kernel)) ggX8_write_X5_isBeyond
set_option maxRecDepth 20000 in
theorem ggX8_write_X1_change : GoodIn wsX8_write wsX1_change := goodIn_r _ [30, 7, 31, 32, 33, 11, 34, 35, 36, 37, 38, 39, 45, 46, 47, 48] (by decide +kernel) (by decide +kernel)
set_option maxRecDepth 20000 in
theorem gX8_write_X1_change : GoodIn wsX8_write (wsV RX8 162 RX1 yX1_change wsX1_change) := goodIn_app (goodIn_of _ (by decide +kernel)) ggX8_write_X1_change
theorem dX8_write_0 : decode cX8_write 0 = .ok (.aload_n 0, 1) := by decide +kernel
theorem dX8_write_1 : decode cX8_write 1 = .ok (.getfield 26, 3) := by decide +kernel
theorem dX8_write_4 : decode cX8_write 4 = .ok (.invokevirtual 158, 3) := by decide +kernel
theorem dX8_write_7 : decode cX8_write 7 = .ok (.ifCond .ne 6, 3) := by decide +kernel
theorem dX8_write_10 : decode cX8_write 10 = .ok (.bipush (-3), 2) := by decide +kernel
theorem dX8_write_12 : decode cX8_write 12 = .ok (.ireturn, 1) := by decide +kernel
theorem dX8_write_13 : decode cX8_write 13 = .ok (.aload_n 0, 1) := by decide +kernel
theorem dX8_write_14 : decode cX8_write 14 = .ok (.getfield 26, 3) := by decide +kernel
theorem dX8_write_17 : decode cX8_write 17 = .ok (.getfield 157, 3) := by decide +kernel
theorem dX8_write_20 : decode cX8_write 20 = .ok (.iload_n 1, 1) := by decide +kernel
theorem dX8_write_21 : decode cX8_write 21 = .ok (.iload_n 2, 1) := by decide +kernel
