theorem dX0_init_0 : decode cX0_init 0 = .ok (.aload_n 0, 1) := by decide +kernel
theorem dX0_init_1 : decode cX0_init 1 = .ok (.invokespecial 3, 3) := by decide +kernel
theorem dX0_init_4 : decode cX0_init 4 = .ok (.aload_n 0, 1) := by decide +kernel
theorem dX0_init_5 : decode cX0_init 5 = .ok (.bipush 25, 2) := by decide +kernel
theorem dX0_init_7 : decode cX0_init 7 = .ok (.newarray .int, 2) := by decide +kernel
theorem dX0_init_9 : decode cX0_init 9 = .ok (.putfield 11, 3) := by decide +kernel
theorem dX0_init_12 : decode cX0_init 12 = .ok (.aload_n 0, 1) := by decide +kernel
theorem dX0_init_13 : decode cX0_init 13 = .ok (.bipush 25, 2) := by decide +kernel
theorem dX0_init_15 : decode cX0_init 15 = .ok (.newarray .long, 2) := by decide +kernel
theorem dX0_init_17 : decode cX0_init 17 = .ok (.putfield 15, 3) := by decide +kernel
theorem dX0_init_20 : decode cX0_init 20 = .ok (.aload_n 0, 1) := by decide +kernel
theorem dX0_init_21 : decode cX0_init 21 = .ok (.iconst 4, 1) := by decide +kernel
theorem dX0_init_22 : decode cX0_init 22 = .ok (.newarray .boolean, 2) := by decide +kernel
theorem dX0_init_24 : decode cX0_init 24 = .ok (.putfield 19, 3) := by decide +kernel
theorem dX0_init_27 : decode cX0_init 27 = .ok (.aload_n 0, 1) := by decide +kernel
theorem dX0_init_28 : decode cX0_init 28 = .ok (.iconst 4, 1) := by decide +kernel
theorem dX0_init_29 : decode cX0_init 29 = .ok (.newarray .long, 2) := by decide +kernel
theorem dX0_init_31 : decode cX0_init 31 = .ok (.putfield 23, 3) := by decide +kernel
theorem dX0_init_34 : decode cX0_init 34 = .ok (.return_, 1) := by decide +kernel
theorem dX0_begin_0 : decode cX0_begin 0 = .ok (.aload_n 0, 1) := by decide +kernel
theorem dX0_begin_1 : decode cX0_begin 1 = .ok (.iload_n 1, 1) := by decide +kernel
theorem dX0_begin_2 : decode cX0_begin 2 = .ok (.putfield 26, 3) := by decide +kernel
theorem dX0_begin_5 : decode cX0_begin 5 = .ok (.aload_n 0, 1) := by decide +kernel
theorem dX0_begin_6 : decode cX0_begin 6 = .ok (.iload_n 2, 1) := by decide +kernel
theorem dX0_begin_7 : decode cX0_begin 7 = .ok (.putfield 30, 3) := by decide +kernel
theorem dX0_begin_10 : decode cX0_begin 10 = .ok (.iconst 0, 1) := by decide +kernel
theorem dX0_begin_11 : decode cX0_begin 11 = .ok (.istore_n 3, 1) := by decide +kernel
theorem dX0_begin_12 : decode cX0_begin 12 = .ok (.iload_n 3, 1) := by decide +kernel
theorem dX0_begin_13 : decode cX0_begin 13 = .ok (.aload_n 0, 1) := by decide +kernel
theorem dX0_begin_14 : decode cX0_begin 14 = .ok (.getfield 11, 3) := by decide +kernel
theorem dX0_begin_17 : decode cX0_begin 17 = .ok (.arraylength, 1) := by decide +kernel
theorem dX0_begin_18 : decode cX0_begin 18 = .ok (.if_icmp .ge 16, 3) := by decide +kernel
theorem dX0_begin_21 : decode cX0_begin 21 = .ok (.aload_n 0, 1) := by decide +kernel
theorem dX0_begin_22 : decode cX0_begin 22 = .ok (.getfield 11, 3) := by decide +kernel
theorem dX0_begin_25 : decode cX0_begin 25 = .ok (.iload_n 3, 1) := by decide +kernel
theorem dX0_begin_26 : decode cX0_begin 26 = .ok (.iconst 0, 1) := by decide +kernel
theorem dX0_begin_27 : decode cX0_begin 27 = .ok (.iastore, 1) := by decide +kernel
theorem dX0_begin_28 : decode cX0_begin 28 = .ok (.iinc 3 1, 3) := by decide +kernel
theorem dX0_begin_31 : decode cX0_begin 31 = .ok (.goto (-19), 3) := by decide +kernel
theorem dX0_begin_34 : decode cX0_begin 34 = .ok (.return_, 1) := by decide +kernel
theorem dX0_has_0 : decode cX0_has 0 = .ok (.iload_n 1, 1) := by decide +kernel
theorem dX0_has_1 : decode cX0_has 1 = .ok (.ifCond .lt 27, 3) := by decide +kernel
theorem dX0_has_4 : decode cX0_has 4 = .ok (.iload_n 1, 1) := by decide +kernel
theorem dX0_has_5 : decode cX0_has 5 = .ok (.aload_n 0, 1) := by decide +kernel
theorem dX0_has_6 : decode cX0_has 6 = .ok (.getfield 30, 3) := by decide +kernel
theorem dX0_has_9 : decode cX0_has 9 = .ok (.if_icmp .ge 19, 3) := by decide +kernel
theorem dX0_has_12 : decode cX0_has 12 = .ok (.iload_n 2, 1) := by decide +kernel
theorem dX0_has_13 : decode cX0_has 13 = .ok (.ifCond .lt 15, 3) := by decide +kernel
theorem dX0_has_16 : decode cX0_has 16 = .ok (.iload_n 2, 1) := by decide +kernel
theorem dX0_has_17 : decode cX0_has 17 = .ok (.aload_n 0, 1) := by decide +kernel
theorem dX0_has_18 : decode cX0_has 18 = .ok (.getfield 26, 3) := by decide +kernel
theorem dX0_has_21 : decode cX0_has 21 = .ok (.if_icmp .gt 7, 3) := by decide +kernel
theorem dX0_has_24 : decode cX0_has 24 = .ok (.iconst 1, 1) := by decide +kernel
theorem dX0_has_25 : decode cX0_has 25 = .ok (.goto 4, 3) := by decide +kernel
theorem dX0_has_28 : decode cX0_has 28 = .ok (.iconst 0, 1) := by decide +kernel
theorem dX0_has_29 : decode cX0_has 29 = .ok (.ireturn, 1) := by decide +kernel
theorem dX0_isUnknown_0 : decode cX0_isUnknown 0 = .ok (.iload_n 1, 1) := by decide +kernel
theorem dX0_isUnknown_1 : decode cX0_isUnknown 1 = .ok (.ifCond .lt 15, 3) := by decide +kernel
theorem dX0_isUnknown_4 : decode cX0_isUnknown 4 = .ok (.iload_n 1, 1) := by decide +kernel
theorem dX0_isUnknown_5 : decode cX0_isUnknown 5 = .ok (.aload_n 0, 1) := by decide +kernel
theorem dX0_isUnknown_6 : decode cX0_isUnknown 6 = .ok (.getfield 26, 3) := by decide +kernel
theorem dX0_isUnknown_9 : decode cX0_isUnknown 9 = .ok (.if_icmp .ge 7, 3) := by decide +kernel
theorem dX0_isUnknown_12 : decode cX0_isUnknown 12 = .ok (.iconst 1, 1) := by decide +kernel
theorem dX0_isUnknown_13 : decode cX0_isUnknown 13 = .ok (.goto 4, 3) := by decide +kernel
theorem dX0_isUnknown_16 : decode cX0_isUnknown 16 = .ok (.iconst 0, 1) := by decide +kernel
theorem dX0_isUnknown_17 : decode cX0_isUnknown 17 = .ok (.ireturn, 1) := by decide +kernel
theorem dX0_exchangeGiven_0 : decode cX0_exchangeGiven 0 = .ok (.iload_n 1, 1) := by decide +kernel
theorem dX0_exchangeGiven_1 : decode cX0_exchangeGiven 1 = .ok (.iconst 5, 1) := by decide +kernel
theorem dX0_exchangeGiven_2 : decode cX0_exchangeGiven 2 = .ok (.imul, 1) := by decide +kernel
theorem dX0_exchangeGiven_3 : decode cX0_exchangeGiven 3 = .ok (.iload_n 2, 1) := by decide +kernel
theorem dX0_exchangeGiven_4 : decode cX0_exchangeGiven 4 = .ok (.iadd, 1) := by decide +kernel
theorem dX0_exchangeGiven_5 : decode cX0_exchangeGiven 5 = .ok (.istore 4, 2) := by decide +kernel
theorem dX0_exchangeGiven_7 : decode cX0_exchangeGiven 7 = .ok (.iload 4, 2) := by decide +kernel
theorem dX0_exchangeGiven_9 : decode cX0_exchangeGiven 9 = .ok (.ifCond .lt 13, 3) := by decide +kernel
theorem dX0_exchangeGiven_12 : decode cX0_exchangeGiven 12 = .ok (.iload 4, 2) := by decide +kernel
theorem dX0_exchangeGiven_14 : decode cX0_exchangeGiven 14 = .ok (.aload_n 0, 1) := by decide +kernel
theorem dX0_exchangeGiven_15 : decode cX0_exchangeGiven 15 = .ok (.getfield 11, 3) := by decide +kernel
theorem dX0_exchangeGiven_18 : decode cX0_exchangeGiven 18 = .ok (.arraylength, 1) := by decide +kernel
theorem dX0_exchangeGiven_19 : decode cX0_exchangeGiven 19 = .ok (.if_icmp .lt 5, 3) := by decide +kernel
theorem dX0_exchangeGiven_22 : decode cX0_exchangeGiven 22 = .ok (.iconst 0, 1) := by decide +kernel
theorem dX0_exchangeGiven_23 : decode cX0_exchangeGiven 23 = .ok (.ireturn, 1) := by decide +kernel
theorem dX0_exchangeGiven_24 : decode cX0_exchangeGiven 24 = .ok (.aload_n 0, 1) := by decide +kernel
theorem dX0_exchangeGiven_25 : decode cX0_exchangeGiven 25 = .ok (.getfield 11, 3) := by decide +kernel
theorem dX0_exchangeGiven_28 : decode cX0_exchangeGiven 28 = .ok (.iload 4, 2) := by decide +kernel
theorem dX0_exchangeGiven_30 : decode cX0_exchangeGiven 30 = .ok (.iaload, 1) := by decide +kernel
theorem dX0_exchangeGiven_31 : decode cX0_exchangeGiven 31 = .ok (.istore 5, 2) := by decide +kernel
theorem dX0_exchangeGiven_33 : decode cX0_exchangeGiven 33 = .ok (.aload_n 0, 1) := by decide +kernel
theorem dX0_exchangeGiven_34 : decode cX0_exchangeGiven 34 = .ok (.getfield 11, 3) := by decide +kernel
theorem dX0_exchangeGiven_37 : decode cX0_exchangeGiven 37 = .ok (.iload 4, 2) := by decide +kernel
theorem dX0_exchangeGiven_39 : decode cX0_exchangeGiven 39 = .ok (.iload_n 3, 1) := by decide +kernel
theorem dX0_exchangeGiven_40 : decode cX0_exchangeGiven 40 = .ok (.iastore, 1) := by decide +kernel
theorem dX0_exchangeGiven_41 : decode cX0_exchangeGiven 41 = .ok (.iload 5, 2) := by decide +kernel
theorem dX0_exchangeGiven_43 : decode cX0_exchangeGiven 43 = .ok (.ireturn, 1) := by decide +kernel
theorem dX0_cell_0 : decode cX0_cell 0 = .ok (.iload_n 1, 1) := by decide +kernel
theorem dX0_cell_1 : decode cX0_cell 1 = .ok (.iconst 5, 1) := by decide +kernel
theorem dX0_cell_2 : decode cX0_cell 2 = .ok (.imul, 1) := by decide +kernel
theorem dX0_cell_3 : decode cX0_cell 3 = .ok (.iload_n 2, 1) := by decide +kernel
theorem dX0_cell_4 : decode cX0_cell 4 = .ok (.iadd, 1) := by decide +kernel
theorem dX0_cell_5 : decode cX0_cell 5 = .ok (.istore_n 3, 1) := by decide +kernel
theorem dX0_cell_6 : decode cX0_cell 6 = .ok (.iload_n 3, 1) := by decide +kernel
theorem dX0_cell_7 : decode cX0_cell 7 = .ok (.ifCond .lt 21, 3) := by decide +kernel
theorem dX0_cell_10 : decode cX0_cell 10 = .ok (.iload_n 3, 1) := by decide +kernel
theorem dX0_cell_11 : decode cX0_cell 11 = .ok (.aload_n 0, 1) := by decide +kernel
theorem dX0_cell_12 : decode cX0_cell 12 = .ok (.getfield 15, 3) := by decide +kernel
theorem dX0_cell_15 : decode cX0_cell 15 = .ok (.arraylength, 1) := by decide +kernel
theorem dX0_cell_16 : decode cX0_cell 16 = .ok (.if_icmp .ge 12, 3) := by decide +kernel
theorem dX0_cell_19 : decode cX0_cell 19 = .ok (.aload_n 0, 1) := by decide +kernel
theorem dX0_cell_20 : decode cX0_cell 20 = .ok (.getfield 15, 3) := by decide +kernel
theorem dX0_cell_23 : decode cX0_cell 23 = .ok (.iload_n 3, 1) := by decide +kernel
theorem dX0_cell_24 : decode cX0_cell 24 = .ok (.laload, 1) := by decide +kernel
theorem dX0_cell_25 : decode cX0_cell 25 = .ok (.goto 4, 3) := by decide +kernel
theorem dX0_cell_28 : decode cX0_cell 28 = .ok (.lconst 0, 1) := by decide +kernel
theorem dX0_cell_29 : decode cX0_cell 29 = .ok (.lreturn, 1) := by decide +kernel
theorem dX0_put_0 : decode cX0_put 0 = .ok (.iload_n 1, 1) := by decide +kernel
theorem dX0_put_1 : decode cX0_put 1 = .ok (.iconst 5, 1) := by decide +kernel
theorem dX0_put_2 : decode cX0_put 2 = .ok (.imul, 1) := by decide +kernel
theorem dX0_put_3 : decode cX0_put 3 = .ok (.iload_n 2, 1) := by decide +kernel
theorem dX0_put_4 : decode cX0_put 4 = .ok (.iadd, 1) := by decide +kernel
theorem dX0_put_5 : decode cX0_put 5 = .ok (.istore 5, 2) := by decide +kernel
theorem dX0_put_7 : decode cX0_put 7 = .ok (.iload 5, 2) := by decide +kernel
theorem dX0_put_9 : decode cX0_put 9 = .ok (.ifCond .lt 21, 3) := by decide +kernel
theorem dX0_put_12 : decode cX0_put 12 = .ok (.iload 5, 2) := by decide +kernel
theorem dX0_put_14 : decode cX0_put 14 = .ok (.aload_n 0, 1) := by decide +kernel
theorem dX0_put_15 : decode cX0_put 15 = .ok (.getfield 15, 3) := by decide +kernel
theorem dX0_put_18 : decode cX0_put 18 = .ok (.arraylength, 1) := by decide +kernel
theorem dX0_put_19 : decode cX0_put 19 = .ok (.if_icmp .ge 11, 3) := by decide +kernel
theorem dX0_put_22 : decode cX0_put 22 = .ok (.aload_n 0, 1) := by decide +kernel
theorem dX0_put_23 : decode cX0_put 23 = .ok (.getfield 15, 3) := by decide +kernel
theorem dX0_put_26 : decode cX0_put 26 = .ok (.iload 5, 2) := by decide +kernel
theorem dX0_put_28 : decode cX0_put 28 = .ok (.lload_n 3, 1) := by decide +kernel
theorem dX0_put_29 : decode cX0_put 29 = .ok (.lastore, 1) := by decide +kernel
theorem dX0_put_30 : decode cX0_put 30 = .ok (.return_, 1) := by decide +kernel
theorem dX0_isFree_0 : decode cX0_isFree 0 = .ok (.iload_n 1, 1) := by decide +kernel
theorem dX0_isFree_1 : decode cX0_isFree 1 = .ok (.ifCond .lt 25, 3) := by decide +kernel
theorem dX0_isFree_4 : decode cX0_isFree 4 = .ok (.iload_n 1, 1) := by decide +kernel
theorem dX0_isFree_5 : decode cX0_isFree 5 = .ok (.aload_n 0, 1) := by decide +kernel
theorem dX0_isFree_6 : decode cX0_isFree 6 = .ok (.getfield 19, 3) := by decide +kernel
theorem dX0_isFree_9 : decode cX0_isFree 9 = .ok (.arraylength, 1) := by decide +kernel
theorem dX0_isFree_10 : decode cX0_isFree 10 = .ok (.if_icmp .ge 16, 3) := by decide +kernel
theorem dX0_isFree_13 : decode cX0_isFree 13 = .ok (.aload_n 0, 1) := by decide +kernel
theorem dX0_isFree_14 : decode cX0_isFree 14 = .ok (.getfield 19, 3) := by decide +kernel
theorem dX0_isFree_17 : decode cX0_isFree 17 = .ok (.iload_n 1, 1) := by decide +kernel
theorem dX0_isFree_18 : decode cX0_isFree 18 = .ok (.baload, 1) := by decide +kernel
theorem dX0_isFree_19 : decode cX0_isFree 19 = .ok (.ifCond .eq 7, 3) := by decide +kernel
theorem dX0_isFree_22 : decode cX0_isFree 22 = .ok (.iconst 1, 1) := by decide +kernel
theorem dX0_isFree_23 : decode cX0_isFree 23 = .ok (.goto 4, 3) := by decide +kernel
theorem dX0_isFree_26 : decode cX0_isFree 26 = .ok (.iconst 0, 1) := by decide +kernel
theorem dX0_isFree_27 : decode cX0_isFree 27 = .ok (.ireturn, 1) := by decide +kernel
set_option maxRecDepth 20000 in
theorem ggX0_clear_X0_firstWith : GoodIn wsX0_clear wsX0_firstWith := goodIn_r _ [11, 4, 12, 13, 14, 15, 10, 16, 1, 41, 42, 43, 44, 45, 46, 47, 48] (by decide +kernel) (by decide +kernel)
set_option maxRecDepth 20000 in
theorem gX0_clear_X0_firstWith : GoodIn wsX0_clear (wsV RX0 39 RX0 yX0_firstWith wsX0_firstWith) := goodIn_app (goodIn_of _ (by decide +kernel)) ggX0_clear_X0_firstWith
set_option maxRecDepth 20000 in
theorem ggX0_clear_X0_exchange : GoodIn wsX0_clear wsX0_exchange := goodIn_r _ [20, 5, 13, 14, 15, 10, 16, 1, 21, 22, 23, 24, 41, 42, 43, 44, 45, 46, 47, 48] (by decide +kernel) (by decide +kernel)
set_option maxRecDepth 20000 in
theorem gX0_clear_X0_exchange : GoodIn wsX0_clear (wsV RX0 43 RX0 yX0_exchange wsX0_exchange) := goodIn_app (goodIn_of _ (by decide +kernel)) ggX0_clear_X0_exchange
set_option maxRecDepth 20000 in
theorem ggX0_clear_X0_turnAllBehind : GoodIn wsX0_clear wsX0_turnAllBehind := goodIn_r _ [28, 4, 12, 13, 14, 15, 10, 16, 1, 29, 30, 31, 32, 5, 3, 21, 22, 23, 24, 33, 34, 35, 36, 37, 38, 39, 40, 41, 42, 43, 44, 45, 46, 47, 48] (by decide +kernel) (by decide +kernel)
set_option maxRecDepth 20000 in
theorem gX0_clear_X0_turnAllBehind : GoodIn wsX0_clear (wsV RX0 47 RX0 yX0_turnAllBehind wsX0_turnAllBehind) := goodIn_app (goodIn_of _ (by decide +kernel)) ggX0_clear_X0_turnAllBehind
theorem dX0_clear_0 : decode cX0_clear 0 = .ok (.iconst 0, 1) := by decide +kernel
theorem dX0_clear_1 : decode cX0_clear 1 = .ok (.istore_n 1, 1) := by decide +kernel
theorem dX0_clear_2 : decode cX0_clear 2 = .ok (.iload_n 1, 1) := by decide +kernel
theorem dX0_clear_3 : decode cX0_clear 3 = .ok (.aload_n 0, 1) := by decide +kernel
theorem dX0_clear_4 : decode cX0_clear 4 = .ok (.getfield 15, 3) := by decide +kernel
theorem dX0_clear_7 : decode cX0_clear 7 = .ok (.arraylength, 1) := by decide +kernel
theorem dX0_clear_8 : decode cX0_clear 8 = .ok (.if_icmp .ge 31, 3) := by decide +kernel
theorem dX0_clear_11 : decode cX0_clear 11 = .ok (.iload_n 1, 1) := by decide +kernel
theorem dX0_clear_12 : decode cX0_clear 12 = .ok (.aload_n 0, 1) := by decide +kernel
theorem dX0_clear_13 : decode cX0_clear 13 = .ok (.getfield 11, 3) := by decide +kernel
theorem dX0_clear_16 : decode cX0_clear 16 = .ok (.arraylength, 1) := by decide +kernel
theorem dX0_clear_17 : decode cX0_clear 17 = .ok (.if_icmp .ge 22, 3) := by decide +kernel
theorem dX0_clear_20 : decode cX0_clear 20 = .ok (.aload_n 0, 1) := by decide +kernel
theorem dX0_clear_21 : decode cX0_clear 21 = .ok (.getfield 15, 3) := by decide +kernel
theorem dX0_clear_24 : decode cX0_clear 24 = .ok (.iload_n 1, 1) := by decide +kernel
theorem dX0_clear_25 : decode cX0_clear 25 = .ok (.aload_n 0, 1) := by decide +kernel
theorem dX0_clear_26 : decode cX0_clear 26 = .ok (.getfield 11, 3) := by decide +kernel
theorem dX0_clear_29 : decode cX0_clear 29 = .ok (.iload_n 1, 1) := by decide +kernel
theorem dX0_clear_30 : decode cX0_clear 30 = .ok (.iaload, 1) := by decide +kernel
theorem dX0_clear_31 : decode cX0_clear 31 = .ok (.i2l, 1) := by decide +kernel
theorem dX0_clear_32 : decode cX0_clear 32 = .ok (.lastore, 1) := by decide +kernel
theorem dX0_clear_33 : decode cX0_clear 33 = .ok (.iinc 1 1, 3) := by decide +kernel
theorem dX0_clear_36 : decode cX0_clear 36 = .ok (.goto (-34), 3) := by decide +kernel
theorem dX0_clear_39 : decode cX0_clear 39 = .ok (.aload_n 0, 1) := by decide +kernel
theorem dX0_clear_40 : decode cX0_clear 40 = .ok (.iconst 0, 1) := by decide +kernel
theorem dX0_clear_41 : decode cX0_clear 41 = .ok (.putfield 33, 3) := by decide +kernel
theorem dX0_clear_44 : decode cX0_clear 44 = .ok (.aload_n 0, 1) := by decide +kernel
theorem dX0_clear_45 : decode cX0_clear 45 = .ok (.iconst 0, 1) := by decide +kernel
theorem dX0_clear_46 : decode cX0_clear 46 = .ok (.putfield 36, 3) := by decide +kernel
theorem dX0_clear_49 : decode cX0_clear 49 = .ok (.iconst 0, 1) := by decide +kernel
theorem dX0_clear_50 : decode cX0_clear 50 = .ok (.istore_n 1, 1) := by decide +kernel
theorem dX0_clear_51 : decode cX0_clear 51 = .ok (.iload_n 1, 1) := by decide +kernel
theorem dX0_clear_52 : decode cX0_clear 52 = .ok (.aload_n 0, 1) := by decide +kernel
theorem dX0_clear_53 : decode cX0_clear 53 = .ok (.getfield 26, 3) := by decide +kernel
theorem dX0_clear_56 : decode cX0_clear 56 = .ok (.if_icmp .ge 71, 3) := by decide +kernel
theorem dX0_clear_59 : decode cX0_clear 59 = .ok (.iload_n 1, 1) := by decide +kernel
theorem dX0_clear_60 : decode cX0_clear 60 = .ok (.aload_n 0, 1) := by decide +kernel
theorem dX0_clear_61 : decode cX0_clear 61 = .ok (.getfield 19, 3) := by decide +kernel
theorem dX0_clear_64 : decode cX0_clear 64 = .ok (.arraylength, 1) := by decide +kernel
theorem dX0_clear_65 : decode cX0_clear 65 = .ok (.if_icmp .ge 62, 3) := by decide +kernel
theorem dX0_clear_68 : decode cX0_clear 68 = .ok (.aload_n 0, 1) := by decide +kernel
theorem dX0_clear_69 : decode cX0_clear 69 = .ok (.iload_n 1, 1) := by decide +kernel
theorem dX0_clear_70 : decode cX0_clear 70 = .ok (.invokevirtual 39, 3) := by decide +kernel
theorem dX0_clear_73 : decode cX0_clear 73 = .ok (.istore_n 2, 1) := by decide +kernel
theorem dX0_clear_74 : decode cX0_clear 74 = .ok (.aload_n 0, 1) := by decide +kernel
theorem dX0_clear_75 : decode cX0_clear 75 = .ok (.getfield 19, 3) := by decide +kernel
theorem dX0_clear_78 : decode cX0_clear 78 = .ok (.iload_n 1, 1) := by decide +kernel
theorem dX0_clear_79 : decode cX0_clear 79 = .ok (.iload_n 2, 1) := by decide +kernel
theorem dX0_clear_80 : decode cX0_clear 80 = .ok (.bipush (-6), 2) := by decide +kernel
theorem dX0_clear_82 : decode cX0_clear 82 = .ok (.if_icmp .ne 7, 3) := by decide +kernel
theorem dX0_clear_85 : decode cX0_clear 85 = .ok (.iconst 1, 1) := by decide +kernel
theorem dX0_clear_86 : decode cX0_clear 86 = .ok (.goto 4, 3) := by decide +kernel
theorem dX0_clear_89 : decode cX0_clear 89 = .ok (.iconst 0, 1) := by decide +kernel
theorem dX0_clear_90 : decode cX0_clear 90 = .ok (.bastore, 1) := by decide +kernel
theorem dX0_clear_91 : decode cX0_clear 91 = .ok (.iload_n 2, 1) := by decide +kernel
theorem dX0_clear_92 : decode cX0_clear 92 = .ok (.bipush (-6), 2) := by decide +kernel
theorem dX0_clear_94 : decode cX0_clear 94 = .ok (.if_icmp .eq 27, 3) := by decide +kernel
theorem dX0_clear_97 : decode cX0_clear 97 = .ok (.aload_n 0, 1) := by decide +kernel
theorem dX0_clear_98 : decode cX0_clear 98 = .ok (.iload_n 2, 1) := by decide +kernel
theorem dX0_clear_99 : decode cX0_clear 99 = .ok (.aload_n 0, 1) := by decide +kernel
theorem dX0_clear_100 : decode cX0_clear 100 = .ok (.getfield 36, 3) := by decide +kernel
theorem dX0_clear_103 : decode cX0_clear 103 = .ok (.invokevirtual 43, 3) := by decide +kernel
theorem dX0_clear_106 : decode cX0_clear 106 = .ok (.aload_n 0, 1) := by decide +kernel
theorem dX0_clear_107 : decode cX0_clear 107 = .ok (.iload_n 1, 1) := by decide +kernel
theorem dX0_clear_108 : decode cX0_clear 108 = .ok (.invokevirtual 47, 3) := by decide +kernel
theorem dX0_clear_111 : decode cX0_clear 111 = .ok (.aload_n 0, 1) := by decide +kernel
theorem dX0_clear_112 : decode cX0_clear 112 = .ok (.dup, 1) := by decide +kernel
theorem dX0_clear_113 : decode cX0_clear 113 = .ok (.getfield 36, 3) := by decide +kernel
theorem dX0_clear_116 : decode cX0_clear 116 = .ok (.iconst 1, 1) := by decide +kernel
theorem dX0_clear_117 : decode cX0_clear 117 = .ok (.iadd, 1) := by decide +kernel
theorem dX0_clear_118 : decode cX0_clear 118 = .ok (.putfield 36, 3) := by decide +kernel
theorem dX0_clear_121 : decode cX0_clear 121 = .ok (.iinc 1 1, 3) := by decide +kernel
theorem dX0_clear_124 : decode cX0_clear 124 = .ok (.goto (-73), 3) := by decide +kernel
theorem dX0_clear_127 : decode cX0_clear 127 = .ok (.return_, 1) := by decide +kernel
set_option maxRecDepth 20000 in
theorem ggX0_firstWith_X0_cell : GoodIn wsX0_firstWith wsX0_cell := goodIn_r _ [7, 8, 9, 10, 11, 12, 13, 14, 15, 16] (by decide +kernel) (by decide +kernel)
set_option maxRecDepth 20000 in
theorem gX0_firstWith_X0_cell : GoodIn wsX0_firstWith (wsV RX0 51 RX0 yX0_cell wsX0_cell) := goodIn_app (goodIn_of _ (by decide +kernel)) ggX0_firstWith_X0_cell
theorem dX0_firstWith_0 : decode cX0_firstWith 0 = .ok (.aload_n 0, 1) := by decide +kernel
theorem dX0_firstWith_1 : decode cX0_firstWith 1 = .ok (.getfield 36, 3) := by decide +kernel
theorem dX0_firstWith_4 : decode cX0_firstWith 4 = .ok (.istore_n 2, 1) := by decide +kernel
theorem dX0_firstWith_5 : decode cX0_firstWith 5 = .ok (.iload_n 2, 1) := by decide +kernel
theorem dX0_firstWith_6 : decode cX0_firstWith 6 = .ok (.aload_n 0, 1) := by decide +kernel
theorem dX0_firstWith_7 : decode cX0_firstWith 7 = .ok (.getfield 30, 3) := by decide +kernel
theorem dX0_firstWith_10 : decode cX0_firstWith 10 = .ok (.if_icmp .ge 22, 3) := by decide +kernel
theorem dX0_firstWith_13 : decode cX0_firstWith 13 = .ok (.aload_n 0, 1) := by decide +kernel
theorem dX0_firstWith_14 : decode cX0_firstWith 14 = .ok (.iload_n 2, 1) := by decide +kernel
theorem dX0_firstWith_15 : decode cX0_firstWith 15 = .ok (.iload_n 1, 1) := by decide +kernel
theorem dX0_firstWith_16 : decode cX0_firstWith 16 = .ok (.invokevirtual 51, 3) := by decide +kernel
theorem dX0_firstWith_19 : decode cX0_firstWith 19 = .ok (.lconst 0, 1) := by decide +kernel
theorem dX0_firstWith_20 : decode cX0_firstWith 20 = .ok (.lcmp, 1) := by decide +kernel
theorem dX0_firstWith_21 : decode cX0_firstWith 21 = .ok (.ifCond .eq 5, 3) := by decide +kernel
theorem dX0_firstWith_24 : decode cX0_firstWith 24 = .ok (.iload_n 2, 1) := by decide +kernel
theorem dX0_firstWith_25 : decode cX0_firstWith 25 = .ok (.ireturn, 1) := by decide +kernel
theorem dX0_firstWith_26 : decode cX0_firstWith 26 = .ok (.iinc 2 1, 3) := by decide +kernel
theorem dX0_firstWith_29 : decode cX0_firstWith 29 = .ok (.goto (-24), 3) := by decide +kernel
theorem dX0_firstWith_32 : decode cX0_firstWith 32 = .ok (.bipush (-6), 2) := by decide +kernel
theorem dX0_firstWith_34 : decode cX0_firstWith 34 = .ok (.ireturn, 1) := by decide +kernel
set_option maxRecDepth 20000 in
theorem ggX0_exchange_X0_cell : GoodIn wsX0_exchange wsX0_cell := goodIn_r _ [6, 7, 12, 13, 14, 15, 16, 17, 18, 19] (by decide +kernel) (by decide +kernel)
set_option maxRecDepth 20000 in
theorem gX0_exchange_X0_cell : GoodIn wsX0_exchange (wsV RX0 51 RX0 yX0_cell wsX0_cell) := goodIn_app (goodIn_of _ (by decide +kernel)) ggX0_exchange_X0_cell
set_option maxRecDepth 20000 in
theorem ggX0_exchange_X0_put : GoodIn wsX0_exchange wsX0_put := goodIn_r _ [11, 7, 12, 13, 14, 15, 16, 17, 18, 19] (by decide +kernel) (by decide +kernel)
set_option maxRecDepth 20000 in
theorem gX0_exchange_X0_put : GoodIn wsX0_exchange (wsV RX0 55 RX0 yX0_put wsX0_put) := goodIn_app (goodIn_of _ (by decide +kernel)) ggX0_exchange_X0_put
theorem dX0_exchange_0 : decode cX0_exchange 0 = .ok (.iconst 0, 1) := by decide +kernel
theorem dX0_exchange_1 : decode cX0_exchange 1 = .ok (.istore_n 3, 1) := by decide +kernel
theorem dX0_exchange_2 : decode cX0_exchange 2 = .ok (.iload_n 3, 1) := by decide +kernel
theorem dX0_exchange_3 : decode cX0_exchange 3 = .ok (.aload_n 0, 1) := by decide +kernel
theorem dX0_exchange_4 : decode cX0_exchange 4 = .ok (.getfield 26, 3) := by decide +kernel
theorem dX0_exchange_7 : decode cX0_exchange 7 = .ok (.if_icmp .gt 37, 3) := by decide +kernel
theorem dX0_exchange_10 : decode cX0_exchange 10 = .ok (.aload_n 0, 1) := by decide +kernel
theorem dX0_exchange_11 : decode cX0_exchange 11 = .ok (.iload_n 1, 1) := by decide +kernel
theorem dX0_exchange_12 : decode cX0_exchange 12 = .ok (.iload_n 3, 1) := by decide +kernel
theorem dX0_exchange_13 : decode cX0_exchange 13 = .ok (.invokevirtual 51, 3) := by decide +kernel
theorem dX0_exchange_16 : decode cX0_exchange 16 = .ok (.lstore 4, 2) := by decide +kernel
theorem dX0_exchange_18 : decode cX0_exchange 18 = .ok (.aload_n 0, 1) := by decide +kernel
theorem dX0_exchange_19 : decode cX0_exchange 19 = .ok (.iload_n 1, 1) := by decide +kernel
theorem dX0_exchange_20 : decode cX0_exchange 20 = .ok (.iload_n 3, 1) := by decide +kernel
theorem dX0_exchange_21 : decode cX0_exchange 21 = .ok (.aload_n 0, 1) := by decide +kernel
theorem dX0_exchange_22 : decode cX0_exchange 22 = .ok (.iload_n 2, 1) := by decide +kernel
theorem dX0_exchange_23 : decode cX0_exchange 23 = .ok (.iload_n 3, 1) := by decide +kernel
theorem dX0_exchange_24 : decode cX0_exchange 24 = .ok (.invokevirtual 51, 3) := by decide +kernel
theorem dX0_exchange_27 : decode cX0_exchange 27 = .ok (.invokevirtual 55, 3) := by decide +kernel
theorem dX0_exchange_30 : decode cX0_exchange 30 = .ok (.aload_n 0, 1) := by decide +kernel
theorem dX0_exchange_31 : decode cX0_exchange 31 = .ok (.iload_n 2, 1) := by decide +kernel
theorem dX0_exchange_32 : decode cX0_exchange 32 = .ok (.iload_n 3, 1) := by decide +kernel
theorem dX0_exchange_33 : decode cX0_exchange 33 = .ok (.lload 4, 2) := by decide +kernel
theorem dX0_exchange_35 : decode cX0_exchange 35 = .ok (.invokevirtual 55, 3) := by decide +kernel
theorem dX0_exchange_38 : decode cX0_exchange 38 = .ok (.iinc 3 1, 3) := by decide +kernel
theorem dX0_exchange_41 : decode cX0_exchange 41 = .ok (.goto (-39), 3) := by decide +kernel
theorem dX0_exchange_44 : decode cX0_exchange 44 = .ok (.return_, 1) := by decide +kernel
set_option maxRecDepth 20000 in
theorem ggX0_turnAllBehind_X0_cell : GoodIn wsX0_turnAllBehind wsX0_cell := goodIn_r _ [7, 8, 27, 28, 29, 30, 31, 32, 33, 34] (by decide +kernel) (by decide +kernel)
set_option maxRecDepth 20000 in
theorem gX0_turnAllBehind_X0_cell : GoodIn wsX0_turnAllBehind (wsV RX0 51 RX0 yX0_cell wsX0_cell) := goodIn_app (goodIn_of _ (by decide +kernel)) ggX0_turnAllBehind_X0_cell
set_option maxRecDepth 20000 in
theorem ggX0_turnAllBehind_X0_turn : GoodIn wsX0_turnAllBehind wsX0_turn := goodIn_r _ [12, 1, 13, 14, 3, 4, 5, 6, 7, 8, 15, 16, 17, 18, 19, 20, 21, 22, 23, 24, 25, 26, 27, 28, 29, 30, 31, 32, 33, 34] (by decide +kernel) (by decide +kernel)
set_option maxRecDepth 20000 in
theorem gX0_turnAllBehind_X0_turn : GoodIn wsX0_turnAllBehind (wsV RX0 59 RX0 yX0_turn wsX0_turn) := goodIn_app (goodIn_of _ (by decide +kernel)) ggX0_turnAllBehind_X0_turn
theorem dX0_turnAllBehind_0 : decode cX0_turnAllBehind 0 = .ok (.aload_n 0, 1) := by decide +kernel
theorem dX0_turnAllBehind_1 : decode cX0_turnAllBehind 1 = .ok (.getfield 36, 3) := by decide +kernel
theorem dX0_turnAllBehind_4 : decode cX0_turnAllBehind 4 = .ok (.iconst 1, 1) := by decide +kernel
theorem dX0_turnAllBehind_5 : decode cX0_turnAllBehind 5 = .ok (.iadd, 1) := by decide +kernel
theorem dX0_turnAllBehind_6 : decode cX0_turnAllBehind 6 = .ok (.istore_n 2, 1) := by decide +kernel
theorem dX0_turnAllBehind_7 : decode cX0_turnAllBehind 7 = .ok (.iload_n 2, 1) := by decide +kernel
theorem dX0_turnAllBehind_8 : decode cX0_turnAllBehind 8 = .ok (.aload_n 0, 1) := by decide +kernel
theorem dX0_turnAllBehind_9 : decode cX0_turnAllBehind 9 = .ok (.getfield 30, 3) := by decide +kernel
theorem dX0_turnAllBehind_12 : decode cX0_turnAllBehind 12 = .ok (.if_icmp .ge 26, 3) := by decide +kernel
theorem dX0_turnAllBehind_15 : decode cX0_turnAllBehind 15 = .ok (.aload_n 0, 1) := by decide +kernel
theorem dX0_turnAllBehind_16 : decode cX0_turnAllBehind 16 = .ok (.iload_n 2, 1) := by decide +kernel
theorem dX0_turnAllBehind_17 : decode cX0_turnAllBehind 17 = .ok (.iload_n 1, 1) := by decide +kernel
theorem dX0_turnAllBehind_18 : decode cX0_turnAllBehind 18 = .ok (.invokevirtual 51, 3) := by decide +kernel
theorem dX0_turnAllBehind_21 : decode cX0_turnAllBehind 21 = .ok (.lconst 0, 1) := by decide +kernel
theorem dX0_turnAllBehind_22 : decode cX0_turnAllBehind 22 = .ok (.lcmp, 1) := by decide +kernel
theorem dX0_turnAllBehind_23 : decode cX0_turnAllBehind 23 = .ok (.ifCond .eq 9, 3) := by decide +kernel
theorem dX0_turnAllBehind_26 : decode cX0_turnAllBehind 26 = .ok (.aload_n 0, 1) := by decide +kernel
theorem dX0_turnAllBehind_27 : decode cX0_turnAllBehind 27 = .ok (.iload_n 2, 1) := by decide +kernel
theorem dX0_turnAllBehind_28 : decode cX0_turnAllBehind 28 = .ok (.iload_n 1, 1) := by decide +kernel
theorem dX0_turnAllBehind_29 : decode cX0_turnAllBehind 29 = .ok (.invokevirtual 59, 3) := by decide +kernel
theorem dX0_turnAllBehind_32 : decode cX0_turnAllBehind 32 = .ok (.iinc 2 1, 3) := by decide +kernel
theorem dX0_turnAllBehind_35 : decode cX0_turnAllBehind 35 = .ok (.goto (-28), 3) := by decide +kernel
theorem dX0_turnAllBehind_38 : decode cX0_turnAllBehind 38 = .ok (.return_, 1) := by decide +kernel
set_option maxRecDepth 20000 in
theorem ggX0_turn_X0_cell : GoodIn wsX0_turn wsX0_cell := goodIn_r _ [8, 9, 22, 23, 24, 25, 26, 27, 28, 29] (by decide +kernel) (by decide +kernel)
set_option maxRecDepth 20000 in
theorem gX0_turn_X0_cell : GoodIn wsX0_turn (wsV RX0 51 RX0 yX0_cell wsX0_cell) := goodIn_app (goodIn_of _ (by decide +kernel)) ggX0_turn_X0_cell
set_option maxRecDepth 20000 in
theorem ggX0_turn_X0_put : GoodIn wsX0_turn wsX0_put := goodIn_r _ [13, 9, 22, 23, 24, 25, 26, 27, 28, 29] (by decide +kernel) (by decide +kernel)
set_option maxRecDepth 20000 in
theorem gX0_turn_X0_put : GoodIn wsX0_turn (wsV RX0 55 RX0 yX0_put wsX0_put) := goodIn_app (goodIn_of _ (by decide +kernel)) ggX0_turn_X0_put
set_option maxRecDepth 20000 in
theorem ggX0_turn_X5_greatestPart : GoodIn wsX0_turn wsX5_greatestPart := goodIn_r _ [17, 18, 19, 20, 21] (by decide +kernel) (by decide +kernel)
set_option maxRecDepth 20000 in
theorem gX0_turn_X5_greatestPart : GoodIn wsX0_turn (va_wsS RX0 62 yX5_greatestPart wsX5_greatestPart) := goodIn_app (goodIn_of _ (by decide +kernel)) ggX0_turn_X5_greatestPart
theorem dX0_turn_0 : decode cX0_turn 0 = .ok (.aload_n 0, 1) := by decide +kernel
theorem dX0_turn_1 : decode cX0_turn 1 = .ok (.iload_n 1, 1) := by decide +kernel
theorem dX0_turn_2 : decode cX0_turn 2 = .ok (.iload_n 2, 1) := by decide +kernel
theorem dX0_turn_3 : decode cX0_turn 3 = .ok (.invokevirtual 51, 3) := by decide +kernel
theorem dX0_turn_6 : decode cX0_turn 6 = .ok (.lstore_n 3, 1) := by decide +kernel
theorem dX0_turn_7 : decode cX0_turn 7 = .ok (.aload_n 0, 1) := by decide +kernel
theorem dX0_turn_8 : decode cX0_turn 8 = .ok (.aload_n 0, 1) := by decide +kernel
theorem dX0_turn_9 : decode cX0_turn 9 = .ok (.getfield 36, 3) := by decide +kernel
theorem dX0_turn_12 : decode cX0_turn 12 = .ok (.iload_n 2, 1) := by decide +kernel
theorem dX0_turn_13 : decode cX0_turn 13 = .ok (.invokevirtual 51, 3) := by decide +kernel
theorem dX0_turn_16 : decode cX0_turn 16 = .ok (.lstore 5, 2) := by decide +kernel
theorem dX0_turn_18 : decode cX0_turn 18 = .ok (.lconst 0, 1) := by decide +kernel
theorem dX0_turn_19 : decode cX0_turn 19 = .ok (.lstore 7, 2) := by decide +kernel
theorem dX0_turn_21 : decode cX0_turn 21 = .ok (.iconst 0, 1) := by decide +kernel
theorem dX0_turn_22 : decode cX0_turn 22 = .ok (.istore 9, 2) := by decide +kernel
theorem dX0_turn_24 : decode cX0_turn 24 = .ok (.iload 9, 2) := by decide +kernel
theorem dX0_turn_26 : decode cX0_turn 26 = .ok (.aload_n 0, 1) := by decide +kernel
theorem dX0_turn_27 : decode cX0_turn 27 = .ok (.getfield 26, 3) := by decide +kernel
theorem dX0_turn_30 : decode cX0_turn 30 = .ok (.if_icmp .gt 53, 3) := by decide +kernel
theorem dX0_turn_33 : decode cX0_turn 33 = .ok (.aload_n 0, 1) := by decide +kernel
theorem dX0_turn_34 : decode cX0_turn 34 = .ok (.iload_n 1, 1) := by decide +kernel
theorem dX0_turn_35 : decode cX0_turn 35 = .ok (.iload 9, 2) := by decide +kernel
theorem dX0_turn_37 : decode cX0_turn 37 = .ok (.aload_n 0, 1) := by decide +kernel
theorem dX0_turn_38 : decode cX0_turn 38 = .ok (.iload_n 1, 1) := by decide +kernel
theorem dX0_turn_39 : decode cX0_turn 39 = .ok (.iload 9, 2) := by decide +kernel
theorem dX0_turn_41 : decode cX0_turn 41 = .ok (.invokevirtual 51, 3) := by decide +kernel
theorem dX0_turn_44 : decode cX0_turn 44 = .ok (.lload 5, 2) := by decide +kernel
theorem dX0_turn_46 : decode cX0_turn 46 = .ok (.lmul, 1) := by decide +kernel
theorem dX0_turn_47 : decode cX0_turn 47 = .ok (.aload_n 0, 1) := by decide +kernel
theorem dX0_turn_48 : decode cX0_turn 48 = .ok (.aload_n 0, 1) := by decide +kernel
theorem dX0_turn_49 : decode cX0_turn 49 = .ok (.getfield 36, 3) := by decide +kernel
theorem dX0_turn_52 : decode cX0_turn 52 = .ok (.iload 9, 2) := by decide +kernel
theorem dX0_turn_54 : decode cX0_turn 54 = .ok (.invokevirtual 51, 3) := by decide +kernel
theorem dX0_turn_57 : decode cX0_turn 57 = .ok (.lload_n 3, 1) := by decide +kernel
theorem dX0_turn_58 : decode cX0_turn 58 = .ok (.lmul, 1) := by decide +kernel
theorem dX0_turn_59 : decode cX0_turn 59 = .ok (.lsub, 1) := by decide +kernel
theorem dX0_turn_60 : decode cX0_turn 60 = .ok (.invokevirtual 55, 3) := by decide +kernel
theorem dX0_turn_63 : decode cX0_turn 63 = .ok (.lload 7, 2) := by decide +kernel
theorem dX0_turn_65 : decode cX0_turn 65 = .ok (.aload_n 0, 1) := by decide +kernel
theorem dX0_turn_66 : decode cX0_turn 66 = .ok (.iload_n 1, 1) := by decide +kernel
theorem dX0_turn_67 : decode cX0_turn 67 = .ok (.iload 9, 2) := by decide +kernel
theorem dX0_turn_69 : decode cX0_turn 69 = .ok (.invokevirtual 51, 3) := by decide +kernel
theorem dX0_turn_72 : decode cX0_turn 72 = .ok (.invokestatic 62, 3) := by decide +kernel
theorem dX0_turn_75 : decode cX0_turn 75 = .ok (.lstore 7, 2) := by decide +kernel
theorem dX0_turn_77 : decode cX0_turn 77 = .ok (.iinc 9 1, 3) := by decide +kernel
theorem dX0_turn_80 : decode cX0_turn 80 = .ok (.goto (-56), 3) := by decide +kernel
theorem dX0_turn_83 : decode cX0_turn 83 = .ok (.iconst 0, 1) := by decide +kernel
theorem dX0_turn_84 : decode cX0_turn 84 = .ok (.istore 9, 2) := by decide +kernel
theorem dX0_turn_86 : decode cX0_turn 86 = .ok (.iload 9, 2) := by decide +kernel
theorem dX0_turn_88 : decode cX0_turn 88 = .ok (.aload_n 0, 1) := by decide +kernel
theorem dX0_turn_89 : decode cX0_turn 89 = .ok (.getfield 26, 3) := by decide +kernel
theorem dX0_turn_92 : decode cX0_turn 92 = .ok (.if_icmp .gt 33, 3) := by decide +kernel
theorem dX0_turn_95 : decode cX0_turn 95 = .ok (.lload 7, 2) := by decide +kernel
theorem dX0_turn_97 : decode cX0_turn 97 = .ok (.lconst 0, 1) := by decide +kernel
theorem dX0_turn_98 : decode cX0_turn 98 = .ok (.lcmp, 1) := by decide +kernel
theorem dX0_turn_99 : decode cX0_turn 99 = .ok (.ifCond .eq 20, 3) := by decide +kernel
theorem dX0_turn_102 : decode cX0_turn 102 = .ok (.aload_n 0, 1) := by decide +kernel
theorem dX0_turn_103 : decode cX0_turn 103 = .ok (.iload_n 1, 1) := by decide +kernel
theorem dX0_turn_104 : decode cX0_turn 104 = .ok (.iload 9, 2) := by decide +kernel
theorem dX0_turn_106 : decode cX0_turn 106 = .ok (.aload_n 0, 1) := by decide +kernel
theorem dX0_turn_107 : decode cX0_turn 107 = .ok (.iload_n 1, 1) := by decide +kernel
theorem dX0_turn_108 : decode cX0_turn 108 = .ok (.iload 9, 2) := by decide +kernel
theorem dX0_turn_110 : decode cX0_turn 110 = .ok (.invokevirtual 51, 3) := by decide +kernel
theorem dX0_turn_113 : decode cX0_turn 113 = .ok (.lload 7, 2) := by decide +kernel
theorem dX0_turn_115 : decode cX0_turn 115 = .ok (.ldiv, 1) := by decide +kernel
theorem dX0_turn_116 : decode cX0_turn 116 = .ok (.invokevirtual 55, 3) := by decide +kernel
theorem dX0_turn_119 : decode cX0_turn 119 = .ok (.iinc 9 1, 3) := by decide +kernel
theorem dX0_turn_122 : decode cX0_turn 122 = .ok (.goto (-36), 3) := by decide +kernel
theorem dX0_turn_125 : decode cX0_turn 125 = .ok (.aload_n 0, 1) := by decide +kernel
theorem dX0_turn_126 : decode cX0_turn 126 = .ok (.dup, 1) := by decide +kernel
theorem dX0_turn_127 : decode cX0_turn 127 = .ok (.getfield 33, 3) := by decide +kernel
theorem dX0_turn_130 : decode cX0_turn 130 = .ok (.iconst 1, 1) := by decide +kernel
theorem dX0_turn_131 : decode cX0_turn 131 = .ok (.iadd, 1) := by decide +kernel
theorem dX0_turn_132 : decode cX0_turn 132 = .ok (.putfield 33, 3) := by decide +kernel
theorem dX0_turn_135 : decode cX0_turn 135 = .ok (.return_, 1) := by decide +kernel
set_option maxRecDepth 20000 in
theorem ggX0_kindOfAnswer_X0_cell : GoodIn wsX0_kindOfAnswer wsX0_cell := goodIn_r _ [8, 9, 10, 11, 12, 13, 14, 15, 16, 17] (by decide +kernel) (by decide +kernel)
set_option maxRecDepth 20000 in
theorem gX0_kindOfAnswer_X0_cell : GoodIn wsX0_kindOfAnswer (wsV RX0 51 RX0 yX0_cell wsX0_cell) := goodIn_app (goodIn_of _ (by decide +kernel)) ggX0_kindOfAnswer_X0_cell
theorem dX0_kindOfAnswer_0 : decode cX0_kindOfAnswer 0 = .ok (.aload_n 0, 1) := by decide +kernel
theorem dX0_kindOfAnswer_1 : decode cX0_kindOfAnswer 1 = .ok (.getfield 36, 3) := by decide +kernel
theorem dX0_kindOfAnswer_4 : decode cX0_kindOfAnswer 4 = .ok (.istore_n 1, 1) := by decide +kernel
theorem dX0_kindOfAnswer_5 : decode cX0_kindOfAnswer 5 = .ok (.iload_n 1, 1) := by decide +kernel
theorem dX0_kindOfAnswer_6 : decode cX0_kindOfAnswer 6 = .ok (.aload_n 0, 1) := by decide +kernel
theorem dX0_kindOfAnswer_7 : decode cX0_kindOfAnswer 7 = .ok (.getfield 30, 3) := by decide +kernel
theorem dX0_kindOfAnswer_10 : decode cX0_kindOfAnswer 10 = .ok (.if_icmp .ge 25, 3) := by decide +kernel
theorem dX0_kindOfAnswer_13 : decode cX0_kindOfAnswer 13 = .ok (.aload_n 0, 1) := by decide +kernel
theorem dX0_kindOfAnswer_14 : decode cX0_kindOfAnswer 14 = .ok (.iload_n 1, 1) := by decide +kernel
theorem dX0_kindOfAnswer_15 : decode cX0_kindOfAnswer 15 = .ok (.aload_n 0, 1) := by decide +kernel
theorem dX0_kindOfAnswer_16 : decode cX0_kindOfAnswer 16 = .ok (.getfield 26, 3) := by decide +kernel
theorem dX0_kindOfAnswer_19 : decode cX0_kindOfAnswer 19 = .ok (.invokevirtual 51, 3) := by decide +kernel
theorem dX0_kindOfAnswer_22 : decode cX0_kindOfAnswer 22 = .ok (.lconst 0, 1) := by decide +kernel
theorem dX0_kindOfAnswer_23 : decode cX0_kindOfAnswer 23 = .ok (.lcmp, 1) := by decide +kernel
theorem dX0_kindOfAnswer_24 : decode cX0_kindOfAnswer 24 = .ok (.ifCond .eq 5, 3) := by decide +kernel
theorem dX0_kindOfAnswer_27 : decode cX0_kindOfAnswer 27 = .ok (.iconst 0, 1) := by decide +kernel
theorem dX0_kindOfAnswer_28 : decode cX0_kindOfAnswer 28 = .ok (.ireturn, 1) := by decide +kernel
theorem dX0_kindOfAnswer_29 : decode cX0_kindOfAnswer 29 = .ok (.iinc 1 1, 3) := by decide +kernel
theorem dX0_kindOfAnswer_32 : decode cX0_kindOfAnswer 32 = .ok (.goto (-27), 3) := by decide +kernel
theorem dX0_kindOfAnswer_35 : decode cX0_kindOfAnswer 35 = .ok (.aload_n 0, 1) := by decide +kernel
theorem dX0_kindOfAnswer_36 : decode cX0_kindOfAnswer 36 = .ok (.getfield 36, 3) := by decide +kernel
theorem dX0_kindOfAnswer_39 : decode cX0_kindOfAnswer 39 = .ok (.aload_n 0, 1) := by decide +kernel
theorem dX0_kindOfAnswer_40 : decode cX0_kindOfAnswer 40 = .ok (.getfield 26, 3) := by decide +kernel
theorem dX0_kindOfAnswer_43 : decode cX0_kindOfAnswer 43 = .ok (.if_icmp .ne 7, 3) := by decide +kernel
theorem dX0_kindOfAnswer_46 : decode cX0_kindOfAnswer 46 = .ok (.iconst 1, 1) := by decide +kernel
theorem dX0_kindOfAnswer_47 : decode cX0_kindOfAnswer 47 = .ok (.goto 4, 3) := by decide +kernel
theorem dX0_kindOfAnswer_50 : decode cX0_kindOfAnswer 50 = .ok (.iconst 2, 1) := by decide +kernel
theorem dX0_kindOfAnswer_51 : decode cX0_kindOfAnswer 51 = .ok (.ireturn, 1) := by decide +kernel
set_option maxRecDepth 20000 in
theorem ggX0_fraction_X0_solve : GoodIn wsX0_fraction wsX0_solve := goodIn_r _ [5, 6, 7, 8, 9, 10, 11, 12, 13, 14, 4, 15, 16, 17, 18, 19, 20, 21, 22, 23, 24, 25, 26, 27, 28, 29, 30, 31, 32, 33] (by decide +kernel) (by decide +kernel)
set_option maxRecDepth 20000 in
theorem gX0_fraction_X0_solve : GoodIn wsX0_fraction (wsV RX0 68 RX0 yX0_solve wsX0_solve) := goodIn_app (goodIn_of _ (by decide +kernel)) ggX0_fraction_X0_solve
set_option maxRecDepth 20000 in
theorem ggX0_fraction_X0_upper : GoodIn wsX0_fraction wsX0_upper := goodIn_r _ [20, 7, 26, 27, 28, 29, 30, 31, 32, 33] (by decide +kernel) (by decide +kernel)
set_option maxRecDepth 20000 in
theorem gX0_fraction_X0_upper : GoodIn wsX0_fraction (wsV RX0 72 RX0 yX0_upper wsX0_upper) := goodIn_app (goodIn_of _ (by decide +kernel)) ggX0_fraction_X0_upper
set_option maxRecDepth 20000 in
theorem ggX0_fraction_X5_greatestPart : GoodIn wsX0_fraction wsX5_greatestPart := goodIn_r _ [24, 25, 9, 10, 11] (by decide +kernel) (by decide +kernel)
set_option maxRecDepth 20000 in
theorem gX0_fraction_X5_greatestPart : GoodIn wsX0_fraction (va_wsS RX0 62 yX5_greatestPart wsX5_greatestPart) := goodIn_app (goodIn_of _ (by decide +kernel)) ggX0_fraction_X5_greatestPart
theorem dX0_fraction_0 : decode cX0_fraction 0 = .ok (.aload_n 0, 1) := by decide +kernel
theorem dX0_fraction_1 : decode cX0_fraction 1 = .ok (.invokevirtual 68, 3) := by decide +kernel
theorem dX0_fraction_4 : decode cX0_fraction 4 = .ok (.lstore_n 3, 1) := by decide +kernel
theorem dX0_fraction_5 : decode cX0_fraction 5 = .ok (.aload_n 0, 1) := by decide +kernel
theorem dX0_fraction_6 : decode cX0_fraction 6 = .ok (.iload_n 1, 1) := by decide +kernel
theorem dX0_fraction_7 : decode cX0_fraction 7 = .ok (.invokevirtual 72, 3) := by decide +kernel
theorem dX0_fraction_10 : decode cX0_fraction 10 = .ok (.lstore 5, 2) := by decide +kernel
theorem dX0_fraction_12 : decode cX0_fraction 12 = .ok (.lload 5, 2) := by decide +kernel
theorem dX0_fraction_14 : decode cX0_fraction 14 = .ok (.lload_n 3, 1) := by decide +kernel
theorem dX0_fraction_15 : decode cX0_fraction 15 = .ok (.invokestatic 62, 3) := by decide +kernel
theorem dX0_fraction_18 : decode cX0_fraction 18 = .ok (.lstore 7, 2) := by decide +kernel
theorem dX0_fraction_20 : decode cX0_fraction 20 = .ok (.lload 7, 2) := by decide +kernel
theorem dX0_fraction_22 : decode cX0_fraction 22 = .ok (.lconst 0, 1) := by decide +kernel
theorem dX0_fraction_23 : decode cX0_fraction 23 = .ok (.lcmp, 1) := by decide +kernel
theorem dX0_fraction_24 : decode cX0_fraction 24 = .ok (.ifCond .ne 5, 3) := by decide +kernel
theorem dX0_fraction_27 : decode cX0_fraction 27 = .ok (.lconst 0, 1) := by decide +kernel
theorem dX0_fraction_28 : decode cX0_fraction 28 = .ok (.lreturn, 1) := by decide +kernel
theorem dX0_fraction_29 : decode cX0_fraction 29 = .ok (.iload_n 2, 1) := by decide +kernel
theorem dX0_fraction_30 : decode cX0_fraction 30 = .ok (.ifCond .ne 8, 3) := by decide +kernel
theorem dX0_fraction_33 : decode cX0_fraction 33 = .ok (.lload 5, 2) := by decide +kernel
theorem dX0_fraction_35 : decode cX0_fraction 35 = .ok (.goto 4, 3) := by decide +kernel
theorem dX0_fraction_38 : decode cX0_fraction 38 = .ok (.lload_n 3, 1) := by decide +kernel
theorem dX0_fraction_39 : decode cX0_fraction 39 = .ok (.lload 7, 2) := by decide +kernel
theorem dX0_fraction_41 : decode cX0_fraction 41 = .ok (.ldiv, 1) := by decide +kernel
theorem dX0_fraction_42 : decode cX0_fraction 42 = .ok (.lreturn, 1) := by decide +kernel
theorem dX0_upper_0 : decode cX0_upper 0 = .ok (.iload_n 1, 1) := by decide +kernel
theorem dX0_upper_1 : decode cX0_upper 1 = .ok (.ifCond .lt 21, 3) := by decide +kernel
theorem dX0_upper_4 : decode cX0_upper 4 = .ok (.iload_n 1, 1) := by decide +kernel
theorem dX0_upper_5 : decode cX0_upper 5 = .ok (.aload_n 0, 1) := by decide +kernel
theorem dX0_upper_6 : decode cX0_upper 6 = .ok (.getfield 23, 3) := by decide +kernel
theorem dX0_upper_9 : decode cX0_upper 9 = .ok (.arraylength, 1) := by decide +kernel
theorem dX0_upper_10 : decode cX0_upper 10 = .ok (.if_icmp .ge 12, 3) := by decide +kernel
theorem dX0_upper_13 : decode cX0_upper 13 = .ok (.aload_n 0, 1) := by decide +kernel
theorem dX0_upper_14 : decode cX0_upper 14 = .ok (.getfield 23, 3) := by decide +kernel
theorem dX0_upper_17 : decode cX0_upper 17 = .ok (.iload_n 1, 1) := by decide +kernel
theorem dX0_upper_18 : decode cX0_upper 18 = .ok (.laload, 1) := by decide +kernel
theorem dX0_upper_19 : decode cX0_upper 19 = .ok (.goto 4, 3) := by decide +kernel
theorem dX0_upper_22 : decode cX0_upper 22 = .ok (.lconst 0, 1) := by decide +kernel
theorem dX0_upper_23 : decode cX0_upper 23 = .ok (.lreturn, 1) := by decide +kernel
set_option maxRecDepth 20000 in
theorem ggX0_solve_X0_cell : GoodIn wsX0_solve wsX0_cell := goodIn_r _ [11, 12, 22, 23, 24, 25, 26, 27, 28, 29] (by decide +kernel) (by decide +kernel)
set_option maxRecDepth 20000 in
theorem gX0_solve_X0_cell : GoodIn wsX0_solve (wsV RX0 51 RX0 yX0_cell wsX0_cell) := goodIn_app (goodIn_of _ (by decide +kernel)) ggX0_solve_X0_cell
set_option maxRecDepth 20000 in
theorem ggX0_solve_X0_upper : GoodIn wsX0_solve wsX0_upper := goodIn_r _ [16, 2, 22, 23, 24, 25, 26, 27, 28, 29] (by decide +kernel) (by decide +kernel)
set_option maxRecDepth 20000 in
theorem gX0_solve_X0_upper : GoodIn wsX0_solve (wsV RX0 72 RX0 yX0_upper wsX0_upper) := goodIn_app (goodIn_of _ (by decide +kernel)) ggX0_solve_X0_upper
set_option maxRecDepth 20000 in
theorem ggX0_solve_X5_greatestPart : GoodIn wsX0_solve wsX5_greatestPart := goodIn_r _ [20, 21, 4, 5, 6] (by decide +kernel) (by decide +kernel)
set_option maxRecDepth 20000 in
theorem gX0_solve_X5_greatestPart : GoodIn wsX0_solve (va_wsS RX0 62 yX5_greatestPart wsX5_greatestPart) := goodIn_app (goodIn_of _ (by decide +kernel)) ggX0_solve_X5_greatestPart
theorem dX0_solve_0 : decode cX0_solve 0 = .ok (.lconst 1, 1) := by decide +kernel
theorem dX0_solve_1 : decode cX0_solve 1 = .ok (.lstore_n 1, 1) := by decide +kernel
theorem dX0_solve_2 : decode cX0_solve 2 = .ok (.aload_n 0, 1) := by decide +kernel
theorem dX0_solve_3 : decode cX0_solve 3 = .ok (.getfield 26, 3) := by decide +kernel
theorem dX0_solve_6 : decode cX0_solve 6 = .ok (.iconst 1, 1) := by decide +kernel
theorem dX0_solve_7 : decode cX0_solve 7 = .ok (.isub, 1) := by decide +kernel
theorem dX0_solve_8 : decode cX0_solve 8 = .ok (.istore_n 3, 1) := by decide +kernel
theorem dX0_solve_9 : decode cX0_solve 9 = .ok (.iload_n 3, 1) := by decide +kernel
theorem dX0_solve_10 : decode cX0_solve 10 = .ok (.ifCond .lt 177, 3) := by decide +kernel
theorem dX0_solve_13 : decode cX0_solve 13 = .ok (.iload_n 3, 1) := by decide +kernel
theorem dX0_solve_14 : decode cX0_solve 14 = .ok (.aload_n 0, 1) := by decide +kernel
theorem dX0_solve_15 : decode cX0_solve 15 = .ok (.getfield 23, 3) := by decide +kernel
theorem dX0_solve_18 : decode cX0_solve 18 = .ok (.arraylength, 1) := by decide +kernel
theorem dX0_solve_19 : decode cX0_solve 19 = .ok (.if_icmp .ge 168, 3) := by decide +kernel
theorem dX0_solve_22 : decode cX0_solve 22 = .ok (.aload_n 0, 1) := by decide +kernel
theorem dX0_solve_23 : decode cX0_solve 23 = .ok (.iload_n 3, 1) := by decide +kernel
theorem dX0_solve_24 : decode cX0_solve 24 = .ok (.aload_n 0, 1) := by decide +kernel
theorem dX0_solve_25 : decode cX0_solve 25 = .ok (.getfield 26, 3) := by decide +kernel
theorem dX0_solve_28 : decode cX0_solve 28 = .ok (.invokevirtual 51, 3) := by decide +kernel
theorem dX0_solve_31 : decode cX0_solve 31 = .ok (.lload_n 1, 1) := by decide +kernel
theorem dX0_solve_32 : decode cX0_solve 32 = .ok (.lmul, 1) := by decide +kernel
theorem dX0_solve_33 : decode cX0_solve 33 = .ok (.lstore 4, 2) := by decide +kernel
theorem dX0_solve_35 : decode cX0_solve 35 = .ok (.iload_n 3, 1) := by decide +kernel
theorem dX0_solve_36 : decode cX0_solve 36 = .ok (.iconst 1, 1) := by decide +kernel
theorem dX0_solve_37 : decode cX0_solve 37 = .ok (.iadd, 1) := by decide +kernel
theorem dX0_solve_38 : decode cX0_solve 38 = .ok (.istore 6, 2) := by decide +kernel
theorem dX0_solve_40 : decode cX0_solve 40 = .ok (.iload 6, 2) := by decide +kernel
theorem dX0_solve_42 : decode cX0_solve 42 = .ok (.aload_n 0, 1) := by decide +kernel
theorem dX0_solve_43 : decode cX0_solve 43 = .ok (.getfield 26, 3) := by decide +kernel
theorem dX0_solve_46 : decode cX0_solve 46 = .ok (.if_icmp .ge 28, 3) := by decide +kernel
theorem dX0_solve_49 : decode cX0_solve 49 = .ok (.lload 4, 2) := by decide +kernel
theorem dX0_solve_51 : decode cX0_solve 51 = .ok (.aload_n 0, 1) := by decide +kernel
theorem dX0_solve_52 : decode cX0_solve 52 = .ok (.iload_n 3, 1) := by decide +kernel
theorem dX0_solve_53 : decode cX0_solve 53 = .ok (.iload 6, 2) := by decide +kernel
theorem dX0_solve_55 : decode cX0_solve 55 = .ok (.invokevirtual 51, 3) := by decide +kernel
theorem dX0_solve_58 : decode cX0_solve 58 = .ok (.aload_n 0, 1) := by decide +kernel
theorem dX0_solve_59 : decode cX0_solve 59 = .ok (.iload 6, 2) := by decide +kernel
theorem dX0_solve_61 : decode cX0_solve 61 = .ok (.invokevirtual 72, 3) := by decide +kernel
theorem dX0_solve_64 : decode cX0_solve 64 = .ok (.lmul, 1) := by decide +kernel
theorem dX0_solve_65 : decode cX0_solve 65 = .ok (.lsub, 1) := by decide +kernel
theorem dX0_solve_66 : decode cX0_solve 66 = .ok (.lstore 4, 2) := by decide +kernel
theorem dX0_solve_68 : decode cX0_solve 68 = .ok (.iinc 6 1, 3) := by decide +kernel
theorem dX0_solve_71 : decode cX0_solve 71 = .ok (.goto (-31), 3) := by decide +kernel
theorem dX0_solve_74 : decode cX0_solve 74 = .ok (.aload_n 0, 1) := by decide +kernel
theorem dX0_solve_75 : decode cX0_solve 75 = .ok (.iload_n 3, 1) := by decide +kernel
theorem dX0_solve_76 : decode cX0_solve 76 = .ok (.iload_n 3, 1) := by decide +kernel
theorem dX0_solve_77 : decode cX0_solve 77 = .ok (.invokevirtual 51, 3) := by decide +kernel
theorem dX0_solve_80 : decode cX0_solve 80 = .ok (.lstore 6, 2) := by decide +kernel
theorem dX0_solve_82 : decode cX0_solve 82 = .ok (.lload 4, 2) := by decide +kernel
theorem dX0_solve_84 : decode cX0_solve 84 = .ok (.lload 6, 2) := by decide +kernel
theorem dX0_solve_86 : decode cX0_solve 86 = .ok (.invokestatic 62, 3) := by decide +kernel
theorem dX0_solve_89 : decode cX0_solve 89 = .ok (.lstore 8, 2) := by decide +kernel
theorem dX0_solve_91 : decode cX0_solve 91 = .ok (.lload 8, 2) := by decide +kernel
theorem dX0_solve_93 : decode cX0_solve 93 = .ok (.lconst 0, 1) := by decide +kernel
theorem dX0_solve_94 : decode cX0_solve 94 = .ok (.lcmp, 1) := by decide +kernel
theorem dX0_solve_95 : decode cX0_solve 95 = .ok (.ifCond .ne 5, 3) := by decide +kernel
theorem dX0_solve_98 : decode cX0_solve 98 = .ok (.lconst 0, 1) := by decide +kernel
theorem dX0_solve_99 : decode cX0_solve 99 = .ok (.lreturn, 1) := by decide +kernel
theorem dX0_solve_100 : decode cX0_solve 100 = .ok (.lload 6, 2) := by decide +kernel
theorem dX0_solve_102 : decode cX0_solve 102 = .ok (.invokestatic 76, 3) := by decide +kernel
theorem dX0_solve_105 : decode cX0_solve 105 = .ok (.lload 8, 2) := by decide +kernel
theorem dX0_solve_107 : decode cX0_solve 107 = .ok (.ldiv, 1) := by decide +kernel
theorem dX0_solve_108 : decode cX0_solve 108 = .ok (.lstore 10, 2) := by decide +kernel
theorem dX0_solve_110 : decode cX0_solve 110 = .ok (.aload_n 0, 1) := by decide +kernel
theorem dX0_solve_111 : decode cX0_solve 111 = .ok (.getfield 23, 3) := by decide +kernel
theorem dX0_solve_114 : decode cX0_solve 114 = .ok (.iload_n 3, 1) := by decide +kernel
theorem dX0_solve_115 : decode cX0_solve 115 = .ok (.lload 6, 2) := by decide +kernel
theorem dX0_solve_117 : decode cX0_solve 117 = .ok (.lconst 0, 1) := by decide +kernel
theorem dX0_solve_118 : decode cX0_solve 118 = .ok (.lcmp, 1) := by decide +kernel
theorem dX0_solve_119 : decode cX0_solve 119 = .ok (.ifCond .ge 9, 3) := by decide +kernel
theorem dX0_solve_122 : decode cX0_solve 122 = .ok (.lload 4, 2) := by decide +kernel
theorem dX0_solve_124 : decode cX0_solve 124 = .ok (.lneg, 1) := by decide +kernel
theorem dX0_solve_125 : decode cX0_solve 125 = .ok (.goto 5, 3) := by decide +kernel
theorem dX0_solve_128 : decode cX0_solve 128 = .ok (.lload 4, 2) := by decide +kernel
theorem dX0_solve_130 : decode cX0_solve 130 = .ok (.lload 8, 2) := by decide +kernel
theorem dX0_solve_132 : decode cX0_solve 132 = .ok (.ldiv, 1) := by decide +kernel
theorem dX0_solve_133 : decode cX0_solve 133 = .ok (.lastore, 1) := by decide +kernel
theorem dX0_solve_134 : decode cX0_solve 134 = .ok (.iload_n 3, 1) := by decide +kernel
theorem dX0_solve_135 : decode cX0_solve 135 = .ok (.iconst 1, 1) := by decide +kernel
theorem dX0_solve_136 : decode cX0_solve 136 = .ok (.iadd, 1) := by decide +kernel
theorem dX0_solve_137 : decode cX0_solve 137 = .ok (.istore 12, 2) := by decide +kernel
theorem dX0_solve_139 : decode cX0_solve 139 = .ok (.iload 12, 2) := by decide +kernel
theorem dX0_solve_141 : decode cX0_solve 141 = .ok (.aload_n 0, 1) := by decide +kernel
theorem dX0_solve_142 : decode cX0_solve 142 = .ok (.getfield 26, 3) := by decide +kernel
theorem dX0_solve_145 : decode cX0_solve 145 = .ok (.if_icmp .ge 31, 3) := by decide +kernel
theorem dX0_solve_148 : decode cX0_solve 148 = .ok (.iload 12, 2) := by decide +kernel
theorem dX0_solve_150 : decode cX0_solve 150 = .ok (.aload_n 0, 1) := by decide +kernel
theorem dX0_solve_151 : decode cX0_solve 151 = .ok (.getfield 23, 3) := by decide +kernel
theorem dX0_solve_154 : decode cX0_solve 154 = .ok (.arraylength, 1) := by decide +kernel
theorem dX0_solve_155 : decode cX0_solve 155 = .ok (.if_icmp .ge 21, 3) := by decide +kernel
theorem dX0_solve_158 : decode cX0_solve 158 = .ok (.aload_n 0, 1) := by decide +kernel
theorem dX0_solve_159 : decode cX0_solve 159 = .ok (.getfield 23, 3) := by decide +kernel
theorem dX0_solve_162 : decode cX0_solve 162 = .ok (.iload 12, 2) := by decide +kernel
theorem dX0_solve_164 : decode cX0_solve 164 = .ok (.dup2, 1) := by decide +kernel
theorem dX0_solve_165 : decode cX0_solve 165 = .ok (.laload, 1) := by decide +kernel
theorem dX0_solve_166 : decode cX0_solve 166 = .ok (.lload 10, 2) := by decide +kernel
theorem dX0_solve_168 : decode cX0_solve 168 = .ok (.lmul, 1) := by decide +kernel
theorem dX0_solve_169 : decode cX0_solve 169 = .ok (.lastore, 1) := by decide +kernel
theorem dX0_solve_170 : decode cX0_solve 170 = .ok (.iinc 12 1, 3) := by decide +kernel
theorem dX0_solve_173 : decode cX0_solve 173 = .ok (.goto (-34), 3) := by decide +kernel
theorem dX0_solve_176 : decode cX0_solve 176 = .ok (.lload_n 1, 1) := by decide +kernel
theorem dX0_solve_177 : decode cX0_solve 177 = .ok (.lload 10, 2) := by decide +kernel
theorem dX0_solve_179 : decode cX0_solve 179 = .ok (.lmul, 1) := by decide +kernel
theorem dX0_solve_180 : decode cX0_solve 180 = .ok (.lstore_n 1, 1) := by decide +kernel
theorem dX0_solve_181 : decode cX0_solve 181 = .ok (.iinc 3 (-1), 3) := by decide +kernel
theorem dX0_solve_184 : decode cX0_solve 184 = .ok (.goto (-175), 3) := by decide +kernel
theorem dX0_solve_187 : decode cX0_solve 187 = .ok (.lload_n 1, 1) := by decide +kernel
theorem dX0_solve_188 : decode cX0_solve 188 = .ok (.lreturn, 1) := by decide +kernel
set_option maxRecDepth 20000 in
theorem ggX1_init_X3_init : GoodIn wsX1_init wsX3_init := goodIn_r _ [9, 10, 2, 3, 11, 12, 13, 14, 15, 16, 17] (by decide +kernel) (by decide +kernel)
set_option maxRecDepth 20000 in
theorem gX1_init_X3_init_n11 : GoodIn wsX1_init (wsX3_init) := ggX1_init_X3_init
theorem dX1_init_0 : decode cX1_init 0 = .ok (.aload_n 0, 1) := by decide +kernel
theorem dX1_init_1 : decode cX1_init 1 = .ok (.invokespecial 3, 3) := by decide +kernel
theorem dX1_init_4 : decode cX1_init 4 = .ok (.aload_n 0, 1) := by decide +kernel
theorem dX1_init_5 : decode cX1_init 5 = .ok (.new 9, 3) := by decide +kernel
theorem dX1_init_8 : decode cX1_init 8 = .ok (.dup, 1) := by decide +kernel
theorem dX1_init_9 : decode cX1_init 9 = .ok (.invokespecial 11, 3) := by decide +kernel
theorem dX1_init_12 : decode cX1_init 12 = .ok (.putfield 12, 3) := by decide +kernel
theorem dX1_init_15 : decode cX1_init 15 = .ok (.return_, 1) := by decide +kernel
set_option maxRecDepth 20000 in
theorem ggX1_hasCopy_X3_size : GoodIn wsX1_hasCopy wsX3_size := goodIn_r _ [6, 7, 9, 10, 11] (by decide +kernel) (by decide +kernel)
set_option maxRecDepth 20000 in
theorem gX1_hasCopy_X3_size : GoodIn wsX1_hasCopy (wsV RX1 18 RX3 yX3_size wsX3_size) := goodIn_app (goodIn_of _ (by decide +kernel)) ggX1_hasCopy_X3_size
theorem dX1_hasCopy_0 : decode cX1_hasCopy 0 = .ok (.aload_n 0, 1) := by decide +kernel
theorem dX1_hasCopy_1 : decode cX1_hasCopy 1 = .ok (.getfield 12, 3) := by decide +kernel
theorem dX1_hasCopy_4 : decode cX1_hasCopy 4 = .ok (.invokevirtual 18, 3) := by decide +kernel
theorem dX1_hasCopy_7 : decode cX1_hasCopy 7 = .ok (.ifCond .le 7, 3) := by decide +kernel
theorem dX1_hasCopy_10 : decode cX1_hasCopy 10 = .ok (.iconst 1, 1) := by decide +kernel
theorem dX1_hasCopy_11 : decode cX1_hasCopy 11 = .ok (.goto 4, 3) := by decide +kernel
theorem dX1_hasCopy_14 : decode cX1_hasCopy 14 = .ok (.iconst 0, 1) := by decide +kernel
theorem dX1_hasCopy_15 : decode cX1_hasCopy 15 = .ok (.ireturn, 1) := by decide +kernel
set_option maxRecDepth 20000 in
theorem ggX1_forget_X3_forget : GoodIn wsX1_forget wsX3_forget := goodIn_r _ [6, 7, 9, 10, 11] (by decide +kernel) (by decide +kernel)
set_option maxRecDepth 20000 in
theorem gX1_forget_X3_forget : GoodIn wsX1_forget (wsV RX1 22 RX3 yX3_forget wsX3_forget) := goodIn_app (goodIn_of _ (by decide +kernel)) ggX1_forget_X3_forget
theorem dX1_forget_0 : decode cX1_forget 0 = .ok (.aload_n 0, 1) := by decide +kernel
theorem dX1_forget_1 : decode cX1_forget 1 = .ok (.getfield 12, 3) := by decide +kernel
theorem dX1_forget_4 : decode cX1_forget 4 = .ok (.invokevirtual 22, 3) := by decide +kernel
theorem dX1_forget_7 : decode cX1_forget 7 = .ok (.return_, 1) := by decide +kernel
set_option maxRecDepth 20000 in
theorem ggX1_copyFrom_X3_takeFrom : GoodIn wsX1_copyFrom wsX3_takeFrom := goodIn_r _ [6, 7, 8, 9, 11, 12, 13] (by decide +kernel) (by decide +kernel)
set_option maxRecDepth 20000 in
theorem gX1_copyFrom_X3_takeFrom : GoodIn wsX1_copyFrom (wsV RX1 25 RX3 yX3_takeFrom wsX3_takeFrom) := goodIn_app (goodIn_of _ (by decide +kernel)) ggX1_copyFrom_X3_takeFrom
theorem dX1_copyFrom_0 : decode cX1_copyFrom 0 = .ok (.aload_n 0, 1) := by decide +kernel
theorem dX1_copyFrom_1 : decode cX1_copyFrom 1 = .ok (.getfield 12, 3) := by decide +kernel
theorem dX1_copyFrom_4 : decode cX1_copyFrom 4 = .ok (.aload_n 1, 1) := by decide +kernel
theorem dX1_copyFrom_5 : decode cX1_copyFrom 5 = .ok (.invokevirtual 25, 3) := by decide +kernel
theorem dX1_copyFrom_8 : decode cX1_copyFrom 8 = .ok (.return_, 1) := by decide +kernel
set_option maxRecDepth 20000 in
theorem ggX1_change_X3_cell : GoodIn wsX1_change wsX3_cell := goodIn_r _ [6, 7, 13, 14, 15] (by decide +kernel) (by decide +kernel)
set_option maxRecDepth 20000 in
theorem gX1_change_X3_cell : GoodIn wsX1_change (wsV RX1 29 RX3 yX3_cell wsX3_cell) := goodIn_app (goodIn_of _ (by decide +kernel)) ggX1_change_X3_cell
set_option maxRecDepth 20000 in
theorem ggX1_change_X3_put : GoodIn wsX1_change wsX3_put := goodIn_r _ [11, 7, 13, 14, 15] (by decide +kernel) (by decide +kernel)
set_option maxRecDepth 20000 in
theorem gX1_change_X3_put : GoodIn wsX1_change (wsV RX1 33 RX3 yX3_put wsX3_put) := goodIn_app (goodIn_of _ (by decide +kernel)) ggX1_change_X3_put
theorem dX1_change_0 : decode cX1_change 0 = .ok (.aload_n 0, 1) := by decide +kernel
theorem dX1_change_1 : decode cX1_change 1 = .ok (.getfield 12, 3) := by decide +kernel
theorem dX1_change_4 : decode cX1_change 4 = .ok (.iload_n 1, 1) := by decide +kernel
theorem dX1_change_5 : decode cX1_change 5 = .ok (.iload_n 2, 1) := by decide +kernel
theorem dX1_change_6 : decode cX1_change 6 = .ok (.invokevirtual 29, 3) := by decide +kernel
theorem dX1_change_9 : decode cX1_change 9 = .ok (.lload_n 3, 1) := by decide +kernel
theorem dX1_change_10 : decode cX1_change 10 = .ok (.lcmp, 1) := by decide +kernel
theorem dX1_change_11 : decode cX1_change 11 = .ok (.ifCond .ne 5, 3) := by decide +kernel
theorem dX1_change_14 : decode cX1_change 14 = .ok (.iconst 0, 1) := by decide +kernel
theorem dX1_change_15 : decode cX1_change 15 = .ok (.ireturn, 1) := by decide +kernel
theorem dX1_change_16 : decode cX1_change 16 = .ok (.aload_n 0, 1) := by decide +kernel
theorem dX1_change_17 : decode cX1_change 17 = .ok (.getfield 12, 3) := by decide +kernel
theorem dX1_change_20 : decode cX1_change 20 = .ok (.iload_n 1, 1) := by decide +kernel
theorem dX1_change_21 : decode cX1_change 21 = .ok (.iload_n 2, 1) := by decide +kernel
theorem dX1_change_22 : decode cX1_change 22 = .ok (.lload_n 3, 1) := by decide +kernel
theorem dX1_change_23 : decode cX1_change 23 = .ok (.invokevirtual 33, 3) := by decide +kernel
theorem dX1_change_26 : decode cX1_change 26 = .ok (.iconst 1, 1) := by decide +kernel
theorem dX1_change_27 : decode cX1_change 27 = .ok (.ireturn, 1) := by decide +kernel
set_option maxRecDepth 20000 in
theorem ggX1_allGaps_X3_size : GoodIn wsX1_allGaps wsX3_size := goodIn_r _ [6, 7, 20, 21, 22] (by decide +kernel) (by decide +kernel)
set_option maxRecDepth 20000 in
theorem gX1_allGaps_X3_size : GoodIn wsX1_allGaps (wsV RX1 18 RX3 yX3_size wsX3_size) := goodIn_app (goodIn_of _ (by decide +kernel)) ggX1_allGaps_X3_size
set_option maxRecDepth 20000 in
theorem ggX1_allGaps_X1_gapsIn : GoodIn wsX1_allGaps wsX1_gapsIn := goodIn_r _ [12, 1, 13, 14, 15, 16, 5, 17, 18, 19, 20, 21, 22] (by decide +kernel) (by decide +kernel)
set_option maxRecDepth 20000 in
theorem gX1_allGaps_X1_gapsIn : GoodIn wsX1_allGaps (wsV RX1 37 RX1 yX1_gapsIn wsX1_gapsIn) := goodIn_app (goodIn_of _ (by decide +kernel)) ggX1_allGaps_X1_gapsIn
theorem dX1_allGaps_0 : decode cX1_allGaps 0 = .ok (.iconst 0, 1) := by decide +kernel
theorem dX1_allGaps_1 : decode cX1_allGaps 1 = .ok (.istore_n 1, 1) := by decide +kernel
theorem dX1_allGaps_2 : decode cX1_allGaps 2 = .ok (.iconst 0, 1) := by decide +kernel
theorem dX1_allGaps_3 : decode cX1_allGaps 3 = .ok (.istore_n 2, 1) := by decide +kernel
theorem dX1_allGaps_4 : decode cX1_allGaps 4 = .ok (.iload_n 2, 1) := by decide +kernel
theorem dX1_allGaps_5 : decode cX1_allGaps 5 = .ok (.aload_n 0, 1) := by decide +kernel
theorem dX1_allGaps_6 : decode cX1_allGaps 6 = .ok (.getfield 12, 3) := by decide +kernel
theorem dX1_allGaps_9 : decode cX1_allGaps 9 = .ok (.invokevirtual 18, 3) := by decide +kernel
theorem dX1_allGaps_12 : decode cX1_allGaps 12 = .ok (.if_icmp .ge 17, 3) := by decide +kernel
theorem dX1_allGaps_15 : decode cX1_allGaps 15 = .ok (.iload_n 1, 1) := by decide +kernel
theorem dX1_allGaps_16 : decode cX1_allGaps 16 = .ok (.aload_n 0, 1) := by decide +kernel
theorem dX1_allGaps_17 : decode cX1_allGaps 17 = .ok (.iload_n 2, 1) := by decide +kernel
theorem dX1_allGaps_18 : decode cX1_allGaps 18 = .ok (.invokevirtual 37, 3) := by decide +kernel
theorem dX1_allGaps_21 : decode cX1_allGaps 21 = .ok (.iadd, 1) := by decide +kernel
theorem dX1_allGaps_22 : decode cX1_allGaps 22 = .ok (.istore_n 1, 1) := by decide +kernel
theorem dX1_allGaps_23 : decode cX1_allGaps 23 = .ok (.iinc 2 1, 3) := by decide +kernel
theorem dX1_allGaps_26 : decode cX1_allGaps 26 = .ok (.goto (-22), 3) := by decide +kernel
theorem dX1_allGaps_29 : decode cX1_allGaps 29 = .ok (.iload_n 1, 1) := by decide +kernel
theorem dX1_allGaps_30 : decode cX1_allGaps 30 = .ok (.ireturn, 1) := by decide +kernel
set_option maxRecDepth 20000 in
theorem ggX1_gapsIn_X3_cell : GoodIn wsX1_gapsIn wsX3_cell := goodIn_r _ [7, 8, 10, 11, 12] (by decide +kernel) (by decide +kernel)
set_option maxRecDepth 20000 in
theorem gX1_gapsIn_X3_cell : GoodIn wsX1_gapsIn (wsV RX1 29 RX3 yX3_cell wsX3_cell) := goodIn_app (goodIn_of _ (by decide +kernel)) ggX1_gapsIn_X3_cell
theorem dX1_gapsIn_0 : decode cX1_gapsIn 0 = .ok (.iconst 0, 1) := by decide +kernel
theorem dX1_gapsIn_1 : decode cX1_gapsIn 1 = .ok (.istore_n 2, 1) := by decide +kernel
theorem dX1_gapsIn_2 : decode cX1_gapsIn 2 = .ok (.iconst 0, 1) := by decide +kernel
theorem dX1_gapsIn_3 : decode cX1_gapsIn 3 = .ok (.istore_n 3, 1) := by decide +kernel
theorem dX1_gapsIn_4 : decode cX1_gapsIn 4 = .ok (.iload_n 3, 1) := by decide +kernel
theorem dX1_gapsIn_5 : decode cX1_gapsIn 5 = .ok (.bipush 8, 2) := by decide +kernel
theorem dX1_gapsIn_7 : decode cX1_gapsIn 7 = .ok (.if_icmp .ge 28, 3) := by decide +kernel
theorem dX1_gapsIn_10 : decode cX1_gapsIn 10 = .ok (.aload_n 0, 1) := by decide +kernel
theorem dX1_gapsIn_11 : decode cX1_gapsIn 11 = .ok (.getfield 12, 3) := by decide +kernel
theorem dX1_gapsIn_14 : decode cX1_gapsIn 14 = .ok (.iload_n 1, 1) := by decide +kernel
theorem dX1_gapsIn_15 : decode cX1_gapsIn 15 = .ok (.iload_n 3, 1) := by decide +kernel
theorem dX1_gapsIn_16 : decode cX1_gapsIn 16 = .ok (.invokevirtual 29, 3) := by decide +kernel
theorem dX1_gapsIn_19 : decode cX1_gapsIn 19 = .ok (.ldc2_w 41, 3) := by decide +kernel
theorem dX1_gapsIn_22 : decode cX1_gapsIn 22 = .ok (.lcmp, 1) := by decide +kernel
theorem dX1_gapsIn_23 : decode cX1_gapsIn 23 = .ok (.ifCond .ne 6, 3) := by decide +kernel
theorem dX1_gapsIn_26 : decode cX1_gapsIn 26 = .ok (.iinc 2 1, 3) := by decide +kernel
theorem dX1_gapsIn_29 : decode cX1_gapsIn 29 = .ok (.iinc 3 1, 3) := by decide +kernel
theorem dX1_gapsIn_32 : decode cX1_gapsIn 32 = .ok (.goto (-28), 3) := by decide +kernel
theorem dX1_gapsIn_35 : decode cX1_gapsIn 35 = .ok (.iload_n 2, 1) := by decide +kernel
theorem dX1_gapsIn_36 : decode cX1_gapsIn 36 = .ok (.ireturn, 1) := by decide +kernel
set_option maxRecDepth 20000 in
theorem ggX1_isDark_X1_gapsIn : GoodIn wsX1_isDark wsX1_gapsIn := goodIn_r _ [5, 6, 7, 8, 9, 10, 11, 12, 13, 14, 15, 16, 17] (by decide +kernel) (by decide +kernel)
set_option maxRecDepth 20000 in
theorem gX1_isDark_X1_gapsIn : GoodIn wsX1_isDark (wsV RX1 37 RX1 yX1_gapsIn wsX1_gapsIn) := goodIn_app (goodIn_of _ (by decide +kernel)) ggX1_isDark_X1_gapsIn
theorem dX1_isDark_0 : decode cX1_isDark 0 = .ok (.aload_n 0, 1) := by decide +kernel
theorem dX1_isDark_1 : decode cX1_isDark 1 = .ok (.iload_n 1, 1) := by decide +kernel
theorem dX1_isDark_2 : decode cX1_isDark 2 = .ok (.invokevirtual 37, 3) := by decide +kernel
theorem dX1_isDark_5 : decode cX1_isDark 5 = .ok (.ifCond .gt 13, 3) := by decide +kernel
theorem dX1_isDark_8 : decode cX1_isDark 8 = .ok (.aload_n 0, 1) := by decide +kernel
theorem dX1_isDark_9 : decode cX1_isDark 9 = .ok (.iload_n 1, 1) := by decide +kernel
theorem dX1_isDark_10 : decode cX1_isDark 10 = .ok (.iconst 1, 1) := by decide +kernel
theorem dX1_isDark_11 : decode cX1_isDark 11 = .ok (.iadd, 1) := by decide +kernel
theorem dX1_isDark_12 : decode cX1_isDark 12 = .ok (.invokevirtual 37, 3) := by decide +kernel
theorem dX1_isDark_15 : decode cX1_isDark 15 = .ok (.ifCond .le 7, 3) := by decide +kernel
theorem dX1_isDark_18 : decode cX1_isDark 18 = .ok (.iconst 1, 1) := by decide +kernel
theorem dX1_isDark_19 : decode cX1_isDark 19 = .ok (.goto 4, 3) := by decide +kernel
theorem dX1_isDark_22 : decode cX1_isDark 22 = .ok (.iconst 0, 1) := by decide +kernel
theorem dX1_isDark_23 : decode cX1_isDark 23 = .ok (.ireturn, 1) := by decide +kernel
set_option maxRecDepth 20000 in
theorem ggX1_isRight_X3_steps : GoodIn wsX1_isRight wsX3_steps := goodIn_r _ [6, 7, 71, 72, 73] (by decide +kernel) (by decide +kernel)
set_option maxRecDepth 20000 in
theorem gX1_isRight_X3_steps : GoodIn wsX1_isRight (wsV RX1 43 RX3 yX3_steps wsX3_steps) := goodIn_app (goodIn_of _ (by decide +kernel)) ggX1_isRight_X3_steps
set_option maxRecDepth 20000 in
theorem ggX1_isRight_X1_isDark : GoodIn wsX1_isRight wsX1_isDark := goodIn_r _ [12, 13, 14, 15, 11, 16, 1, 17, 18, 19, 20, 5, 21, 22, 70, 71, 72, 73] (by decide +kernel) (by decide +kernel)
set_option maxRecDepth 20000 in
theorem gX1_isRight_X1_isDark : GoodIn wsX1_isRight (wsV RX1 46 RX1 yX1_isDark wsX1_isDark) := goodIn_app (goodIn_of _ (by decide +kernel)) ggX1_isRight_X1_isDark
set_option maxRecDepth 20000 in
theorem ggX1_isRight_X1_fits : GoodIn wsX1_isRight wsX1_fits := goodIn_r _ [26, 1, 27, 28, 29, 5, 30, 31, 32, 19, 20, 21, 22, 33, 34, 35, 36, 37, 38, 39, 40, 41, 42, 43, 44, 45, 46, 47, 48, 49, 50, 51, 52, 53, 54, 55, 56, 57, 58, 59, 60, 61, 62, 63, 64, 65, 66, 67, 68, 69, 18, 70, 71, 72, 73] (by decide +kernel) (by decide +kernel)
set_option maxRecDepth 20000 in
theorem gX1_isRight_X1_fits : GoodIn wsX1_isRight (wsV RX1 50 RX1 yX1_fits wsX1_fits) := goodIn_app (goodIn_of _ (by decide +kernel)) ggX1_isRight_X1_fits
theorem dX1_isRight_0 : decode cX1_isRight 0 = .ok (.iload_n 1, 1) := by decide +kernel
theorem dX1_isRight_1 : decode cX1_isRight 1 = .ok (.ifCond .lt 22, 3) := by decide +kernel
theorem dX1_isRight_4 : decode cX1_isRight 4 = .ok (.iload_n 1, 1) := by decide +kernel
theorem dX1_isRight_5 : decode cX1_isRight 5 = .ok (.aload_n 0, 1) := by decide +kernel
theorem dX1_isRight_6 : decode cX1_isRight 6 = .ok (.getfield 12, 3) := by decide +kernel
theorem dX1_isRight_9 : decode cX1_isRight 9 = .ok (.invokevirtual 43, 3) := by decide +kernel
theorem dX1_isRight_12 : decode cX1_isRight 12 = .ok (.if_icmp .ge 11, 3) := by decide +kernel
theorem dX1_isRight_15 : decode cX1_isRight 15 = .ok (.aload_n 0, 1) := by decide +kernel
theorem dX1_isRight_16 : decode cX1_isRight 16 = .ok (.iload_n 1, 1) := by decide +kernel
theorem dX1_isRight_17 : decode cX1_isRight 17 = .ok (.invokevirtual 46, 3) := by decide +kernel
theorem dX1_isRight_20 : decode cX1_isRight 20 = .ok (.ifCond .eq 5, 3) := by decide +kernel
theorem dX1_isRight_23 : decode cX1_isRight 23 = .ok (.iconst 0, 1) := by decide +kernel
theorem dX1_isRight_24 : decode cX1_isRight 24 = .ok (.ireturn, 1) := by decide +kernel
theorem dX1_isRight_25 : decode cX1_isRight 25 = .ok (.iconst 0, 1) := by decide +kernel
theorem dX1_isRight_26 : decode cX1_isRight 26 = .ok (.istore_n 2, 1) := by decide +kernel
theorem dX1_isRight_27 : decode cX1_isRight 27 = .ok (.iload_n 2, 1) := by decide +kernel
theorem dX1_isRight_28 : decode cX1_isRight 28 = .ok (.bipush 8, 2) := by decide +kernel
theorem dX1_isRight_30 : decode cX1_isRight 30 = .ok (.if_icmp .ge 20, 3) := by decide +kernel
theorem dX1_isRight_33 : decode cX1_isRight 33 = .ok (.aload_n 0, 1) := by decide +kernel
theorem dX1_isRight_34 : decode cX1_isRight 34 = .ok (.iload_n 1, 1) := by decide +kernel
theorem dX1_isRight_35 : decode cX1_isRight 35 = .ok (.iload_n 2, 1) := by decide +kernel
theorem dX1_isRight_36 : decode cX1_isRight 36 = .ok (.invokevirtual 50, 3) := by decide +kernel
theorem dX1_isRight_39 : decode cX1_isRight 39 = .ok (.ifCond .ne 5, 3) := by decide +kernel
theorem dX1_isRight_42 : decode cX1_isRight 42 = .ok (.iconst 0, 1) := by decide +kernel
theorem dX1_isRight_43 : decode cX1_isRight 43 = .ok (.ireturn, 1) := by decide +kernel
theorem dX1_isRight_44 : decode cX1_isRight 44 = .ok (.iinc 2 1, 3) := by decide +kernel
theorem dX1_isRight_47 : decode cX1_isRight 47 = .ok (.goto (-20), 3) := by decide +kernel
theorem dX1_isRight_50 : decode cX1_isRight 50 = .ok (.iconst 1, 1) := by decide +kernel
theorem dX1_isRight_51 : decode cX1_isRight 51 = .ok (.ireturn, 1) := by decide +kernel
set_option maxRecDepth 20000 in
theorem ggX1_fits_X3_walked : GoodIn wsX1_fits wsX3_walked := goodIn_r _ [6, 7, 8, 9, 10, 5, 11, 12, 13, 14, 15, 16, 17, 18, 19, 20, 21, 22, 23, 24, 25, 26, 27, 28, 29, 30, 31, 32, 33, 34, 35, 36, 37, 38, 39, 40, 41, 42, 43, 44, 45, 46, 47, 48, 49, 52, 53, 54] (by decide +kernel) (by decide +kernel)
set_option maxRecDepth 20000 in
theorem gX1_fits_X3_walked : GoodIn wsX1_fits (wsV RX1 54 RX3 yX3_walked wsX3_walked) := goodIn_app (goodIn_of _ (by decide +kernel)) ggX1_fits_X3_walked
set_option maxRecDepth 20000 in
theorem ggX1_fits_X3_cell : GoodIn wsX1_fits wsX3_cell := goodIn_r _ [11, 12, 52, 53, 54] (by decide +kernel) (by decide +kernel)
set_option maxRecDepth 20000 in
theorem gX1_fits_X3_cell : GoodIn wsX1_fits (wsV RX1 29 RX3 yX3_cell wsX3_cell) := goodIn_app (goodIn_of _ (by decide +kernel)) ggX1_fits_X3_cell
theorem dX1_fits_0 : decode cX1_fits 0 = .ok (.aload_n 0, 1) := by decide +kernel
theorem dX1_fits_1 : decode cX1_fits 1 = .ok (.getfield 12, 3) := by decide +kernel
theorem dX1_fits_4 : decode cX1_fits 4 = .ok (.iload_n 1, 1) := by decide +kernel
theorem dX1_fits_5 : decode cX1_fits 5 = .ok (.iload_n 2, 1) := by decide +kernel
theorem dX1_fits_6 : decode cX1_fits 6 = .ok (.invokevirtual 54, 3) := by decide +kernel
theorem dX1_fits_9 : decode cX1_fits 9 = .ok (.aload_n 0, 1) := by decide +kernel
theorem dX1_fits_10 : decode cX1_fits 10 = .ok (.getfield 12, 3) := by decide +kernel
theorem dX1_fits_13 : decode cX1_fits 13 = .ok (.iload_n 1, 1) := by decide +kernel
theorem dX1_fits_14 : decode cX1_fits 14 = .ok (.iconst 1, 1) := by decide +kernel
theorem dX1_fits_15 : decode cX1_fits 15 = .ok (.iadd, 1) := by decide +kernel
theorem dX1_fits_16 : decode cX1_fits 16 = .ok (.iload_n 2, 1) := by decide +kernel
theorem dX1_fits_17 : decode cX1_fits 17 = .ok (.invokevirtual 29, 3) := by decide +kernel
theorem dX1_fits_20 : decode cX1_fits 20 = .ok (.lcmp, 1) := by decide +kernel
theorem dX1_fits_21 : decode cX1_fits 21 = .ok (.ifCond .ne 7, 3) := by decide +kernel
theorem dX1_fits_24 : decode cX1_fits 24 = .ok (.iconst 1, 1) := by decide +kernel
theorem dX1_fits_25 : decode cX1_fits 25 = .ok (.goto 4, 3) := by decide +kernel
theorem dX1_fits_28 : decode cX1_fits 28 = .ok (.iconst 0, 1) := by decide +kernel
theorem dX1_fits_29 : decode cX1_fits 29 = .ok (.ireturn, 1) := by decide +kernel
set_option maxRecDepth 20000 in
theorem ggX1_blamed_X3_steps : GoodIn wsX1_blamed wsX3_steps := goodIn_r _ [6, 7, 75, 76, 77] (by decide +kernel) (by decide +kernel)
set_option maxRecDepth 20000 in
theorem gX1_blamed_X3_steps : GoodIn wsX1_blamed (wsV RX1 43 RX3 yX3_steps wsX3_steps) := goodIn_app (goodIn_of _ (by decide +kernel)) ggX1_blamed_X3_steps
set_option maxRecDepth 20000 in
theorem ggX1_blamed_X1_isDark : GoodIn wsX1_blamed wsX1_isDark := goodIn_r _ [12, 13, 14, 15, 11, 16, 1, 17, 18, 19, 20, 5, 21, 22, 74, 75, 76, 77] (by decide +kernel) (by decide +kernel)
set_option maxRecDepth 20000 in
theorem gX1_blamed_X1_isDark : GoodIn wsX1_blamed (wsV RX1 46 RX1 yX1_isDark wsX1_isDark) := goodIn_app (goodIn_of _ (by decide +kernel)) ggX1_blamed_X1_isDark
set_option maxRecDepth 20000 in
theorem ggX1_blamed_X1_isRight : GoodIn wsX1_blamed wsX1_isRight := goodIn_r _ [26, 1, 2, 3, 4, 5, 6, 7, 8, 9, 10, 11, 12, 13, 14, 15, 16, 17, 18, 19, 20, 21, 22, 27, 28, 29, 30, 31, 32, 33, 34, 35, 36, 37, 38, 39, 40, 41, 42, 43, 44, 45, 46, 47, 48, 49, 50, 51, 52, 53, 54, 55, 56, 57, 58, 59, 60, 61, 62, 63, 64, 65, 66, 67, 68, 69, 70, 71, 72, 73, 74, 75, 76, 77] (by decide +kernel) (by decide +kernel)
set_option maxRecDepth 20000 in
theorem gX1_blamed_X1_isRight : GoodIn wsX1_blamed (wsV RX1 57 RX1 yX1_isRight wsX1_isRight) := goodIn_app (goodIn_of _ (by decide +kernel)) ggX1_blamed_X1_isRight
theorem dX1_blamed_0 : decode cX1_blamed 0 = .ok (.iconst 0, 1) := by decide +kernel
theorem dX1_blamed_1 : decode cX1_blamed 1 = .ok (.istore_n 1, 1) := by decide +kernel
theorem dX1_blamed_2 : decode cX1_blamed 2 = .ok (.iload_n 1, 1) := by decide +kernel
theorem dX1_blamed_3 : decode cX1_blamed 3 = .ok (.aload_n 0, 1) := by decide +kernel
theorem dX1_blamed_4 : decode cX1_blamed 4 = .ok (.getfield 12, 3) := by decide +kernel
theorem dX1_blamed_7 : decode cX1_blamed 7 = .ok (.invokevirtual 43, 3) := by decide +kernel
theorem dX1_blamed_10 : decode cX1_blamed 10 = .ok (.if_icmp .ge 29, 3) := by decide +kernel
theorem dX1_blamed_13 : decode cX1_blamed 13 = .ok (.aload_n 0, 1) := by decide +kernel
theorem dX1_blamed_14 : decode cX1_blamed 14 = .ok (.iload_n 1, 1) := by decide +kernel
theorem dX1_blamed_15 : decode cX1_blamed 15 = .ok (.invokevirtual 46, 3) := by decide +kernel
theorem dX1_blamed_18 : decode cX1_blamed 18 = .ok (.ifCond .ne 15, 3) := by decide +kernel
theorem dX1_blamed_21 : decode cX1_blamed 21 = .ok (.aload_n 0, 1) := by decide +kernel
theorem dX1_blamed_22 : decode cX1_blamed 22 = .ok (.iload_n 1, 1) := by decide +kernel
theorem dX1_blamed_23 : decode cX1_blamed 23 = .ok (.invokevirtual 57, 3) := by decide +kernel
theorem dX1_blamed_26 : decode cX1_blamed 26 = .ok (.ifCond .ne 7, 3) := by decide +kernel
theorem dX1_blamed_29 : decode cX1_blamed 29 = .ok (.iload_n 1, 1) := by decide +kernel
theorem dX1_blamed_30 : decode cX1_blamed 30 = .ok (.iconst 1, 1) := by decide +kernel
theorem dX1_blamed_31 : decode cX1_blamed 31 = .ok (.iadd, 1) := by decide +kernel
theorem dX1_blamed_32 : decode cX1_blamed 32 = .ok (.ireturn, 1) := by decide +kernel
theorem dX1_blamed_33 : decode cX1_blamed 33 = .ok (.iinc 1 1, 3) := by decide +kernel
theorem dX1_blamed_36 : decode cX1_blamed 36 = .ok (.goto (-34), 3) := by decide +kernel
theorem dX1_blamed_39 : decode cX1_blamed 39 = .ok (.bipush (-6), 2) := by decide +kernel
theorem dX1_blamed_41 : decode cX1_blamed 41 = .ok (.ireturn, 1) := by decide +kernel
set_option maxRecDepth 20000 in
theorem ggX1_findMend_X1_blamed : GoodIn wsX1_findMend wsX1_blamed := goodIn_r _ [6, 7, 8, 9, 10, 11, 12, 13, 14, 15, 16, 5, 17, 18, 19, 20, 21, 22, 23, 24, 25, 26, 27, 28, 29, 30, 31, 32, 33, 34, 35, 36, 37, 38, 39, 40, 41, 42, 43, 44, 45, 46, 47, 48, 49, 50, 51, 52, 53, 54, 55, 56, 57, 58, 59, 60, 61, 62, 63, 64, 65, 66, 67, 68, 69, 70, 71, 72, 73, 74, 75, 76, 77, 78, 105, 106, 107, 108] (by decide +kernel) (by decide +kernel)
set_option maxRecDepth 20000 in
theorem gX1_findMend_X1_blamed : GoodIn wsX1_findMend (wsV RX1 60 RX1 yX1_blamed wsX1_blamed) := goodIn_app (goodIn_of _ (by decide +kernel)) ggX1_findMend_X1_blamed
set_option maxRecDepth 20000 in
theorem ggX1_findMend_X1_mayMend : GoodIn wsX1_findMend wsX1_mayMend := goodIn_r _ [82, 7, 83, 84, 85, 11, 86, 42, 43, 44, 45, 46, 87, 32, 33, 34, 5, 35, 36, 37, 38, 39, 40, 41, 24, 25, 26, 27, 47, 48, 49, 50, 51, 52, 53, 54, 55, 56, 57, 58, 59, 60, 61, 62, 63, 64, 65, 66, 67, 68, 69, 70, 71, 72, 73, 74, 75, 76, 77, 78, 23, 105, 106, 107, 108] (by decide +kernel) (by decide +kernel)
set_option maxRecDepth 20000 in
theorem gX1_findMend_X1_mayMend : GoodIn wsX1_findMend (wsV RX1 63 RX1 yX1_mayMend wsX1_mayMend) := goodIn_app (goodIn_of _ (by decide +kernel)) ggX1_findMend_X1_mayMend
set_option maxRecDepth 20000 in
theorem ggX1_findMend_X1_mends : GoodIn wsX1_findMend wsX1_mends := goodIn_r _ [91, 7, 23, 24, 25, 11, 26, 27, 92, 93, 49, 94, 63, 64, 65, 66, 95, 96, 48, 50, 51, 97, 98, 99, 100, 101, 102, 103, 104, 32, 33, 34, 5, 35, 36, 37, 38, 39, 40, 41, 42, 43, 44, 45, 46, 47, 52, 53, 54, 55, 56, 57, 58, 59, 60, 61, 62, 67, 68, 69, 70, 71, 72, 73, 74, 75, 76, 77, 78, 28, 29, 30, 31, 8, 9, 10, 12, 13, 14, 15, 16, 17, 18, 19, 20, 21, 22, 105, 106, 107, 108] (by decide +kernel) (by decide +kernel)
set_option maxRecDepth 20000 in
theorem gX1_findMend_X1_mends : GoodIn wsX1_findMend (wsV RX1 67 RX1 yX1_mends wsX1_mends) := goodIn_app (goodIn_of _ (by decide +kernel)) ggX1_findMend_X1_mends
theorem dX1_findMend_0 : decode cX1_findMend 0 = .ok (.aload_n 0, 1) := by decide +kernel
theorem dX1_findMend_1 : decode cX1_findMend 1 = .ok (.invokevirtual 60, 3) := by decide +kernel
theorem dX1_findMend_4 : decode cX1_findMend 4 = .ok (.istore_n 2, 1) := by decide +kernel
theorem dX1_findMend_5 : decode cX1_findMend 5 = .ok (.iload_n 2, 1) := by decide +kernel
theorem dX1_findMend_6 : decode cX1_findMend 6 = .ok (.bipush (-6), 2) := by decide +kernel
theorem dX1_findMend_8 : decode cX1_findMend 8 = .ok (.if_icmp .ne 15, 3) := by decide +kernel
theorem dX1_findMend_11 : decode cX1_findMend 11 = .ok (.iload_n 1, 1) := by decide +kernel
theorem dX1_findMend_12 : decode cX1_findMend 12 = .ok (.iconst (-1), 1) := by decide +kernel
theorem dX1_findMend_13 : decode cX1_findMend 13 = .ok (.if_icmp .ne 7, 3) := by decide +kernel
theorem dX1_findMend_16 : decode cX1_findMend 16 = .ok (.iconst 0, 1) := by decide +kernel
theorem dX1_findMend_17 : decode cX1_findMend 17 = .ok (.goto 5, 3) := by decide +kernel
theorem dX1_findMend_20 : decode cX1_findMend 20 = .ok (.bipush (-6), 2) := by decide +kernel
theorem dX1_findMend_22 : decode cX1_findMend 22 = .ok (.ireturn, 1) := by decide +kernel
theorem dX1_findMend_23 : decode cX1_findMend 23 = .ok (.iload_n 2, 1) := by decide +kernel
theorem dX1_findMend_24 : decode cX1_findMend 24 = .ok (.iconst 1, 1) := by decide +kernel
theorem dX1_findMend_25 : decode cX1_findMend 25 = .ok (.isub, 1) := by decide +kernel
theorem dX1_findMend_26 : decode cX1_findMend 26 = .ok (.istore_n 3, 1) := by decide +kernel
theorem dX1_findMend_27 : decode cX1_findMend 27 = .ok (.iconst 0, 1) := by decide +kernel
theorem dX1_findMend_28 : decode cX1_findMend 28 = .ok (.istore 4, 2) := by decide +kernel
theorem dX1_findMend_30 : decode cX1_findMend 30 = .ok (.iconst 0, 1) := by decide +kernel
theorem dX1_findMend_31 : decode cX1_findMend 31 = .ok (.istore 5, 2) := by decide +kernel
theorem dX1_findMend_33 : decode cX1_findMend 33 = .ok (.iload 5, 2) := by decide +kernel
theorem dX1_findMend_35 : decode cX1_findMend 35 = .ok (.bipush 16, 2) := by decide +kernel
theorem dX1_findMend_37 : decode cX1_findMend 37 = .ok (.if_icmp .ge 106, 3) := by decide +kernel
theorem dX1_findMend_40 : decode cX1_findMend 40 = .ok (.iload_n 3, 1) := by decide +kernel
theorem dX1_findMend_41 : decode cX1_findMend 41 = .ok (.iload 5, 2) := by decide +kernel
theorem dX1_findMend_43 : decode cX1_findMend 43 = .ok (.bipush 8, 2) := by decide +kernel
theorem dX1_findMend_45 : decode cX1_findMend 45 = .ok (.idiv, 1) := by decide +kernel
theorem dX1_findMend_46 : decode cX1_findMend 46 = .ok (.iadd, 1) := by decide +kernel
theorem dX1_findMend_47 : decode cX1_findMend 47 = .ok (.istore 6, 2) := by decide +kernel
theorem dX1_findMend_49 : decode cX1_findMend 49 = .ok (.iload 5, 2) := by decide +kernel
theorem dX1_findMend_51 : decode cX1_findMend 51 = .ok (.bipush 8, 2) := by decide +kernel
theorem dX1_findMend_53 : decode cX1_findMend 53 = .ok (.irem, 1) := by decide +kernel
theorem dX1_findMend_54 : decode cX1_findMend 54 = .ok (.istore 7, 2) := by decide +kernel
theorem dX1_findMend_56 : decode cX1_findMend 56 = .ok (.aload_n 0, 1) := by decide +kernel
theorem dX1_findMend_57 : decode cX1_findMend 57 = .ok (.iload_n 3, 1) := by decide +kernel
theorem dX1_findMend_58 : decode cX1_findMend 58 = .ok (.iload 6, 2) := by decide +kernel
theorem dX1_findMend_60 : decode cX1_findMend 60 = .ok (.iload 7, 2) := by decide +kernel
theorem dX1_findMend_62 : decode cX1_findMend 62 = .ok (.invokevirtual 63, 3) := by decide +kernel
theorem dX1_findMend_65 : decode cX1_findMend 65 = .ok (.ifCond .ne 6, 3) := by decide +kernel
theorem dX1_findMend_68 : decode cX1_findMend 68 = .ok (.goto 69, 3) := by decide +kernel
theorem dX1_findMend_71 : decode cX1_findMend 71 = .ok (.iconst 0, 1) := by decide +kernel
theorem dX1_findMend_72 : decode cX1_findMend 72 = .ok (.istore 8, 2) := by decide +kernel
theorem dX1_findMend_74 : decode cX1_findMend 74 = .ok (.iload 8, 2) := by decide +kernel
theorem dX1_findMend_76 : decode cX1_findMend 76 = .ok (.bipush 120, 2) := by decide +kernel
theorem dX1_findMend_78 : decode cX1_findMend 78 = .ok (.if_icmp .ge 59, 3) := by decide +kernel
theorem dX1_findMend_81 : decode cX1_findMend 81 = .ok (.aload_n 0, 1) := by decide +kernel
theorem dX1_findMend_82 : decode cX1_findMend 82 = .ok (.iload_n 3, 1) := by decide +kernel
theorem dX1_findMend_83 : decode cX1_findMend 83 = .ok (.iload 6, 2) := by decide +kernel
theorem dX1_findMend_85 : decode cX1_findMend 85 = .ok (.iload 7, 2) := by decide +kernel
theorem dX1_findMend_87 : decode cX1_findMend 87 = .ok (.iload 8, 2) := by decide +kernel
theorem dX1_findMend_89 : decode cX1_findMend 89 = .ok (.bipush 10, 2) := by decide +kernel
theorem dX1_findMend_91 : decode cX1_findMend 91 = .ok (.idiv, 1) := by decide +kernel
theorem dX1_findMend_92 : decode cX1_findMend 92 = .ok (.iload 8, 2) := by decide +kernel
theorem dX1_findMend_94 : decode cX1_findMend 94 = .ok (.bipush 10, 2) := by decide +kernel
theorem dX1_findMend_96 : decode cX1_findMend 96 = .ok (.irem, 1) := by decide +kernel
theorem dX1_findMend_97 : decode cX1_findMend 97 = .ok (.invokevirtual 67, 3) := by decide +kernel
theorem dX1_findMend_100 : decode cX1_findMend 100 = .ok (.ifCond .ne 6, 3) := by decide +kernel
theorem dX1_findMend_103 : decode cX1_findMend 103 = .ok (.goto 28, 3) := by decide +kernel
theorem dX1_findMend_106 : decode cX1_findMend 106 = .ok (.iload 4, 2) := by decide +kernel
theorem dX1_findMend_108 : decode cX1_findMend 108 = .ok (.iload_n 1, 1) := by decide +kernel
theorem dX1_findMend_109 : decode cX1_findMend 109 = .ok (.if_icmp .ne 19, 3) := by decide +kernel
theorem dX1_findMend_112 : decode cX1_findMend 112 = .ok (.ldc 71, 2) := by decide +kernel
theorem dX1_findMend_114 : decode cX1_findMend 114 = .ok (.iload 6, 2) := by decide +kernel
theorem dX1_findMend_116 : decode cX1_findMend 116 = .ok (.imul, 1) := by decide +kernel
theorem dX1_findMend_117 : decode cX1_findMend 117 = .ok (.sipush 1000, 3) := by decide +kernel
theorem dX1_findMend_120 : decode cX1_findMend 120 = .ok (.iload 7, 2) := by decide +kernel
theorem dX1_findMend_122 : decode cX1_findMend 122 = .ok (.imul, 1) := by decide +kernel
theorem dX1_findMend_123 : decode cX1_findMend 123 = .ok (.iadd, 1) := by decide +kernel
theorem dX1_findMend_124 : decode cX1_findMend 124 = .ok (.iload 8, 2) := by decide +kernel
theorem dX1_findMend_126 : decode cX1_findMend 126 = .ok (.iadd, 1) := by decide +kernel
theorem dX1_findMend_127 : decode cX1_findMend 127 = .ok (.ireturn, 1) := by decide +kernel
theorem dX1_findMend_128 : decode cX1_findMend 128 = .ok (.iinc 4 1, 3) := by decide +kernel
theorem dX1_findMend_131 : decode cX1_findMend 131 = .ok (.iinc 8 1, 3) := by decide +kernel
theorem dX1_findMend_134 : decode cX1_findMend 134 = .ok (.goto (-60), 3) := by decide +kernel
theorem dX1_findMend_137 : decode cX1_findMend 137 = .ok (.iinc 5 1, 3) := by decide +kernel
theorem dX1_findMend_140 : decode cX1_findMend 140 = .ok (.goto (-107), 3) := by decide +kernel
theorem dX1_findMend_143 : decode cX1_findMend 143 = .ok (.iload_n 1, 1) := by decide +kernel
theorem dX1_findMend_144 : decode cX1_findMend 144 = .ok (.iconst (-1), 1) := by decide +kernel
theorem dX1_findMend_145 : decode cX1_findMend 145 = .ok (.if_icmp .ne 8, 3) := by decide +kernel
theorem dX1_findMend_148 : decode cX1_findMend 148 = .ok (.iload 4, 2) := by decide +kernel
theorem dX1_findMend_150 : decode cX1_findMend 150 = .ok (.goto 5, 3) := by decide +kernel
theorem dX1_findMend_153 : decode cX1_findMend 153 = .ok (.bipush (-6), 2) := by decide +kernel
theorem dX1_findMend_155 : decode cX1_findMend 155 = .ok (.ireturn, 1) := by decide +kernel
set_option maxRecDepth 20000 in
theorem ggX1_mayMend_X3_actsOnFirst : GoodIn wsX1_mayMend wsX3_actsOnFirst := goodIn_r _ [6, 7, 8, 9, 5, 10, 11, 62, 63, 64] (by decide +kernel) (by decide +kernel)
set_option maxRecDepth 20000 in
theorem gX1_mayMend_X3_actsOnFirst : GoodIn wsX1_mayMend (wsV RX1 72 RX3 yX3_actsOnFirst wsX3_actsOnFirst) := goodIn_app (goodIn_of _ (by decide +kernel)) ggX1_mayMend_X3_actsOnFirst
set_option maxRecDepth 20000 in
theorem ggX1_mayMend_X3_noted : GoodIn wsX1_mayMend wsX3_noted := goodIn_r _ [10, 11, 62, 63, 64] (by decide +kernel) (by decide +kernel)
set_option maxRecDepth 20000 in
theorem gX1_mayMend_X3_noted : GoodIn wsX1_mayMend (wsV RX1 75 RX3 yX3_noted wsX3_noted) := goodIn_app (goodIn_of _ (by decide +kernel)) ggX1_mayMend_X3_noted
set_option maxRecDepth 20000 in
theorem ggX1_mayMend_X1_fits : GoodIn wsX1_mayMend wsX1_fits := goodIn_r _ [17, 1, 18, 19, 20, 5, 21, 22, 23, 24, 25, 26, 27, 7, 8, 9, 10, 11, 28, 29, 30, 31, 32, 33, 34, 35, 36, 37, 38, 39, 40, 41, 42, 43, 44, 45, 46, 47, 48, 49, 50, 51, 52, 53, 54, 55, 56, 57, 58, 59, 60, 61, 62, 63, 64] (by decide +kernel) (by decide +kernel)
set_option maxRecDepth 20000 in
theorem gX1_mayMend_X1_fits : GoodIn wsX1_mayMend (wsV RX1 50 RX1 yX1_fits wsX1_fits) := goodIn_app (goodIn_of _ (by decide +kernel)) ggX1_mayMend_X1_fits
theorem dX1_mayMend_0 : decode cX1_mayMend 0 = .ok (.iload_n 2, 1) := by decide +kernel
theorem dX1_mayMend_1 : decode cX1_mayMend 1 = .ok (.iload_n 1, 1) := by decide +kernel
theorem dX1_mayMend_2 : decode cX1_mayMend 2 = .ok (.if_icmp .ne 19, 3) := by decide +kernel
theorem dX1_mayMend_5 : decode cX1_mayMend 5 = .ok (.aload_n 0, 1) := by decide +kernel
theorem dX1_mayMend_6 : decode cX1_mayMend 6 = .ok (.getfield 12, 3) := by decide +kernel
theorem dX1_mayMend_9 : decode cX1_mayMend 9 = .ok (.iload_n 1, 1) := by decide +kernel
theorem dX1_mayMend_10 : decode cX1_mayMend 10 = .ok (.iload_n 3, 1) := by decide +kernel
theorem dX1_mayMend_11 : decode cX1_mayMend 11 = .ok (.invokevirtual 72, 3) := by decide +kernel
theorem dX1_mayMend_14 : decode cX1_mayMend 14 = .ok (.ifCond .eq 7, 3) := by decide +kernel
theorem dX1_mayMend_17 : decode cX1_mayMend 17 = .ok (.iconst 1, 1) := by decide +kernel
theorem dX1_mayMend_18 : decode cX1_mayMend 18 = .ok (.goto 4, 3) := by decide +kernel
theorem dX1_mayMend_21 : decode cX1_mayMend 21 = .ok (.iconst 0, 1) := by decide +kernel
theorem dX1_mayMend_22 : decode cX1_mayMend 22 = .ok (.istore 4, 2) := by decide +kernel
theorem dX1_mayMend_24 : decode cX1_mayMend 24 = .ok (.iconst 0, 1) := by decide +kernel
theorem dX1_mayMend_25 : decode cX1_mayMend 25 = .ok (.istore 5, 2) := by decide +kernel
theorem dX1_mayMend_27 : decode cX1_mayMend 27 = .ok (.iload 5, 2) := by decide +kernel
theorem dX1_mayMend_29 : decode cX1_mayMend 29 = .ok (.bipush 8, 2) := by decide +kernel
theorem dX1_mayMend_31 : decode cX1_mayMend 31 = .ok (.if_icmp .ge 52, 3) := by decide +kernel
theorem dX1_mayMend_34 : decode cX1_mayMend 34 = .ok (.iload 5, 2) := by decide +kernel
theorem dX1_mayMend_36 : decode cX1_mayMend 36 = .ok (.iload_n 3, 1) := by decide +kernel
theorem dX1_mayMend_37 : decode cX1_mayMend 37 = .ok (.if_icmp .ne 6, 3) := by decide +kernel
theorem dX1_mayMend_40 : decode cX1_mayMend 40 = .ok (.goto 37, 3) := by decide +kernel
theorem dX1_mayMend_43 : decode cX1_mayMend 43 = .ok (.iload 4, 2) := by decide +kernel
theorem dX1_mayMend_45 : decode cX1_mayMend 45 = .ok (.ifCond .eq 20, 3) := by decide +kernel
theorem dX1_mayMend_48 : decode cX1_mayMend 48 = .ok (.iload 5, 2) := by decide +kernel
theorem dX1_mayMend_50 : decode cX1_mayMend 50 = .ok (.aload_n 0, 1) := by decide +kernel
theorem dX1_mayMend_51 : decode cX1_mayMend 51 = .ok (.getfield 12, 3) := by decide +kernel
theorem dX1_mayMend_54 : decode cX1_mayMend 54 = .ok (.iload_n 1, 1) := by decide +kernel
theorem dX1_mayMend_55 : decode cX1_mayMend 55 = .ok (.iconst 1, 1) := by decide +kernel
theorem dX1_mayMend_56 : decode cX1_mayMend 56 = .ok (.invokevirtual 75, 3) := by decide +kernel
theorem dX1_mayMend_59 : decode cX1_mayMend 59 = .ok (.if_icmp .ne 6, 3) := by decide +kernel
theorem dX1_mayMend_62 : decode cX1_mayMend 62 = .ok (.goto 15, 3) := by decide +kernel
theorem dX1_mayMend_65 : decode cX1_mayMend 65 = .ok (.aload_n 0, 1) := by decide +kernel
theorem dX1_mayMend_66 : decode cX1_mayMend 66 = .ok (.iload_n 1, 1) := by decide +kernel
theorem dX1_mayMend_67 : decode cX1_mayMend 67 = .ok (.iload 5, 2) := by decide +kernel
theorem dX1_mayMend_69 : decode cX1_mayMend 69 = .ok (.invokevirtual 50, 3) := by decide +kernel
theorem dX1_mayMend_72 : decode cX1_mayMend 72 = .ok (.ifCond .ne 5, 3) := by decide +kernel
theorem dX1_mayMend_75 : decode cX1_mayMend 75 = .ok (.iconst 0, 1) := by decide +kernel
theorem dX1_mayMend_76 : decode cX1_mayMend 76 = .ok (.ireturn, 1) := by decide +kernel
theorem dX1_mayMend_77 : decode cX1_mayMend 77 = .ok (.iinc 5 1, 3) := by decide +kernel
theorem dX1_mayMend_80 : decode cX1_mayMend 80 = .ok (.goto (-53), 3) := by decide +kernel
theorem dX1_mayMend_83 : decode cX1_mayMend 83 = .ok (.iconst 1, 1) := by decide +kernel
theorem dX1_mayMend_84 : decode cX1_mayMend 84 = .ok (.ireturn, 1) := by decide +kernel
set_option maxRecDepth 20000 in
theorem ggX1_mends_X3_cell : GoodIn wsX1_mends wsX3_cell := goodIn_r _ [6, 7, 88, 89, 90] (by decide +kernel) (by decide +kernel)
set_option maxRecDepth 20000 in
theorem gX1_mends_X3_cell : GoodIn wsX1_mends (wsV RX1 29 RX3 yX3_cell wsX3_cell) := goodIn_app (goodIn_of _ (by decide +kernel)) ggX1_mends_X3_cell
set_option maxRecDepth 20000 in
theorem ggX1_mends_X5_digit : GoodIn wsX1_mends wsX5_digit := goodIn_r _ [11, 12, 13, 14, 15, 16, 17, 18, 10, 19, 20] (by decide +kernel) (by decide +kernel)
set_option maxRecDepth 20000 in
theorem gX1_mends_X5_digit : GoodIn wsX1_mends (va_wsS RX1 79 yX5_digit wsX5_digit) := goodIn_app (goodIn_of _ (by decide +kernel)) ggX1_mends_X5_digit
set_option maxRecDepth 20000 in
theorem ggX1_mends_X5_withDigit : GoodIn wsX1_mends wsX5_withDigit := goodIn_r _ [23, 24, 9, 10, 11, 12, 13, 14, 15, 16, 17, 18, 19, 20] (by decide +kernel) (by decide +kernel)
set_option maxRecDepth 20000 in
theorem gX1_mends_X5_withDigit : GoodIn wsX1_mends (va_wsS RX1 85 yX5_withDigit wsX5_withDigit) := goodIn_app (goodIn_of _ (by decide +kernel)) ggX1_mends_X5_withDigit
set_option maxRecDepth 20000 in
theorem ggX1_mends_X3_put : GoodIn wsX1_mends wsX3_put := goodIn_r _ [28, 7, 88, 89, 90] (by decide +kernel) (by decide +kernel)
set_option maxRecDepth 20000 in
theorem gX1_mends_X3_put : GoodIn wsX1_mends (wsV RX1 33 RX3 yX3_put wsX3_put) := goodIn_app (goodIn_of _ (by decide +kernel)) ggX1_mends_X3_put
set_option maxRecDepth 20000 in
theorem ggX1_mends_X1_fits : GoodIn wsX1_mends wsX1_fits := goodIn_r _ [33, 1, 34, 35, 36, 5, 37, 38, 39, 3, 4, 6, 7, 40, 41, 42, 43, 44, 45, 18, 10, 19, 20, 46, 47, 48, 49, 50, 51, 52, 53, 54, 55, 56, 12, 13, 14, 15, 57, 58, 59, 60, 61, 62, 63, 64, 65, 66, 67, 68, 2, 87, 88, 89, 90] (by decide +kernel) (by decide +kernel)
set_option maxRecDepth 20000 in
theorem gX1_mends_X1_fits : GoodIn wsX1_mends (wsV RX1 50 RX1 yX1_fits wsX1_fits) := goodIn_app (goodIn_of _ (by decide +kernel)) ggX1_mends_X1_fits
set_option maxRecDepth 20000 in
theorem ggX1_mends_X1_isRight : GoodIn wsX1_mends wsX1_isRight := goodIn_r _ [72, 1, 73, 74, 75, 5, 76, 77, 78, 79, 80, 32, 81, 82, 83, 84, 85, 86, 2, 3, 4, 6, 7, 29, 30, 31, 33, 34, 35, 36, 37, 38, 39, 40, 41, 42, 43, 44, 45, 18, 10, 19, 20, 46, 47, 48, 49, 50, 51, 52, 53, 54, 55, 56, 12, 13, 14, 15, 57, 58, 59, 60, 61, 62, 63, 64, 65, 66, 67, 68, 87, 88, 89, 90] (by decide +kernel) (by decide +kernel)
set_option maxRecDepth 20000 in
theorem gX1_mends_X1_isRight : GoodIn wsX1_mends (wsV RX1 57 RX1 yX1_isRight wsX1_isRight) := goodIn_app (goodIn_of _ (by decide +kernel)) ggX1_mends_X1_isRight
theorem dX1_mends_0 : decode cX1_mends 0 = .ok (.aload_n 0, 1) := by decide +kernel
theorem dX1_mends_1 : decode cX1_mends 1 = .ok (.getfield 12, 3) := by decide +kernel
theorem dX1_mends_4 : decode cX1_mends 4 = .ok (.iload_n 2, 1) := by decide +kernel
theorem dX1_mends_5 : decode cX1_mends 5 = .ok (.iload_n 3, 1) := by decide +kernel
theorem dX1_mends_6 : decode cX1_mends 6 = .ok (.invokevirtual 29, 3) := by decide +kernel
theorem dX1_mends_9 : decode cX1_mends 9 = .ok (.lstore 6, 2) := by decide +kernel
theorem dX1_mends_11 : decode cX1_mends 11 = .ok (.iload 5, 2) := by decide +kernel
theorem dX1_mends_13 : decode cX1_mends 13 = .ok (.lload 6, 2) := by decide +kernel
theorem dX1_mends_15 : decode cX1_mends 15 = .ok (.iload 4, 2) := by decide +kernel
theorem dX1_mends_17 : decode cX1_mends 17 = .ok (.invokestatic 79, 3) := by decide +kernel
theorem dX1_mends_20 : decode cX1_mends 20 = .ok (.if_icmp .ne 5, 3) := by decide +kernel
theorem dX1_mends_23 : decode cX1_mends 23 = .ok (.iconst 0, 1) := by decide +kernel
theorem dX1_mends_24 : decode cX1_mends 24 = .ok (.ireturn, 1) := by decide +kernel
theorem dX1_mends_25 : decode cX1_mends 25 = .ok (.iload_n 2, 1) := by decide +kernel
theorem dX1_mends_26 : decode cX1_mends 26 = .ok (.iload_n 1, 1) := by decide +kernel
theorem dX1_mends_27 : decode cX1_mends 27 = .ok (.if_icmp .ne 9, 3) := by decide +kernel
theorem dX1_mends_30 : decode cX1_mends 30 = .ok (.iload_n 1, 1) := by decide +kernel
theorem dX1_mends_31 : decode cX1_mends 31 = .ok (.iconst 1, 1) := by decide +kernel
theorem dX1_mends_32 : decode cX1_mends 32 = .ok (.isub, 1) := by decide +kernel
theorem dX1_mends_33 : decode cX1_mends 33 = .ok (.goto 6, 3) := by decide +kernel
theorem dX1_mends_36 : decode cX1_mends 36 = .ok (.iload_n 1, 1) := by decide +kernel
theorem dX1_mends_37 : decode cX1_mends 37 = .ok (.iconst 1, 1) := by decide +kernel
theorem dX1_mends_38 : decode cX1_mends 38 = .ok (.iadd, 1) := by decide +kernel
theorem dX1_mends_39 : decode cX1_mends 39 = .ok (.istore 8, 2) := by decide +kernel
theorem dX1_mends_41 : decode cX1_mends 41 = .ok (.aload_n 0, 1) := by decide +kernel
theorem dX1_mends_42 : decode cX1_mends 42 = .ok (.getfield 12, 3) := by decide +kernel
theorem dX1_mends_45 : decode cX1_mends 45 = .ok (.iload_n 2, 1) := by decide +kernel
theorem dX1_mends_46 : decode cX1_mends 46 = .ok (.iload_n 3, 1) := by decide +kernel
theorem dX1_mends_47 : decode cX1_mends 47 = .ok (.lload 6, 2) := by decide +kernel
theorem dX1_mends_49 : decode cX1_mends 49 = .ok (.iload 4, 2) := by decide +kernel
theorem dX1_mends_51 : decode cX1_mends 51 = .ok (.iload 5, 2) := by decide +kernel
theorem dX1_mends_53 : decode cX1_mends 53 = .ok (.invokestatic 85, 3) := by decide +kernel
theorem dX1_mends_56 : decode cX1_mends 56 = .ok (.invokevirtual 33, 3) := by decide +kernel
theorem dX1_mends_59 : decode cX1_mends 59 = .ok (.aload_n 0, 1) := by decide +kernel
theorem dX1_mends_60 : decode cX1_mends 60 = .ok (.iload_n 1, 1) := by decide +kernel
theorem dX1_mends_61 : decode cX1_mends 61 = .ok (.iload_n 3, 1) := by decide +kernel
theorem dX1_mends_62 : decode cX1_mends 62 = .ok (.invokevirtual 50, 3) := by decide +kernel
theorem dX1_mends_65 : decode cX1_mends 65 = .ok (.ifCond .eq 15, 3) := by decide +kernel
theorem dX1_mends_68 : decode cX1_mends 68 = .ok (.aload_n 0, 1) := by decide +kernel
theorem dX1_mends_69 : decode cX1_mends 69 = .ok (.iload_n 1, 1) := by decide +kernel
theorem dX1_mends_70 : decode cX1_mends 70 = .ok (.invokevirtual 57, 3) := by decide +kernel
theorem dX1_mends_73 : decode cX1_mends 73 = .ok (.ifCond .eq 7, 3) := by decide +kernel
theorem dX1_mends_76 : decode cX1_mends 76 = .ok (.iconst 1, 1) := by decide +kernel
theorem dX1_mends_77 : decode cX1_mends 77 = .ok (.goto 4, 3) := by decide +kernel
theorem dX1_mends_80 : decode cX1_mends 80 = .ok (.iconst 0, 1) := by decide +kernel
theorem dX1_mends_81 : decode cX1_mends 81 = .ok (.istore 9, 2) := by decide +kernel
theorem dX1_mends_83 : decode cX1_mends 83 = .ok (.iload 9, 2) := by decide +kernel
theorem dX1_mends_85 : decode cX1_mends 85 = .ok (.ifCond .eq 16, 3) := by decide +kernel
theorem dX1_mends_88 : decode cX1_mends 88 = .ok (.aload_n 0, 1) := by decide +kernel
theorem dX1_mends_89 : decode cX1_mends 89 = .ok (.iload 8, 2) := by decide +kernel
theorem dX1_mends_91 : decode cX1_mends 91 = .ok (.invokevirtual 57, 3) := by decide +kernel
theorem dX1_mends_94 : decode cX1_mends 94 = .ok (.ifCond .eq 7, 3) := by decide +kernel
theorem dX1_mends_97 : decode cX1_mends 97 = .ok (.iconst 1, 1) := by decide +kernel
theorem dX1_mends_98 : decode cX1_mends 98 = .ok (.goto 4, 3) := by decide +kernel
theorem dX1_mends_101 : decode cX1_mends 101 = .ok (.iconst 0, 1) := by decide +kernel
theorem dX1_mends_102 : decode cX1_mends 102 = .ok (.istore 10, 2) := by decide +kernel
theorem dX1_mends_104 : decode cX1_mends 104 = .ok (.aload_n 0, 1) := by decide +kernel
theorem dX1_mends_105 : decode cX1_mends 105 = .ok (.getfield 12, 3) := by decide +kernel
theorem dX1_mends_108 : decode cX1_mends 108 = .ok (.iload_n 2, 1) := by decide +kernel
theorem dX1_mends_109 : decode cX1_mends 109 = .ok (.iload_n 3, 1) := by decide +kernel
theorem dX1_mends_110 : decode cX1_mends 110 = .ok (.lload 6, 2) := by decide +kernel
theorem dX1_mends_112 : decode cX1_mends 112 = .ok (.invokevirtual 33, 3) := by decide +kernel
theorem dX1_mends_115 : decode cX1_mends 115 = .ok (.iload 9, 2) := by decide +kernel
theorem dX1_mends_117 : decode cX1_mends 117 = .ok (.ifCond .eq 21, 3) := by decide +kernel
theorem dX1_mends_120 : decode cX1_mends 120 = .ok (.iload 10, 2) := by decide +kernel
theorem dX1_mends_122 : decode cX1_mends 122 = .ok (.ifCond .ne 12, 3) := by decide +kernel
theorem dX1_mends_125 : decode cX1_mends 125 = .ok (.aload_n 0, 1) := by decide +kernel
theorem dX1_mends_126 : decode cX1_mends 126 = .ok (.iload 8, 2) := by decide +kernel
theorem dX1_mends_128 : decode cX1_mends 128 = .ok (.invokevirtual 57, 3) := by decide +kernel
theorem dX1_mends_131 : decode cX1_mends 131 = .ok (.ifCond .ne 7, 3) := by decide +kernel
theorem dX1_mends_134 : decode cX1_mends 134 = .ok (.iconst 1, 1) := by decide +kernel
theorem dX1_mends_135 : decode cX1_mends 135 = .ok (.goto 4, 3) := by decide +kernel
theorem dX1_mends_138 : decode cX1_mends 138 = .ok (.iconst 0, 1) := by decide +kernel
theorem dX1_mends_139 : decode cX1_mends 139 = .ok (.ireturn, 1) := by decide +kernel
set_option maxRecDepth 20000 in
theorem ggX1_fillGaps_X3_size : GoodIn wsX1_fillGaps wsX3_size := goodIn_r _ [6, 7, 79, 80, 81] (by decide +kernel) (by decide +kernel)
set_option maxRecDepth 20000 in
theorem gX1_fillGaps_X3_size : GoodIn wsX1_fillGaps (wsV RX1 18 RX3 yX3_size wsX3_size) := goodIn_app (goodIn_of _ (by decide +kernel)) ggX1_fillGaps_X3_size
set_option maxRecDepth 20000 in
theorem ggX1_fillGaps_X1_gapsIn : GoodIn wsX1_fillGaps wsX1_gapsIn := goodIn_r _ [12, 1, 13, 14, 15, 16, 5, 17, 18, 78, 79, 80, 81] (by decide +kernel) (by decide +kernel)
set_option maxRecDepth 20000 in
theorem gX1_fillGaps_X1_gapsIn : GoodIn wsX1_fillGaps (wsV RX1 37 RX1 yX1_gapsIn wsX1_gapsIn) := goodIn_app (goodIn_of _ (by decide +kernel)) ggX1_fillGaps_X1_gapsIn
set_option maxRecDepth 20000 in
theorem ggX1_fillGaps_X1_agrees : GoodIn wsX1_fillGaps wsX1_agrees := goodIn_r _ [22, 1, 13, 23, 24, 25, 5, 26, 27, 28, 15, 16, 17, 18, 29, 30, 31, 32, 33, 34, 35, 36, 37, 38, 39, 40, 41, 42, 43, 44, 45, 46, 47, 48, 49, 50, 51, 52, 53, 54, 55, 56, 57, 58, 59, 60, 61, 62, 63, 64, 65, 14, 78, 79, 80, 81] (by decide +kernel) (by decide +kernel)
set_option maxRecDepth 20000 in
theorem gX1_fillGaps_X1_agrees : GoodIn wsX1_fillGaps (wsV RX1 89 RX1 yX1_agrees wsX1_agrees) := goodIn_app (goodIn_of _ (by decide +kernel)) ggX1_fillGaps_X1_agrees
set_option maxRecDepth 20000 in
theorem ggX1_fillGaps_X1_fillBoard : GoodIn wsX1_fillGaps wsX1_fillBoard := goodIn_r _ [69, 1, 23, 24, 25, 5, 26, 27, 28, 15, 16, 17, 18, 29, 30, 31, 32, 33, 34, 35, 36, 37, 38, 39, 40, 41, 42, 43, 44, 45, 46, 47, 48, 49, 50, 51, 52, 53, 54, 55, 56, 57, 58, 59, 60, 61, 62, 63, 64, 65, 70, 71, 72, 11, 73, 14, 74, 75, 76, 77, 78, 79, 80, 81] (by decide +kernel) (by decide +kernel)
set_option maxRecDepth 20000 in
theorem gX1_fillGaps_X1_fillBoard : GoodIn wsX1_fillGaps (wsV RX1 92 RX1 yX1_fillBoard wsX1_fillBoard) := goodIn_app (goodIn_of _ (by decide +kernel)) ggX1_fillGaps_X1_fillBoard
theorem dX1_fillGaps_0 : decode cX1_fillGaps 0 = .ok (.iconst 0, 1) := by decide +kernel
theorem dX1_fillGaps_1 : decode cX1_fillGaps 1 = .ok (.istore_n 1, 1) := by decide +kernel
theorem dX1_fillGaps_2 : decode cX1_fillGaps 2 = .ok (.iconst 1, 1) := by decide +kernel
theorem dX1_fillGaps_3 : decode cX1_fillGaps 3 = .ok (.istore_n 2, 1) := by decide +kernel
theorem dX1_fillGaps_4 : decode cX1_fillGaps 4 = .ok (.iload_n 2, 1) := by decide +kernel
theorem dX1_fillGaps_5 : decode cX1_fillGaps 5 = .ok (.aload_n 0, 1) := by decide +kernel
theorem dX1_fillGaps_6 : decode cX1_fillGaps 6 = .ok (.getfield 12, 3) := by decide +kernel
theorem dX1_fillGaps_9 : decode cX1_fillGaps 9 = .ok (.invokevirtual 18, 3) := by decide +kernel
theorem dX1_fillGaps_12 : decode cX1_fillGaps 12 = .ok (.if_icmp .ge 35, 3) := by decide +kernel
theorem dX1_fillGaps_15 : decode cX1_fillGaps 15 = .ok (.aload_n 0, 1) := by decide +kernel
theorem dX1_fillGaps_16 : decode cX1_fillGaps 16 = .ok (.iload_n 2, 1) := by decide +kernel
theorem dX1_fillGaps_17 : decode cX1_fillGaps 17 = .ok (.iconst 1, 1) := by decide +kernel
theorem dX1_fillGaps_18 : decode cX1_fillGaps 18 = .ok (.isub, 1) := by decide +kernel
theorem dX1_fillGaps_19 : decode cX1_fillGaps 19 = .ok (.invokevirtual 37, 3) := by decide +kernel
theorem dX1_fillGaps_22 : decode cX1_fillGaps 22 = .ok (.ifCond .ne 19, 3) := by decide +kernel
theorem dX1_fillGaps_25 : decode cX1_fillGaps 25 = .ok (.aload_n 0, 1) := by decide +kernel
theorem dX1_fillGaps_26 : decode cX1_fillGaps 26 = .ok (.iload_n 2, 1) := by decide +kernel
theorem dX1_fillGaps_27 : decode cX1_fillGaps 27 = .ok (.invokevirtual 89, 3) := by decide +kernel
theorem dX1_fillGaps_30 : decode cX1_fillGaps 30 = .ok (.ifCond .eq 11, 3) := by decide +kernel
theorem dX1_fillGaps_33 : decode cX1_fillGaps 33 = .ok (.iload_n 1, 1) := by decide +kernel
theorem dX1_fillGaps_34 : decode cX1_fillGaps 34 = .ok (.aload_n 0, 1) := by decide +kernel
theorem dX1_fillGaps_35 : decode cX1_fillGaps 35 = .ok (.iload_n 2, 1) := by decide +kernel
theorem dX1_fillGaps_36 : decode cX1_fillGaps 36 = .ok (.invokevirtual 92, 3) := by decide +kernel
theorem dX1_fillGaps_39 : decode cX1_fillGaps 39 = .ok (.iadd, 1) := by decide +kernel
theorem dX1_fillGaps_40 : decode cX1_fillGaps 40 = .ok (.istore_n 1, 1) := by decide +kernel
theorem dX1_fillGaps_41 : decode cX1_fillGaps 41 = .ok (.iinc 2 1, 3) := by decide +kernel
theorem dX1_fillGaps_44 : decode cX1_fillGaps 44 = .ok (.goto (-40), 3) := by decide +kernel
theorem dX1_fillGaps_47 : decode cX1_fillGaps 47 = .ok (.iload_n 1, 1) := by decide +kernel
theorem dX1_fillGaps_48 : decode cX1_fillGaps 48 = .ok (.ireturn, 1) := by decide +kernel
set_option maxRecDepth 20000 in
theorem ggX1_agrees_X3_walked : GoodIn wsX1_agrees wsX3_walked := goodIn_r _ [7, 8, 9, 10, 11, 6, 12, 13, 14, 15, 16, 17, 18, 19, 20, 21, 22, 23, 24, 25, 26, 27, 28, 29, 30, 31, 32, 33, 34, 35, 36, 37, 38, 39, 40, 41, 42, 43, 44, 45, 46, 47, 48, 49, 50, 53, 54, 55] (by decide +kernel) (by decide +kernel)
set_option maxRecDepth 20000 in
theorem gX1_agrees_X3_walked : GoodIn wsX1_agrees (wsV RX1 54 RX3 yX3_walked wsX3_walked) := goodIn_app (goodIn_of _ (by decide +kernel)) ggX1_agrees_X3_walked
set_option maxRecDepth 20000 in
theorem ggX1_agrees_X3_cell : GoodIn wsX1_agrees wsX3_cell := goodIn_r _ [12, 13, 53, 54, 55] (by decide +kernel) (by decide +kernel)
set_option maxRecDepth 20000 in
theorem gX1_agrees_X3_cell : GoodIn wsX1_agrees (wsV RX1 29 RX3 yX3_cell wsX3_cell) := goodIn_app (goodIn_of _ (by decide +kernel)) ggX1_agrees_X3_cell
theorem dX1_agrees_0 : decode cX1_agrees 0 = .ok (.iconst 0, 1) := by decide +kernel
theorem dX1_agrees_1 : decode cX1_agrees 1 = .ok (.istore_n 2, 1) := by decide +kernel
theorem dX1_agrees_2 : decode cX1_agrees 2 = .ok (.iload_n 2, 1) := by decide +kernel
theorem dX1_agrees_3 : decode cX1_agrees 3 = .ok (.bipush 8, 2) := by decide +kernel
theorem dX1_agrees_5 : decode cX1_agrees 5 = .ok (.if_icmp .ge 58, 3) := by decide +kernel
theorem dX1_agrees_8 : decode cX1_agrees 8 = .ok (.aload_n 0, 1) := by decide +kernel
theorem dX1_agrees_9 : decode cX1_agrees 9 = .ok (.getfield 12, 3) := by decide +kernel
theorem dX1_agrees_12 : decode cX1_agrees 12 = .ok (.iload_n 1, 1) := by decide +kernel
theorem dX1_agrees_13 : decode cX1_agrees 13 = .ok (.iconst 1, 1) := by decide +kernel
theorem dX1_agrees_14 : decode cX1_agrees 14 = .ok (.isub, 1) := by decide +kernel
theorem dX1_agrees_15 : decode cX1_agrees 15 = .ok (.iload_n 2, 1) := by decide +kernel
theorem dX1_agrees_16 : decode cX1_agrees 16 = .ok (.invokevirtual 54, 3) := by decide +kernel
theorem dX1_agrees_19 : decode cX1_agrees 19 = .ok (.lstore_n 3, 1) := by decide +kernel
theorem dX1_agrees_20 : decode cX1_agrees 20 = .ok (.aload_n 0, 1) := by decide +kernel
theorem dX1_agrees_21 : decode cX1_agrees 21 = .ok (.getfield 12, 3) := by decide +kernel
theorem dX1_agrees_24 : decode cX1_agrees 24 = .ok (.iload_n 1, 1) := by decide +kernel
theorem dX1_agrees_25 : decode cX1_agrees 25 = .ok (.iload_n 2, 1) := by decide +kernel
theorem dX1_agrees_26 : decode cX1_agrees 26 = .ok (.invokevirtual 29, 3) := by decide +kernel
theorem dX1_agrees_29 : decode cX1_agrees 29 = .ok (.lstore 5, 2) := by decide +kernel
theorem dX1_agrees_31 : decode cX1_agrees 31 = .ok (.lload_n 3, 1) := by decide +kernel
theorem dX1_agrees_32 : decode cX1_agrees 32 = .ok (.ldc2_w 41, 3) := by decide +kernel
theorem dX1_agrees_35 : decode cX1_agrees 35 = .ok (.lcmp, 1) := by decide +kernel
theorem dX1_agrees_36 : decode cX1_agrees 36 = .ok (.ifCond .eq 19, 3) := by decide +kernel
theorem dX1_agrees_39 : decode cX1_agrees 39 = .ok (.lload 5, 2) := by decide +kernel
theorem dX1_agrees_41 : decode cX1_agrees 41 = .ok (.ldc2_w 41, 3) := by decide +kernel
theorem dX1_agrees_44 : decode cX1_agrees 44 = .ok (.lcmp, 1) := by decide +kernel
theorem dX1_agrees_45 : decode cX1_agrees 45 = .ok (.ifCond .eq 12, 3) := by decide +kernel
theorem dX1_agrees_48 : decode cX1_agrees 48 = .ok (.lload 5, 2) := by decide +kernel
theorem dX1_agrees_50 : decode cX1_agrees 50 = .ok (.lload_n 3, 1) := by decide +kernel
theorem dX1_agrees_51 : decode cX1_agrees 51 = .ok (.lcmp, 1) := by decide +kernel
theorem dX1_agrees_52 : decode cX1_agrees 52 = .ok (.ifCond .eq 5, 3) := by decide +kernel
theorem dX1_agrees_55 : decode cX1_agrees 55 = .ok (.iconst 0, 1) := by decide +kernel
theorem dX1_agrees_56 : decode cX1_agrees 56 = .ok (.ireturn, 1) := by decide +kernel
theorem dX1_agrees_57 : decode cX1_agrees 57 = .ok (.iinc 2 1, 3) := by decide +kernel
theorem dX1_agrees_60 : decode cX1_agrees 60 = .ok (.goto (-58), 3) := by decide +kernel
theorem dX1_agrees_63 : decode cX1_agrees 63 = .ok (.iconst 1, 1) := by decide +kernel
theorem dX1_agrees_64 : decode cX1_agrees 64 = .ok (.ireturn, 1) := by decide +kernel
set_option maxRecDepth 20000 in
theorem ggX1_fillBoard_X3_walked : GoodIn wsX1_fillBoard wsX3_walked := goodIn_r _ [6, 7, 8, 9, 10, 5, 11, 12, 13, 14, 15, 16, 17, 18, 19, 20, 21, 22, 23, 24, 25, 26, 27, 28, 29, 30, 31, 32, 33, 34, 35, 36, 37, 38, 39, 40, 41, 42, 43, 44, 45, 46, 47, 48, 49, 61, 62, 63] (by decide +kernel) (by decide +kernel)
set_option maxRecDepth 20000 in
theorem gX1_fillBoard_X3_walked : GoodIn wsX1_fillBoard (wsV RX1 54 RX3 yX3_walked wsX3_walked) := goodIn_app (goodIn_of _ (by decide +kernel)) ggX1_fillBoard_X3_walked
set_option maxRecDepth 20000 in
theorem ggX1_fillBoard_X1_change : GoodIn wsX1_fillBoard wsX1_change := goodIn_r _ [54, 1, 55, 9, 10, 5, 11, 12, 56, 57, 58, 59, 60, 61, 62, 63] (by decide +kernel) (by decide +kernel)
set_option maxRecDepth 20000 in
theorem gX1_fillBoard_X1_change : GoodIn wsX1_fillBoard (wsV RX1 95 RX1 yX1_change wsX1_change) := goodIn_app (goodIn_of _ (by decide +kernel)) ggX1_fillBoard_X1_change
theorem dX1_fillBoard_0 : decode cX1_fillBoard 0 = .ok (.iconst 0, 1) := by decide +kernel
theorem dX1_fillBoard_1 : decode cX1_fillBoard 1 = .ok (.istore_n 2, 1) := by decide +kernel
theorem dX1_fillBoard_2 : decode cX1_fillBoard 2 = .ok (.iconst 0, 1) := by decide +kernel
theorem dX1_fillBoard_3 : decode cX1_fillBoard 3 = .ok (.istore_n 3, 1) := by decide +kernel
theorem dX1_fillBoard_4 : decode cX1_fillBoard 4 = .ok (.iload_n 3, 1) := by decide +kernel
theorem dX1_fillBoard_5 : decode cX1_fillBoard 5 = .ok (.bipush 8, 2) := by decide +kernel
theorem dX1_fillBoard_7 : decode cX1_fillBoard 7 = .ok (.if_icmp .ge 29, 3) := by decide +kernel
theorem dX1_fillBoard_10 : decode cX1_fillBoard 10 = .ok (.iload_n 2, 1) := by decide +kernel
theorem dX1_fillBoard_11 : decode cX1_fillBoard 11 = .ok (.aload_n 0, 1) := by decide +kernel
theorem dX1_fillBoard_12 : decode cX1_fillBoard 12 = .ok (.iload_n 1, 1) := by decide +kernel
theorem dX1_fillBoard_13 : decode cX1_fillBoard 13 = .ok (.iload_n 3, 1) := by decide +kernel
theorem dX1_fillBoard_14 : decode cX1_fillBoard 14 = .ok (.aload_n 0, 1) := by decide +kernel
theorem dX1_fillBoard_15 : decode cX1_fillBoard 15 = .ok (.getfield 12, 3) := by decide +kernel
theorem dX1_fillBoard_18 : decode cX1_fillBoard 18 = .ok (.iload_n 1, 1) := by decide +kernel
theorem dX1_fillBoard_19 : decode cX1_fillBoard 19 = .ok (.iconst 1, 1) := by decide +kernel
theorem dX1_fillBoard_20 : decode cX1_fillBoard 20 = .ok (.isub, 1) := by decide +kernel
theorem dX1_fillBoard_21 : decode cX1_fillBoard 21 = .ok (.iload_n 3, 1) := by decide +kernel
theorem dX1_fillBoard_22 : decode cX1_fillBoard 22 = .ok (.invokevirtual 54, 3) := by decide +kernel
theorem dX1_fillBoard_25 : decode cX1_fillBoard 25 = .ok (.invokevirtual 95, 3) := by decide +kernel
theorem dX1_fillBoard_28 : decode cX1_fillBoard 28 = .ok (.iadd, 1) := by decide +kernel
theorem dX1_fillBoard_29 : decode cX1_fillBoard 29 = .ok (.istore_n 2, 1) := by decide +kernel
theorem dX1_fillBoard_30 : decode cX1_fillBoard 30 = .ok (.iinc 3 1, 3) := by decide +kernel
theorem dX1_fillBoard_33 : decode cX1_fillBoard 33 = .ok (.goto (-29), 3) := by decide +kernel
theorem dX1_fillBoard_36 : decode cX1_fillBoard 36 = .ok (.iload_n 2, 1) := by decide +kernel
theorem dX1_fillBoard_37 : decode cX1_fillBoard 37 = .ok (.ireturn, 1) := by decide +kernel
theorem dX2_init_0 : decode cX2_init 0 = .ok (.aload_n 0, 1) := by decide +kernel
theorem dX2_init_1 : decode cX2_init 1 = .ok (.invokespecial 3, 3) := by decide +kernel
theorem dX2_init_4 : decode cX2_init 4 = .ok (.aload_n 0, 1) := by decide +kernel
theorem dX2_init_5 : decode cX2_init 5 = .ok (.bipush 6, 2) := by decide +kernel
theorem dX2_init_7 : decode cX2_init 7 = .ok (.newarray .int, 2) := by decide +kernel
theorem dX2_init_9 : decode cX2_init 9 = .ok (.putfield 11, 3) := by decide +kernel
theorem dX2_init_12 : decode cX2_init 12 = .ok (.aload_n 0, 1) := by decide +kernel
theorem dX2_init_13 : decode cX2_init 13 = .ok (.bipush 6, 2) := by decide +kernel
theorem dX2_init_15 : decode cX2_init 15 = .ok (.newarray .int, 2) := by decide +kernel
theorem dX2_init_17 : decode cX2_init 17 = .ok (.putfield 15, 3) := by decide +kernel
theorem dX2_init_20 : decode cX2_init 20 = .ok (.return_, 1) := by decide +kernel
theorem dX2_size_0 : decode cX2_size 0 = .ok (.aload_n 0, 1) := by decide +kernel
theorem dX2_size_1 : decode cX2_size 1 = .ok (.getfield 18, 3) := by decide +kernel
theorem dX2_size_4 : decode cX2_size 4 = .ok (.ireturn, 1) := by decide +kernel
theorem dX2_clear_0 : decode cX2_clear 0 = .ok (.aload_n 0, 1) := by decide +kernel
theorem dX2_clear_1 : decode cX2_clear 1 = .ok (.iconst 0, 1) := by decide +kernel
theorem dX2_clear_2 : decode cX2_clear 2 = .ok (.putfield 18, 3) := by decide +kernel
theorem dX2_clear_5 : decode cX2_clear 5 = .ok (.return_, 1) := by decide +kernel
theorem dX2_isFull_0 : decode cX2_isFull 0 = .ok (.aload_n 0, 1) := by decide +kernel
theorem dX2_isFull_1 : decode cX2_isFull 1 = .ok (.getfield 18, 3) := by decide +kernel
theorem dX2_isFull_4 : decode cX2_isFull 4 = .ok (.bipush 6, 2) := by decide +kernel
theorem dX2_isFull_6 : decode cX2_isFull 6 = .ok (.if_icmp .lt 7, 3) := by decide +kernel
theorem dX2_isFull_9 : decode cX2_isFull 9 = .ok (.iconst 1, 1) := by decide +kernel
theorem dX2_isFull_10 : decode cX2_isFull 10 = .ok (.goto 4, 3) := by decide +kernel
theorem dX2_isFull_13 : decode cX2_isFull 13 = .ok (.iconst 0, 1) := by decide +kernel
theorem dX2_isFull_14 : decode cX2_isFull 14 = .ok (.ireturn, 1) := by decide +kernel
theorem dX2_append_0 : decode cX2_append 0 = .ok (.aload_n 0, 1) := by decide +kernel
theorem dX2_append_1 : decode cX2_append 1 = .ok (.getfield 18, 3) := by decide +kernel
theorem dX2_append_4 : decode cX2_append 4 = .ok (.ifCond .lt 27, 3) := by decide +kernel
theorem dX2_append_7 : decode cX2_append 7 = .ok (.aload_n 0, 1) := by decide +kernel
theorem dX2_append_8 : decode cX2_append 8 = .ok (.getfield 18, 3) := by decide +kernel
theorem dX2_append_11 : decode cX2_append 11 = .ok (.aload_n 0, 1) := by decide +kernel
theorem dX2_append_12 : decode cX2_append 12 = .ok (.getfield 11, 3) := by decide +kernel
theorem dX2_append_15 : decode cX2_append 15 = .ok (.arraylength, 1) := by decide +kernel
theorem dX2_append_16 : decode cX2_append 16 = .ok (.if_icmp .ge 15, 3) := by decide +kernel
theorem dX2_append_19 : decode cX2_append 19 = .ok (.aload_n 0, 1) := by decide +kernel
theorem dX2_append_20 : decode cX2_append 20 = .ok (.getfield 18, 3) := by decide +kernel
theorem dX2_append_23 : decode cX2_append 23 = .ok (.aload_n 0, 1) := by decide +kernel
theorem dX2_append_24 : decode cX2_append 24 = .ok (.getfield 15, 3) := by decide +kernel
theorem dX2_append_27 : decode cX2_append 27 = .ok (.arraylength, 1) := by decide +kernel
theorem dX2_append_28 : decode cX2_append 28 = .ok (.if_icmp .lt 4, 3) := by decide +kernel
theorem dX2_append_31 : decode cX2_append 31 = .ok (.return_, 1) := by decide +kernel
theorem dX2_append_32 : decode cX2_append 32 = .ok (.aload_n 0, 1) := by decide +kernel
theorem dX2_append_33 : decode cX2_append 33 = .ok (.getfield 11, 3) := by decide +kernel
theorem dX2_append_36 : decode cX2_append 36 = .ok (.aload_n 0, 1) := by decide +kernel
theorem dX2_append_37 : decode cX2_append 37 = .ok (.getfield 18, 3) := by decide +kernel
theorem dX2_append_40 : decode cX2_append 40 = .ok (.iload_n 1, 1) := by decide +kernel
theorem dX2_append_41 : decode cX2_append 41 = .ok (.iastore, 1) := by decide +kernel
theorem dX2_append_42 : decode cX2_append 42 = .ok (.aload_n 0, 1) := by decide +kernel
theorem dX2_append_43 : decode cX2_append 43 = .ok (.getfield 15, 3) := by decide +kernel
theorem dX2_append_46 : decode cX2_append 46 = .ok (.aload_n 0, 1) := by decide +kernel
theorem dX2_append_47 : decode cX2_append 47 = .ok (.getfield 18, 3) := by decide +kernel
theorem dX2_append_50 : decode cX2_append 50 = .ok (.iload_n 2, 1) := by decide +kernel
theorem dX2_append_51 : decode cX2_append 51 = .ok (.iastore, 1) := by decide +kernel
theorem dX2_append_52 : decode cX2_append 52 = .ok (.aload_n 0, 1) := by decide +kernel
theorem dX2_append_53 : decode cX2_append 53 = .ok (.dup, 1) := by decide +kernel
theorem dX2_append_54 : decode cX2_append 54 = .ok (.getfield 18, 3) := by decide +kernel
theorem dX2_append_57 : decode cX2_append 57 = .ok (.iconst 1, 1) := by decide +kernel
theorem dX2_append_58 : decode cX2_append 58 = .ok (.iadd, 1) := by decide +kernel
theorem dX2_append_59 : decode cX2_append 59 = .ok (.putfield 18, 3) := by decide +kernel
theorem dX2_append_62 : decode cX2_append 62 = .ok (.return_, 1) := by decide +kernel
theorem dX2_by_0 : decode cX2_by 0 = .ok (.iload_n 1, 1) := by decide +kernel
theorem dX2_by_1 : decode cX2_by 1 = .ok (.ifCond .lt 21, 3) := by decide +kernel
theorem dX2_by_4 : decode cX2_by 4 = .ok (.iload_n 1, 1) := by decide +kernel
theorem dX2_by_5 : decode cX2_by 5 = .ok (.aload_n 0, 1) := by decide +kernel
theorem dX2_by_6 : decode cX2_by 6 = .ok (.getfield 11, 3) := by decide +kernel
theorem dX2_by_9 : decode cX2_by 9 = .ok (.arraylength, 1) := by decide +kernel
theorem dX2_by_10 : decode cX2_by 10 = .ok (.if_icmp .ge 12, 3) := by decide +kernel
theorem dX2_by_13 : decode cX2_by 13 = .ok (.aload_n 0, 1) := by decide +kernel
theorem dX2_by_14 : decode cX2_by 14 = .ok (.getfield 11, 3) := by decide +kernel
theorem dX2_by_17 : decode cX2_by 17 = .ok (.iload_n 1, 1) := by decide +kernel
theorem dX2_by_18 : decode cX2_by 18 = .ok (.iaload, 1) := by decide +kernel
theorem dX2_by_19 : decode cX2_by 19 = .ok (.goto 4, 3) := by decide +kernel
theorem dX2_by_22 : decode cX2_by 22 = .ok (.iconst 1, 1) := by decide +kernel
theorem dX2_by_23 : decode cX2_by 23 = .ok (.ireturn, 1) := by decide +kernel
theorem dX2_left_0 : decode cX2_left 0 = .ok (.iload_n 1, 1) := by decide +kernel
