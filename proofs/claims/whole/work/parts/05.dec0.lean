theorem dX0_init_0 : decode cX0_init 0 = .ok (.aload_n 0, 1) := by decide +kernel
theorem dX0_init_1 : decode cX0_init 1 = .ok (.invokespecial 3, 3) := by decide +kernel
theorem dX0_init_4 : decode cX0_init 4 = .ok (.return_, 1) := by decide +kernel
set_option maxRecDepth 20000 in
theorem ggX0_put_X0_head : GoodIn wsX0_put wsX0_head := goodIn_r _ [9, 10, 11, 12, 13, 14, 15, 16, 17] (by decide +kernel) (by decide +kernel)
set_option maxRecDepth 20000 in
theorem gX0_put_X0_head : GoodIn wsX0_put (wsV RX0 24 RX0 yX0_head wsX0_head) := goodIn_app (goodIn_of _ (by decide +kernel)) ggX0_put_X0_head
theorem dX0_put_0 : decode cX0_put 0 = .ok (.aload_n 0, 1) := by decide +kernel
theorem dX0_put_1 : decode cX0_put 1 = .ok (.lload_n 1, 1) := by decide +kernel
theorem dX0_put_2 : decode cX0_put 2 = .ok (.putfield 9, 3) := by decide +kernel
theorem dX0_put_5 : decode cX0_put 5 = .ok (.aload_n 0, 1) := by decide +kernel
theorem dX0_put_6 : decode cX0_put 6 = .ok (.lload_n 3, 1) := by decide +kernel
theorem dX0_put_7 : decode cX0_put 7 = .ok (.putfield 15, 3) := by decide +kernel
theorem dX0_put_10 : decode cX0_put 10 = .ok (.aload_n 0, 1) := by decide +kernel
theorem dX0_put_11 : decode cX0_put 11 = .ok (.lload 5, 2) := by decide +kernel
theorem dX0_put_13 : decode cX0_put 13 = .ok (.putfield 18, 3) := by decide +kernel
theorem dX0_put_16 : decode cX0_put 16 = .ok (.aload_n 0, 1) := by decide +kernel
theorem dX0_put_17 : decode cX0_put 17 = .ok (.lload 7, 2) := by decide +kernel
theorem dX0_put_19 : decode cX0_put 19 = .ok (.putfield 21, 3) := by decide +kernel
theorem dX0_put_22 : decode cX0_put 22 = .ok (.aload_n 0, 1) := by decide +kernel
theorem dX0_put_23 : decode cX0_put 23 = .ok (.lconst 0, 1) := by decide +kernel
theorem dX0_put_24 : decode cX0_put 24 = .ok (.lconst 0, 1) := by decide +kernel
theorem dX0_put_25 : decode cX0_put 25 = .ok (.invokevirtual 24, 3) := by decide +kernel
theorem dX0_put_28 : decode cX0_put 28 = .ok (.return_, 1) := by decide +kernel
set_option maxRecDepth 20000 in
theorem ggX0_putTile_X0_put : GoodIn wsX0_putTile wsX0_put := goodIn_r _ [6, 7, 8, 9, 10, 11, 12, 13, 5, 14, 15, 16, 17, 18, 19, 20, 21, 22] (by decide +kernel) (by decide +kernel)
set_option maxRecDepth 20000 in
theorem gX0_putTile_X0_put : GoodIn wsX0_putTile (wsV RX0 30 RX0 yX0_put wsX0_put) := goodIn_app (goodIn_of _ (by decide +kernel)) ggX0_putTile_X0_put
theorem dX0_putTile_0 : decode cX0_putTile 0 = .ok (.aload_n 0, 1) := by decide +kernel
theorem dX0_putTile_1 : decode cX0_putTile 1 = .ok (.ldc2_w 28, 3) := by decide +kernel
theorem dX0_putTile_4 : decode cX0_putTile 4 = .ok (.iload_n 1, 1) := by decide +kernel
theorem dX0_putTile_5 : decode cX0_putTile 5 = .ok (.i2l, 1) := by decide +kernel
theorem dX0_putTile_6 : decode cX0_putTile 6 = .ok (.lmul, 1) := by decide +kernel
theorem dX0_putTile_7 : decode cX0_putTile 7 = .ok (.ldc2_w 28, 3) := by decide +kernel
theorem dX0_putTile_10 : decode cX0_putTile 10 = .ok (.iload_n 2, 1) := by decide +kernel
theorem dX0_putTile_11 : decode cX0_putTile 11 = .ok (.i2l, 1) := by decide +kernel
theorem dX0_putTile_12 : decode cX0_putTile 12 = .ok (.lmul, 1) := by decide +kernel
theorem dX0_putTile_13 : decode cX0_putTile 13 = .ok (.ldc2_w 28, 3) := by decide +kernel
theorem dX0_putTile_16 : decode cX0_putTile 16 = .ok (.iload_n 1, 1) := by decide +kernel
theorem dX0_putTile_17 : decode cX0_putTile 17 = .ok (.i2l, 1) := by decide +kernel
theorem dX0_putTile_18 : decode cX0_putTile 18 = .ok (.lmul, 1) := by decide +kernel
theorem dX0_putTile_19 : decode cX0_putTile 19 = .ok (.ldc2_w 28, 3) := by decide +kernel
theorem dX0_putTile_22 : decode cX0_putTile 22 = .ok (.ladd, 1) := by decide +kernel
theorem dX0_putTile_23 : decode cX0_putTile 23 = .ok (.ldc2_w 28, 3) := by decide +kernel
theorem dX0_putTile_26 : decode cX0_putTile 26 = .ok (.iload_n 2, 1) := by decide +kernel
theorem dX0_putTile_27 : decode cX0_putTile 27 = .ok (.i2l, 1) := by decide +kernel
theorem dX0_putTile_28 : decode cX0_putTile 28 = .ok (.lmul, 1) := by decide +kernel
theorem dX0_putTile_29 : decode cX0_putTile 29 = .ok (.ldc2_w 28, 3) := by decide +kernel
theorem dX0_putTile_32 : decode cX0_putTile 32 = .ok (.ladd, 1) := by decide +kernel
theorem dX0_putTile_33 : decode cX0_putTile 33 = .ok (.invokevirtual 30, 3) := by decide +kernel
theorem dX0_putTile_36 : decode cX0_putTile 36 = .ok (.return_, 1) := by decide +kernel
theorem dX0_head_0 : decode cX0_head 0 = .ok (.aload_n 0, 1) := by decide +kernel
theorem dX0_head_1 : decode cX0_head 1 = .ok (.lload_n 1, 1) := by decide +kernel
theorem dX0_head_2 : decode cX0_head 2 = .ok (.putfield 34, 3) := by decide +kernel
theorem dX0_head_5 : decode cX0_head 5 = .ok (.aload_n 0, 1) := by decide +kernel
theorem dX0_head_6 : decode cX0_head 6 = .ok (.lload_n 3, 1) := by decide +kernel
theorem dX0_head_7 : decode cX0_head 7 = .ok (.putfield 37, 3) := by decide +kernel
theorem dX0_head_10 : decode cX0_head 10 = .ok (.return_, 1) := by decide +kernel
theorem dX0_shift_0 : decode cX0_shift 0 = .ok (.aload_n 0, 1) := by decide +kernel
theorem dX0_shift_1 : decode cX0_shift 1 = .ok (.dup, 1) := by decide +kernel
theorem dX0_shift_2 : decode cX0_shift 2 = .ok (.getfield 9, 3) := by decide +kernel
theorem dX0_shift_5 : decode cX0_shift 5 = .ok (.lload_n 1, 1) := by decide +kernel
theorem dX0_shift_6 : decode cX0_shift 6 = .ok (.ladd, 1) := by decide +kernel
theorem dX0_shift_7 : decode cX0_shift 7 = .ok (.putfield 9, 3) := by decide +kernel
theorem dX0_shift_10 : decode cX0_shift 10 = .ok (.aload_n 0, 1) := by decide +kernel
theorem dX0_shift_11 : decode cX0_shift 11 = .ok (.dup, 1) := by decide +kernel
theorem dX0_shift_12 : decode cX0_shift 12 = .ok (.getfield 15, 3) := by decide +kernel
theorem dX0_shift_15 : decode cX0_shift 15 = .ok (.lload_n 3, 1) := by decide +kernel
theorem dX0_shift_16 : decode cX0_shift 16 = .ok (.ladd, 1) := by decide +kernel
theorem dX0_shift_17 : decode cX0_shift 17 = .ok (.putfield 15, 3) := by decide +kernel
theorem dX0_shift_20 : decode cX0_shift 20 = .ok (.aload_n 0, 1) := by decide +kernel
theorem dX0_shift_21 : decode cX0_shift 21 = .ok (.dup, 1) := by decide +kernel
theorem dX0_shift_22 : decode cX0_shift 22 = .ok (.getfield 18, 3) := by decide +kernel
theorem dX0_shift_25 : decode cX0_shift 25 = .ok (.lload_n 1, 1) := by decide +kernel
theorem dX0_shift_26 : decode cX0_shift 26 = .ok (.ladd, 1) := by decide +kernel
theorem dX0_shift_27 : decode cX0_shift 27 = .ok (.putfield 18, 3) := by decide +kernel
theorem dX0_shift_30 : decode cX0_shift 30 = .ok (.aload_n 0, 1) := by decide +kernel
theorem dX0_shift_31 : decode cX0_shift 31 = .ok (.dup, 1) := by decide +kernel
theorem dX0_shift_32 : decode cX0_shift 32 = .ok (.getfield 21, 3) := by decide +kernel
theorem dX0_shift_35 : decode cX0_shift 35 = .ok (.lload_n 3, 1) := by decide +kernel
theorem dX0_shift_36 : decode cX0_shift 36 = .ok (.ladd, 1) := by decide +kernel
theorem dX0_shift_37 : decode cX0_shift 37 = .ok (.putfield 21, 3) := by decide +kernel
theorem dX0_shift_40 : decode cX0_shift 40 = .ok (.return_, 1) := by decide +kernel
theorem dX0_hasMidst_0 : decode cX0_hasMidst 0 = .ok (.aload_n 0, 1) := by decide +kernel
theorem dX0_hasMidst_1 : decode cX0_hasMidst 1 = .ok (.getfield 9, 3) := by decide +kernel
theorem dX0_hasMidst_4 : decode cX0_hasMidst 4 = .ok (.aload_n 0, 1) := by decide +kernel
theorem dX0_hasMidst_5 : decode cX0_hasMidst 5 = .ok (.getfield 18, 3) := by decide +kernel
theorem dX0_hasMidst_8 : decode cX0_hasMidst 8 = .ok (.lcmp, 1) := by decide +kernel
theorem dX0_hasMidst_9 : decode cX0_hasMidst 9 = .ok (.ifCond .ge 19, 3) := by decide +kernel
theorem dX0_hasMidst_12 : decode cX0_hasMidst 12 = .ok (.aload_n 0, 1) := by decide +kernel
theorem dX0_hasMidst_13 : decode cX0_hasMidst 13 = .ok (.getfield 15, 3) := by decide +kernel
theorem dX0_hasMidst_16 : decode cX0_hasMidst 16 = .ok (.aload_n 0, 1) := by decide +kernel
theorem dX0_hasMidst_17 : decode cX0_hasMidst 17 = .ok (.getfield 21, 3) := by decide +kernel
theorem dX0_hasMidst_20 : decode cX0_hasMidst 20 = .ok (.lcmp, 1) := by decide +kernel
theorem dX0_hasMidst_21 : decode cX0_hasMidst 21 = .ok (.ifCond .ge 7, 3) := by decide +kernel
theorem dX0_hasMidst_24 : decode cX0_hasMidst 24 = .ok (.iconst 1, 1) := by decide +kernel
theorem dX0_hasMidst_25 : decode cX0_hasMidst 25 = .ok (.goto 4, 3) := by decide +kernel
theorem dX0_hasMidst_28 : decode cX0_hasMidst 28 = .ok (.iconst 0, 1) := by decide +kernel
theorem dX0_hasMidst_29 : decode cX0_hasMidst 29 = .ok (.ireturn, 1) := by decide +kernel
set_option maxRecDepth 20000 in
theorem ggX0_liesOver_X0_liesOverRange : GoodIn wsX0_liesOver wsX0_liesOverRange := goodIn_r _ [9, 1, 3, 2, 4, 10, 11, 12, 13, 14, 15] (by decide +kernel) (by decide +kernel)
set_option maxRecDepth 20000 in
theorem gX0_liesOver_X0_liesOverRange : GoodIn wsX0_liesOver (wsV RX0 40 RX0 yX0_liesOverRange wsX0_liesOverRange) := goodIn_app (goodIn_of _ (by decide +kernel)) ggX0_liesOver_X0_liesOverRange
theorem dX0_liesOver_0 : decode cX0_liesOver 0 = .ok (.aload_n 0, 1) := by decide +kernel
theorem dX0_liesOver_1 : decode cX0_liesOver 1 = .ok (.aload_n 1, 1) := by decide +kernel
theorem dX0_liesOver_2 : decode cX0_liesOver 2 = .ok (.getfield 9, 3) := by decide +kernel
theorem dX0_liesOver_5 : decode cX0_liesOver 5 = .ok (.aload_n 1, 1) := by decide +kernel
theorem dX0_liesOver_6 : decode cX0_liesOver 6 = .ok (.getfield 15, 3) := by decide +kernel
theorem dX0_liesOver_9 : decode cX0_liesOver 9 = .ok (.aload_n 1, 1) := by decide +kernel
theorem dX0_liesOver_10 : decode cX0_liesOver 10 = .ok (.getfield 18, 3) := by decide +kernel
theorem dX0_liesOver_13 : decode cX0_liesOver 13 = .ok (.aload_n 1, 1) := by decide +kernel
theorem dX0_liesOver_14 : decode cX0_liesOver 14 = .ok (.getfield 21, 3) := by decide +kernel
theorem dX0_liesOver_17 : decode cX0_liesOver 17 = .ok (.invokevirtual 40, 3) := by decide +kernel
theorem dX0_liesOver_20 : decode cX0_liesOver 20 = .ok (.ireturn, 1) := by decide +kernel
theorem dX0_liesOverRange_0 : decode cX0_liesOverRange 0 = .ok (.aload_n 0, 1) := by decide +kernel
theorem dX0_liesOverRange_1 : decode cX0_liesOverRange 1 = .ok (.getfield 9, 3) := by decide +kernel
theorem dX0_liesOverRange_4 : decode cX0_liesOverRange 4 = .ok (.lload 5, 2) := by decide +kernel
theorem dX0_liesOverRange_6 : decode cX0_liesOverRange 6 = .ok (.lcmp, 1) := by decide +kernel
theorem dX0_liesOverRange_7 : decode cX0_liesOverRange 7 = .ok (.ifCond .ge 35, 3) := by decide +kernel
theorem dX0_liesOverRange_10 : decode cX0_liesOverRange 10 = .ok (.lload_n 1, 1) := by decide +kernel
theorem dX0_liesOverRange_11 : decode cX0_liesOverRange 11 = .ok (.aload_n 0, 1) := by decide +kernel
theorem dX0_liesOverRange_12 : decode cX0_liesOverRange 12 = .ok (.getfield 18, 3) := by decide +kernel
theorem dX0_liesOverRange_15 : decode cX0_liesOverRange 15 = .ok (.lcmp, 1) := by decide +kernel
theorem dX0_liesOverRange_16 : decode cX0_liesOverRange 16 = .ok (.ifCond .ge 26, 3) := by decide +kernel
theorem dX0_liesOverRange_19 : decode cX0_liesOverRange 19 = .ok (.aload_n 0, 1) := by decide +kernel
theorem dX0_liesOverRange_20 : decode cX0_liesOverRange 20 = .ok (.getfield 15, 3) := by decide +kernel
theorem dX0_liesOverRange_23 : decode cX0_liesOverRange 23 = .ok (.lload 7, 2) := by decide +kernel
theorem dX0_liesOverRange_25 : decode cX0_liesOverRange 25 = .ok (.lcmp, 1) := by decide +kernel
theorem dX0_liesOverRange_26 : decode cX0_liesOverRange 26 = .ok (.ifCond .ge 16, 3) := by decide +kernel
theorem dX0_liesOverRange_29 : decode cX0_liesOverRange 29 = .ok (.lload_n 3, 1) := by decide +kernel
theorem dX0_liesOverRange_30 : decode cX0_liesOverRange 30 = .ok (.aload_n 0, 1) := by decide +kernel
theorem dX0_liesOverRange_31 : decode cX0_liesOverRange 31 = .ok (.getfield 21, 3) := by decide +kernel
theorem dX0_liesOverRange_34 : decode cX0_liesOverRange 34 = .ok (.lcmp, 1) := by decide +kernel
theorem dX0_liesOverRange_35 : decode cX0_liesOverRange 35 = .ok (.ifCond .ge 7, 3) := by decide +kernel
theorem dX0_liesOverRange_38 : decode cX0_liesOverRange 38 = .ok (.iconst 1, 1) := by decide +kernel
theorem dX0_liesOverRange_39 : decode cX0_liesOverRange 39 = .ok (.goto 4, 3) := by decide +kernel
theorem dX0_liesOverRange_42 : decode cX0_liesOverRange 42 = .ok (.iconst 0, 1) := by decide +kernel
theorem dX0_liesOverRange_43 : decode cX0_liesOverRange 43 = .ok (.ireturn, 1) := by decide +kernel
theorem dX1_init_0 : decode cX1_init 0 = .ok (.aload_n 0, 1) := by decide +kernel
theorem dX1_init_1 : decode cX1_init 1 = .ok (.invokespecial 3, 3) := by decide +kernel
theorem dX1_init_4 : decode cX1_init 4 = .ok (.aload_n 0, 1) := by decide +kernel
theorem dX1_init_5 : decode cX1_init 5 = .ok (.bipush 16, 2) := by decide +kernel
theorem dX1_init_7 : decode cX1_init 7 = .ok (.newarray .long, 2) := by decide +kernel
theorem dX1_init_9 : decode cX1_init 9 = .ok (.putfield 9, 3) := by decide +kernel
theorem dX1_init_12 : decode cX1_init 12 = .ok (.aload_n 0, 1) := by decide +kernel
theorem dX1_init_13 : decode cX1_init 13 = .ok (.bipush 16, 2) := by decide +kernel
theorem dX1_init_15 : decode cX1_init 15 = .ok (.newarray .long, 2) := by decide +kernel
theorem dX1_init_17 : decode cX1_init 17 = .ok (.putfield 15, 3) := by decide +kernel
theorem dX1_init_20 : decode cX1_init 20 = .ok (.aload_n 0, 1) := by decide +kernel
theorem dX1_init_21 : decode cX1_init 21 = .ok (.bipush 32, 2) := by decide +kernel
theorem dX1_init_23 : decode cX1_init 23 = .ok (.newarray .long, 2) := by decide +kernel
theorem dX1_init_25 : decode cX1_init 25 = .ok (.putfield 18, 3) := by decide +kernel
theorem dX1_init_28 : decode cX1_init 28 = .ok (.aload_n 0, 1) := by decide +kernel
theorem dX1_init_29 : decode cX1_init 29 = .ok (.bipush 32, 2) := by decide +kernel
theorem dX1_init_31 : decode cX1_init 31 = .ok (.newarray .long, 2) := by decide +kernel
theorem dX1_init_33 : decode cX1_init 33 = .ok (.putfield 21, 3) := by decide +kernel
theorem dX1_init_36 : decode cX1_init 36 = .ok (.return_, 1) := by decide +kernel
theorem dX1_empty_0 : decode cX1_empty 0 = .ok (.aload_n 0, 1) := by decide +kernel
theorem dX1_empty_1 : decode cX1_empty 1 = .ok (.iconst 0, 1) := by decide +kernel
theorem dX1_empty_2 : decode cX1_empty 2 = .ok (.putfield 24, 3) := by decide +kernel
theorem dX1_empty_5 : decode cX1_empty 5 = .ok (.aload_n 0, 1) := by decide +kernel
theorem dX1_empty_6 : decode cX1_empty 6 = .ok (.iconst 0, 1) := by decide +kernel
theorem dX1_empty_7 : decode cX1_empty 7 = .ok (.putfield 28, 3) := by decide +kernel
theorem dX1_empty_10 : decode cX1_empty 10 = .ok (.aload_n 0, 1) := by decide +kernel
theorem dX1_empty_11 : decode cX1_empty 11 = .ok (.iconst 0, 1) := by decide +kernel
theorem dX1_empty_12 : decode cX1_empty 12 = .ok (.putfield 31, 3) := by decide +kernel
theorem dX1_empty_15 : decode cX1_empty 15 = .ok (.return_, 1) := by decide +kernel
set_option maxRecDepth 20000 in
theorem ggX1_take_X1_holds : GoodIn wsX1_take wsX1_holds := goodIn_r _ [6, 7, 8, 9, 10, 11, 12, 5, 13, 14, 15, 16, 17, 18, 19, 20, 21, 22, 23, 24, 25, 26, 27, 28, 29, 30, 31, 32, 33, 49, 50, 51, 52, 53, 54, 55] (by decide +kernel) (by decide +kernel)
set_option maxRecDepth 20000 in
theorem gX1_take_X1_holds : GoodIn wsX1_take (wsV RX1 34 RX1 yX1_holds wsX1_holds) := goodIn_app (goodIn_of _ (by decide +kernel)) ggX1_take_X1_holds
set_option maxRecDepth 20000 in
theorem ggX1_take_X1_insertOuter : GoodIn wsX1_take wsX1_insertOuter := goodIn_r _ [37, 38, 39, 40, 49, 50, 51, 52, 53, 54, 55] (by decide +kernel) (by decide +kernel)
set_option maxRecDepth 20000 in
theorem gX1_take_X1_insertOuter : GoodIn wsX1_take (wsV RX1 38 RX1 yX1_insertOuter wsX1_insertOuter) := goodIn_app (goodIn_of _ (by decide +kernel)) ggX1_take_X1_insertOuter
set_option maxRecDepth 20000 in
theorem ggX1_take_X1_findCorners : GoodIn wsX1_take wsX1_findCorners := goodIn_r _ [44, 7, 38, 39, 40, 45, 46, 47, 5, 48, 8, 9, 31, 32, 33, 49, 50, 51, 52, 53, 54, 55] (by decide +kernel) (by decide +kernel)
set_option maxRecDepth 20000 in
theorem gX1_take_X1_findCorners : GoodIn wsX1_take (wsV RX1 42 RX1 yX1_findCorners wsX1_findCorners) := goodIn_app (goodIn_of _ (by decide +kernel)) ggX1_take_X1_findCorners
theorem dX1_take_0 : decode cX1_take 0 = .ok (.aload_n 0, 1) := by decide +kernel
theorem dX1_take_1 : decode cX1_take 1 = .ok (.dup, 1) := by decide +kernel
theorem dX1_take_2 : decode cX1_take 2 = .ok (.getfield 24, 3) := by decide +kernel
theorem dX1_take_5 : decode cX1_take 5 = .ok (.iconst 1, 1) := by decide +kernel
theorem dX1_take_6 : decode cX1_take 6 = .ok (.iadd, 1) := by decide +kernel
theorem dX1_take_7 : decode cX1_take 7 = .ok (.putfield 24, 3) := by decide +kernel
theorem dX1_take_10 : decode cX1_take 10 = .ok (.aload_n 0, 1) := by decide +kernel
theorem dX1_take_11 : decode cX1_take 11 = .ok (.lload_n 1, 1) := by decide +kernel
theorem dX1_take_12 : decode cX1_take 12 = .ok (.lload_n 3, 1) := by decide +kernel
theorem dX1_take_13 : decode cX1_take 13 = .ok (.invokevirtual 34, 3) := by decide +kernel
theorem dX1_take_16 : decode cX1_take 16 = .ok (.ifCond .eq 5, 3) := by decide +kernel
theorem dX1_take_19 : decode cX1_take 19 = .ok (.iconst 0, 1) := by decide +kernel
theorem dX1_take_20 : decode cX1_take 20 = .ok (.ireturn, 1) := by decide +kernel
theorem dX1_take_21 : decode cX1_take 21 = .ok (.aload_n 0, 1) := by decide +kernel
theorem dX1_take_22 : decode cX1_take 22 = .ok (.lload_n 1, 1) := by decide +kernel
theorem dX1_take_23 : decode cX1_take 23 = .ok (.lload_n 3, 1) := by decide +kernel
theorem dX1_take_24 : decode cX1_take 24 = .ok (.invokevirtual 38, 3) := by decide +kernel
theorem dX1_take_27 : decode cX1_take 27 = .ok (.aload_n 0, 1) := by decide +kernel
theorem dX1_take_28 : decode cX1_take 28 = .ok (.invokevirtual 42, 3) := by decide +kernel
theorem dX1_take_31 : decode cX1_take 31 = .ok (.iconst 1, 1) := by decide +kernel
theorem dX1_take_32 : decode cX1_take 32 = .ok (.ireturn, 1) := by decide +kernel
set_option maxRecDepth 20000 in
theorem ggX1_isApartFrom_X1_hasGap : GoodIn wsX1_isApartFrom wsX1_hasGap := goodIn_r _ [6, 7, 8, 9, 5, 10, 11, 12, 1, 13, 14, 15, 16, 25, 26, 27, 28, 29, 30, 31] (by decide +kernel) (by decide +kernel)
set_option maxRecDepth 20000 in
theorem gX1_isApartFrom_X1_hasGap : GoodIn wsX1_isApartFrom (wsV RX1 45 RX1 yX1_hasGap wsX1_hasGap) := goodIn_app (goodIn_of _ (by decide +kernel)) ggX1_isApartFrom_X1_hasGap
set_option maxRecDepth 20000 in
theorem ggX1_isApartFrom_X1_hasGapAcrossEdge : GoodIn wsX1_isApartFrom wsX1_hasGapAcrossEdge := goodIn_r _ [20, 1, 11, 12, 21, 22, 23, 5, 24, 2, 3, 4, 6, 7, 8, 9, 10, 13, 14, 15, 16, 25, 26, 27, 28, 29, 30, 31] (by decide +kernel) (by decide +kernel)
set_option maxRecDepth 20000 in
theorem gX1_isApartFrom_X1_hasGapAcrossEdge : GoodIn wsX1_isApartFrom (wsV RX1 49 RX1 yX1_hasGapAcrossEdge wsX1_hasGapAcrossEdge) := goodIn_app (goodIn_of _ (by decide +kernel)) ggX1_isApartFrom_X1_hasGapAcrossEdge
theorem dX1_isApartFrom_0 : decode cX1_isApartFrom 0 = .ok (.aload_n 0, 1) := by decide +kernel
theorem dX1_isApartFrom_1 : decode cX1_isApartFrom 1 = .ok (.getfield 31, 3) := by decide +kernel
theorem dX1_isApartFrom_4 : decode cX1_isApartFrom 4 = .ok (.ifCond .eq 46, 3) := by decide +kernel
theorem dX1_isApartFrom_7 : decode cX1_isApartFrom 7 = .ok (.aload_n 1, 1) := by decide +kernel
theorem dX1_isApartFrom_8 : decode cX1_isApartFrom 8 = .ok (.getfield 31, 3) := by decide +kernel
theorem dX1_isApartFrom_11 : decode cX1_isApartFrom 11 = .ok (.ifCond .eq 39, 3) := by decide +kernel
theorem dX1_isApartFrom_14 : decode cX1_isApartFrom 14 = .ok (.aload_n 0, 1) := by decide +kernel
theorem dX1_isApartFrom_15 : decode cX1_isApartFrom 15 = .ok (.aload_n 1, 1) := by decide +kernel
theorem dX1_isApartFrom_16 : decode cX1_isApartFrom 16 = .ok (.lconst 1, 1) := by decide +kernel
theorem dX1_isApartFrom_17 : decode cX1_isApartFrom 17 = .ok (.lconst 0, 1) := by decide +kernel
theorem dX1_isApartFrom_18 : decode cX1_isApartFrom 18 = .ok (.invokevirtual 45, 3) := by decide +kernel
theorem dX1_isApartFrom_21 : decode cX1_isApartFrom 21 = .ok (.ifCond .ne 29, 3) := by decide +kernel
theorem dX1_isApartFrom_24 : decode cX1_isApartFrom 24 = .ok (.aload_n 0, 1) := by decide +kernel
theorem dX1_isApartFrom_25 : decode cX1_isApartFrom 25 = .ok (.aload_n 1, 1) := by decide +kernel
theorem dX1_isApartFrom_26 : decode cX1_isApartFrom 26 = .ok (.lconst 0, 1) := by decide +kernel
theorem dX1_isApartFrom_27 : decode cX1_isApartFrom 27 = .ok (.lconst 1, 1) := by decide +kernel
theorem dX1_isApartFrom_28 : decode cX1_isApartFrom 28 = .ok (.invokevirtual 45, 3) := by decide +kernel
theorem dX1_isApartFrom_31 : decode cX1_isApartFrom 31 = .ok (.ifCond .ne 19, 3) := by decide +kernel
theorem dX1_isApartFrom_34 : decode cX1_isApartFrom 34 = .ok (.aload_n 0, 1) := by decide +kernel
theorem dX1_isApartFrom_35 : decode cX1_isApartFrom 35 = .ok (.aload_n 1, 1) := by decide +kernel
theorem dX1_isApartFrom_36 : decode cX1_isApartFrom 36 = .ok (.invokevirtual 49, 3) := by decide +kernel
theorem dX1_isApartFrom_39 : decode cX1_isApartFrom 39 = .ok (.ifCond .ne 11, 3) := by decide +kernel
theorem dX1_isApartFrom_42 : decode cX1_isApartFrom 42 = .ok (.aload_n 1, 1) := by decide +kernel
theorem dX1_isApartFrom_43 : decode cX1_isApartFrom 43 = .ok (.aload_n 0, 1) := by decide +kernel
theorem dX1_isApartFrom_44 : decode cX1_isApartFrom 44 = .ok (.invokevirtual 49, 3) := by decide +kernel
theorem dX1_isApartFrom_47 : decode cX1_isApartFrom 47 = .ok (.ifCond .eq 7, 3) := by decide +kernel
theorem dX1_isApartFrom_50 : decode cX1_isApartFrom 50 = .ok (.iconst 1, 1) := by decide +kernel
theorem dX1_isApartFrom_51 : decode cX1_isApartFrom 51 = .ok (.goto 4, 3) := by decide +kernel
theorem dX1_isApartFrom_54 : decode cX1_isApartFrom 54 = .ok (.iconst 0, 1) := by decide +kernel
theorem dX1_isApartFrom_55 : decode cX1_isApartFrom 55 = .ok (.ireturn, 1) := by decide +kernel
set_option maxRecDepth 20000 in
theorem ggX1_holds_X1_isInRange : GoodIn wsX1_holds wsX1_isInRange := goodIn_r _ [8, 9, 10, 11, 12, 7, 13, 14, 15, 16, 17, 2, 3, 1, 18, 19, 20, 21, 29, 30, 31, 32, 33, 34, 35] (by decide +kernel) (by decide +kernel)
set_option maxRecDepth 20000 in
theorem gX1_holds_X1_isInRange : GoodIn wsX1_holds (wsV RX1 53 RX1 yX1_isInRange wsX1_isInRange) := goodIn_app (goodIn_of _ (by decide +kernel)) ggX1_holds_X1_isInRange
set_option maxRecDepth 20000 in
theorem ggX1_holds_X1_after : GoodIn wsX1_holds wsX1_after := goodIn_r _ [25, 1, 29, 30, 31, 32, 33, 34, 35] (by decide +kernel) (by decide +kernel)
set_option maxRecDepth 20000 in
theorem gX1_holds_X1_after : GoodIn wsX1_holds (wsV RX1 56 RX1 yX1_after wsX1_after) := goodIn_app (goodIn_of _ (by decide +kernel)) ggX1_holds_X1_after
set_option maxRecDepth 20000 in
theorem ggX1_holds_X1_turn : GoodIn wsX1_holds wsX1_turn := goodIn_r _ [28] (by decide +kernel) (by decide +kernel)
set_option maxRecDepth 20000 in
theorem gX1_holds_X1_turn : GoodIn wsX1_holds (va_wsS RX1 60 yX1_turn wsX1_turn) := goodIn_app (goodIn_of _ (by decide +kernel)) ggX1_holds_X1_turn
theorem dX1_holds_0 : decode cX1_holds 0 = .ok (.aload_n 0, 1) := by decide +kernel
theorem dX1_holds_1 : decode cX1_holds 1 = .ok (.getfield 31, 3) := by decide +kernel
theorem dX1_holds_4 : decode cX1_holds 4 = .ok (.ifCond .eq 12, 3) := by decide +kernel
theorem dX1_holds_7 : decode cX1_holds 7 = .ok (.aload_n 0, 1) := by decide +kernel
theorem dX1_holds_8 : decode cX1_holds 8 = .ok (.lload_n 1, 1) := by decide +kernel
theorem dX1_holds_9 : decode cX1_holds 9 = .ok (.lload_n 3, 1) := by decide +kernel
theorem dX1_holds_10 : decode cX1_holds 10 = .ok (.invokevirtual 53, 3) := by decide +kernel
theorem dX1_holds_13 : decode cX1_holds 13 = .ok (.ifCond .ne 5, 3) := by decide +kernel
theorem dX1_holds_16 : decode cX1_holds 16 = .ok (.iconst 0, 1) := by decide +kernel
theorem dX1_holds_17 : decode cX1_holds 17 = .ok (.ireturn, 1) := by decide +kernel
theorem dX1_holds_18 : decode cX1_holds 18 = .ok (.iconst 0, 1) := by decide +kernel
theorem dX1_holds_19 : decode cX1_holds 19 = .ok (.istore 5, 2) := by decide +kernel
theorem dX1_holds_21 : decode cX1_holds 21 = .ok (.iload 5, 2) := by decide +kernel
theorem dX1_holds_23 : decode cX1_holds 23 = .ok (.aload_n 0, 1) := by decide +kernel
theorem dX1_holds_24 : decode cX1_holds 24 = .ok (.getfield 31, 3) := by decide +kernel
theorem dX1_holds_27 : decode cX1_holds 27 = .ok (.if_icmp .ge 75, 3) := by decide +kernel
theorem dX1_holds_30 : decode cX1_holds 30 = .ok (.aload_n 0, 1) := by decide +kernel
theorem dX1_holds_31 : decode cX1_holds 31 = .ok (.iload 5, 2) := by decide +kernel
theorem dX1_holds_33 : decode cX1_holds 33 = .ok (.invokevirtual 56, 3) := by decide +kernel
theorem dX1_holds_36 : decode cX1_holds 36 = .ok (.istore 6, 2) := by decide +kernel
theorem dX1_holds_38 : decode cX1_holds 38 = .ok (.aload_n 0, 1) := by decide +kernel
theorem dX1_holds_39 : decode cX1_holds 39 = .ok (.getfield 18, 3) := by decide +kernel
theorem dX1_holds_42 : decode cX1_holds 42 = .ok (.iload 6, 2) := by decide +kernel
theorem dX1_holds_44 : decode cX1_holds 44 = .ok (.laload, 1) := by decide +kernel
theorem dX1_holds_45 : decode cX1_holds 45 = .ok (.aload_n 0, 1) := by decide +kernel
theorem dX1_holds_46 : decode cX1_holds 46 = .ok (.getfield 18, 3) := by decide +kernel
theorem dX1_holds_49 : decode cX1_holds 49 = .ok (.iload 5, 2) := by decide +kernel
theorem dX1_holds_51 : decode cX1_holds 51 = .ok (.laload, 1) := by decide +kernel
theorem dX1_holds_52 : decode cX1_holds 52 = .ok (.lsub, 1) := by decide +kernel
theorem dX1_holds_53 : decode cX1_holds 53 = .ok (.aload_n 0, 1) := by decide +kernel
theorem dX1_holds_54 : decode cX1_holds 54 = .ok (.getfield 21, 3) := by decide +kernel
theorem dX1_holds_57 : decode cX1_holds 57 = .ok (.iload 6, 2) := by decide +kernel
theorem dX1_holds_59 : decode cX1_holds 59 = .ok (.laload, 1) := by decide +kernel
theorem dX1_holds_60 : decode cX1_holds 60 = .ok (.aload_n 0, 1) := by decide +kernel
theorem dX1_holds_61 : decode cX1_holds 61 = .ok (.getfield 21, 3) := by decide +kernel
theorem dX1_holds_64 : decode cX1_holds 64 = .ok (.iload 5, 2) := by decide +kernel
theorem dX1_holds_66 : decode cX1_holds 66 = .ok (.laload, 1) := by decide +kernel
theorem dX1_holds_67 : decode cX1_holds 67 = .ok (.lsub, 1) := by decide +kernel
theorem dX1_holds_68 : decode cX1_holds 68 = .ok (.lload_n 1, 1) := by decide +kernel
theorem dX1_holds_69 : decode cX1_holds 69 = .ok (.aload_n 0, 1) := by decide +kernel
theorem dX1_holds_70 : decode cX1_holds 70 = .ok (.getfield 18, 3) := by decide +kernel
theorem dX1_holds_73 : decode cX1_holds 73 = .ok (.iload 5, 2) := by decide +kernel
theorem dX1_holds_75 : decode cX1_holds 75 = .ok (.laload, 1) := by decide +kernel
theorem dX1_holds_76 : decode cX1_holds 76 = .ok (.lsub, 1) := by decide +kernel
theorem dX1_holds_77 : decode cX1_holds 77 = .ok (.lload_n 3, 1) := by decide +kernel
theorem dX1_holds_78 : decode cX1_holds 78 = .ok (.aload_n 0, 1) := by decide +kernel
theorem dX1_holds_79 : decode cX1_holds 79 = .ok (.getfield 21, 3) := by decide +kernel
theorem dX1_holds_82 : decode cX1_holds 82 = .ok (.iload 5, 2) := by decide +kernel
theorem dX1_holds_84 : decode cX1_holds 84 = .ok (.laload, 1) := by decide +kernel
theorem dX1_holds_85 : decode cX1_holds 85 = .ok (.lsub, 1) := by decide +kernel
theorem dX1_holds_86 : decode cX1_holds 86 = .ok (.invokestatic 60, 3) := by decide +kernel
theorem dX1_holds_89 : decode cX1_holds 89 = .ok (.lconst 0, 1) := by decide +kernel
theorem dX1_holds_90 : decode cX1_holds 90 = .ok (.lcmp, 1) := by decide +kernel
theorem dX1_holds_91 : decode cX1_holds 91 = .ok (.ifCond .ge 5, 3) := by decide +kernel
theorem dX1_holds_94 : decode cX1_holds 94 = .ok (.iconst 0, 1) := by decide +kernel
theorem dX1_holds_95 : decode cX1_holds 95 = .ok (.ireturn, 1) := by decide +kernel
theorem dX1_holds_96 : decode cX1_holds 96 = .ok (.iinc 5 1, 3) := by decide +kernel
theorem dX1_holds_99 : decode cX1_holds 99 = .ok (.goto (-78), 3) := by decide +kernel
theorem dX1_holds_102 : decode cX1_holds 102 = .ok (.iconst 1, 1) := by decide +kernel
theorem dX1_holds_103 : decode cX1_holds 103 = .ok (.ireturn, 1) := by decide +kernel
set_option maxRecDepth 20000 in
theorem ggX1_isInRange_X1_isBeyondAll : GoodIn wsX1_isInRange wsX1_isBeyondAll := goodIn_r _ [6, 7, 8, 9, 5, 10, 11, 12, 13, 14, 15, 16, 17, 18, 19, 20, 21, 22, 23, 24] (by decide +kernel) (by decide +kernel)
set_option maxRecDepth 20000 in
theorem gX1_isInRange_X1_isBeyondAll : GoodIn wsX1_isInRange (wsV RX1 64 RX1 yX1_isBeyondAll wsX1_isBeyondAll) := goodIn_app (goodIn_of _ (by decide +kernel)) ggX1_isInRange_X1_isBeyondAll
theorem dX1_isInRange_0 : decode cX1_isInRange 0 = .ok (.aload_n 0, 1) := by decide +kernel
theorem dX1_isInRange_1 : decode cX1_isInRange 1 = .ok (.lload_n 1, 1) := by decide +kernel
theorem dX1_isInRange_2 : decode cX1_isInRange 2 = .ok (.lload_n 3, 1) := by decide +kernel
theorem dX1_isInRange_3 : decode cX1_isInRange 3 = .ok (.lconst 1, 1) := by decide +kernel
theorem dX1_isInRange_4 : decode cX1_isInRange 4 = .ok (.lconst 0, 1) := by decide +kernel
theorem dX1_isInRange_5 : decode cX1_isInRange 5 = .ok (.invokevirtual 64, 3) := by decide +kernel
theorem dX1_isInRange_8 : decode cX1_isInRange 8 = .ok (.ifCond .ne 44, 3) := by decide +kernel
theorem dX1_isInRange_11 : decode cX1_isInRange 11 = .ok (.aload_n 0, 1) := by decide +kernel
theorem dX1_isInRange_12 : decode cX1_isInRange 12 = .ok (.lload_n 1, 1) := by decide +kernel
theorem dX1_isInRange_13 : decode cX1_isInRange 13 = .ok (.lload_n 3, 1) := by decide +kernel
theorem dX1_isInRange_14 : decode cX1_isInRange 14 = .ok (.ldc2_w 68, 3) := by decide +kernel
theorem dX1_isInRange_17 : decode cX1_isInRange 17 = .ok (.lconst 0, 1) := by decide +kernel
theorem dX1_isInRange_18 : decode cX1_isInRange 18 = .ok (.invokevirtual 64, 3) := by decide +kernel
theorem dX1_isInRange_21 : decode cX1_isInRange 21 = .ok (.ifCond .ne 31, 3) := by decide +kernel
theorem dX1_isInRange_24 : decode cX1_isInRange 24 = .ok (.aload_n 0, 1) := by decide +kernel
theorem dX1_isInRange_25 : decode cX1_isInRange 25 = .ok (.lload_n 1, 1) := by decide +kernel
theorem dX1_isInRange_26 : decode cX1_isInRange 26 = .ok (.lload_n 3, 1) := by decide +kernel
theorem dX1_isInRange_27 : decode cX1_isInRange 27 = .ok (.lconst 0, 1) := by decide +kernel
theorem dX1_isInRange_28 : decode cX1_isInRange 28 = .ok (.lconst 1, 1) := by decide +kernel
theorem dX1_isInRange_29 : decode cX1_isInRange 29 = .ok (.invokevirtual 64, 3) := by decide +kernel
theorem dX1_isInRange_32 : decode cX1_isInRange 32 = .ok (.ifCond .ne 20, 3) := by decide +kernel
theorem dX1_isInRange_35 : decode cX1_isInRange 35 = .ok (.aload_n 0, 1) := by decide +kernel
theorem dX1_isInRange_36 : decode cX1_isInRange 36 = .ok (.lload_n 1, 1) := by decide +kernel
theorem dX1_isInRange_37 : decode cX1_isInRange 37 = .ok (.lload_n 3, 1) := by decide +kernel
theorem dX1_isInRange_38 : decode cX1_isInRange 38 = .ok (.lconst 0, 1) := by decide +kernel
theorem dX1_isInRange_39 : decode cX1_isInRange 39 = .ok (.ldc2_w 68, 3) := by decide +kernel
theorem dX1_isInRange_42 : decode cX1_isInRange 42 = .ok (.invokevirtual 64, 3) := by decide +kernel
theorem dX1_isInRange_45 : decode cX1_isInRange 45 = .ok (.ifCond .ne 7, 3) := by decide +kernel
theorem dX1_isInRange_48 : decode cX1_isInRange 48 = .ok (.iconst 1, 1) := by decide +kernel
theorem dX1_isInRange_49 : decode cX1_isInRange 49 = .ok (.goto 4, 3) := by decide +kernel
theorem dX1_isInRange_52 : decode cX1_isInRange 52 = .ok (.iconst 0, 1) := by decide +kernel
theorem dX1_isInRange_53 : decode cX1_isInRange 53 = .ok (.ireturn, 1) := by decide +kernel
set_option maxRecDepth 20000 in
theorem ggX1_isBeyondAll_X1_farthest : GoodIn wsX1_isBeyondAll wsX1_farthest := goodIn_r _ [5, 6, 7, 8, 9, 10, 11, 12, 13, 14, 15, 16, 17, 18, 19] (by decide +kernel) (by decide +kernel)
set_option maxRecDepth 20000 in
theorem gX1_isBeyondAll_X1_farthest : GoodIn wsX1_isBeyondAll (wsV RX1 70 RX1 yX1_farthest wsX1_farthest) := goodIn_app (goodIn_of _ (by decide +kernel)) ggX1_isBeyondAll_X1_farthest
theorem dX1_isBeyondAll_0 : decode cX1_isBeyondAll 0 = .ok (.lload_n 1, 1) := by decide +kernel
theorem dX1_isBeyondAll_1 : decode cX1_isBeyondAll 1 = .ok (.lload 5, 2) := by decide +kernel
theorem dX1_isBeyondAll_3 : decode cX1_isBeyondAll 3 = .ok (.lmul, 1) := by decide +kernel
theorem dX1_isBeyondAll_4 : decode cX1_isBeyondAll 4 = .ok (.lload_n 3, 1) := by decide +kernel
theorem dX1_isBeyondAll_5 : decode cX1_isBeyondAll 5 = .ok (.lload 7, 2) := by decide +kernel
theorem dX1_isBeyondAll_7 : decode cX1_isBeyondAll 7 = .ok (.lmul, 1) := by decide +kernel
theorem dX1_isBeyondAll_8 : decode cX1_isBeyondAll 8 = .ok (.ladd, 1) := by decide +kernel
theorem dX1_isBeyondAll_9 : decode cX1_isBeyondAll 9 = .ok (.aload_n 0, 1) := by decide +kernel
theorem dX1_isBeyondAll_10 : decode cX1_isBeyondAll 10 = .ok (.lload 5, 2) := by decide +kernel
theorem dX1_isBeyondAll_12 : decode cX1_isBeyondAll 12 = .ok (.lload 7, 2) := by decide +kernel
theorem dX1_isBeyondAll_14 : decode cX1_isBeyondAll 14 = .ok (.invokevirtual 70, 3) := by decide +kernel
theorem dX1_isBeyondAll_17 : decode cX1_isBeyondAll 17 = .ok (.lcmp, 1) := by decide +kernel
theorem dX1_isBeyondAll_18 : decode cX1_isBeyondAll 18 = .ok (.ifCond .le 7, 3) := by decide +kernel
theorem dX1_isBeyondAll_21 : decode cX1_isBeyondAll 21 = .ok (.iconst 1, 1) := by decide +kernel
theorem dX1_isBeyondAll_22 : decode cX1_isBeyondAll 22 = .ok (.goto 4, 3) := by decide +kernel
theorem dX1_isBeyondAll_25 : decode cX1_isBeyondAll 25 = .ok (.iconst 0, 1) := by decide +kernel
theorem dX1_isBeyondAll_26 : decode cX1_isBeyondAll 26 = .ok (.ireturn, 1) := by decide +kernel
theorem dX1_after_0 : decode cX1_after 0 = .ok (.iload_n 1, 1) := by decide +kernel
theorem dX1_after_1 : decode cX1_after 1 = .ok (.iconst 1, 1) := by decide +kernel
theorem dX1_after_2 : decode cX1_after 2 = .ok (.iadd, 1) := by decide +kernel
theorem dX1_after_3 : decode cX1_after 3 = .ok (.aload_n 0, 1) := by decide +kernel
theorem dX1_after_4 : decode cX1_after 4 = .ok (.getfield 31, 3) := by decide +kernel
theorem dX1_after_7 : decode cX1_after 7 = .ok (.if_icmp .ge 9, 3) := by decide +kernel
theorem dX1_after_10 : decode cX1_after 10 = .ok (.iload_n 1, 1) := by decide +kernel
theorem dX1_after_11 : decode cX1_after 11 = .ok (.iconst 1, 1) := by decide +kernel
theorem dX1_after_12 : decode cX1_after 12 = .ok (.iadd, 1) := by decide +kernel
theorem dX1_after_13 : decode cX1_after 13 = .ok (.goto 4, 3) := by decide +kernel
theorem dX1_after_16 : decode cX1_after 16 = .ok (.iconst 0, 1) := by decide +kernel
theorem dX1_after_17 : decode cX1_after 17 = .ok (.ireturn, 1) := by decide +kernel
theorem dX1_insertOuter_0 : decode cX1_insertOuter 0 = .ok (.aload_n 0, 1) := by decide +kernel
theorem dX1_insertOuter_1 : decode cX1_insertOuter 1 = .ok (.getfield 28, 3) := by decide +kernel
theorem dX1_insertOuter_4 : decode cX1_insertOuter 4 = .ok (.istore 5, 2) := by decide +kernel
theorem dX1_insertOuter_6 : decode cX1_insertOuter 6 = .ok (.iload 5, 2) := by decide +kernel
theorem dX1_insertOuter_8 : decode cX1_insertOuter 8 = .ok (.ifCond .le 83, 3) := by decide +kernel
theorem dX1_insertOuter_11 : decode cX1_insertOuter 11 = .ok (.aload_n 0, 1) := by decide +kernel
theorem dX1_insertOuter_12 : decode cX1_insertOuter 12 = .ok (.getfield 9, 3) := by decide +kernel
theorem dX1_insertOuter_15 : decode cX1_insertOuter 15 = .ok (.iload 5, 2) := by decide +kernel
theorem dX1_insertOuter_17 : decode cX1_insertOuter 17 = .ok (.iconst 1, 1) := by decide +kernel
theorem dX1_insertOuter_18 : decode cX1_insertOuter 18 = .ok (.isub, 1) := by decide +kernel
theorem dX1_insertOuter_19 : decode cX1_insertOuter 19 = .ok (.laload, 1) := by decide +kernel
theorem dX1_insertOuter_20 : decode cX1_insertOuter 20 = .ok (.lload_n 1, 1) := by decide +kernel
theorem dX1_insertOuter_21 : decode cX1_insertOuter 21 = .ok (.lcmp, 1) := by decide +kernel
theorem dX1_insertOuter_22 : decode cX1_insertOuter 22 = .ok (.ifCond .gt 31, 3) := by decide +kernel
theorem dX1_insertOuter_25 : decode cX1_insertOuter 25 = .ok (.aload_n 0, 1) := by decide +kernel
theorem dX1_insertOuter_26 : decode cX1_insertOuter 26 = .ok (.getfield 9, 3) := by decide +kernel
theorem dX1_insertOuter_29 : decode cX1_insertOuter 29 = .ok (.iload 5, 2) := by decide +kernel
theorem dX1_insertOuter_31 : decode cX1_insertOuter 31 = .ok (.iconst 1, 1) := by decide +kernel
theorem dX1_insertOuter_32 : decode cX1_insertOuter 32 = .ok (.isub, 1) := by decide +kernel
theorem dX1_insertOuter_33 : decode cX1_insertOuter 33 = .ok (.laload, 1) := by decide +kernel
theorem dX1_insertOuter_34 : decode cX1_insertOuter 34 = .ok (.lload_n 1, 1) := by decide +kernel
theorem dX1_insertOuter_35 : decode cX1_insertOuter 35 = .ok (.lcmp, 1) := by decide +kernel
theorem dX1_insertOuter_36 : decode cX1_insertOuter 36 = .ok (.ifCond .ne 55, 3) := by decide +kernel
theorem dX1_insertOuter_39 : decode cX1_insertOuter 39 = .ok (.aload_n 0, 1) := by decide +kernel
theorem dX1_insertOuter_40 : decode cX1_insertOuter 40 = .ok (.getfield 15, 3) := by decide +kernel
theorem dX1_insertOuter_43 : decode cX1_insertOuter 43 = .ok (.iload 5, 2) := by decide +kernel
theorem dX1_insertOuter_45 : decode cX1_insertOuter 45 = .ok (.iconst 1, 1) := by decide +kernel
theorem dX1_insertOuter_46 : decode cX1_insertOuter 46 = .ok (.isub, 1) := by decide +kernel
theorem dX1_insertOuter_47 : decode cX1_insertOuter 47 = .ok (.laload, 1) := by decide +kernel
theorem dX1_insertOuter_48 : decode cX1_insertOuter 48 = .ok (.lload_n 3, 1) := by decide +kernel
theorem dX1_insertOuter_49 : decode cX1_insertOuter 49 = .ok (.lcmp, 1) := by decide +kernel
theorem dX1_insertOuter_50 : decode cX1_insertOuter 50 = .ok (.ifCond .le 41, 3) := by decide +kernel
theorem dX1_insertOuter_53 : decode cX1_insertOuter 53 = .ok (.aload_n 0, 1) := by decide +kernel
theorem dX1_insertOuter_54 : decode cX1_insertOuter 54 = .ok (.getfield 9, 3) := by decide +kernel
theorem dX1_insertOuter_57 : decode cX1_insertOuter 57 = .ok (.iload 5, 2) := by decide +kernel
theorem dX1_insertOuter_59 : decode cX1_insertOuter 59 = .ok (.aload_n 0, 1) := by decide +kernel
theorem dX1_insertOuter_60 : decode cX1_insertOuter 60 = .ok (.getfield 9, 3) := by decide +kernel
theorem dX1_insertOuter_63 : decode cX1_insertOuter 63 = .ok (.iload 5, 2) := by decide +kernel
theorem dX1_insertOuter_65 : decode cX1_insertOuter 65 = .ok (.iconst 1, 1) := by decide +kernel
theorem dX1_insertOuter_66 : decode cX1_insertOuter 66 = .ok (.isub, 1) := by decide +kernel
theorem dX1_insertOuter_67 : decode cX1_insertOuter 67 = .ok (.laload, 1) := by decide +kernel
theorem dX1_insertOuter_68 : decode cX1_insertOuter 68 = .ok (.lastore, 1) := by decide +kernel
theorem dX1_insertOuter_69 : decode cX1_insertOuter 69 = .ok (.aload_n 0, 1) := by decide +kernel
theorem dX1_insertOuter_70 : decode cX1_insertOuter 70 = .ok (.getfield 15, 3) := by decide +kernel
theorem dX1_insertOuter_73 : decode cX1_insertOuter 73 = .ok (.iload 5, 2) := by decide +kernel
theorem dX1_insertOuter_75 : decode cX1_insertOuter 75 = .ok (.aload_n 0, 1) := by decide +kernel
theorem dX1_insertOuter_76 : decode cX1_insertOuter 76 = .ok (.getfield 15, 3) := by decide +kernel
theorem dX1_insertOuter_79 : decode cX1_insertOuter 79 = .ok (.iload 5, 2) := by decide +kernel
theorem dX1_insertOuter_81 : decode cX1_insertOuter 81 = .ok (.iconst 1, 1) := by decide +kernel
theorem dX1_insertOuter_82 : decode cX1_insertOuter 82 = .ok (.isub, 1) := by decide +kernel
theorem dX1_insertOuter_83 : decode cX1_insertOuter 83 = .ok (.laload, 1) := by decide +kernel
theorem dX1_insertOuter_84 : decode cX1_insertOuter 84 = .ok (.lastore, 1) := by decide +kernel
theorem dX1_insertOuter_85 : decode cX1_insertOuter 85 = .ok (.iinc 5 (-1), 3) := by decide +kernel
theorem dX1_insertOuter_88 : decode cX1_insertOuter 88 = .ok (.goto (-82), 3) := by decide +kernel
theorem dX1_insertOuter_91 : decode cX1_insertOuter 91 = .ok (.aload_n 0, 1) := by decide +kernel
theorem dX1_insertOuter_92 : decode cX1_insertOuter 92 = .ok (.getfield 9, 3) := by decide +kernel
theorem dX1_insertOuter_95 : decode cX1_insertOuter 95 = .ok (.iload 5, 2) := by decide +kernel
theorem dX1_insertOuter_97 : decode cX1_insertOuter 97 = .ok (.lload_n 1, 1) := by decide +kernel
theorem dX1_insertOuter_98 : decode cX1_insertOuter 98 = .ok (.lastore, 1) := by decide +kernel
theorem dX1_insertOuter_99 : decode cX1_insertOuter 99 = .ok (.aload_n 0, 1) := by decide +kernel
theorem dX1_insertOuter_100 : decode cX1_insertOuter 100 = .ok (.getfield 15, 3) := by decide +kernel
theorem dX1_insertOuter_103 : decode cX1_insertOuter 103 = .ok (.iload 5, 2) := by decide +kernel
theorem dX1_insertOuter_105 : decode cX1_insertOuter 105 = .ok (.lload_n 3, 1) := by decide +kernel
theorem dX1_insertOuter_106 : decode cX1_insertOuter 106 = .ok (.lastore, 1) := by decide +kernel
theorem dX1_insertOuter_107 : decode cX1_insertOuter 107 = .ok (.aload_n 0, 1) := by decide +kernel
theorem dX1_insertOuter_108 : decode cX1_insertOuter 108 = .ok (.dup, 1) := by decide +kernel
theorem dX1_insertOuter_109 : decode cX1_insertOuter 109 = .ok (.getfield 28, 3) := by decide +kernel
theorem dX1_insertOuter_112 : decode cX1_insertOuter 112 = .ok (.iconst 1, 1) := by decide +kernel
theorem dX1_insertOuter_113 : decode cX1_insertOuter 113 = .ok (.iadd, 1) := by decide +kernel
theorem dX1_insertOuter_114 : decode cX1_insertOuter 114 = .ok (.putfield 28, 3) := by decide +kernel
theorem dX1_insertOuter_117 : decode cX1_insertOuter 117 = .ok (.return_, 1) := by decide +kernel
set_option maxRecDepth 20000 in
theorem ggX1_findCorners_X1_append : GoodIn wsX1_findCorners wsX1_append := goodIn_r _ [9, 1, 10, 11, 12, 13, 8, 14, 15, 16, 17, 18, 19, 20, 21] (by decide +kernel) (by decide +kernel)
set_option maxRecDepth 20000 in
theorem gX1_findCorners_X1_append : GoodIn wsX1_findCorners (wsV RX1 74 RX1 yX1_append wsX1_append) := goodIn_app (goodIn_of _ (by decide +kernel)) ggX1_findCorners_X1_append
theorem dX1_findCorners_0 : decode cX1_findCorners 0 = .ok (.aload_n 0, 1) := by decide +kernel
theorem dX1_findCorners_1 : decode cX1_findCorners 1 = .ok (.iconst 0, 1) := by decide +kernel
theorem dX1_findCorners_2 : decode cX1_findCorners 2 = .ok (.putfield 31, 3) := by decide +kernel
theorem dX1_findCorners_5 : decode cX1_findCorners 5 = .ok (.iconst 0, 1) := by decide +kernel
theorem dX1_findCorners_6 : decode cX1_findCorners 6 = .ok (.istore_n 1, 1) := by decide +kernel
theorem dX1_findCorners_7 : decode cX1_findCorners 7 = .ok (.iload_n 1, 1) := by decide +kernel
theorem dX1_findCorners_8 : decode cX1_findCorners 8 = .ok (.aload_n 0, 1) := by decide +kernel
theorem dX1_findCorners_9 : decode cX1_findCorners 9 = .ok (.getfield 28, 3) := by decide +kernel
theorem dX1_findCorners_12 : decode cX1_findCorners 12 = .ok (.if_icmp .ge 26, 3) := by decide +kernel
theorem dX1_findCorners_15 : decode cX1_findCorners 15 = .ok (.aload_n 0, 1) := by decide +kernel
theorem dX1_findCorners_16 : decode cX1_findCorners 16 = .ok (.aload_n 0, 1) := by decide +kernel
theorem dX1_findCorners_17 : decode cX1_findCorners 17 = .ok (.getfield 9, 3) := by decide +kernel
theorem dX1_findCorners_20 : decode cX1_findCorners 20 = .ok (.iload_n 1, 1) := by decide +kernel
theorem dX1_findCorners_21 : decode cX1_findCorners 21 = .ok (.laload, 1) := by decide +kernel
theorem dX1_findCorners_22 : decode cX1_findCorners 22 = .ok (.aload_n 0, 1) := by decide +kernel
theorem dX1_findCorners_23 : decode cX1_findCorners 23 = .ok (.getfield 15, 3) := by decide +kernel
theorem dX1_findCorners_26 : decode cX1_findCorners 26 = .ok (.iload_n 1, 1) := by decide +kernel
theorem dX1_findCorners_27 : decode cX1_findCorners 27 = .ok (.laload, 1) := by decide +kernel
theorem dX1_findCorners_28 : decode cX1_findCorners 28 = .ok (.iconst 1, 1) := by decide +kernel
theorem dX1_findCorners_29 : decode cX1_findCorners 29 = .ok (.invokevirtual 74, 3) := by decide +kernel
theorem dX1_findCorners_32 : decode cX1_findCorners 32 = .ok (.iinc 1 1, 3) := by decide +kernel
theorem dX1_findCorners_35 : decode cX1_findCorners 35 = .ok (.goto (-28), 3) := by decide +kernel
theorem dX1_findCorners_38 : decode cX1_findCorners 38 = .ok (.aload_n 0, 1) := by decide +kernel
theorem dX1_findCorners_39 : decode cX1_findCorners 39 = .ok (.getfield 31, 3) := by decide +kernel
theorem dX1_findCorners_42 : decode cX1_findCorners 42 = .ok (.istore_n 1, 1) := by decide +kernel
theorem dX1_findCorners_43 : decode cX1_findCorners 43 = .ok (.aload_n 0, 1) := by decide +kernel
theorem dX1_findCorners_44 : decode cX1_findCorners 44 = .ok (.getfield 28, 3) := by decide +kernel
theorem dX1_findCorners_47 : decode cX1_findCorners 47 = .ok (.iconst 2, 1) := by decide +kernel
theorem dX1_findCorners_48 : decode cX1_findCorners 48 = .ok (.isub, 1) := by decide +kernel
theorem dX1_findCorners_49 : decode cX1_findCorners 49 = .ok (.istore_n 2, 1) := by decide +kernel
theorem dX1_findCorners_50 : decode cX1_findCorners 50 = .ok (.iload_n 2, 1) := by decide +kernel
theorem dX1_findCorners_51 : decode cX1_findCorners 51 = .ok (.ifCond .lt 26, 3) := by decide +kernel
theorem dX1_findCorners_54 : decode cX1_findCorners 54 = .ok (.aload_n 0, 1) := by decide +kernel
theorem dX1_findCorners_55 : decode cX1_findCorners 55 = .ok (.aload_n 0, 1) := by decide +kernel
theorem dX1_findCorners_56 : decode cX1_findCorners 56 = .ok (.getfield 9, 3) := by decide +kernel
theorem dX1_findCorners_59 : decode cX1_findCorners 59 = .ok (.iload_n 2, 1) := by decide +kernel
theorem dX1_findCorners_60 : decode cX1_findCorners 60 = .ok (.laload, 1) := by decide +kernel
theorem dX1_findCorners_61 : decode cX1_findCorners 61 = .ok (.aload_n 0, 1) := by decide +kernel
theorem dX1_findCorners_62 : decode cX1_findCorners 62 = .ok (.getfield 15, 3) := by decide +kernel
theorem dX1_findCorners_65 : decode cX1_findCorners 65 = .ok (.iload_n 2, 1) := by decide +kernel
theorem dX1_findCorners_66 : decode cX1_findCorners 66 = .ok (.laload, 1) := by decide +kernel
theorem dX1_findCorners_67 : decode cX1_findCorners 67 = .ok (.iload_n 1, 1) := by decide +kernel
theorem dX1_findCorners_68 : decode cX1_findCorners 68 = .ok (.invokevirtual 74, 3) := by decide +kernel
theorem dX1_findCorners_71 : decode cX1_findCorners 71 = .ok (.iinc 2 (-1), 3) := by decide +kernel
theorem dX1_findCorners_74 : decode cX1_findCorners 74 = .ok (.goto (-24), 3) := by decide +kernel
theorem dX1_findCorners_77 : decode cX1_findCorners 77 = .ok (.aload_n 0, 1) := by decide +kernel
theorem dX1_findCorners_78 : decode cX1_findCorners 78 = .ok (.getfield 28, 3) := by decide +kernel
theorem dX1_findCorners_81 : decode cX1_findCorners 81 = .ok (.iconst 1, 1) := by decide +kernel
theorem dX1_findCorners_82 : decode cX1_findCorners 82 = .ok (.if_icmp .le 13, 3) := by decide +kernel
theorem dX1_findCorners_85 : decode cX1_findCorners 85 = .ok (.aload_n 0, 1) := by decide +kernel
theorem dX1_findCorners_86 : decode cX1_findCorners 86 = .ok (.dup, 1) := by decide +kernel
theorem dX1_findCorners_87 : decode cX1_findCorners 87 = .ok (.getfield 31, 3) := by decide +kernel
theorem dX1_findCorners_90 : decode cX1_findCorners 90 = .ok (.iconst 1, 1) := by decide +kernel
theorem dX1_findCorners_91 : decode cX1_findCorners 91 = .ok (.isub, 1) := by decide +kernel
theorem dX1_findCorners_92 : decode cX1_findCorners 92 = .ok (.putfield 31, 3) := by decide +kernel
theorem dX1_findCorners_95 : decode cX1_findCorners 95 = .ok (.return_, 1) := by decide +kernel
set_option maxRecDepth 20000 in
theorem ggX1_append_X1_turn : GoodIn wsX1_append wsX1_turn := goodIn_r _ [7] (by decide +kernel) (by decide +kernel)
set_option maxRecDepth 20000 in
theorem gX1_append_X1_turn : GoodIn wsX1_append (va_wsS RX1 60 yX1_turn wsX1_turn) := goodIn_app (goodIn_of _ (by decide +kernel)) ggX1_append_X1_turn
theorem dX1_append_0 : decode cX1_append 0 = .ok (.aload_n 0, 1) := by decide +kernel
theorem dX1_append_1 : decode cX1_append 1 = .ok (.getfield 31, 3) := by decide +kernel
theorem dX1_append_4 : decode cX1_append 4 = .ok (.iload 5, 2) := by decide +kernel
theorem dX1_append_6 : decode cX1_append 6 = .ok (.if_icmp .le 96, 3) := by decide +kernel
theorem dX1_append_9 : decode cX1_append 9 = .ok (.aload_n 0, 1) := by decide +kernel
theorem dX1_append_10 : decode cX1_append 10 = .ok (.getfield 18, 3) := by decide +kernel
theorem dX1_append_13 : decode cX1_append 13 = .ok (.aload_n 0, 1) := by decide +kernel
theorem dX1_append_14 : decode cX1_append 14 = .ok (.getfield 31, 3) := by decide +kernel
theorem dX1_append_17 : decode cX1_append 17 = .ok (.iconst 1, 1) := by decide +kernel
theorem dX1_append_18 : decode cX1_append 18 = .ok (.isub, 1) := by decide +kernel
theorem dX1_append_19 : decode cX1_append 19 = .ok (.laload, 1) := by decide +kernel
theorem dX1_append_20 : decode cX1_append 20 = .ok (.aload_n 0, 1) := by decide +kernel
theorem dX1_append_21 : decode cX1_append 21 = .ok (.getfield 18, 3) := by decide +kernel
theorem dX1_append_24 : decode cX1_append 24 = .ok (.aload_n 0, 1) := by decide +kernel
theorem dX1_append_25 : decode cX1_append 25 = .ok (.getfield 31, 3) := by decide +kernel
theorem dX1_append_28 : decode cX1_append 28 = .ok (.iconst 2, 1) := by decide +kernel
theorem dX1_append_29 : decode cX1_append 29 = .ok (.isub, 1) := by decide +kernel
theorem dX1_append_30 : decode cX1_append 30 = .ok (.laload, 1) := by decide +kernel
theorem dX1_append_31 : decode cX1_append 31 = .ok (.lsub, 1) := by decide +kernel
theorem dX1_append_32 : decode cX1_append 32 = .ok (.aload_n 0, 1) := by decide +kernel
theorem dX1_append_33 : decode cX1_append 33 = .ok (.getfield 21, 3) := by decide +kernel
theorem dX1_append_36 : decode cX1_append 36 = .ok (.aload_n 0, 1) := by decide +kernel
theorem dX1_append_37 : decode cX1_append 37 = .ok (.getfield 31, 3) := by decide +kernel
theorem dX1_append_40 : decode cX1_append 40 = .ok (.iconst 1, 1) := by decide +kernel
theorem dX1_append_41 : decode cX1_append 41 = .ok (.isub, 1) := by decide +kernel
theorem dX1_append_42 : decode cX1_append 42 = .ok (.laload, 1) := by decide +kernel
theorem dX1_append_43 : decode cX1_append 43 = .ok (.aload_n 0, 1) := by decide +kernel
theorem dX1_append_44 : decode cX1_append 44 = .ok (.getfield 21, 3) := by decide +kernel
theorem dX1_append_47 : decode cX1_append 47 = .ok (.aload_n 0, 1) := by decide +kernel
theorem dX1_append_48 : decode cX1_append 48 = .ok (.getfield 31, 3) := by decide +kernel
theorem dX1_append_51 : decode cX1_append 51 = .ok (.iconst 2, 1) := by decide +kernel
theorem dX1_append_52 : decode cX1_append 52 = .ok (.isub, 1) := by decide +kernel
theorem dX1_append_53 : decode cX1_append 53 = .ok (.laload, 1) := by decide +kernel
theorem dX1_append_54 : decode cX1_append 54 = .ok (.lsub, 1) := by decide +kernel
theorem dX1_append_55 : decode cX1_append 55 = .ok (.lload_n 1, 1) := by decide +kernel
theorem dX1_append_56 : decode cX1_append 56 = .ok (.aload_n 0, 1) := by decide +kernel
theorem dX1_append_57 : decode cX1_append 57 = .ok (.getfield 18, 3) := by decide +kernel
theorem dX1_append_60 : decode cX1_append 60 = .ok (.aload_n 0, 1) := by decide +kernel
theorem dX1_append_61 : decode cX1_append 61 = .ok (.getfield 31, 3) := by decide +kernel
theorem dX1_append_64 : decode cX1_append 64 = .ok (.iconst 1, 1) := by decide +kernel
theorem dX1_append_65 : decode cX1_append 65 = .ok (.isub, 1) := by decide +kernel
theorem dX1_append_66 : decode cX1_append 66 = .ok (.laload, 1) := by decide +kernel
theorem dX1_append_67 : decode cX1_append 67 = .ok (.lsub, 1) := by decide +kernel
theorem dX1_append_68 : decode cX1_append 68 = .ok (.lload_n 3, 1) := by decide +kernel
theorem dX1_append_69 : decode cX1_append 69 = .ok (.aload_n 0, 1) := by decide +kernel
theorem dX1_append_70 : decode cX1_append 70 = .ok (.getfield 21, 3) := by decide +kernel
theorem dX1_append_73 : decode cX1_append 73 = .ok (.aload_n 0, 1) := by decide +kernel
theorem dX1_append_74 : decode cX1_append 74 = .ok (.getfield 31, 3) := by decide +kernel
theorem dX1_append_77 : decode cX1_append 77 = .ok (.iconst 1, 1) := by decide +kernel
theorem dX1_append_78 : decode cX1_append 78 = .ok (.isub, 1) := by decide +kernel
theorem dX1_append_79 : decode cX1_append 79 = .ok (.laload, 1) := by decide +kernel
theorem dX1_append_80 : decode cX1_append 80 = .ok (.lsub, 1) := by decide +kernel
theorem dX1_append_81 : decode cX1_append 81 = .ok (.invokestatic 60, 3) := by decide +kernel
theorem dX1_append_84 : decode cX1_append 84 = .ok (.lconst 0, 1) := by decide +kernel
theorem dX1_append_85 : decode cX1_append 85 = .ok (.lcmp, 1) := by decide +kernel
theorem dX1_append_86 : decode cX1_append 86 = .ok (.ifCond .gt 16, 3) := by decide +kernel
theorem dX1_append_89 : decode cX1_append 89 = .ok (.aload_n 0, 1) := by decide +kernel
theorem dX1_append_90 : decode cX1_append 90 = .ok (.dup, 1) := by decide +kernel
theorem dX1_append_91 : decode cX1_append 91 = .ok (.getfield 31, 3) := by decide +kernel
theorem dX1_append_94 : decode cX1_append 94 = .ok (.iconst 1, 1) := by decide +kernel
theorem dX1_append_95 : decode cX1_append 95 = .ok (.isub, 1) := by decide +kernel
theorem dX1_append_96 : decode cX1_append 96 = .ok (.putfield 31, 3) := by decide +kernel
theorem dX1_append_99 : decode cX1_append 99 = .ok (.goto (-99), 3) := by decide +kernel
theorem dX1_append_102 : decode cX1_append 102 = .ok (.aload_n 0, 1) := by decide +kernel
theorem dX1_append_103 : decode cX1_append 103 = .ok (.getfield 18, 3) := by decide +kernel
theorem dX1_append_106 : decode cX1_append 106 = .ok (.aload_n 0, 1) := by decide +kernel
theorem dX1_append_107 : decode cX1_append 107 = .ok (.getfield 31, 3) := by decide +kernel
theorem dX1_append_110 : decode cX1_append 110 = .ok (.lload_n 1, 1) := by decide +kernel
theorem dX1_append_111 : decode cX1_append 111 = .ok (.lastore, 1) := by decide +kernel
theorem dX1_append_112 : decode cX1_append 112 = .ok (.aload_n 0, 1) := by decide +kernel
theorem dX1_append_113 : decode cX1_append 113 = .ok (.getfield 21, 3) := by decide +kernel
theorem dX1_append_116 : decode cX1_append 116 = .ok (.aload_n 0, 1) := by decide +kernel
theorem dX1_append_117 : decode cX1_append 117 = .ok (.getfield 31, 3) := by decide +kernel
theorem dX1_append_120 : decode cX1_append 120 = .ok (.lload_n 3, 1) := by decide +kernel
theorem dX1_append_121 : decode cX1_append 121 = .ok (.lastore, 1) := by decide +kernel
theorem dX1_append_122 : decode cX1_append 122 = .ok (.aload_n 0, 1) := by decide +kernel
theorem dX1_append_123 : decode cX1_append 123 = .ok (.dup, 1) := by decide +kernel
theorem dX1_append_124 : decode cX1_append 124 = .ok (.getfield 31, 3) := by decide +kernel
theorem dX1_append_127 : decode cX1_append 127 = .ok (.iconst 1, 1) := by decide +kernel
theorem dX1_append_128 : decode cX1_append 128 = .ok (.iadd, 1) := by decide +kernel
theorem dX1_append_129 : decode cX1_append 129 = .ok (.putfield 31, 3) := by decide +kernel
theorem dX1_append_132 : decode cX1_append 132 = .ok (.return_, 1) := by decide +kernel
theorem dX1_turn_0 : decode cX1_turn 0 = .ok (.lload_n 0, 1) := by decide +kernel
theorem dX1_turn_1 : decode cX1_turn 1 = .ok (.lload 6, 2) := by decide +kernel
theorem dX1_turn_3 : decode cX1_turn 3 = .ok (.lmul, 1) := by decide +kernel
theorem dX1_turn_4 : decode cX1_turn 4 = .ok (.lload_n 2, 1) := by decide +kernel
theorem dX1_turn_5 : decode cX1_turn 5 = .ok (.lload 4, 2) := by decide +kernel
theorem dX1_turn_7 : decode cX1_turn 7 = .ok (.lmul, 1) := by decide +kernel
theorem dX1_turn_8 : decode cX1_turn 8 = .ok (.lsub, 1) := by decide +kernel
theorem dX1_turn_9 : decode cX1_turn 9 = .ok (.lreturn, 1) := by decide +kernel
set_option maxRecDepth 20000 in
theorem ggX1_hasGapAcrossEdge_X1_after : GoodIn wsX1_hasGapAcrossEdge wsX1_after := goodIn_r _ [8, 1, 21, 22, 23, 24, 25, 26, 27] (by decide +kernel) (by decide +kernel)
set_option maxRecDepth 20000 in
theorem gX1_hasGapAcrossEdge_X1_after : GoodIn wsX1_hasGapAcrossEdge (wsV RX1 56 RX1 yX1_after wsX1_after) := goodIn_app (goodIn_of _ (by decide +kernel)) ggX1_hasGapAcrossEdge_X1_after
set_option maxRecDepth 20000 in
theorem ggX1_hasGapAcrossEdge_X1_hasGap : GoodIn wsX1_hasGapAcrossEdge wsX1_hasGap := goodIn_r _ [12, 13, 14, 15, 7, 16, 2, 3, 1, 17, 18, 19, 20, 21, 22, 23, 24, 25, 26, 27] (by decide +kernel) (by decide +kernel)
set_option maxRecDepth 20000 in
theorem gX1_hasGapAcrossEdge_X1_hasGap : GoodIn wsX1_hasGapAcrossEdge (wsV RX1 45 RX1 yX1_hasGap wsX1_hasGap) := goodIn_app (goodIn_of _ (by decide +kernel)) ggX1_hasGapAcrossEdge_X1_hasGap
theorem dX1_hasGapAcrossEdge_0 : decode cX1_hasGapAcrossEdge 0 = .ok (.iconst 0, 1) := by decide +kernel
theorem dX1_hasGapAcrossEdge_1 : decode cX1_hasGapAcrossEdge 1 = .ok (.istore_n 2, 1) := by decide +kernel
theorem dX1_hasGapAcrossEdge_2 : decode cX1_hasGapAcrossEdge 2 = .ok (.iload_n 2, 1) := by decide +kernel
theorem dX1_hasGapAcrossEdge_3 : decode cX1_hasGapAcrossEdge 3 = .ok (.aload_n 0, 1) := by decide +kernel
theorem dX1_hasGapAcrossEdge_4 : decode cX1_hasGapAcrossEdge 4 = .ok (.getfield 31, 3) := by decide +kernel
theorem dX1_hasGapAcrossEdge_7 : decode cX1_hasGapAcrossEdge 7 = .ok (.if_icmp .ge 60, 3) := by decide +kernel
theorem dX1_hasGapAcrossEdge_10 : decode cX1_hasGapAcrossEdge 10 = .ok (.aload_n 0, 1) := by decide +kernel
theorem dX1_hasGapAcrossEdge_11 : decode cX1_hasGapAcrossEdge 11 = .ok (.getfield 18, 3) := by decide +kernel
theorem dX1_hasGapAcrossEdge_14 : decode cX1_hasGapAcrossEdge 14 = .ok (.aload_n 0, 1) := by decide +kernel
theorem dX1_hasGapAcrossEdge_15 : decode cX1_hasGapAcrossEdge 15 = .ok (.iload_n 2, 1) := by decide +kernel
theorem dX1_hasGapAcrossEdge_16 : decode cX1_hasGapAcrossEdge 16 = .ok (.invokevirtual 56, 3) := by decide +kernel
theorem dX1_hasGapAcrossEdge_19 : decode cX1_hasGapAcrossEdge 19 = .ok (.laload, 1) := by decide +kernel
theorem dX1_hasGapAcrossEdge_20 : decode cX1_hasGapAcrossEdge 20 = .ok (.aload_n 0, 1) := by decide +kernel
theorem dX1_hasGapAcrossEdge_21 : decode cX1_hasGapAcrossEdge 21 = .ok (.getfield 18, 3) := by decide +kernel
theorem dX1_hasGapAcrossEdge_24 : decode cX1_hasGapAcrossEdge 24 = .ok (.iload_n 2, 1) := by decide +kernel
theorem dX1_hasGapAcrossEdge_25 : decode cX1_hasGapAcrossEdge 25 = .ok (.laload, 1) := by decide +kernel
theorem dX1_hasGapAcrossEdge_26 : decode cX1_hasGapAcrossEdge 26 = .ok (.lsub, 1) := by decide +kernel
theorem dX1_hasGapAcrossEdge_27 : decode cX1_hasGapAcrossEdge 27 = .ok (.lstore_n 3, 1) := by decide +kernel
theorem dX1_hasGapAcrossEdge_28 : decode cX1_hasGapAcrossEdge 28 = .ok (.aload_n 0, 1) := by decide +kernel
theorem dX1_hasGapAcrossEdge_29 : decode cX1_hasGapAcrossEdge 29 = .ok (.getfield 21, 3) := by decide +kernel
theorem dX1_hasGapAcrossEdge_32 : decode cX1_hasGapAcrossEdge 32 = .ok (.aload_n 0, 1) := by decide +kernel
theorem dX1_hasGapAcrossEdge_33 : decode cX1_hasGapAcrossEdge 33 = .ok (.iload_n 2, 1) := by decide +kernel
theorem dX1_hasGapAcrossEdge_34 : decode cX1_hasGapAcrossEdge 34 = .ok (.invokevirtual 56, 3) := by decide +kernel
theorem dX1_hasGapAcrossEdge_37 : decode cX1_hasGapAcrossEdge 37 = .ok (.laload, 1) := by decide +kernel
theorem dX1_hasGapAcrossEdge_38 : decode cX1_hasGapAcrossEdge 38 = .ok (.aload_n 0, 1) := by decide +kernel
theorem dX1_hasGapAcrossEdge_39 : decode cX1_hasGapAcrossEdge 39 = .ok (.getfield 21, 3) := by decide +kernel
theorem dX1_hasGapAcrossEdge_42 : decode cX1_hasGapAcrossEdge 42 = .ok (.iload_n 2, 1) := by decide +kernel
theorem dX1_hasGapAcrossEdge_43 : decode cX1_hasGapAcrossEdge 43 = .ok (.laload, 1) := by decide +kernel
theorem dX1_hasGapAcrossEdge_44 : decode cX1_hasGapAcrossEdge 44 = .ok (.lsub, 1) := by decide +kernel
theorem dX1_hasGapAcrossEdge_45 : decode cX1_hasGapAcrossEdge 45 = .ok (.lstore 5, 2) := by decide +kernel
theorem dX1_hasGapAcrossEdge_47 : decode cX1_hasGapAcrossEdge 47 = .ok (.aload_n 0, 1) := by decide +kernel
theorem dX1_hasGapAcrossEdge_48 : decode cX1_hasGapAcrossEdge 48 = .ok (.aload_n 1, 1) := by decide +kernel
theorem dX1_hasGapAcrossEdge_49 : decode cX1_hasGapAcrossEdge 49 = .ok (.lload 5, 2) := by decide +kernel
theorem dX1_hasGapAcrossEdge_51 : decode cX1_hasGapAcrossEdge 51 = .ok (.lneg, 1) := by decide +kernel
theorem dX1_hasGapAcrossEdge_52 : decode cX1_hasGapAcrossEdge 52 = .ok (.lload_n 3, 1) := by decide +kernel
theorem dX1_hasGapAcrossEdge_53 : decode cX1_hasGapAcrossEdge 53 = .ok (.invokevirtual 45, 3) := by decide +kernel
theorem dX1_hasGapAcrossEdge_56 : decode cX1_hasGapAcrossEdge 56 = .ok (.ifCond .eq 5, 3) := by decide +kernel
theorem dX1_hasGapAcrossEdge_59 : decode cX1_hasGapAcrossEdge 59 = .ok (.iconst 1, 1) := by decide +kernel
theorem dX1_hasGapAcrossEdge_60 : decode cX1_hasGapAcrossEdge 60 = .ok (.ireturn, 1) := by decide +kernel
theorem dX1_hasGapAcrossEdge_61 : decode cX1_hasGapAcrossEdge 61 = .ok (.iinc 2 1, 3) := by decide +kernel
theorem dX1_hasGapAcrossEdge_64 : decode cX1_hasGapAcrossEdge 64 = .ok (.goto (-62), 3) := by decide +kernel
theorem dX1_hasGapAcrossEdge_67 : decode cX1_hasGapAcrossEdge 67 = .ok (.iconst 0, 1) := by decide +kernel
theorem dX1_hasGapAcrossEdge_68 : decode cX1_hasGapAcrossEdge 68 = .ok (.ireturn, 1) := by decide +kernel
set_option maxRecDepth 20000 in
theorem ggX1_hasGap_X1_farthest : GoodIn wsX1_hasGap wsX1_farthest := goodIn_r _ [5, 6, 7, 8, 9, 10, 11, 12, 13, 14, 15, 16, 17, 18, 19] (by decide +kernel) (by decide +kernel)
set_option maxRecDepth 20000 in
theorem gX1_hasGap_X1_farthest : GoodIn wsX1_hasGap (wsV RX1 70 RX1 yX1_farthest wsX1_farthest) := goodIn_app (goodIn_of _ (by decide +kernel)) ggX1_hasGap_X1_farthest
theorem dX1_hasGap_0 : decode cX1_hasGap 0 = .ok (.aload_n 0, 1) := by decide +kernel
theorem dX1_hasGap_1 : decode cX1_hasGap 1 = .ok (.lload_n 2, 1) := by decide +kernel
theorem dX1_hasGap_2 : decode cX1_hasGap 2 = .ok (.lload 4, 2) := by decide +kernel
theorem dX1_hasGap_4 : decode cX1_hasGap 4 = .ok (.invokevirtual 70, 3) := by decide +kernel
theorem dX1_hasGap_7 : decode cX1_hasGap 7 = .ok (.aload_n 1, 1) := by decide +kernel
theorem dX1_hasGap_8 : decode cX1_hasGap 8 = .ok (.lload_n 2, 1) := by decide +kernel
theorem dX1_hasGap_9 : decode cX1_hasGap 9 = .ok (.lneg, 1) := by decide +kernel
theorem dX1_hasGap_10 : decode cX1_hasGap 10 = .ok (.lload 4, 2) := by decide +kernel
theorem dX1_hasGap_12 : decode cX1_hasGap 12 = .ok (.lneg, 1) := by decide +kernel
theorem dX1_hasGap_13 : decode cX1_hasGap 13 = .ok (.invokevirtual 70, 3) := by decide +kernel
theorem dX1_hasGap_16 : decode cX1_hasGap 16 = .ok (.lneg, 1) := by decide +kernel
theorem dX1_hasGap_17 : decode cX1_hasGap 17 = .ok (.lcmp, 1) := by decide +kernel
theorem dX1_hasGap_18 : decode cX1_hasGap 18 = .ok (.ifCond .lt 24, 3) := by decide +kernel
theorem dX1_hasGap_21 : decode cX1_hasGap 21 = .ok (.aload_n 1, 1) := by decide +kernel
theorem dX1_hasGap_22 : decode cX1_hasGap 22 = .ok (.lload_n 2, 1) := by decide +kernel
theorem dX1_hasGap_23 : decode cX1_hasGap 23 = .ok (.lload 4, 2) := by decide +kernel
theorem dX1_hasGap_25 : decode cX1_hasGap 25 = .ok (.invokevirtual 70, 3) := by decide +kernel
theorem dX1_hasGap_28 : decode cX1_hasGap 28 = .ok (.aload_n 0, 1) := by decide +kernel
theorem dX1_hasGap_29 : decode cX1_hasGap 29 = .ok (.lload_n 2, 1) := by decide +kernel
theorem dX1_hasGap_30 : decode cX1_hasGap 30 = .ok (.lneg, 1) := by decide +kernel
theorem dX1_hasGap_31 : decode cX1_hasGap 31 = .ok (.lload 4, 2) := by decide +kernel
theorem dX1_hasGap_33 : decode cX1_hasGap 33 = .ok (.lneg, 1) := by decide +kernel
theorem dX1_hasGap_34 : decode cX1_hasGap 34 = .ok (.invokevirtual 70, 3) := by decide +kernel
theorem dX1_hasGap_37 : decode cX1_hasGap 37 = .ok (.lneg, 1) := by decide +kernel
theorem dX1_hasGap_38 : decode cX1_hasGap 38 = .ok (.lcmp, 1) := by decide +kernel
theorem dX1_hasGap_39 : decode cX1_hasGap 39 = .ok (.ifCond .ge 7, 3) := by decide +kernel
theorem dX1_hasGap_42 : decode cX1_hasGap 42 = .ok (.iconst 1, 1) := by decide +kernel
theorem dX1_hasGap_43 : decode cX1_hasGap 43 = .ok (.goto 4, 3) := by decide +kernel
theorem dX1_hasGap_46 : decode cX1_hasGap 46 = .ok (.iconst 0, 1) := by decide +kernel
theorem dX1_hasGap_47 : decode cX1_hasGap 47 = .ok (.ireturn, 1) := by decide +kernel
theorem dX1_farthest_0 : decode cX1_farthest 0 = .ok (.aload_n 0, 1) := by decide +kernel
theorem dX1_farthest_1 : decode cX1_farthest 1 = .ok (.getfield 18, 3) := by decide +kernel
theorem dX1_farthest_4 : decode cX1_farthest 4 = .ok (.iconst 0, 1) := by decide +kernel
theorem dX1_farthest_5 : decode cX1_farthest 5 = .ok (.laload, 1) := by decide +kernel
theorem dX1_farthest_6 : decode cX1_farthest 6 = .ok (.lload_n 1, 1) := by decide +kernel
theorem dX1_farthest_7 : decode cX1_farthest 7 = .ok (.lmul, 1) := by decide +kernel
theorem dX1_farthest_8 : decode cX1_farthest 8 = .ok (.aload_n 0, 1) := by decide +kernel
theorem dX1_farthest_9 : decode cX1_farthest 9 = .ok (.getfield 21, 3) := by decide +kernel
theorem dX1_farthest_12 : decode cX1_farthest 12 = .ok (.iconst 0, 1) := by decide +kernel
theorem dX1_farthest_13 : decode cX1_farthest 13 = .ok (.laload, 1) := by decide +kernel
theorem dX1_farthest_14 : decode cX1_farthest 14 = .ok (.lload_n 3, 1) := by decide +kernel
theorem dX1_farthest_15 : decode cX1_farthest 15 = .ok (.lmul, 1) := by decide +kernel
theorem dX1_farthest_16 : decode cX1_farthest 16 = .ok (.ladd, 1) := by decide +kernel
theorem dX1_farthest_17 : decode cX1_farthest 17 = .ok (.lstore 5, 2) := by decide +kernel
theorem dX1_farthest_19 : decode cX1_farthest 19 = .ok (.iconst 1, 1) := by decide +kernel
theorem dX1_farthest_20 : decode cX1_farthest 20 = .ok (.istore 7, 2) := by decide +kernel
theorem dX1_farthest_22 : decode cX1_farthest 22 = .ok (.iload 7, 2) := by decide +kernel
theorem dX1_farthest_24 : decode cX1_farthest 24 = .ok (.aload_n 0, 1) := by decide +kernel
theorem dX1_farthest_25 : decode cX1_farthest 25 = .ok (.getfield 31, 3) := by decide +kernel
theorem dX1_farthest_28 : decode cX1_farthest 28 = .ok (.if_icmp .ge 35, 3) := by decide +kernel
theorem dX1_farthest_31 : decode cX1_farthest 31 = .ok (.lload 5, 2) := by decide +kernel
theorem dX1_farthest_33 : decode cX1_farthest 33 = .ok (.aload_n 0, 1) := by decide +kernel
theorem dX1_farthest_34 : decode cX1_farthest 34 = .ok (.getfield 18, 3) := by decide +kernel
theorem dX1_farthest_37 : decode cX1_farthest 37 = .ok (.iload 7, 2) := by decide +kernel
theorem dX1_farthest_39 : decode cX1_farthest 39 = .ok (.laload, 1) := by decide +kernel
theorem dX1_farthest_40 : decode cX1_farthest 40 = .ok (.lload_n 1, 1) := by decide +kernel
theorem dX1_farthest_41 : decode cX1_farthest 41 = .ok (.lmul, 1) := by decide +kernel
theorem dX1_farthest_42 : decode cX1_farthest 42 = .ok (.aload_n 0, 1) := by decide +kernel
theorem dX1_farthest_43 : decode cX1_farthest 43 = .ok (.getfield 21, 3) := by decide +kernel
theorem dX1_farthest_46 : decode cX1_farthest 46 = .ok (.iload 7, 2) := by decide +kernel
theorem dX1_farthest_48 : decode cX1_farthest 48 = .ok (.laload, 1) := by decide +kernel
theorem dX1_farthest_49 : decode cX1_farthest 49 = .ok (.lload_n 3, 1) := by decide +kernel
theorem dX1_farthest_50 : decode cX1_farthest 50 = .ok (.lmul, 1) := by decide +kernel
theorem dX1_farthest_51 : decode cX1_farthest 51 = .ok (.ladd, 1) := by decide +kernel
theorem dX1_farthest_52 : decode cX1_farthest 52 = .ok (.invokestatic 78, 3) := by decide +kernel
theorem dX1_farthest_55 : decode cX1_farthest 55 = .ok (.lstore 5, 2) := by decide +kernel
theorem dX1_farthest_57 : decode cX1_farthest 57 = .ok (.iinc 7 1, 3) := by decide +kernel
theorem dX1_farthest_60 : decode cX1_farthest 60 = .ok (.goto (-38), 3) := by decide +kernel
theorem dX1_farthest_63 : decode cX1_farthest 63 = .ok (.lload 5, 2) := by decide +kernel
theorem dX1_farthest_65 : decode cX1_farthest 65 = .ok (.lreturn, 1) := by decide +kernel
theorem dX2_init_0 : decode cX2_init 0 = .ok (.aload_n 0, 1) := by decide +kernel
theorem dX2_init_1 : decode cX2_init 1 = .ok (.invokespecial 3, 3) := by decide +kernel
theorem dX2_init_4 : decode cX2_init 4 = .ok (.return_, 1) := by decide +kernel
set_option maxRecDepth 20000 in
theorem ggX2_seekTouch_X2_narrowBoth : GoodIn wsX2_seekTouch wsX2_narrowBoth := goodIn_r _ [10, 2, 5, 4, 3, 1, 11, 12, 13, 14, 15, 16, 17, 18, 19, 9, 20, 21, 22, 23, 24, 36, 37, 38, 39, 40, 41, 42, 43, 44, 45, 46] (by decide +kernel) (by decide +kernel)
set_option maxRecDepth 20000 in
theorem gX2_seekTouch_X2_narrowBoth : GoodIn wsX2_seekTouch (wsV RX2 9 RX2 yX2_narrowBoth wsX2_narrowBoth) := goodIn_app (goodIn_of _ (by decide +kernel)) ggX2_seekTouch_X2_narrowBoth
set_option maxRecDepth 20000 in
theorem ggX2_seekTouch_X2_settle : GoodIn wsX2_seekTouch wsX2_settle := goodIn_r _ [28, 2, 5, 29, 30, 31, 9, 32, 33, 34, 23, 35, 36, 37, 38, 39, 40] (by decide +kernel) (by decide +kernel)
set_option maxRecDepth 20000 in
theorem gX2_seekTouch_X2_settle : GoodIn wsX2_seekTouch (wsV RX2 32 RX2 yX2_settle wsX2_settle) := goodIn_app (goodIn_of _ (by decide +kernel)) ggX2_seekTouch_X2_settle
theorem dX2_seekTouch_0 : decode cX2_seekTouch 0 = .ok (.aload_n 0, 1) := by decide +kernel
theorem dX2_seekTouch_1 : decode cX2_seekTouch 1 = .ok (.aload_n 1, 1) := by decide +kernel
theorem dX2_seekTouch_2 : decode cX2_seekTouch 2 = .ok (.aload_n 2, 1) := by decide +kernel
theorem dX2_seekTouch_3 : decode cX2_seekTouch 3 = .ok (.iconst 1, 1) := by decide +kernel
theorem dX2_seekTouch_4 : decode cX2_seekTouch 4 = .ok (.invokevirtual 9, 3) := by decide +kernel
theorem dX2_seekTouch_7 : decode cX2_seekTouch 7 = .ok (.aload_n 0, 1) := by decide +kernel
theorem dX2_seekTouch_8 : decode cX2_seekTouch 8 = .ok (.aload_n 0, 1) := by decide +kernel
theorem dX2_seekTouch_9 : decode cX2_seekTouch 9 = .ok (.getfield 15, 3) := by decide +kernel
theorem dX2_seekTouch_12 : decode cX2_seekTouch 12 = .ok (.ifCond .ne 29, 3) := by decide +kernel
theorem dX2_seekTouch_15 : decode cX2_seekTouch 15 = .ok (.aload_n 0, 1) := by decide +kernel
theorem dX2_seekTouch_16 : decode cX2_seekTouch 16 = .ok (.getfield 19, 3) := by decide +kernel
theorem dX2_seekTouch_19 : decode cX2_seekTouch 19 = .ok (.aload_n 0, 1) := by decide +kernel
theorem dX2_seekTouch_20 : decode cX2_seekTouch 20 = .ok (.getfield 23, 3) := by decide +kernel
theorem dX2_seekTouch_23 : decode cX2_seekTouch 23 = .ok (.lmul, 1) := by decide +kernel
theorem dX2_seekTouch_24 : decode cX2_seekTouch 24 = .ok (.aload_n 0, 1) := by decide +kernel
theorem dX2_seekTouch_25 : decode cX2_seekTouch 25 = .ok (.getfield 26, 3) := by decide +kernel
theorem dX2_seekTouch_28 : decode cX2_seekTouch 28 = .ok (.aload_n 0, 1) := by decide +kernel
theorem dX2_seekTouch_29 : decode cX2_seekTouch 29 = .ok (.getfield 29, 3) := by decide +kernel
theorem dX2_seekTouch_32 : decode cX2_seekTouch 32 = .ok (.lmul, 1) := by decide +kernel
theorem dX2_seekTouch_33 : decode cX2_seekTouch 33 = .ok (.lcmp, 1) := by decide +kernel
theorem dX2_seekTouch_34 : decode cX2_seekTouch 34 = .ok (.ifCond .gt 7, 3) := by decide +kernel
theorem dX2_seekTouch_37 : decode cX2_seekTouch 37 = .ok (.iconst 1, 1) := by decide +kernel
theorem dX2_seekTouch_38 : decode cX2_seekTouch 38 = .ok (.goto 4, 3) := by decide +kernel
theorem dX2_seekTouch_41 : decode cX2_seekTouch 41 = .ok (.iconst 0, 1) := by decide +kernel
theorem dX2_seekTouch_42 : decode cX2_seekTouch 42 = .ok (.invokevirtual 32, 3) := by decide +kernel
theorem dX2_seekTouch_45 : decode cX2_seekTouch 45 = .ok (.ireturn, 1) := by decide +kernel
set_option maxRecDepth 20000 in
theorem ggX2_seekOverlap_X2_narrowBoth : GoodIn wsX2_seekOverlap wsX2_narrowBoth := goodIn_r _ [10, 2, 5, 4, 3, 1, 11, 12, 13, 14, 15, 16, 17, 18, 19, 9, 20, 21, 22, 23, 24, 45, 46, 47, 48, 49, 50, 51, 52, 53, 54, 55] (by decide +kernel) (by decide +kernel)
set_option maxRecDepth 20000 in
theorem gX2_seekOverlap_X2_narrowBoth : GoodIn wsX2_seekOverlap (wsV RX2 9 RX2 yX2_narrowBoth wsX2_narrowBoth) := goodIn_app (goodIn_of _ (by decide +kernel)) ggX2_seekOverlap_X2_narrowBoth
set_option maxRecDepth 20000 in
theorem ggX2_seekOverlap_X0_hasMidst : GoodIn wsX2_seekOverlap wsX0_hasMidst := goodIn_r _ [29, 30, 31, 32, 33, 50, 51, 52, 53, 54, 55] (by decide +kernel) (by decide +kernel)
set_option maxRecDepth 20000 in
theorem gX2_seekOverlap_X0_hasMidst : GoodIn wsX2_seekOverlap (wsV RX2 36 RX0 yX0_hasMidst wsX0_hasMidst) := goodIn_app (goodIn_of _ (by decide +kernel)) ggX2_seekOverlap_X0_hasMidst
set_option maxRecDepth 20000 in
theorem ggX2_seekOverlap_X2_settle : GoodIn wsX2_seekOverlap wsX2_settle := goodIn_r _ [37, 2, 5, 38, 39, 40, 9, 41, 42, 43, 23, 44, 45, 46, 47, 48, 49] (by decide +kernel) (by decide +kernel)
set_option maxRecDepth 20000 in
theorem gX2_seekOverlap_X2_settle : GoodIn wsX2_seekOverlap (wsV RX2 32 RX2 yX2_settle wsX2_settle) := goodIn_app (goodIn_of _ (by decide +kernel)) ggX2_seekOverlap_X2_settle
theorem dX2_seekOverlap_0 : decode cX2_seekOverlap 0 = .ok (.aload_n 0, 1) := by decide +kernel
theorem dX2_seekOverlap_1 : decode cX2_seekOverlap 1 = .ok (.aload_n 1, 1) := by decide +kernel
theorem dX2_seekOverlap_2 : decode cX2_seekOverlap 2 = .ok (.aload_n 2, 1) := by decide +kernel
theorem dX2_seekOverlap_3 : decode cX2_seekOverlap 3 = .ok (.iconst 0, 1) := by decide +kernel
theorem dX2_seekOverlap_4 : decode cX2_seekOverlap 4 = .ok (.invokevirtual 9, 3) := by decide +kernel
theorem dX2_seekOverlap_7 : decode cX2_seekOverlap 7 = .ok (.aload_n 0, 1) := by decide +kernel
theorem dX2_seekOverlap_8 : decode cX2_seekOverlap 8 = .ok (.aload_n 0, 1) := by decide +kernel
theorem dX2_seekOverlap_9 : decode cX2_seekOverlap 9 = .ok (.getfield 15, 3) := by decide +kernel
theorem dX2_seekOverlap_12 : decode cX2_seekOverlap 12 = .ok (.ifCond .ne 43, 3) := by decide +kernel
theorem dX2_seekOverlap_15 : decode cX2_seekOverlap 15 = .ok (.aload_n 1, 1) := by decide +kernel
theorem dX2_seekOverlap_16 : decode cX2_seekOverlap 16 = .ok (.invokevirtual 36, 3) := by decide +kernel
theorem dX2_seekOverlap_19 : decode cX2_seekOverlap 19 = .ok (.ifCond .eq 36, 3) := by decide +kernel
theorem dX2_seekOverlap_22 : decode cX2_seekOverlap 22 = .ok (.aload_n 2, 1) := by decide +kernel
theorem dX2_seekOverlap_23 : decode cX2_seekOverlap 23 = .ok (.invokevirtual 36, 3) := by decide +kernel
theorem dX2_seekOverlap_26 : decode cX2_seekOverlap 26 = .ok (.ifCond .eq 29, 3) := by decide +kernel
theorem dX2_seekOverlap_29 : decode cX2_seekOverlap 29 = .ok (.aload_n 0, 1) := by decide +kernel
theorem dX2_seekOverlap_30 : decode cX2_seekOverlap 30 = .ok (.getfield 19, 3) := by decide +kernel
theorem dX2_seekOverlap_33 : decode cX2_seekOverlap 33 = .ok (.aload_n 0, 1) := by decide +kernel
theorem dX2_seekOverlap_34 : decode cX2_seekOverlap 34 = .ok (.getfield 23, 3) := by decide +kernel
theorem dX2_seekOverlap_37 : decode cX2_seekOverlap 37 = .ok (.lmul, 1) := by decide +kernel
theorem dX2_seekOverlap_38 : decode cX2_seekOverlap 38 = .ok (.aload_n 0, 1) := by decide +kernel
theorem dX2_seekOverlap_39 : decode cX2_seekOverlap 39 = .ok (.getfield 26, 3) := by decide +kernel
theorem dX2_seekOverlap_42 : decode cX2_seekOverlap 42 = .ok (.aload_n 0, 1) := by decide +kernel
theorem dX2_seekOverlap_43 : decode cX2_seekOverlap 43 = .ok (.getfield 29, 3) := by decide +kernel
theorem dX2_seekOverlap_46 : decode cX2_seekOverlap 46 = .ok (.lmul, 1) := by decide +kernel
theorem dX2_seekOverlap_47 : decode cX2_seekOverlap 47 = .ok (.lcmp, 1) := by decide +kernel
theorem dX2_seekOverlap_48 : decode cX2_seekOverlap 48 = .ok (.ifCond .ge 7, 3) := by decide +kernel
theorem dX2_seekOverlap_51 : decode cX2_seekOverlap 51 = .ok (.iconst 1, 1) := by decide +kernel
theorem dX2_seekOverlap_52 : decode cX2_seekOverlap 52 = .ok (.goto 4, 3) := by decide +kernel
theorem dX2_seekOverlap_55 : decode cX2_seekOverlap 55 = .ok (.iconst 0, 1) := by decide +kernel
theorem dX2_seekOverlap_56 : decode cX2_seekOverlap 56 = .ok (.invokevirtual 32, 3) := by decide +kernel
theorem dX2_seekOverlap_59 : decode cX2_seekOverlap 59 = .ok (.ireturn, 1) := by decide +kernel
theorem dX2_isBefore_0 : decode cX2_isBefore 0 = .ok (.aload_n 0, 1) := by decide +kernel
theorem dX2_isBefore_1 : decode cX2_isBefore 1 = .ok (.getfield 19, 3) := by decide +kernel
theorem dX2_isBefore_4 : decode cX2_isBefore 4 = .ok (.lload_n 3, 1) := by decide +kernel
theorem dX2_isBefore_5 : decode cX2_isBefore 5 = .ok (.lmul, 1) := by decide +kernel
theorem dX2_isBefore_6 : decode cX2_isBefore 6 = .ok (.lload_n 1, 1) := by decide +kernel
theorem dX2_isBefore_7 : decode cX2_isBefore 7 = .ok (.aload_n 0, 1) := by decide +kernel
theorem dX2_isBefore_8 : decode cX2_isBefore 8 = .ok (.getfield 29, 3) := by decide +kernel
theorem dX2_isBefore_11 : decode cX2_isBefore 11 = .ok (.lmul, 1) := by decide +kernel
theorem dX2_isBefore_12 : decode cX2_isBefore 12 = .ok (.lcmp, 1) := by decide +kernel
theorem dX2_isBefore_13 : decode cX2_isBefore 13 = .ok (.ifCond .ge 7, 3) := by decide +kernel
theorem dX2_isBefore_16 : decode cX2_isBefore 16 = .ok (.iconst 1, 1) := by decide +kernel
theorem dX2_isBefore_17 : decode cX2_isBefore 17 = .ok (.goto 4, 3) := by decide +kernel
theorem dX2_isBefore_20 : decode cX2_isBefore 20 = .ok (.iconst 0, 1) := by decide +kernel
theorem dX2_isBefore_21 : decode cX2_isBefore 21 = .ok (.ireturn, 1) := by decide +kernel
set_option maxRecDepth 20000 in
theorem ggX2_narrowBoth_X2_narrow : GoodIn wsX2_narrowBoth wsX2_narrow := goodIn_r _ [16, 5, 17, 18, 19, 20, 2, 1, 4, 3, 21, 22, 23, 24, 25] (by decide +kernel) (by decide +kernel)
set_option maxRecDepth 20000 in
theorem gX2_narrowBoth_X2_narrow : GoodIn wsX2_narrowBoth (wsV RX2 51 RX2 yX2_narrow wsX2_narrow) := goodIn_app (goodIn_of _ (by decide +kernel)) ggX2_narrowBoth_X2_narrow
theorem dX2_narrowBoth_0 : decode cX2_narrowBoth 0 = .ok (.aload_n 0, 1) := by decide +kernel
theorem dX2_narrowBoth_1 : decode cX2_narrowBoth 1 = .ok (.lconst 0, 1) := by decide +kernel
theorem dX2_narrowBoth_2 : decode cX2_narrowBoth 2 = .ok (.putfield 19, 3) := by decide +kernel
theorem dX2_narrowBoth_5 : decode cX2_narrowBoth 5 = .ok (.aload_n 0, 1) := by decide +kernel
theorem dX2_narrowBoth_6 : decode cX2_narrowBoth 6 = .ok (.lconst 1, 1) := by decide +kernel
theorem dX2_narrowBoth_7 : decode cX2_narrowBoth 7 = .ok (.putfield 29, 3) := by decide +kernel
theorem dX2_narrowBoth_10 : decode cX2_narrowBoth 10 = .ok (.aload_n 0, 1) := by decide +kernel
theorem dX2_narrowBoth_11 : decode cX2_narrowBoth 11 = .ok (.lconst 1, 1) := by decide +kernel
theorem dX2_narrowBoth_12 : decode cX2_narrowBoth 12 = .ok (.putfield 26, 3) := by decide +kernel
theorem dX2_narrowBoth_15 : decode cX2_narrowBoth 15 = .ok (.aload_n 0, 1) := by decide +kernel
theorem dX2_narrowBoth_16 : decode cX2_narrowBoth 16 = .ok (.lconst 1, 1) := by decide +kernel
theorem dX2_narrowBoth_17 : decode cX2_narrowBoth 17 = .ok (.putfield 23, 3) := by decide +kernel
theorem dX2_narrowBoth_20 : decode cX2_narrowBoth 20 = .ok (.aload_n 0, 1) := by decide +kernel
theorem dX2_narrowBoth_21 : decode cX2_narrowBoth 21 = .ok (.iconst 0, 1) := by decide +kernel
theorem dX2_narrowBoth_22 : decode cX2_narrowBoth 22 = .ok (.putfield 15, 3) := by decide +kernel
theorem dX2_narrowBoth_25 : decode cX2_narrowBoth 25 = .ok (.aload_n 0, 1) := by decide +kernel
theorem dX2_narrowBoth_26 : decode cX2_narrowBoth 26 = .ok (.aload_n 2, 1) := by decide +kernel
theorem dX2_narrowBoth_27 : decode cX2_narrowBoth 27 = .ok (.getfield 42, 3) := by decide +kernel
theorem dX2_narrowBoth_30 : decode cX2_narrowBoth 30 = .ok (.aload_n 1, 1) := by decide +kernel
theorem dX2_narrowBoth_31 : decode cX2_narrowBoth 31 = .ok (.getfield 45, 3) := by decide +kernel
theorem dX2_narrowBoth_34 : decode cX2_narrowBoth 34 = .ok (.lsub, 1) := by decide +kernel
theorem dX2_narrowBoth_35 : decode cX2_narrowBoth 35 = .ok (.aload_n 2, 1) := by decide +kernel
theorem dX2_narrowBoth_36 : decode cX2_narrowBoth 36 = .ok (.getfield 45, 3) := by decide +kernel
theorem dX2_narrowBoth_39 : decode cX2_narrowBoth 39 = .ok (.aload_n 1, 1) := by decide +kernel
theorem dX2_narrowBoth_40 : decode cX2_narrowBoth 40 = .ok (.getfield 42, 3) := by decide +kernel
theorem dX2_narrowBoth_43 : decode cX2_narrowBoth 43 = .ok (.lsub, 1) := by decide +kernel
theorem dX2_narrowBoth_44 : decode cX2_narrowBoth 44 = .ok (.aload_n 1, 1) := by decide +kernel
theorem dX2_narrowBoth_45 : decode cX2_narrowBoth 45 = .ok (.getfield 48, 3) := by decide +kernel
theorem dX2_narrowBoth_48 : decode cX2_narrowBoth 48 = .ok (.aload_n 2, 1) := by decide +kernel
theorem dX2_narrowBoth_49 : decode cX2_narrowBoth 49 = .ok (.getfield 48, 3) := by decide +kernel
theorem dX2_narrowBoth_52 : decode cX2_narrowBoth 52 = .ok (.lsub, 1) := by decide +kernel
theorem dX2_narrowBoth_53 : decode cX2_narrowBoth 53 = .ok (.iload_n 3, 1) := by decide +kernel
theorem dX2_narrowBoth_54 : decode cX2_narrowBoth 54 = .ok (.invokevirtual 51, 3) := by decide +kernel
theorem dX2_narrowBoth_57 : decode cX2_narrowBoth 57 = .ok (.aload_n 0, 1) := by decide +kernel
theorem dX2_narrowBoth_58 : decode cX2_narrowBoth 58 = .ok (.aload_n 2, 1) := by decide +kernel
theorem dX2_narrowBoth_59 : decode cX2_narrowBoth 59 = .ok (.getfield 55, 3) := by decide +kernel
theorem dX2_narrowBoth_62 : decode cX2_narrowBoth 62 = .ok (.aload_n 1, 1) := by decide +kernel
theorem dX2_narrowBoth_63 : decode cX2_narrowBoth 63 = .ok (.getfield 58, 3) := by decide +kernel
theorem dX2_narrowBoth_66 : decode cX2_narrowBoth 66 = .ok (.lsub, 1) := by decide +kernel
theorem dX2_narrowBoth_67 : decode cX2_narrowBoth 67 = .ok (.aload_n 2, 1) := by decide +kernel
theorem dX2_narrowBoth_68 : decode cX2_narrowBoth 68 = .ok (.getfield 58, 3) := by decide +kernel
theorem dX2_narrowBoth_71 : decode cX2_narrowBoth 71 = .ok (.aload_n 1, 1) := by decide +kernel
theorem dX2_narrowBoth_72 : decode cX2_narrowBoth 72 = .ok (.getfield 55, 3) := by decide +kernel
theorem dX2_narrowBoth_75 : decode cX2_narrowBoth 75 = .ok (.lsub, 1) := by decide +kernel
theorem dX2_narrowBoth_76 : decode cX2_narrowBoth 76 = .ok (.aload_n 1, 1) := by decide +kernel
theorem dX2_narrowBoth_77 : decode cX2_narrowBoth 77 = .ok (.getfield 61, 3) := by decide +kernel
theorem dX2_narrowBoth_80 : decode cX2_narrowBoth 80 = .ok (.aload_n 2, 1) := by decide +kernel
theorem dX2_narrowBoth_81 : decode cX2_narrowBoth 81 = .ok (.getfield 61, 3) := by decide +kernel
theorem dX2_narrowBoth_84 : decode cX2_narrowBoth 84 = .ok (.lsub, 1) := by decide +kernel
theorem dX2_narrowBoth_85 : decode cX2_narrowBoth 85 = .ok (.iload_n 3, 1) := by decide +kernel
theorem dX2_narrowBoth_86 : decode cX2_narrowBoth 86 = .ok (.invokevirtual 51, 3) := by decide +kernel
theorem dX2_narrowBoth_89 : decode cX2_narrowBoth 89 = .ok (.return_, 1) := by decide +kernel
theorem dX2_narrow_0 : decode cX2_narrow 0 = .ok (.lload 5, 2) := by decide +kernel
theorem dX2_narrow_2 : decode cX2_narrow 2 = .ok (.lconst 0, 1) := by decide +kernel
theorem dX2_narrow_3 : decode cX2_narrow 3 = .ok (.lcmp, 1) := by decide +kernel
theorem dX2_narrow_4 : decode cX2_narrow 4 = .ok (.ifCond .ne 47, 3) := by decide +kernel
theorem dX2_narrow_7 : decode cX2_narrow 7 = .ok (.aload_n 0, 1) := by decide +kernel
theorem dX2_narrow_8 : decode cX2_narrow 8 = .ok (.dup, 1) := by decide +kernel
theorem dX2_narrow_9 : decode cX2_narrow 9 = .ok (.getfield 15, 3) := by decide +kernel
theorem dX2_narrow_12 : decode cX2_narrow 12 = .ok (.lload_n 1, 1) := by decide +kernel
theorem dX2_narrow_13 : decode cX2_narrow 13 = .ok (.lconst 0, 1) := by decide +kernel
theorem dX2_narrow_14 : decode cX2_narrow 14 = .ok (.lcmp, 1) := by decide +kernel
theorem dX2_narrow_15 : decode cX2_narrow 15 = .ok (.ifCond .gt 26, 3) := by decide +kernel
theorem dX2_narrow_18 : decode cX2_narrow 18 = .ok (.lload_n 3, 1) := by decide +kernel
theorem dX2_narrow_19 : decode cX2_narrow 19 = .ok (.lconst 0, 1) := by decide +kernel
theorem dX2_narrow_20 : decode cX2_narrow 20 = .ok (.lcmp, 1) := by decide +kernel
theorem dX2_narrow_21 : decode cX2_narrow 21 = .ok (.ifCond .lt 20, 3) := by decide +kernel
theorem dX2_narrow_24 : decode cX2_narrow 24 = .ok (.iload 7, 2) := by decide +kernel
theorem dX2_narrow_26 : decode cX2_narrow 26 = .ok (.ifCond .ne 19, 3) := by decide +kernel
theorem dX2_narrow_29 : decode cX2_narrow 29 = .ok (.lload_n 1, 1) := by decide +kernel
theorem dX2_narrow_30 : decode cX2_narrow 30 = .ok (.lconst 0, 1) := by decide +kernel
theorem dX2_narrow_31 : decode cX2_narrow 31 = .ok (.lcmp, 1) := by decide +kernel
theorem dX2_narrow_32 : decode cX2_narrow 32 = .ok (.ifCond .eq 9, 3) := by decide +kernel
theorem dX2_narrow_35 : decode cX2_narrow 35 = .ok (.lload_n 3, 1) := by decide +kernel
theorem dX2_narrow_36 : decode cX2_narrow 36 = .ok (.lconst 0, 1) := by decide +kernel
theorem dX2_narrow_37 : decode cX2_narrow 37 = .ok (.lcmp, 1) := by decide +kernel
theorem dX2_narrow_38 : decode cX2_narrow 38 = .ok (.ifCond .ne 7, 3) := by decide +kernel
theorem dX2_narrow_41 : decode cX2_narrow 41 = .ok (.iconst 1, 1) := by decide +kernel
theorem dX2_narrow_42 : decode cX2_narrow 42 = .ok (.goto 4, 3) := by decide +kernel
theorem dX2_narrow_45 : decode cX2_narrow 45 = .ok (.iconst 0, 1) := by decide +kernel
theorem dX2_narrow_46 : decode cX2_narrow 46 = .ok (.ior, 1) := by decide +kernel
theorem dX2_narrow_47 : decode cX2_narrow 47 = .ok (.putfield 15, 3) := by decide +kernel
theorem dX2_narrow_50 : decode cX2_narrow 50 = .ok (.return_, 1) := by decide +kernel
theorem dX2_narrow_51 : decode cX2_narrow 51 = .ok (.lload 5, 2) := by decide +kernel
theorem dX2_narrow_53 : decode cX2_narrow 53 = .ok (.invokestatic 64, 3) := by decide +kernel
theorem dX2_narrow_56 : decode cX2_narrow 56 = .ok (.lstore 8, 2) := by decide +kernel
theorem dX2_narrow_58 : decode cX2_narrow 58 = .ok (.lload 5, 2) := by decide +kernel
theorem dX2_narrow_60 : decode cX2_narrow 60 = .ok (.lconst 0, 1) := by decide +kernel
theorem dX2_narrow_61 : decode cX2_narrow 61 = .ok (.lcmp, 1) := by decide +kernel
theorem dX2_narrow_62 : decode cX2_narrow 62 = .ok (.ifCond .le 7, 3) := by decide +kernel
theorem dX2_narrow_65 : decode cX2_narrow 65 = .ok (.lload_n 1, 1) := by decide +kernel
theorem dX2_narrow_66 : decode cX2_narrow 66 = .ok (.goto 5, 3) := by decide +kernel
theorem dX2_narrow_69 : decode cX2_narrow 69 = .ok (.lload_n 3, 1) := by decide +kernel
theorem dX2_narrow_70 : decode cX2_narrow 70 = .ok (.lneg, 1) := by decide +kernel
theorem dX2_narrow_71 : decode cX2_narrow 71 = .ok (.lstore 10, 2) := by decide +kernel
theorem dX2_narrow_73 : decode cX2_narrow 73 = .ok (.lload 5, 2) := by decide +kernel
theorem dX2_narrow_75 : decode cX2_narrow 75 = .ok (.lconst 0, 1) := by decide +kernel
theorem dX2_narrow_76 : decode cX2_narrow 76 = .ok (.lcmp, 1) := by decide +kernel
theorem dX2_narrow_77 : decode cX2_narrow 77 = .ok (.ifCond .le 7, 3) := by decide +kernel
theorem dX2_narrow_80 : decode cX2_narrow 80 = .ok (.lload_n 3, 1) := by decide +kernel
theorem dX2_narrow_81 : decode cX2_narrow 81 = .ok (.goto 5, 3) := by decide +kernel
theorem dX2_narrow_84 : decode cX2_narrow 84 = .ok (.lload_n 1, 1) := by decide +kernel
theorem dX2_narrow_85 : decode cX2_narrow 85 = .ok (.lneg, 1) := by decide +kernel
theorem dX2_narrow_86 : decode cX2_narrow 86 = .ok (.lstore 12, 2) := by decide +kernel
theorem dX2_narrow_88 : decode cX2_narrow 88 = .ok (.lload 10, 2) := by decide +kernel
theorem dX2_narrow_90 : decode cX2_narrow 90 = .ok (.aload_n 0, 1) := by decide +kernel
theorem dX2_narrow_91 : decode cX2_narrow 91 = .ok (.getfield 29, 3) := by decide +kernel
theorem dX2_narrow_94 : decode cX2_narrow 94 = .ok (.lmul, 1) := by decide +kernel
theorem dX2_narrow_95 : decode cX2_narrow 95 = .ok (.aload_n 0, 1) := by decide +kernel
theorem dX2_narrow_96 : decode cX2_narrow 96 = .ok (.getfield 19, 3) := by decide +kernel
theorem dX2_narrow_99 : decode cX2_narrow 99 = .ok (.lload 8, 2) := by decide +kernel
theorem dX2_narrow_101 : decode cX2_narrow 101 = .ok (.lmul, 1) := by decide +kernel
theorem dX2_narrow_102 : decode cX2_narrow 102 = .ok (.lcmp, 1) := by decide +kernel
theorem dX2_narrow_103 : decode cX2_narrow 103 = .ok (.ifCond .le 15, 3) := by decide +kernel
theorem dX2_narrow_106 : decode cX2_narrow 106 = .ok (.aload_n 0, 1) := by decide +kernel
theorem dX2_narrow_107 : decode cX2_narrow 107 = .ok (.lload 10, 2) := by decide +kernel
theorem dX2_narrow_109 : decode cX2_narrow 109 = .ok (.putfield 19, 3) := by decide +kernel
theorem dX2_narrow_112 : decode cX2_narrow 112 = .ok (.aload_n 0, 1) := by decide +kernel
theorem dX2_narrow_113 : decode cX2_narrow 113 = .ok (.lload 8, 2) := by decide +kernel
theorem dX2_narrow_115 : decode cX2_narrow 115 = .ok (.putfield 29, 3) := by decide +kernel
theorem dX2_narrow_118 : decode cX2_narrow 118 = .ok (.lload 12, 2) := by decide +kernel
theorem dX2_narrow_120 : decode cX2_narrow 120 = .ok (.aload_n 0, 1) := by decide +kernel
theorem dX2_narrow_121 : decode cX2_narrow 121 = .ok (.getfield 23, 3) := by decide +kernel
theorem dX2_narrow_124 : decode cX2_narrow 124 = .ok (.lmul, 1) := by decide +kernel
theorem dX2_narrow_125 : decode cX2_narrow 125 = .ok (.aload_n 0, 1) := by decide +kernel
theorem dX2_narrow_126 : decode cX2_narrow 126 = .ok (.getfield 26, 3) := by decide +kernel
theorem dX2_narrow_129 : decode cX2_narrow 129 = .ok (.lload 8, 2) := by decide +kernel
theorem dX2_narrow_131 : decode cX2_narrow 131 = .ok (.lmul, 1) := by decide +kernel
theorem dX2_narrow_132 : decode cX2_narrow 132 = .ok (.lcmp, 1) := by decide +kernel
theorem dX2_narrow_133 : decode cX2_narrow 133 = .ok (.ifCond .ge 15, 3) := by decide +kernel
theorem dX2_narrow_136 : decode cX2_narrow 136 = .ok (.aload_n 0, 1) := by decide +kernel
theorem dX2_narrow_137 : decode cX2_narrow 137 = .ok (.lload 12, 2) := by decide +kernel
theorem dX2_narrow_139 : decode cX2_narrow 139 = .ok (.putfield 26, 3) := by decide +kernel
theorem dX2_narrow_142 : decode cX2_narrow 142 = .ok (.aload_n 0, 1) := by decide +kernel
theorem dX2_narrow_143 : decode cX2_narrow 143 = .ok (.lload 8, 2) := by decide +kernel
theorem dX2_narrow_145 : decode cX2_narrow 145 = .ok (.putfield 23, 3) := by decide +kernel
theorem dX2_narrow_148 : decode cX2_narrow 148 = .ok (.return_, 1) := by decide +kernel
set_option maxRecDepth 20000 in
theorem ggX2_settle_X2_commonDivisor : GoodIn wsX2_settle wsX2_commonDivisor := goodIn_r _ [7, 8, 9, 10, 11] (by decide +kernel) (by decide +kernel)
set_option maxRecDepth 20000 in
theorem gX2_settle_X2_commonDivisor : GoodIn wsX2_settle (va_wsS RX2 70 yX2_commonDivisor wsX2_commonDivisor) := goodIn_app (goodIn_of _ (by decide +kernel)) ggX2_settle_X2_commonDivisor
theorem dX2_settle_0 : decode cX2_settle 0 = .ok (.iload_n 1, 1) := by decide +kernel
theorem dX2_settle_1 : decode cX2_settle 1 = .ok (.ifCond .eq 38, 3) := by decide +kernel
theorem dX2_settle_4 : decode cX2_settle 4 = .ok (.aload_n 0, 1) := by decide +kernel
theorem dX2_settle_5 : decode cX2_settle 5 = .ok (.getfield 19, 3) := by decide +kernel
theorem dX2_settle_8 : decode cX2_settle 8 = .ok (.aload_n 0, 1) := by decide +kernel
theorem dX2_settle_9 : decode cX2_settle 9 = .ok (.getfield 29, 3) := by decide +kernel
theorem dX2_settle_12 : decode cX2_settle 12 = .ok (.invokestatic 70, 3) := by decide +kernel
theorem dX2_settle_15 : decode cX2_settle 15 = .ok (.lstore_n 2, 1) := by decide +kernel
theorem dX2_settle_16 : decode cX2_settle 16 = .ok (.aload_n 0, 1) := by decide +kernel
theorem dX2_settle_17 : decode cX2_settle 17 = .ok (.dup, 1) := by decide +kernel
theorem dX2_settle_18 : decode cX2_settle 18 = .ok (.getfield 19, 3) := by decide +kernel
theorem dX2_settle_21 : decode cX2_settle 21 = .ok (.lload_n 2, 1) := by decide +kernel
theorem dX2_settle_22 : decode cX2_settle 22 = .ok (.ldiv, 1) := by decide +kernel
theorem dX2_settle_23 : decode cX2_settle 23 = .ok (.putfield 19, 3) := by decide +kernel
theorem dX2_settle_26 : decode cX2_settle 26 = .ok (.aload_n 0, 1) := by decide +kernel
theorem dX2_settle_27 : decode cX2_settle 27 = .ok (.dup, 1) := by decide +kernel
theorem dX2_settle_28 : decode cX2_settle 28 = .ok (.getfield 29, 3) := by decide +kernel
theorem dX2_settle_31 : decode cX2_settle 31 = .ok (.lload_n 2, 1) := by decide +kernel
theorem dX2_settle_32 : decode cX2_settle 32 = .ok (.ldiv, 1) := by decide +kernel
theorem dX2_settle_33 : decode cX2_settle 33 = .ok (.putfield 29, 3) := by decide +kernel
theorem dX2_settle_36 : decode cX2_settle 36 = .ok (.goto 15, 3) := by decide +kernel
theorem dX2_settle_39 : decode cX2_settle 39 = .ok (.aload_n 0, 1) := by decide +kernel
theorem dX2_settle_40 : decode cX2_settle 40 = .ok (.ldc2_w 74, 3) := by decide +kernel
theorem dX2_settle_43 : decode cX2_settle 43 = .ok (.putfield 19, 3) := by decide +kernel
theorem dX2_settle_46 : decode cX2_settle 46 = .ok (.aload_n 0, 1) := by decide +kernel
theorem dX2_settle_47 : decode cX2_settle 47 = .ok (.lconst 1, 1) := by decide +kernel
theorem dX2_settle_48 : decode cX2_settle 48 = .ok (.putfield 29, 3) := by decide +kernel
theorem dX2_settle_51 : decode cX2_settle 51 = .ok (.iload_n 1, 1) := by decide +kernel
theorem dX2_settle_52 : decode cX2_settle 52 = .ok (.ireturn, 1) := by decide +kernel
theorem dX2_commonDivisor_0 : decode cX2_commonDivisor 0 = .ok (.lload_n 0, 1) := by decide +kernel
theorem dX2_commonDivisor_1 : decode cX2_commonDivisor 1 = .ok (.lstore 4, 2) := by decide +kernel
theorem dX2_commonDivisor_3 : decode cX2_commonDivisor 3 = .ok (.lload_n 2, 1) := by decide +kernel
theorem dX2_commonDivisor_4 : decode cX2_commonDivisor 4 = .ok (.lstore 6, 2) := by decide +kernel
theorem dX2_commonDivisor_6 : decode cX2_commonDivisor 6 = .ok (.iconst 0, 1) := by decide +kernel
theorem dX2_commonDivisor_7 : decode cX2_commonDivisor 7 = .ok (.istore 8, 2) := by decide +kernel
theorem dX2_commonDivisor_9 : decode cX2_commonDivisor 9 = .ok (.iload 8, 2) := by decide +kernel
theorem dX2_commonDivisor_11 : decode cX2_commonDivisor 11 = .ok (.bipush 100, 2) := by decide +kernel
theorem dX2_commonDivisor_13 : decode cX2_commonDivisor 13 = .ok (.if_icmp .ge 31, 3) := by decide +kernel
theorem dX2_commonDivisor_16 : decode cX2_commonDivisor 16 = .ok (.lload 6, 2) := by decide +kernel
theorem dX2_commonDivisor_18 : decode cX2_commonDivisor 18 = .ok (.lconst 0, 1) := by decide +kernel
theorem dX2_commonDivisor_19 : decode cX2_commonDivisor 19 = .ok (.lcmp, 1) := by decide +kernel
theorem dX2_commonDivisor_20 : decode cX2_commonDivisor 20 = .ok (.ifCond .eq 24, 3) := by decide +kernel
theorem dX2_commonDivisor_23 : decode cX2_commonDivisor 23 = .ok (.lload 4, 2) := by decide +kernel
theorem dX2_commonDivisor_25 : decode cX2_commonDivisor 25 = .ok (.lload 6, 2) := by decide +kernel
theorem dX2_commonDivisor_27 : decode cX2_commonDivisor 27 = .ok (.lrem, 1) := by decide +kernel
theorem dX2_commonDivisor_28 : decode cX2_commonDivisor 28 = .ok (.lstore 9, 2) := by decide +kernel
theorem dX2_commonDivisor_30 : decode cX2_commonDivisor 30 = .ok (.lload 6, 2) := by decide +kernel
theorem dX2_commonDivisor_32 : decode cX2_commonDivisor 32 = .ok (.lstore 4, 2) := by decide +kernel
theorem dX2_commonDivisor_34 : decode cX2_commonDivisor 34 = .ok (.lload 9, 2) := by decide +kernel
theorem dX2_commonDivisor_36 : decode cX2_commonDivisor 36 = .ok (.lstore 6, 2) := by decide +kernel
theorem dX2_commonDivisor_38 : decode cX2_commonDivisor 38 = .ok (.iinc 8 1, 3) := by decide +kernel
theorem dX2_commonDivisor_41 : decode cX2_commonDivisor 41 = .ok (.goto (-32), 3) := by decide +kernel
theorem dX2_commonDivisor_44 : decode cX2_commonDivisor 44 = .ok (.lconst 1, 1) := by decide +kernel
theorem dX2_commonDivisor_45 : decode cX2_commonDivisor 45 = .ok (.lload 4, 2) := by decide +kernel
theorem dX2_commonDivisor_47 : decode cX2_commonDivisor 47 = .ok (.invokestatic 76, 3) := by decide +kernel
theorem dX2_commonDivisor_50 : decode cX2_commonDivisor 50 = .ok (.lreturn, 1) := by decide +kernel
theorem dX3_init_0 : decode cX3_init 0 = .ok (.aload_n 0, 1) := by decide +kernel
theorem dX3_init_1 : decode cX3_init 1 = .ok (.invokespecial 3, 3) := by decide +kernel
theorem dX3_init_4 : decode cX3_init 4 = .ok (.return_, 1) := by decide +kernel
theorem dX3_meetNothing_0 : decode cX3_meetNothing 0 = .ok (.aload_n 0, 1) := by decide +kernel
theorem dX3_meetNothing_1 : decode cX3_meetNothing 1 = .ok (.iconst (-1), 1) := by decide +kernel
theorem dX3_meetNothing_2 : decode cX3_meetNothing 2 = .ok (.putfield 9, 3) := by decide +kernel
theorem dX3_meetNothing_5 : decode cX3_meetNothing 5 = .ok (.aload_n 0, 1) := by decide +kernel
theorem dX3_meetNothing_6 : decode cX3_meetNothing 6 = .ok (.iconst (-1), 1) := by decide +kernel
theorem dX3_meetNothing_7 : decode cX3_meetNothing 7 = .ok (.putfield 15, 3) := by decide +kernel
theorem dX3_meetNothing_10 : decode cX3_meetNothing 10 = .ok (.aload_n 0, 1) := by decide +kernel
theorem dX3_meetNothing_11 : decode cX3_meetNothing 11 = .ok (.lconst 1, 1) := by decide +kernel
theorem dX3_meetNothing_12 : decode cX3_meetNothing 12 = .ok (.putfield 18, 3) := by decide +kernel
theorem dX3_meetNothing_15 : decode cX3_meetNothing 15 = .ok (.aload_n 0, 1) := by decide +kernel
theorem dX3_meetNothing_16 : decode cX3_meetNothing 16 = .ok (.lconst 1, 1) := by decide +kernel
theorem dX3_meetNothing_17 : decode cX3_meetNothing 17 = .ok (.putfield 22, 3) := by decide +kernel
theorem dX3_meetNothing_20 : decode cX3_meetNothing 20 = .ok (.return_, 1) := by decide +kernel
theorem dX3_shareOf_0 : decode cX3_shareOf 0 = .ok (.aload_n 0, 1) := by decide +kernel
theorem dX3_shareOf_1 : decode cX3_shareOf 1 = .ok (.getfield 22, 3) := by decide +kernel
theorem dX3_shareOf_4 : decode cX3_shareOf 4 = .ok (.lconst 0, 1) := by decide +kernel
theorem dX3_shareOf_5 : decode cX3_shareOf 5 = .ok (.lcmp, 1) := by decide +kernel
theorem dX3_shareOf_6 : decode cX3_shareOf 6 = .ok (.ifCond .le 17, 3) := by decide +kernel
theorem dX3_shareOf_9 : decode cX3_shareOf 9 = .ok (.lload_n 1, 1) := by decide +kernel
theorem dX3_shareOf_10 : decode cX3_shareOf 10 = .ok (.aload_n 0, 1) := by decide +kernel
theorem dX3_shareOf_11 : decode cX3_shareOf 11 = .ok (.getfield 18, 3) := by decide +kernel
theorem dX3_shareOf_14 : decode cX3_shareOf 14 = .ok (.lmul, 1) := by decide +kernel
theorem dX3_shareOf_15 : decode cX3_shareOf 15 = .ok (.aload_n 0, 1) := by decide +kernel
theorem dX3_shareOf_16 : decode cX3_shareOf 16 = .ok (.getfield 22, 3) := by decide +kernel
theorem dX3_shareOf_19 : decode cX3_shareOf 19 = .ok (.ldiv, 1) := by decide +kernel
theorem dX3_shareOf_20 : decode cX3_shareOf 20 = .ok (.goto 4, 3) := by decide +kernel
theorem dX3_shareOf_23 : decode cX3_shareOf 23 = .ok (.lconst 0, 1) := by decide +kernel
theorem dX3_shareOf_24 : decode cX3_shareOf 24 = .ok (.lreturn, 1) := by decide +kernel
