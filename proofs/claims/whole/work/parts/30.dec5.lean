set_option maxRecDepth 20000 in
theorem ggX5_init_X5_reset : GoodIn wsX5_init wsX5_reset := goodIn_r _ [24, 25, 26, 27, 12, 13, 28, 29, 30, 31, 32, 33, 34, 35, 36, 37, 38, 39, 40, 41, 42, 43, 44, 45, 46, 47, 48, 49, 50, 51, 52, 53, 54] (by decide +kernel) (by decide +kernel)
set_option maxRecDepth 20000 in
theorem gX5_init_X5_reset : GoodIn wsX5_init (wsV RX5 51 RX5 yX5_reset wsX5_reset) := goodIn_app (goodIn_of _ (by decide +kernel)) ggX5_init_X5_reset
theorem dX5_init_0 : decode cX5_init 0 = .ok (.aload_n 0, 1) := by decide +kernel
theorem dX5_init_1 : decode cX5_init 1 = .ok (.invokespecial 1, 3) := by decide +kernel
theorem dX5_init_4 : decode cX5_init 4 = .ok (.aload_n 0, 1) := by decide +kernel
theorem dX5_init_5 : decode cX5_init 5 = .ok (.sipush 256, 3) := by decide +kernel
theorem dX5_init_8 : decode cX5_init 8 = .ok (.newarray .long, 2) := by decide +kernel
theorem dX5_init_10 : decode cX5_init 10 = .ok (.putfield 7, 3) := by decide +kernel
theorem dX5_init_13 : decode cX5_init 13 = .ok (.aload_n 0, 1) := by decide +kernel
theorem dX5_init_14 : decode cX5_init 14 = .ok (.sipush 256, 3) := by decide +kernel
theorem dX5_init_17 : decode cX5_init 17 = .ok (.newarray .long, 2) := by decide +kernel
theorem dX5_init_19 : decode cX5_init 19 = .ok (.putfield 13, 3) := by decide +kernel
theorem dX5_init_22 : decode cX5_init 22 = .ok (.aload_n 0, 1) := by decide +kernel
theorem dX5_init_23 : decode cX5_init 23 = .ok (.bipush 16, 2) := by decide +kernel
theorem dX5_init_25 : decode cX5_init 25 = .ok (.newarray .int, 2) := by decide +kernel
theorem dX5_init_27 : decode cX5_init 27 = .ok (.putfield 16, 3) := by decide +kernel
theorem dX5_init_30 : decode cX5_init 30 = .ok (.aload_n 0, 1) := by decide +kernel
theorem dX5_init_31 : decode cX5_init 31 = .ok (.bipush 64, 2) := by decide +kernel
theorem dX5_init_33 : decode cX5_init 33 = .ok (.newarray .long, 2) := by decide +kernel
theorem dX5_init_35 : decode cX5_init 35 = .ok (.putfield 20, 3) := by decide +kernel
theorem dX5_init_38 : decode cX5_init 38 = .ok (.aload_n 0, 1) := by decide +kernel
theorem dX5_init_39 : decode cX5_init 39 = .ok (.bipush 32, 2) := by decide +kernel
theorem dX5_init_41 : decode cX5_init 41 = .ok (.newarray .long, 2) := by decide +kernel
theorem dX5_init_43 : decode cX5_init 43 = .ok (.putfield 23, 3) := by decide +kernel
theorem dX5_init_46 : decode cX5_init 46 = .ok (.aload_n 0, 1) := by decide +kernel
theorem dX5_init_47 : decode cX5_init 47 = .ok (.sipush 576, 3) := by decide +kernel
theorem dX5_init_50 : decode cX5_init 50 = .ok (.newarray .boolean, 2) := by decide +kernel
theorem dX5_init_52 : decode cX5_init 52 = .ok (.putfield 26, 3) := by decide +kernel
theorem dX5_init_55 : decode cX5_init 55 = .ok (.aload_n 0, 1) := by decide +kernel
theorem dX5_init_56 : decode cX5_init 56 = .ok (.iconst 4, 1) := by decide +kernel
theorem dX5_init_57 : decode cX5_init 57 = .ok (.newarray .long, 2) := by decide +kernel
theorem dX5_init_59 : decode cX5_init 59 = .ok (.putfield 30, 3) := by decide +kernel
theorem dX5_init_62 : decode cX5_init 62 = .ok (.aload_n 0, 1) := by decide +kernel
theorem dX5_init_63 : decode cX5_init 63 = .ok (.bipush 48, 2) := by decide +kernel
theorem dX5_init_65 : decode cX5_init 65 = .ok (.newarray .long, 2) := by decide +kernel
theorem dX5_init_67 : decode cX5_init 67 = .ok (.putfield 33, 3) := by decide +kernel
theorem dX5_init_70 : decode cX5_init 70 = .ok (.aload_n 0, 1) := by decide +kernel
theorem dX5_init_71 : decode cX5_init 71 = .ok (.bipush 16, 2) := by decide +kernel
theorem dX5_init_73 : decode cX5_init 73 = .ok (.newarray .int, 2) := by decide +kernel
theorem dX5_init_75 : decode cX5_init 75 = .ok (.putfield 36, 3) := by decide +kernel
theorem dX5_init_78 : decode cX5_init 78 = .ok (.aload_n 0, 1) := by decide +kernel
theorem dX5_init_79 : decode cX5_init 79 = .ok (.iconst 4, 1) := by decide +kernel
theorem dX5_init_80 : decode cX5_init 80 = .ok (.newarray .long, 2) := by decide +kernel
theorem dX5_init_82 : decode cX5_init 82 = .ok (.putfield 39, 3) := by decide +kernel
theorem dX5_init_85 : decode cX5_init 85 = .ok (.aload_n 0, 1) := by decide +kernel
theorem dX5_init_86 : decode cX5_init 86 = .ok (.iconst 4, 1) := by decide +kernel
theorem dX5_init_87 : decode cX5_init 87 = .ok (.newarray .long, 2) := by decide +kernel
theorem dX5_init_89 : decode cX5_init 89 = .ok (.putfield 42, 3) := by decide +kernel
theorem dX5_init_92 : decode cX5_init 92 = .ok (.aload_n 0, 1) := by decide +kernel
theorem dX5_init_93 : decode cX5_init 93 = .ok (.bipush 12, 2) := by decide +kernel
theorem dX5_init_95 : decode cX5_init 95 = .ok (.newarray .long, 2) := by decide +kernel
theorem dX5_init_97 : decode cX5_init 97 = .ok (.putfield 45, 3) := by decide +kernel
theorem dX5_init_100 : decode cX5_init 100 = .ok (.aload_n 0, 1) := by decide +kernel
theorem dX5_init_101 : decode cX5_init 101 = .ok (.bipush 12, 2) := by decide +kernel
theorem dX5_init_103 : decode cX5_init 103 = .ok (.newarray .long, 2) := by decide +kernel
theorem dX5_init_105 : decode cX5_init 105 = .ok (.putfield 48, 3) := by decide +kernel
theorem dX5_init_108 : decode cX5_init 108 = .ok (.aload_n 0, 1) := by decide +kernel
theorem dX5_init_109 : decode cX5_init 109 = .ok (.invokevirtual 51, 3) := by decide +kernel
theorem dX5_init_112 : decode cX5_init 112 = .ok (.return_, 1) := by decide +kernel
theorem dX5_thrown_0 : decode cX5_thrown 0 = .ok (.aload_n 0, 1) := by decide +kernel
theorem dX5_thrown_1 : decode cX5_thrown 1 = .ok (.getfield 54, 3) := by decide +kernel
theorem dX5_thrown_4 : decode cX5_thrown 4 = .ok (.ireturn, 1) := by decide +kernel
theorem dX5_reset_0 : decode cX5_reset 0 = .ok (.aload_n 0, 1) := by decide +kernel
theorem dX5_reset_1 : decode cX5_reset 1 = .ok (.iconst 0, 1) := by decide +kernel
theorem dX5_reset_2 : decode cX5_reset 2 = .ok (.putfield 58, 3) := by decide +kernel
theorem dX5_reset_5 : decode cX5_reset 5 = .ok (.aload_n 0, 1) := by decide +kernel
theorem dX5_reset_6 : decode cX5_reset 6 = .ok (.iconst 0, 1) := by decide +kernel
theorem dX5_reset_7 : decode cX5_reset 7 = .ok (.putfield 61, 3) := by decide +kernel
theorem dX5_reset_10 : decode cX5_reset 10 = .ok (.aload_n 0, 1) := by decide +kernel
theorem dX5_reset_11 : decode cX5_reset 11 = .ok (.iconst 0, 1) := by decide +kernel
theorem dX5_reset_12 : decode cX5_reset 12 = .ok (.putfield 64, 3) := by decide +kernel
theorem dX5_reset_15 : decode cX5_reset 15 = .ok (.iconst 0, 1) := by decide +kernel
theorem dX5_reset_16 : decode cX5_reset 16 = .ok (.istore_n 1, 1) := by decide +kernel
theorem dX5_reset_17 : decode cX5_reset 17 = .ok (.iload_n 1, 1) := by decide +kernel
theorem dX5_reset_18 : decode cX5_reset 18 = .ok (.sipush 576, 3) := by decide +kernel
theorem dX5_reset_21 : decode cX5_reset 21 = .ok (.if_icmp .ge 16, 3) := by decide +kernel
theorem dX5_reset_24 : decode cX5_reset 24 = .ok (.aload_n 0, 1) := by decide +kernel
theorem dX5_reset_25 : decode cX5_reset 25 = .ok (.getfield 26, 3) := by decide +kernel
theorem dX5_reset_28 : decode cX5_reset 28 = .ok (.iload_n 1, 1) := by decide +kernel
theorem dX5_reset_29 : decode cX5_reset 29 = .ok (.iconst 0, 1) := by decide +kernel
theorem dX5_reset_30 : decode cX5_reset 30 = .ok (.bastore, 1) := by decide +kernel
theorem dX5_reset_31 : decode cX5_reset 31 = .ok (.iinc 1 1, 3) := by decide +kernel
theorem dX5_reset_34 : decode cX5_reset 34 = .ok (.goto (-17), 3) := by decide +kernel
theorem dX5_reset_37 : decode cX5_reset 37 = .ok (.aload_n 0, 1) := by decide +kernel
theorem dX5_reset_38 : decode cX5_reset 38 = .ok (.getfield 30, 3) := by decide +kernel
theorem dX5_reset_41 : decode cX5_reset 41 = .ok (.iconst 0, 1) := by decide +kernel
theorem dX5_reset_42 : decode cX5_reset 42 = .ok (.ldc2_w 67, 3) := by decide +kernel
theorem dX5_reset_45 : decode cX5_reset 45 = .ok (.lastore, 1) := by decide +kernel
theorem dX5_reset_46 : decode cX5_reset 46 = .ok (.aload_n 0, 1) := by decide +kernel
theorem dX5_reset_47 : decode cX5_reset 47 = .ok (.getfield 30, 3) := by decide +kernel
theorem dX5_reset_50 : decode cX5_reset 50 = .ok (.iconst 1, 1) := by decide +kernel
theorem dX5_reset_51 : decode cX5_reset 51 = .ok (.ldc2_w 67, 3) := by decide +kernel
theorem dX5_reset_54 : decode cX5_reset 54 = .ok (.lastore, 1) := by decide +kernel
theorem dX5_reset_55 : decode cX5_reset 55 = .ok (.aload_n 0, 1) := by decide +kernel
theorem dX5_reset_56 : decode cX5_reset 56 = .ok (.getfield 30, 3) := by decide +kernel
theorem dX5_reset_59 : decode cX5_reset 59 = .ok (.iconst 2, 1) := by decide +kernel
theorem dX5_reset_60 : decode cX5_reset 60 = .ok (.ldc2_w 69, 3) := by decide +kernel
theorem dX5_reset_63 : decode cX5_reset 63 = .ok (.lastore, 1) := by decide +kernel
theorem dX5_reset_64 : decode cX5_reset 64 = .ok (.aload_n 0, 1) := by decide +kernel
theorem dX5_reset_65 : decode cX5_reset 65 = .ok (.getfield 30, 3) := by decide +kernel
theorem dX5_reset_68 : decode cX5_reset 68 = .ok (.iconst 3, 1) := by decide +kernel
theorem dX5_reset_69 : decode cX5_reset 69 = .ok (.ldc2_w 69, 3) := by decide +kernel
theorem dX5_reset_72 : decode cX5_reset 72 = .ok (.lastore, 1) := by decide +kernel
theorem dX5_reset_73 : decode cX5_reset 73 = .ok (.return_, 1) := by decide +kernel
set_option maxRecDepth 20000 in
theorem ggX5_clear_X5_reset : GoodIn wsX5_clear wsX5_reset := goodIn_r _ [6, 7, 8, 9, 10, 11, 12, 13, 14, 15, 16, 17, 18, 19, 20, 21, 22, 23, 24, 25, 26, 27, 28, 29, 30, 31, 32, 33, 34, 35, 36, 37, 38] (by decide +kernel) (by decide +kernel)
set_option maxRecDepth 20000 in
theorem gX5_clear_X5_reset : GoodIn wsX5_clear (wsV RX5 51 RX5 yX5_reset wsX5_reset) := goodIn_app (goodIn_of _ (by decide +kernel)) ggX5_clear_X5_reset
theorem dX5_clear_0 : decode cX5_clear 0 = .ok (.aload_n 0, 1) := by decide +kernel
theorem dX5_clear_1 : decode cX5_clear 1 = .ok (.iconst 0, 1) := by decide +kernel
theorem dX5_clear_2 : decode cX5_clear 2 = .ok (.putfield 54, 3) := by decide +kernel
theorem dX5_clear_5 : decode cX5_clear 5 = .ok (.aload_n 0, 1) := by decide +kernel
theorem dX5_clear_6 : decode cX5_clear 6 = .ok (.invokevirtual 51, 3) := by decide +kernel
theorem dX5_clear_9 : decode cX5_clear 9 = .ok (.return_, 1) := by decide +kernel
theorem dX5_isIn_0 : decode cX5_isIn 0 = .ok (.lload_n 0, 1) := by decide +kernel
theorem dX5_isIn_1 : decode cX5_isIn 1 = .ok (.ldc2_w 71, 3) := by decide +kernel
theorem dX5_isIn_4 : decode cX5_isIn 4 = .ok (.lcmp, 1) := by decide +kernel
theorem dX5_isIn_5 : decode cX5_isIn 5 = .ok (.ifCond .lt 15, 3) := by decide +kernel
theorem dX5_isIn_8 : decode cX5_isIn 8 = .ok (.lload_n 0, 1) := by decide +kernel
theorem dX5_isIn_9 : decode cX5_isIn 9 = .ok (.ldc2_w 73, 3) := by decide +kernel
theorem dX5_isIn_12 : decode cX5_isIn 12 = .ok (.lcmp, 1) := by decide +kernel
theorem dX5_isIn_13 : decode cX5_isIn 13 = .ok (.ifCond .gt 7, 3) := by decide +kernel
theorem dX5_isIn_16 : decode cX5_isIn 16 = .ok (.iconst 1, 1) := by decide +kernel
theorem dX5_isIn_17 : decode cX5_isIn 17 = .ok (.goto 4, 3) := by decide +kernel
theorem dX5_isIn_20 : decode cX5_isIn 20 = .ok (.iconst 0, 1) := by decide +kernel
theorem dX5_isIn_21 : decode cX5_isIn 21 = .ok (.ireturn, 1) := by decide +kernel
theorem dX5_isShape_0 : decode cX5_isShape 0 = .ok (.iload_n 1, 1) := by decide +kernel
theorem dX5_isShape_1 : decode cX5_isShape 1 = .ok (.ifCond .lt 15, 3) := by decide +kernel
theorem dX5_isShape_4 : decode cX5_isShape 4 = .ok (.iload_n 1, 1) := by decide +kernel
theorem dX5_isShape_5 : decode cX5_isShape 5 = .ok (.aload_n 0, 1) := by decide +kernel
theorem dX5_isShape_6 : decode cX5_isShape 6 = .ok (.getfield 58, 3) := by decide +kernel
theorem dX5_isShape_9 : decode cX5_isShape 9 = .ok (.if_icmp .ge 7, 3) := by decide +kernel
theorem dX5_isShape_12 : decode cX5_isShape 12 = .ok (.iconst 1, 1) := by decide +kernel
theorem dX5_isShape_13 : decode cX5_isShape 13 = .ok (.goto 4, 3) := by decide +kernel
theorem dX5_isShape_16 : decode cX5_isShape 16 = .ok (.iconst 0, 1) := by decide +kernel
theorem dX5_isShape_17 : decode cX5_isShape 17 = .ok (.ireturn, 1) := by decide +kernel
theorem dX5_shape_0 : decode cX5_shape 0 = .ok (.aload_n 0, 1) := by decide +kernel
theorem dX5_shape_1 : decode cX5_shape 1 = .ok (.aload_n 0, 1) := by decide +kernel
theorem dX5_shape_2 : decode cX5_shape 2 = .ok (.getfield 58, 3) := by decide +kernel
theorem dX5_shape_5 : decode cX5_shape 5 = .ok (.bipush 16, 2) := by decide +kernel
theorem dX5_shape_7 : decode cX5_shape 7 = .ok (.if_icmp .ne 7, 3) := by decide +kernel
theorem dX5_shape_10 : decode cX5_shape 10 = .ok (.iconst 1, 1) := by decide +kernel
theorem dX5_shape_11 : decode cX5_shape 11 = .ok (.goto 4, 3) := by decide +kernel
theorem dX5_shape_14 : decode cX5_shape 14 = .ok (.iconst 0, 1) := by decide +kernel
theorem dX5_shape_15 : decode cX5_shape 15 = .ok (.putfield 54, 3) := by decide +kernel
theorem dX5_shape_18 : decode cX5_shape 18 = .ok (.aload_n 0, 1) := by decide +kernel
theorem dX5_shape_19 : decode cX5_shape 19 = .ok (.getfield 54, 3) := by decide +kernel
theorem dX5_shape_22 : decode cX5_shape 22 = .ok (.ifCond .le 5, 3) := by decide +kernel
theorem dX5_shape_25 : decode cX5_shape 25 = .ok (.iconst 0, 1) := by decide +kernel
theorem dX5_shape_26 : decode cX5_shape 26 = .ok (.ireturn, 1) := by decide +kernel
theorem dX5_shape_27 : decode cX5_shape 27 = .ok (.aload_n 0, 1) := by decide +kernel
theorem dX5_shape_28 : decode cX5_shape 28 = .ok (.getfield 16, 3) := by decide +kernel
theorem dX5_shape_31 : decode cX5_shape 31 = .ok (.aload_n 0, 1) := by decide +kernel
theorem dX5_shape_32 : decode cX5_shape 32 = .ok (.getfield 58, 3) := by decide +kernel
theorem dX5_shape_35 : decode cX5_shape 35 = .ok (.iconst 0, 1) := by decide +kernel
theorem dX5_shape_36 : decode cX5_shape 36 = .ok (.iastore, 1) := by decide +kernel
theorem dX5_shape_37 : decode cX5_shape 37 = .ok (.aload_n 0, 1) := by decide +kernel
theorem dX5_shape_38 : decode cX5_shape 38 = .ok (.dup, 1) := by decide +kernel
theorem dX5_shape_39 : decode cX5_shape 39 = .ok (.getfield 58, 3) := by decide +kernel
theorem dX5_shape_42 : decode cX5_shape 42 = .ok (.iconst 1, 1) := by decide +kernel
theorem dX5_shape_43 : decode cX5_shape 43 = .ok (.iadd, 1) := by decide +kernel
theorem dX5_shape_44 : decode cX5_shape 44 = .ok (.putfield 58, 3) := by decide +kernel
theorem dX5_shape_47 : decode cX5_shape 47 = .ok (.aload_n 0, 1) := by decide +kernel
theorem dX5_shape_48 : decode cX5_shape 48 = .ok (.getfield 58, 3) := by decide +kernel
theorem dX5_shape_51 : decode cX5_shape 51 = .ok (.iconst 1, 1) := by decide +kernel
theorem dX5_shape_52 : decode cX5_shape 52 = .ok (.isub, 1) := by decide +kernel
theorem dX5_shape_53 : decode cX5_shape 53 = .ok (.ireturn, 1) := by decide +kernel
theorem dX5_turn_0 : decode cX5_turn 0 = .ok (.lload 4, 2) := by decide +kernel
theorem dX5_turn_2 : decode cX5_turn 2 = .ok (.lload_n 0, 1) := by decide +kernel
theorem dX5_turn_3 : decode cX5_turn 3 = .ok (.lsub, 1) := by decide +kernel
theorem dX5_turn_4 : decode cX5_turn 4 = .ok (.lload 10, 2) := by decide +kernel
theorem dX5_turn_6 : decode cX5_turn 6 = .ok (.lload_n 2, 1) := by decide +kernel
theorem dX5_turn_7 : decode cX5_turn 7 = .ok (.lsub, 1) := by decide +kernel
theorem dX5_turn_8 : decode cX5_turn 8 = .ok (.lmul, 1) := by decide +kernel
theorem dX5_turn_9 : decode cX5_turn 9 = .ok (.lload 6, 2) := by decide +kernel
theorem dX5_turn_11 : decode cX5_turn 11 = .ok (.lload_n 2, 1) := by decide +kernel
theorem dX5_turn_12 : decode cX5_turn 12 = .ok (.lsub, 1) := by decide +kernel
theorem dX5_turn_13 : decode cX5_turn 13 = .ok (.lload 8, 2) := by decide +kernel
theorem dX5_turn_15 : decode cX5_turn 15 = .ok (.lload_n 0, 1) := by decide +kernel
theorem dX5_turn_16 : decode cX5_turn 16 = .ok (.lsub, 1) := by decide +kernel
theorem dX5_turn_17 : decode cX5_turn 17 = .ok (.lmul, 1) := by decide +kernel
theorem dX5_turn_18 : decode cX5_turn 18 = .ok (.lsub, 1) := by decide +kernel
theorem dX5_turn_19 : decode cX5_turn 19 = .ok (.lreturn, 1) := by decide +kernel
theorem dX5_isBetween_0 : decode cX5_isBetween 0 = .ok (.lload_n 0, 1) := by decide +kernel
theorem dX5_isBetween_1 : decode cX5_isBetween 1 = .ok (.lload 4, 2) := by decide +kernel
theorem dX5_isBetween_3 : decode cX5_isBetween 3 = .ok (.lcmp, 1) := by decide +kernel
theorem dX5_isBetween_4 : decode cX5_isBetween 4 = .ok (.ifCond .gt 10, 3) := by decide +kernel
theorem dX5_isBetween_7 : decode cX5_isBetween 7 = .ok (.lload 4, 2) := by decide +kernel
theorem dX5_isBetween_9 : decode cX5_isBetween 9 = .ok (.lload_n 2, 1) := by decide +kernel
theorem dX5_isBetween_10 : decode cX5_isBetween 10 = .ok (.lcmp, 1) := by decide +kernel
theorem dX5_isBetween_11 : decode cX5_isBetween 11 = .ok (.ifCond .le 17, 3) := by decide +kernel
theorem dX5_isBetween_14 : decode cX5_isBetween 14 = .ok (.lload_n 2, 1) := by decide +kernel
theorem dX5_isBetween_15 : decode cX5_isBetween 15 = .ok (.lload 4, 2) := by decide +kernel
theorem dX5_isBetween_17 : decode cX5_isBetween 17 = .ok (.lcmp, 1) := by decide +kernel
theorem dX5_isBetween_18 : decode cX5_isBetween 18 = .ok (.ifCond .gt 14, 3) := by decide +kernel
theorem dX5_isBetween_21 : decode cX5_isBetween 21 = .ok (.lload 4, 2) := by decide +kernel
theorem dX5_isBetween_23 : decode cX5_isBetween 23 = .ok (.lload_n 0, 1) := by decide +kernel
theorem dX5_isBetween_24 : decode cX5_isBetween 24 = .ok (.lcmp, 1) := by decide +kernel
theorem dX5_isBetween_25 : decode cX5_isBetween 25 = .ok (.ifCond .gt 7, 3) := by decide +kernel
theorem dX5_isBetween_28 : decode cX5_isBetween 28 = .ok (.iconst 1, 1) := by decide +kernel
theorem dX5_isBetween_29 : decode cX5_isBetween 29 = .ok (.goto 4, 3) := by decide +kernel
theorem dX5_isBetween_32 : decode cX5_isBetween 32 = .ok (.iconst 0, 1) := by decide +kernel
theorem dX5_isBetween_33 : decode cX5_isBetween 33 = .ok (.ireturn, 1) := by decide +kernel
set_option maxRecDepth 20000 in
theorem ggX5_isOn_X5_turn : GoodIn wsX5_isOn wsX5_turn := goodIn_r _ [4] (by decide +kernel) (by decide +kernel)
set_option maxRecDepth 20000 in
theorem gX5_isOn_X5_turn : GoodIn wsX5_isOn (va_wsS RX5 75 yX5_turn wsX5_turn) := goodIn_app (goodIn_of _ (by decide +kernel)) ggX5_isOn_X5_turn
set_option maxRecDepth 20000 in
theorem ggX5_isOn_X5_isBetween : GoodIn wsX5_isOn wsX5_isBetween := goodIn_r _ [7] (by decide +kernel) (by decide +kernel)
set_option maxRecDepth 20000 in
theorem gX5_isOn_X5_isBetween : GoodIn wsX5_isOn (va_wsS RX5 79 yX5_isBetween wsX5_isBetween) := goodIn_app (goodIn_of _ (by decide +kernel)) ggX5_isOn_X5_isBetween
theorem dX5_isOn_0 : decode cX5_isOn 0 = .ok (.lload_n 0, 1) := by decide +kernel
theorem dX5_isOn_1 : decode cX5_isOn 1 = .ok (.lload_n 2, 1) := by decide +kernel
theorem dX5_isOn_2 : decode cX5_isOn 2 = .ok (.lload 4, 2) := by decide +kernel
theorem dX5_isOn_4 : decode cX5_isOn 4 = .ok (.lload 6, 2) := by decide +kernel
theorem dX5_isOn_6 : decode cX5_isOn 6 = .ok (.lload 8, 2) := by decide +kernel
theorem dX5_isOn_8 : decode cX5_isOn 8 = .ok (.lload 10, 2) := by decide +kernel
theorem dX5_isOn_10 : decode cX5_isOn 10 = .ok (.invokestatic 75, 3) := by decide +kernel
theorem dX5_isOn_13 : decode cX5_isOn 13 = .ok (.lconst 0, 1) := by decide +kernel
theorem dX5_isOn_14 : decode cX5_isOn 14 = .ok (.lcmp, 1) := by decide +kernel
theorem dX5_isOn_15 : decode cX5_isOn 15 = .ok (.ifCond .ne 29, 3) := by decide +kernel
theorem dX5_isOn_18 : decode cX5_isOn 18 = .ok (.lload_n 0, 1) := by decide +kernel
theorem dX5_isOn_19 : decode cX5_isOn 19 = .ok (.lload 4, 2) := by decide +kernel
theorem dX5_isOn_21 : decode cX5_isOn 21 = .ok (.lload 8, 2) := by decide +kernel
theorem dX5_isOn_23 : decode cX5_isOn 23 = .ok (.invokestatic 79, 3) := by decide +kernel
theorem dX5_isOn_26 : decode cX5_isOn 26 = .ok (.ifCond .eq 18, 3) := by decide +kernel
theorem dX5_isOn_29 : decode cX5_isOn 29 = .ok (.lload_n 2, 1) := by decide +kernel
theorem dX5_isOn_30 : decode cX5_isOn 30 = .ok (.lload 6, 2) := by decide +kernel
theorem dX5_isOn_32 : decode cX5_isOn 32 = .ok (.lload 10, 2) := by decide +kernel
theorem dX5_isOn_34 : decode cX5_isOn 34 = .ok (.invokestatic 79, 3) := by decide +kernel
theorem dX5_isOn_37 : decode cX5_isOn 37 = .ok (.ifCond .eq 7, 3) := by decide +kernel
theorem dX5_isOn_40 : decode cX5_isOn 40 = .ok (.iconst 1, 1) := by decide +kernel
theorem dX5_isOn_41 : decode cX5_isOn 41 = .ok (.goto 4, 3) := by decide +kernel
theorem dX5_isOn_44 : decode cX5_isOn 44 = .ok (.iconst 0, 1) := by decide +kernel
theorem dX5_isOn_45 : decode cX5_isOn 45 = .ok (.ireturn, 1) := by decide +kernel
set_option maxRecDepth 20000 in
theorem ggX5_isInside_X5_isOn : GoodIn wsX5_isInside wsX5_isOn := goodIn_r _ [7, 8, 9, 6, 10, 11, 12, 13] (by decide +kernel) (by decide +kernel)
set_option maxRecDepth 20000 in
theorem gX5_isInside_X5_isOn : GoodIn wsX5_isInside (va_wsS RX5 83 yX5_isOn wsX5_isOn) := goodIn_app (goodIn_of _ (by decide +kernel)) ggX5_isInside_X5_isOn
set_option maxRecDepth 20000 in
theorem ggX5_isInside_X5_isInTriangle : GoodIn wsX5_isInside wsX5_isInTriangle := goodIn_r _ [17, 2, 3, 8, 9, 6, 10, 18, 19, 20, 21, 22, 23, 24, 25, 26, 27, 28, 29, 30, 31, 32, 33, 34, 35, 36, 37, 38, 39, 40, 41, 42] (by decide +kernel) (by decide +kernel)
set_option maxRecDepth 20000 in
theorem gX5_isInside_X5_isInTriangle : GoodIn wsX5_isInside (wsV RX5 87 RX5 yX5_isInTriangle wsX5_isInTriangle) := goodIn_app (goodIn_of _ (by decide +kernel)) ggX5_isInside_X5_isInTriangle
theorem dX5_isInside_0 : decode cX5_isInside 0 = .ok (.bipush 16, 2) := by decide +kernel
theorem dX5_isInside_2 : decode cX5_isInside 2 = .ok (.iload_n 1, 1) := by decide +kernel
theorem dX5_isInside_3 : decode cX5_isInside 3 = .ok (.imul, 1) := by decide +kernel
theorem dX5_isInside_4 : decode cX5_isInside 4 = .ok (.istore 7, 2) := by decide +kernel
theorem dX5_isInside_6 : decode cX5_isInside 6 = .ok (.iload 7, 2) := by decide +kernel
theorem dX5_isInside_8 : decode cX5_isInside 8 = .ok (.aload_n 0, 1) := by decide +kernel
theorem dX5_isInside_9 : decode cX5_isInside 9 = .ok (.getfield 16, 3) := by decide +kernel
theorem dX5_isInside_12 : decode cX5_isInside 12 = .ok (.iload_n 1, 1) := by decide +kernel
theorem dX5_isInside_13 : decode cX5_isInside 13 = .ok (.iaload, 1) := by decide +kernel
theorem dX5_isInside_14 : decode cX5_isInside 14 = .ok (.iadd, 1) := by decide +kernel
theorem dX5_isInside_15 : decode cX5_isInside 15 = .ok (.istore 8, 2) := by decide +kernel
theorem dX5_isInside_17 : decode cX5_isInside 17 = .ok (.iload 7, 2) := by decide +kernel
theorem dX5_isInside_19 : decode cX5_isInside 19 = .ok (.istore 9, 2) := by decide +kernel
theorem dX5_isInside_21 : decode cX5_isInside 21 = .ok (.iload 9, 2) := by decide +kernel
theorem dX5_isInside_23 : decode cX5_isInside 23 = .ok (.iload 8, 2) := by decide +kernel
theorem dX5_isInside_25 : decode cX5_isInside 25 = .ok (.if_icmp .ge 198, 3) := by decide +kernel
theorem dX5_isInside_28 : decode cX5_isInside 28 = .ok (.iload 6, 2) := by decide +kernel
theorem dX5_isInside_30 : decode cX5_isInside 30 = .ok (.ifCond .eq 31, 3) := by decide +kernel
theorem dX5_isInside_33 : decode cX5_isInside 33 = .ok (.aload_n 0, 1) := by decide +kernel
theorem dX5_isInside_34 : decode cX5_isInside 34 = .ok (.getfield 7, 3) := by decide +kernel
theorem dX5_isInside_37 : decode cX5_isInside 37 = .ok (.iload 9, 2) := by decide +kernel
theorem dX5_isInside_39 : decode cX5_isInside 39 = .ok (.laload, 1) := by decide +kernel
theorem dX5_isInside_40 : decode cX5_isInside 40 = .ok (.lload_n 2, 1) := by decide +kernel
theorem dX5_isInside_41 : decode cX5_isInside 41 = .ok (.lcmp, 1) := by decide +kernel
theorem dX5_isInside_42 : decode cX5_isInside 42 = .ok (.ifCond .ne 19, 3) := by decide +kernel
theorem dX5_isInside_45 : decode cX5_isInside 45 = .ok (.aload_n 0, 1) := by decide +kernel
theorem dX5_isInside_46 : decode cX5_isInside 46 = .ok (.getfield 13, 3) := by decide +kernel
theorem dX5_isInside_49 : decode cX5_isInside 49 = .ok (.iload 9, 2) := by decide +kernel
theorem dX5_isInside_51 : decode cX5_isInside 51 = .ok (.laload, 1) := by decide +kernel
theorem dX5_isInside_52 : decode cX5_isInside 52 = .ok (.lload 4, 2) := by decide +kernel
theorem dX5_isInside_54 : decode cX5_isInside 54 = .ok (.lcmp, 1) := by decide +kernel
theorem dX5_isInside_55 : decode cX5_isInside 55 = .ok (.ifCond .ne 6, 3) := by decide +kernel
theorem dX5_isInside_58 : decode cX5_isInside 58 = .ok (.goto 159, 3) := by decide +kernel
theorem dX5_isInside_61 : decode cX5_isInside 61 = .ok (.iload 9, 2) := by decide +kernel
theorem dX5_isInside_63 : decode cX5_isInside 63 = .ok (.istore 10, 2) := by decide +kernel
theorem dX5_isInside_65 : decode cX5_isInside 65 = .ok (.iload 10, 2) := by decide +kernel
theorem dX5_isInside_67 : decode cX5_isInside 67 = .ok (.iload 8, 2) := by decide +kernel
theorem dX5_isInside_69 : decode cX5_isInside 69 = .ok (.if_icmp .ge 148, 3) := by decide +kernel
theorem dX5_isInside_72 : decode cX5_isInside 72 = .ok (.iload 6, 2) := by decide +kernel
theorem dX5_isInside_74 : decode cX5_isInside 74 = .ok (.ifCond .eq 31, 3) := by decide +kernel
theorem dX5_isInside_77 : decode cX5_isInside 77 = .ok (.aload_n 0, 1) := by decide +kernel
theorem dX5_isInside_78 : decode cX5_isInside 78 = .ok (.getfield 7, 3) := by decide +kernel
theorem dX5_isInside_81 : decode cX5_isInside 81 = .ok (.iload 10, 2) := by decide +kernel
theorem dX5_isInside_83 : decode cX5_isInside 83 = .ok (.laload, 1) := by decide +kernel
theorem dX5_isInside_84 : decode cX5_isInside 84 = .ok (.lload_n 2, 1) := by decide +kernel
theorem dX5_isInside_85 : decode cX5_isInside 85 = .ok (.lcmp, 1) := by decide +kernel
theorem dX5_isInside_86 : decode cX5_isInside 86 = .ok (.ifCond .ne 19, 3) := by decide +kernel
theorem dX5_isInside_89 : decode cX5_isInside 89 = .ok (.aload_n 0, 1) := by decide +kernel
theorem dX5_isInside_90 : decode cX5_isInside 90 = .ok (.getfield 13, 3) := by decide +kernel
theorem dX5_isInside_93 : decode cX5_isInside 93 = .ok (.iload 10, 2) := by decide +kernel
theorem dX5_isInside_95 : decode cX5_isInside 95 = .ok (.laload, 1) := by decide +kernel
theorem dX5_isInside_96 : decode cX5_isInside 96 = .ok (.lload 4, 2) := by decide +kernel
theorem dX5_isInside_98 : decode cX5_isInside 98 = .ok (.lcmp, 1) := by decide +kernel
theorem dX5_isInside_99 : decode cX5_isInside 99 = .ok (.ifCond .ne 6, 3) := by decide +kernel
theorem dX5_isInside_102 : decode cX5_isInside 102 = .ok (.goto 109, 3) := by decide +kernel
theorem dX5_isInside_105 : decode cX5_isInside 105 = .ok (.aload_n 0, 1) := by decide +kernel
theorem dX5_isInside_106 : decode cX5_isInside 106 = .ok (.getfield 7, 3) := by decide +kernel
theorem dX5_isInside_109 : decode cX5_isInside 109 = .ok (.iload 9, 2) := by decide +kernel
theorem dX5_isInside_111 : decode cX5_isInside 111 = .ok (.laload, 1) := by decide +kernel
theorem dX5_isInside_112 : decode cX5_isInside 112 = .ok (.aload_n 0, 1) := by decide +kernel
theorem dX5_isInside_113 : decode cX5_isInside 113 = .ok (.getfield 13, 3) := by decide +kernel
theorem dX5_isInside_116 : decode cX5_isInside 116 = .ok (.iload 9, 2) := by decide +kernel
theorem dX5_isInside_118 : decode cX5_isInside 118 = .ok (.laload, 1) := by decide +kernel
theorem dX5_isInside_119 : decode cX5_isInside 119 = .ok (.aload_n 0, 1) := by decide +kernel
theorem dX5_isInside_120 : decode cX5_isInside 120 = .ok (.getfield 7, 3) := by decide +kernel
theorem dX5_isInside_123 : decode cX5_isInside 123 = .ok (.iload 10, 2) := by decide +kernel
theorem dX5_isInside_125 : decode cX5_isInside 125 = .ok (.laload, 1) := by decide +kernel
theorem dX5_isInside_126 : decode cX5_isInside 126 = .ok (.aload_n 0, 1) := by decide +kernel
theorem dX5_isInside_127 : decode cX5_isInside 127 = .ok (.getfield 13, 3) := by decide +kernel
theorem dX5_isInside_130 : decode cX5_isInside 130 = .ok (.iload 10, 2) := by decide +kernel
theorem dX5_isInside_132 : decode cX5_isInside 132 = .ok (.laload, 1) := by decide +kernel
theorem dX5_isInside_133 : decode cX5_isInside 133 = .ok (.lload_n 2, 1) := by decide +kernel
theorem dX5_isInside_134 : decode cX5_isInside 134 = .ok (.lload 4, 2) := by decide +kernel
theorem dX5_isInside_136 : decode cX5_isInside 136 = .ok (.invokestatic 83, 3) := by decide +kernel
theorem dX5_isInside_139 : decode cX5_isInside 139 = .ok (.ifCond .eq 5, 3) := by decide +kernel
theorem dX5_isInside_142 : decode cX5_isInside 142 = .ok (.iconst 1, 1) := by decide +kernel
theorem dX5_isInside_143 : decode cX5_isInside 143 = .ok (.ireturn, 1) := by decide +kernel
theorem dX5_isInside_144 : decode cX5_isInside 144 = .ok (.iload 10, 2) := by decide +kernel
theorem dX5_isInside_146 : decode cX5_isInside 146 = .ok (.iconst 1, 1) := by decide +kernel
theorem dX5_isInside_147 : decode cX5_isInside 147 = .ok (.iadd, 1) := by decide +kernel
theorem dX5_isInside_148 : decode cX5_isInside 148 = .ok (.istore 11, 2) := by decide +kernel
theorem dX5_isInside_150 : decode cX5_isInside 150 = .ok (.iload 11, 2) := by decide +kernel
theorem dX5_isInside_152 : decode cX5_isInside 152 = .ok (.iload 8, 2) := by decide +kernel
theorem dX5_isInside_154 : decode cX5_isInside 154 = .ok (.if_icmp .ge 57, 3) := by decide +kernel
theorem dX5_isInside_157 : decode cX5_isInside 157 = .ok (.iload 6, 2) := by decide +kernel
theorem dX5_isInside_159 : decode cX5_isInside 159 = .ok (.ifCond .eq 28, 3) := by decide +kernel
theorem dX5_isInside_162 : decode cX5_isInside 162 = .ok (.aload_n 0, 1) := by decide +kernel
theorem dX5_isInside_163 : decode cX5_isInside 163 = .ok (.getfield 7, 3) := by decide +kernel
theorem dX5_isInside_166 : decode cX5_isInside 166 = .ok (.iload 11, 2) := by decide +kernel
theorem dX5_isInside_168 : decode cX5_isInside 168 = .ok (.laload, 1) := by decide +kernel
theorem dX5_isInside_169 : decode cX5_isInside 169 = .ok (.lload_n 2, 1) := by decide +kernel
theorem dX5_isInside_170 : decode cX5_isInside 170 = .ok (.lcmp, 1) := by decide +kernel
theorem dX5_isInside_171 : decode cX5_isInside 171 = .ok (.ifCond .ne 16, 3) := by decide +kernel
theorem dX5_isInside_174 : decode cX5_isInside 174 = .ok (.aload_n 0, 1) := by decide +kernel
theorem dX5_isInside_175 : decode cX5_isInside 175 = .ok (.getfield 13, 3) := by decide +kernel
theorem dX5_isInside_178 : decode cX5_isInside 178 = .ok (.iload 11, 2) := by decide +kernel
theorem dX5_isInside_180 : decode cX5_isInside 180 = .ok (.laload, 1) := by decide +kernel
theorem dX5_isInside_181 : decode cX5_isInside 181 = .ok (.lload 4, 2) := by decide +kernel
theorem dX5_isInside_183 : decode cX5_isInside 183 = .ok (.lcmp, 1) := by decide +kernel
theorem dX5_isInside_184 : decode cX5_isInside 184 = .ok (.ifCond .eq 21, 3) := by decide +kernel
theorem dX5_isInside_187 : decode cX5_isInside 187 = .ok (.aload_n 0, 1) := by decide +kernel
theorem dX5_isInside_188 : decode cX5_isInside 188 = .ok (.iload 9, 2) := by decide +kernel
theorem dX5_isInside_190 : decode cX5_isInside 190 = .ok (.iload 10, 2) := by decide +kernel
theorem dX5_isInside_192 : decode cX5_isInside 192 = .ok (.iload 11, 2) := by decide +kernel
theorem dX5_isInside_194 : decode cX5_isInside 194 = .ok (.lload_n 2, 1) := by decide +kernel
theorem dX5_isInside_195 : decode cX5_isInside 195 = .ok (.lload 4, 2) := by decide +kernel
theorem dX5_isInside_197 : decode cX5_isInside 197 = .ok (.invokevirtual 87, 3) := by decide +kernel
theorem dX5_isInside_200 : decode cX5_isInside 200 = .ok (.ifCond .eq 5, 3) := by decide +kernel
theorem dX5_isInside_203 : decode cX5_isInside 203 = .ok (.iconst 1, 1) := by decide +kernel
theorem dX5_isInside_204 : decode cX5_isInside 204 = .ok (.ireturn, 1) := by decide +kernel
theorem dX5_isInside_205 : decode cX5_isInside 205 = .ok (.iinc 11 1, 3) := by decide +kernel
theorem dX5_isInside_208 : decode cX5_isInside 208 = .ok (.goto (-58), 3) := by decide +kernel
theorem dX5_isInside_211 : decode cX5_isInside 211 = .ok (.iinc 10 1, 3) := by decide +kernel
theorem dX5_isInside_214 : decode cX5_isInside 214 = .ok (.goto (-149), 3) := by decide +kernel
theorem dX5_isInside_217 : decode cX5_isInside 217 = .ok (.iinc 9 1, 3) := by decide +kernel
theorem dX5_isInside_220 : decode cX5_isInside 220 = .ok (.goto (-199), 3) := by decide +kernel
theorem dX5_isInside_223 : decode cX5_isInside 223 = .ok (.iconst 0, 1) := by decide +kernel
theorem dX5_isInside_224 : decode cX5_isInside 224 = .ok (.ireturn, 1) := by decide +kernel
set_option maxRecDepth 20000 in
theorem ggX5_isInTriangle_X5_turn : GoodIn wsX5_isInTriangle wsX5_turn := goodIn_r _ [6] (by decide +kernel) (by decide +kernel)
set_option maxRecDepth 20000 in
theorem gX5_isInTriangle_X5_turn : GoodIn wsX5_isInTriangle (va_wsS RX5 75 yX5_turn wsX5_turn) := goodIn_app (goodIn_of _ (by decide +kernel)) ggX5_isInTriangle_X5_turn
theorem dX5_isInTriangle_0 : decode cX5_isInTriangle 0 = .ok (.aload_n 0, 1) := by decide +kernel
theorem dX5_isInTriangle_1 : decode cX5_isInTriangle 1 = .ok (.getfield 7, 3) := by decide +kernel
theorem dX5_isInTriangle_4 : decode cX5_isInTriangle 4 = .ok (.iload_n 1, 1) := by decide +kernel
theorem dX5_isInTriangle_5 : decode cX5_isInTriangle 5 = .ok (.laload, 1) := by decide +kernel
theorem dX5_isInTriangle_6 : decode cX5_isInTriangle 6 = .ok (.aload_n 0, 1) := by decide +kernel
theorem dX5_isInTriangle_7 : decode cX5_isInTriangle 7 = .ok (.getfield 13, 3) := by decide +kernel
theorem dX5_isInTriangle_10 : decode cX5_isInTriangle 10 = .ok (.iload_n 1, 1) := by decide +kernel
theorem dX5_isInTriangle_11 : decode cX5_isInTriangle 11 = .ok (.laload, 1) := by decide +kernel
theorem dX5_isInTriangle_12 : decode cX5_isInTriangle 12 = .ok (.aload_n 0, 1) := by decide +kernel
theorem dX5_isInTriangle_13 : decode cX5_isInTriangle 13 = .ok (.getfield 7, 3) := by decide +kernel
theorem dX5_isInTriangle_16 : decode cX5_isInTriangle 16 = .ok (.iload_n 2, 1) := by decide +kernel
theorem dX5_isInTriangle_17 : decode cX5_isInTriangle 17 = .ok (.laload, 1) := by decide +kernel
theorem dX5_isInTriangle_18 : decode cX5_isInTriangle 18 = .ok (.aload_n 0, 1) := by decide +kernel
theorem dX5_isInTriangle_19 : decode cX5_isInTriangle 19 = .ok (.getfield 13, 3) := by decide +kernel
theorem dX5_isInTriangle_22 : decode cX5_isInTriangle 22 = .ok (.iload_n 2, 1) := by decide +kernel
theorem dX5_isInTriangle_23 : decode cX5_isInTriangle 23 = .ok (.laload, 1) := by decide +kernel
theorem dX5_isInTriangle_24 : decode cX5_isInTriangle 24 = .ok (.aload_n 0, 1) := by decide +kernel
theorem dX5_isInTriangle_25 : decode cX5_isInTriangle 25 = .ok (.getfield 7, 3) := by decide +kernel
theorem dX5_isInTriangle_28 : decode cX5_isInTriangle 28 = .ok (.iload_n 3, 1) := by decide +kernel
theorem dX5_isInTriangle_29 : decode cX5_isInTriangle 29 = .ok (.laload, 1) := by decide +kernel
theorem dX5_isInTriangle_30 : decode cX5_isInTriangle 30 = .ok (.aload_n 0, 1) := by decide +kernel
theorem dX5_isInTriangle_31 : decode cX5_isInTriangle 31 = .ok (.getfield 13, 3) := by decide +kernel
theorem dX5_isInTriangle_34 : decode cX5_isInTriangle 34 = .ok (.iload_n 3, 1) := by decide +kernel
theorem dX5_isInTriangle_35 : decode cX5_isInTriangle 35 = .ok (.laload, 1) := by decide +kernel
theorem dX5_isInTriangle_36 : decode cX5_isInTriangle 36 = .ok (.invokestatic 75, 3) := by decide +kernel
theorem dX5_isInTriangle_39 : decode cX5_isInTriangle 39 = .ok (.lconst 0, 1) := by decide +kernel
theorem dX5_isInTriangle_40 : decode cX5_isInTriangle 40 = .ok (.lcmp, 1) := by decide +kernel
theorem dX5_isInTriangle_41 : decode cX5_isInTriangle 41 = .ok (.ifCond .ne 5, 3) := by decide +kernel
theorem dX5_isInTriangle_44 : decode cX5_isInTriangle 44 = .ok (.iconst 0, 1) := by decide +kernel
theorem dX5_isInTriangle_45 : decode cX5_isInTriangle 45 = .ok (.ireturn, 1) := by decide +kernel
theorem dX5_isInTriangle_46 : decode cX5_isInTriangle 46 = .ok (.aload_n 0, 1) := by decide +kernel
theorem dX5_isInTriangle_47 : decode cX5_isInTriangle 47 = .ok (.getfield 7, 3) := by decide +kernel
theorem dX5_isInTriangle_50 : decode cX5_isInTriangle 50 = .ok (.iload_n 1, 1) := by decide +kernel
theorem dX5_isInTriangle_51 : decode cX5_isInTriangle 51 = .ok (.laload, 1) := by decide +kernel
theorem dX5_isInTriangle_52 : decode cX5_isInTriangle 52 = .ok (.aload_n 0, 1) := by decide +kernel
theorem dX5_isInTriangle_53 : decode cX5_isInTriangle 53 = .ok (.getfield 13, 3) := by decide +kernel
theorem dX5_isInTriangle_56 : decode cX5_isInTriangle 56 = .ok (.iload_n 1, 1) := by decide +kernel
theorem dX5_isInTriangle_57 : decode cX5_isInTriangle 57 = .ok (.laload, 1) := by decide +kernel
theorem dX5_isInTriangle_58 : decode cX5_isInTriangle 58 = .ok (.aload_n 0, 1) := by decide +kernel
theorem dX5_isInTriangle_59 : decode cX5_isInTriangle 59 = .ok (.getfield 7, 3) := by decide +kernel
theorem dX5_isInTriangle_62 : decode cX5_isInTriangle 62 = .ok (.iload_n 2, 1) := by decide +kernel
theorem dX5_isInTriangle_63 : decode cX5_isInTriangle 63 = .ok (.laload, 1) := by decide +kernel
theorem dX5_isInTriangle_64 : decode cX5_isInTriangle 64 = .ok (.aload_n 0, 1) := by decide +kernel
theorem dX5_isInTriangle_65 : decode cX5_isInTriangle 65 = .ok (.getfield 13, 3) := by decide +kernel
theorem dX5_isInTriangle_68 : decode cX5_isInTriangle 68 = .ok (.iload_n 2, 1) := by decide +kernel
theorem dX5_isInTriangle_69 : decode cX5_isInTriangle 69 = .ok (.laload, 1) := by decide +kernel
theorem dX5_isInTriangle_70 : decode cX5_isInTriangle 70 = .ok (.lload 4, 2) := by decide +kernel
theorem dX5_isInTriangle_72 : decode cX5_isInTriangle 72 = .ok (.lload 6, 2) := by decide +kernel
theorem dX5_isInTriangle_74 : decode cX5_isInTriangle 74 = .ok (.invokestatic 75, 3) := by decide +kernel
theorem dX5_isInTriangle_77 : decode cX5_isInTriangle 77 = .ok (.lstore 8, 2) := by decide +kernel
theorem dX5_isInTriangle_79 : decode cX5_isInTriangle 79 = .ok (.aload_n 0, 1) := by decide +kernel
theorem dX5_isInTriangle_80 : decode cX5_isInTriangle 80 = .ok (.getfield 7, 3) := by decide +kernel
theorem dX5_isInTriangle_83 : decode cX5_isInTriangle 83 = .ok (.iload_n 2, 1) := by decide +kernel
theorem dX5_isInTriangle_84 : decode cX5_isInTriangle 84 = .ok (.laload, 1) := by decide +kernel
theorem dX5_isInTriangle_85 : decode cX5_isInTriangle 85 = .ok (.aload_n 0, 1) := by decide +kernel
theorem dX5_isInTriangle_86 : decode cX5_isInTriangle 86 = .ok (.getfield 13, 3) := by decide +kernel
theorem dX5_isInTriangle_89 : decode cX5_isInTriangle 89 = .ok (.iload_n 2, 1) := by decide +kernel
theorem dX5_isInTriangle_90 : decode cX5_isInTriangle 90 = .ok (.laload, 1) := by decide +kernel
theorem dX5_isInTriangle_91 : decode cX5_isInTriangle 91 = .ok (.aload_n 0, 1) := by decide +kernel
theorem dX5_isInTriangle_92 : decode cX5_isInTriangle 92 = .ok (.getfield 7, 3) := by decide +kernel
theorem dX5_isInTriangle_95 : decode cX5_isInTriangle 95 = .ok (.iload_n 3, 1) := by decide +kernel
theorem dX5_isInTriangle_96 : decode cX5_isInTriangle 96 = .ok (.laload, 1) := by decide +kernel
theorem dX5_isInTriangle_97 : decode cX5_isInTriangle 97 = .ok (.aload_n 0, 1) := by decide +kernel
theorem dX5_isInTriangle_98 : decode cX5_isInTriangle 98 = .ok (.getfield 13, 3) := by decide +kernel
theorem dX5_isInTriangle_101 : decode cX5_isInTriangle 101 = .ok (.iload_n 3, 1) := by decide +kernel
theorem dX5_isInTriangle_102 : decode cX5_isInTriangle 102 = .ok (.laload, 1) := by decide +kernel
theorem dX5_isInTriangle_103 : decode cX5_isInTriangle 103 = .ok (.lload 4, 2) := by decide +kernel
theorem dX5_isInTriangle_105 : decode cX5_isInTriangle 105 = .ok (.lload 6, 2) := by decide +kernel
theorem dX5_isInTriangle_107 : decode cX5_isInTriangle 107 = .ok (.invokestatic 75, 3) := by decide +kernel
theorem dX5_isInTriangle_110 : decode cX5_isInTriangle 110 = .ok (.lstore 10, 2) := by decide +kernel
theorem dX5_isInTriangle_112 : decode cX5_isInTriangle 112 = .ok (.aload_n 0, 1) := by decide +kernel
theorem dX5_isInTriangle_113 : decode cX5_isInTriangle 113 = .ok (.getfield 7, 3) := by decide +kernel
theorem dX5_isInTriangle_116 : decode cX5_isInTriangle 116 = .ok (.iload_n 3, 1) := by decide +kernel
theorem dX5_isInTriangle_117 : decode cX5_isInTriangle 117 = .ok (.laload, 1) := by decide +kernel
theorem dX5_isInTriangle_118 : decode cX5_isInTriangle 118 = .ok (.aload_n 0, 1) := by decide +kernel
theorem dX5_isInTriangle_119 : decode cX5_isInTriangle 119 = .ok (.getfield 13, 3) := by decide +kernel
theorem dX5_isInTriangle_122 : decode cX5_isInTriangle 122 = .ok (.iload_n 3, 1) := by decide +kernel
theorem dX5_isInTriangle_123 : decode cX5_isInTriangle 123 = .ok (.laload, 1) := by decide +kernel
theorem dX5_isInTriangle_124 : decode cX5_isInTriangle 124 = .ok (.aload_n 0, 1) := by decide +kernel
theorem dX5_isInTriangle_125 : decode cX5_isInTriangle 125 = .ok (.getfield 7, 3) := by decide +kernel
theorem dX5_isInTriangle_128 : decode cX5_isInTriangle 128 = .ok (.iload_n 1, 1) := by decide +kernel
theorem dX5_isInTriangle_129 : decode cX5_isInTriangle 129 = .ok (.laload, 1) := by decide +kernel
theorem dX5_isInTriangle_130 : decode cX5_isInTriangle 130 = .ok (.aload_n 0, 1) := by decide +kernel
theorem dX5_isInTriangle_131 : decode cX5_isInTriangle 131 = .ok (.getfield 13, 3) := by decide +kernel
theorem dX5_isInTriangle_134 : decode cX5_isInTriangle 134 = .ok (.iload_n 1, 1) := by decide +kernel
theorem dX5_isInTriangle_135 : decode cX5_isInTriangle 135 = .ok (.laload, 1) := by decide +kernel
theorem dX5_isInTriangle_136 : decode cX5_isInTriangle 136 = .ok (.lload 4, 2) := by decide +kernel
theorem dX5_isInTriangle_138 : decode cX5_isInTriangle 138 = .ok (.lload 6, 2) := by decide +kernel
theorem dX5_isInTriangle_140 : decode cX5_isInTriangle 140 = .ok (.invokestatic 75, 3) := by decide +kernel
theorem dX5_isInTriangle_143 : decode cX5_isInTriangle 143 = .ok (.lstore 12, 2) := by decide +kernel
theorem dX5_isInTriangle_145 : decode cX5_isInTriangle 145 = .ok (.lload 8, 2) := by decide +kernel
theorem dX5_isInTriangle_147 : decode cX5_isInTriangle 147 = .ok (.lconst 0, 1) := by decide +kernel
theorem dX5_isInTriangle_148 : decode cX5_isInTriangle 148 = .ok (.lcmp, 1) := by decide +kernel
theorem dX5_isInTriangle_149 : decode cX5_isInTriangle 149 = .ok (.ifCond .lt 17, 3) := by decide +kernel
theorem dX5_isInTriangle_152 : decode cX5_isInTriangle 152 = .ok (.lload 10, 2) := by decide +kernel
theorem dX5_isInTriangle_154 : decode cX5_isInTriangle 154 = .ok (.lconst 0, 1) := by decide +kernel
theorem dX5_isInTriangle_155 : decode cX5_isInTriangle 155 = .ok (.lcmp, 1) := by decide +kernel
theorem dX5_isInTriangle_156 : decode cX5_isInTriangle 156 = .ok (.ifCond .lt 10, 3) := by decide +kernel
theorem dX5_isInTriangle_159 : decode cX5_isInTriangle 159 = .ok (.lload 12, 2) := by decide +kernel
theorem dX5_isInTriangle_161 : decode cX5_isInTriangle 161 = .ok (.lconst 0, 1) := by decide +kernel
theorem dX5_isInTriangle_162 : decode cX5_isInTriangle 162 = .ok (.lcmp, 1) := by decide +kernel
theorem dX5_isInTriangle_163 : decode cX5_isInTriangle 163 = .ok (.ifCond .ge 24, 3) := by decide +kernel
theorem dX5_isInTriangle_166 : decode cX5_isInTriangle 166 = .ok (.lload 8, 2) := by decide +kernel
theorem dX5_isInTriangle_168 : decode cX5_isInTriangle 168 = .ok (.lconst 0, 1) := by decide +kernel
theorem dX5_isInTriangle_169 : decode cX5_isInTriangle 169 = .ok (.lcmp, 1) := by decide +kernel
theorem dX5_isInTriangle_170 : decode cX5_isInTriangle 170 = .ok (.ifCond .gt 21, 3) := by decide +kernel
theorem dX5_isInTriangle_173 : decode cX5_isInTriangle 173 = .ok (.lload 10, 2) := by decide +kernel
theorem dX5_isInTriangle_175 : decode cX5_isInTriangle 175 = .ok (.lconst 0, 1) := by decide +kernel
theorem dX5_isInTriangle_176 : decode cX5_isInTriangle 176 = .ok (.lcmp, 1) := by decide +kernel
theorem dX5_isInTriangle_177 : decode cX5_isInTriangle 177 = .ok (.ifCond .gt 14, 3) := by decide +kernel
theorem dX5_isInTriangle_180 : decode cX5_isInTriangle 180 = .ok (.lload 12, 2) := by decide +kernel
theorem dX5_isInTriangle_182 : decode cX5_isInTriangle 182 = .ok (.lconst 0, 1) := by decide +kernel
theorem dX5_isInTriangle_183 : decode cX5_isInTriangle 183 = .ok (.lcmp, 1) := by decide +kernel
theorem dX5_isInTriangle_184 : decode cX5_isInTriangle 184 = .ok (.ifCond .gt 7, 3) := by decide +kernel
theorem dX5_isInTriangle_187 : decode cX5_isInTriangle 187 = .ok (.iconst 1, 1) := by decide +kernel
theorem dX5_isInTriangle_188 : decode cX5_isInTriangle 188 = .ok (.goto 4, 3) := by decide +kernel
theorem dX5_isInTriangle_191 : decode cX5_isInTriangle 191 = .ok (.iconst 0, 1) := by decide +kernel
theorem dX5_isInTriangle_192 : decode cX5_isInTriangle 192 = .ok (.ireturn, 1) := by decide +kernel
set_option maxRecDepth 20000 in
theorem ggX5_point_X5_isShape : GoodIn wsX5_point wsX5_isShape := goodIn_r _ [9, 10, 33, 34, 35, 36, 37, 38, 39, 40, 41, 42, 43, 44, 45, 46, 47, 48, 49, 50, 51, 52, 53, 54, 55, 56, 57] (by decide +kernel) (by decide +kernel)
set_option maxRecDepth 20000 in
theorem gX5_point_X5_isShape : GoodIn wsX5_point (wsV RX5 91 RX5 yX5_isShape wsX5_isShape) := goodIn_app (goodIn_of _ (by decide +kernel)) ggX5_point_X5_isShape
set_option maxRecDepth 20000 in
theorem ggX5_point_X5_isIn : GoodIn wsX5_point wsX5_isIn := goodIn_r _ [13, 14, 15] (by decide +kernel) (by decide +kernel)
set_option maxRecDepth 20000 in
theorem gX5_point_X5_isIn : GoodIn wsX5_point (va_wsS RX5 95 yX5_isIn wsX5_isIn) := goodIn_app (goodIn_of _ (by decide +kernel)) ggX5_point_X5_isIn
set_option maxRecDepth 20000 in
theorem ggX5_point_X5_isInside : GoodIn wsX5_point wsX5_isInside := goodIn_r _ [19, 1, 3, 4, 20, 21, 8, 22, 23, 24, 25, 26, 27, 28, 29, 30, 31, 32, 33, 34, 35, 36, 37, 38, 39, 40, 41, 42, 43, 44, 45, 46, 47, 48, 49, 50, 51, 52, 53, 54, 55, 56, 57] (by decide +kernel) (by decide +kernel)
set_option maxRecDepth 20000 in
theorem gX5_point_X5_isInside : GoodIn wsX5_point (wsV RX5 99 RX5 yX5_isInside wsX5_isInside) := goodIn_app (goodIn_of _ (by decide +kernel)) ggX5_point_X5_isInside
theorem dX5_point_0 : decode cX5_point 0 = .ok (.aload_n 0, 1) := by decide +kernel
theorem dX5_point_1 : decode cX5_point 1 = .ok (.aload_n 0, 1) := by decide +kernel
theorem dX5_point_2 : decode cX5_point 2 = .ok (.iload_n 1, 1) := by decide +kernel
theorem dX5_point_3 : decode cX5_point 3 = .ok (.invokevirtual 91, 3) := by decide +kernel
theorem dX5_point_6 : decode cX5_point 6 = .ok (.ifCond .ne 7, 3) := by decide +kernel
theorem dX5_point_9 : decode cX5_point 9 = .ok (.iconst 1, 1) := by decide +kernel
theorem dX5_point_10 : decode cX5_point 10 = .ok (.goto 38, 3) := by decide +kernel
theorem dX5_point_13 : decode cX5_point 13 = .ok (.aload_n 0, 1) := by decide +kernel
theorem dX5_point_14 : decode cX5_point 14 = .ok (.getfield 16, 3) := by decide +kernel
theorem dX5_point_17 : decode cX5_point 17 = .ok (.iload_n 1, 1) := by decide +kernel
theorem dX5_point_18 : decode cX5_point 18 = .ok (.iaload, 1) := by decide +kernel
theorem dX5_point_19 : decode cX5_point 19 = .ok (.bipush 16, 2) := by decide +kernel
theorem dX5_point_21 : decode cX5_point 21 = .ok (.if_icmp .ne 7, 3) := by decide +kernel
theorem dX5_point_24 : decode cX5_point 24 = .ok (.iconst 2, 1) := by decide +kernel
theorem dX5_point_25 : decode cX5_point 25 = .ok (.goto 23, 3) := by decide +kernel
theorem dX5_point_28 : decode cX5_point 28 = .ok (.lload_n 2, 1) := by decide +kernel
theorem dX5_point_29 : decode cX5_point 29 = .ok (.invokestatic 95, 3) := by decide +kernel
theorem dX5_point_32 : decode cX5_point 32 = .ok (.ifCond .eq 15, 3) := by decide +kernel
theorem dX5_point_35 : decode cX5_point 35 = .ok (.lload 4, 2) := by decide +kernel
theorem dX5_point_37 : decode cX5_point 37 = .ok (.invokestatic 95, 3) := by decide +kernel
theorem dX5_point_40 : decode cX5_point 40 = .ok (.ifCond .eq 7, 3) := by decide +kernel
theorem dX5_point_43 : decode cX5_point 43 = .ok (.iconst 0, 1) := by decide +kernel
theorem dX5_point_44 : decode cX5_point 44 = .ok (.goto 4, 3) := by decide +kernel
theorem dX5_point_47 : decode cX5_point 47 = .ok (.iconst 3, 1) := by decide +kernel
theorem dX5_point_48 : decode cX5_point 48 = .ok (.putfield 54, 3) := by decide +kernel
theorem dX5_point_51 : decode cX5_point 51 = .ok (.aload_n 0, 1) := by decide +kernel
theorem dX5_point_52 : decode cX5_point 52 = .ok (.getfield 54, 3) := by decide +kernel
theorem dX5_point_55 : decode cX5_point 55 = .ok (.ifCond .le 5, 3) := by decide +kernel
theorem dX5_point_58 : decode cX5_point 58 = .ok (.iconst 0, 1) := by decide +kernel
theorem dX5_point_59 : decode cX5_point 59 = .ok (.ireturn, 1) := by decide +kernel
theorem dX5_point_60 : decode cX5_point 60 = .ok (.aload_n 0, 1) := by decide +kernel
theorem dX5_point_61 : decode cX5_point 61 = .ok (.iload_n 1, 1) := by decide +kernel
theorem dX5_point_62 : decode cX5_point 62 = .ok (.lload_n 2, 1) := by decide +kernel
theorem dX5_point_63 : decode cX5_point 63 = .ok (.lload 4, 2) := by decide +kernel
theorem dX5_point_65 : decode cX5_point 65 = .ok (.iconst 0, 1) := by decide +kernel
theorem dX5_point_66 : decode cX5_point 66 = .ok (.invokevirtual 99, 3) := by decide +kernel
theorem dX5_point_69 : decode cX5_point 69 = .ok (.ifCond .ne 7, 3) := by decide +kernel
theorem dX5_point_72 : decode cX5_point 72 = .ok (.iconst 1, 1) := by decide +kernel
theorem dX5_point_73 : decode cX5_point 73 = .ok (.goto 4, 3) := by decide +kernel
theorem dX5_point_76 : decode cX5_point 76 = .ok (.iconst 0, 1) := by decide +kernel
theorem dX5_point_77 : decode cX5_point 77 = .ok (.istore 6, 2) := by decide +kernel
theorem dX5_point_79 : decode cX5_point 79 = .ok (.aload_n 0, 1) := by decide +kernel
theorem dX5_point_80 : decode cX5_point 80 = .ok (.getfield 7, 3) := by decide +kernel
theorem dX5_point_83 : decode cX5_point 83 = .ok (.bipush 16, 2) := by decide +kernel
theorem dX5_point_85 : decode cX5_point 85 = .ok (.iload_n 1, 1) := by decide +kernel
theorem dX5_point_86 : decode cX5_point 86 = .ok (.imul, 1) := by decide +kernel
theorem dX5_point_87 : decode cX5_point 87 = .ok (.aload_n 0, 1) := by decide +kernel
theorem dX5_point_88 : decode cX5_point 88 = .ok (.getfield 16, 3) := by decide +kernel
theorem dX5_point_91 : decode cX5_point 91 = .ok (.iload_n 1, 1) := by decide +kernel
theorem dX5_point_92 : decode cX5_point 92 = .ok (.iaload, 1) := by decide +kernel
theorem dX5_point_93 : decode cX5_point 93 = .ok (.iadd, 1) := by decide +kernel
theorem dX5_point_94 : decode cX5_point 94 = .ok (.lload_n 2, 1) := by decide +kernel
theorem dX5_point_95 : decode cX5_point 95 = .ok (.lastore, 1) := by decide +kernel
theorem dX5_point_96 : decode cX5_point 96 = .ok (.aload_n 0, 1) := by decide +kernel
theorem dX5_point_97 : decode cX5_point 97 = .ok (.getfield 13, 3) := by decide +kernel
theorem dX5_point_100 : decode cX5_point 100 = .ok (.bipush 16, 2) := by decide +kernel
theorem dX5_point_102 : decode cX5_point 102 = .ok (.iload_n 1, 1) := by decide +kernel
theorem dX5_point_103 : decode cX5_point 103 = .ok (.imul, 1) := by decide +kernel
theorem dX5_point_104 : decode cX5_point 104 = .ok (.aload_n 0, 1) := by decide +kernel
theorem dX5_point_105 : decode cX5_point 105 = .ok (.getfield 16, 3) := by decide +kernel
theorem dX5_point_108 : decode cX5_point 108 = .ok (.iload_n 1, 1) := by decide +kernel
theorem dX5_point_109 : decode cX5_point 109 = .ok (.iaload, 1) := by decide +kernel
theorem dX5_point_110 : decode cX5_point 110 = .ok (.iadd, 1) := by decide +kernel
theorem dX5_point_111 : decode cX5_point 111 = .ok (.lload 4, 2) := by decide +kernel
theorem dX5_point_113 : decode cX5_point 113 = .ok (.lastore, 1) := by decide +kernel
theorem dX5_point_114 : decode cX5_point 114 = .ok (.aload_n 0, 1) := by decide +kernel
theorem dX5_point_115 : decode cX5_point 115 = .ok (.getfield 16, 3) := by decide +kernel
theorem dX5_point_118 : decode cX5_point 118 = .ok (.iload_n 1, 1) := by decide +kernel
theorem dX5_point_119 : decode cX5_point 119 = .ok (.dup2, 1) := by decide +kernel
theorem dX5_point_120 : decode cX5_point 120 = .ok (.iaload, 1) := by decide +kernel
theorem dX5_point_121 : decode cX5_point 121 = .ok (.iconst 1, 1) := by decide +kernel
theorem dX5_point_122 : decode cX5_point 122 = .ok (.iadd, 1) := by decide +kernel
theorem dX5_point_123 : decode cX5_point 123 = .ok (.iastore, 1) := by decide +kernel
theorem dX5_point_124 : decode cX5_point 124 = .ok (.iload 6, 2) := by decide +kernel
theorem dX5_point_126 : decode cX5_point 126 = .ok (.ireturn, 1) := by decide +kernel
set_option maxRecDepth 20000 in
theorem ggX5_isBefore_X5_turn : GoodIn wsX5_isBefore wsX5_turn := goodIn_r _ [7] (by decide +kernel) (by decide +kernel)
set_option maxRecDepth 20000 in
theorem gX5_isBefore_X5_turn : GoodIn wsX5_isBefore (va_wsS RX5 75 yX5_turn wsX5_turn) := goodIn_app (goodIn_of _ (by decide +kernel)) ggX5_isBefore_X5_turn
theorem dX5_isBefore_0 : decode cX5_isBefore 0 = .ok (.aload_n 0, 1) := by decide +kernel
theorem dX5_isBefore_1 : decode cX5_isBefore 1 = .ok (.getfield 36, 3) := by decide +kernel
theorem dX5_isBefore_4 : decode cX5_isBefore 4 = .ok (.iconst 0, 1) := by decide +kernel
theorem dX5_isBefore_5 : decode cX5_isBefore 5 = .ok (.iaload, 1) := by decide +kernel
theorem dX5_isBefore_6 : decode cX5_isBefore 6 = .ok (.istore_n 3, 1) := by decide +kernel
theorem dX5_isBefore_7 : decode cX5_isBefore 7 = .ok (.aload_n 0, 1) := by decide +kernel
theorem dX5_isBefore_8 : decode cX5_isBefore 8 = .ok (.getfield 7, 3) := by decide +kernel
theorem dX5_isBefore_11 : decode cX5_isBefore 11 = .ok (.iload_n 3, 1) := by decide +kernel
theorem dX5_isBefore_12 : decode cX5_isBefore 12 = .ok (.laload, 1) := by decide +kernel
theorem dX5_isBefore_13 : decode cX5_isBefore 13 = .ok (.aload_n 0, 1) := by decide +kernel
theorem dX5_isBefore_14 : decode cX5_isBefore 14 = .ok (.getfield 13, 3) := by decide +kernel
theorem dX5_isBefore_17 : decode cX5_isBefore 17 = .ok (.iload_n 3, 1) := by decide +kernel
theorem dX5_isBefore_18 : decode cX5_isBefore 18 = .ok (.laload, 1) := by decide +kernel
theorem dX5_isBefore_19 : decode cX5_isBefore 19 = .ok (.aload_n 0, 1) := by decide +kernel
theorem dX5_isBefore_20 : decode cX5_isBefore 20 = .ok (.getfield 7, 3) := by decide +kernel
theorem dX5_isBefore_23 : decode cX5_isBefore 23 = .ok (.iload_n 1, 1) := by decide +kernel
theorem dX5_isBefore_24 : decode cX5_isBefore 24 = .ok (.laload, 1) := by decide +kernel
theorem dX5_isBefore_25 : decode cX5_isBefore 25 = .ok (.aload_n 0, 1) := by decide +kernel
theorem dX5_isBefore_26 : decode cX5_isBefore 26 = .ok (.getfield 13, 3) := by decide +kernel
theorem dX5_isBefore_29 : decode cX5_isBefore 29 = .ok (.iload_n 1, 1) := by decide +kernel
theorem dX5_isBefore_30 : decode cX5_isBefore 30 = .ok (.laload, 1) := by decide +kernel
theorem dX5_isBefore_31 : decode cX5_isBefore 31 = .ok (.aload_n 0, 1) := by decide +kernel
theorem dX5_isBefore_32 : decode cX5_isBefore 32 = .ok (.getfield 7, 3) := by decide +kernel
theorem dX5_isBefore_35 : decode cX5_isBefore 35 = .ok (.iload_n 2, 1) := by decide +kernel
theorem dX5_isBefore_36 : decode cX5_isBefore 36 = .ok (.laload, 1) := by decide +kernel
theorem dX5_isBefore_37 : decode cX5_isBefore 37 = .ok (.aload_n 0, 1) := by decide +kernel
theorem dX5_isBefore_38 : decode cX5_isBefore 38 = .ok (.getfield 13, 3) := by decide +kernel
theorem dX5_isBefore_41 : decode cX5_isBefore 41 = .ok (.iload_n 2, 1) := by decide +kernel
theorem dX5_isBefore_42 : decode cX5_isBefore 42 = .ok (.laload, 1) := by decide +kernel
theorem dX5_isBefore_43 : decode cX5_isBefore 43 = .ok (.invokestatic 75, 3) := by decide +kernel
theorem dX5_isBefore_46 : decode cX5_isBefore 46 = .ok (.lconst 0, 1) := by decide +kernel
theorem dX5_isBefore_47 : decode cX5_isBefore 47 = .ok (.lcmp, 1) := by decide +kernel
theorem dX5_isBefore_48 : decode cX5_isBefore 48 = .ok (.ifCond .le 7, 3) := by decide +kernel
theorem dX5_isBefore_51 : decode cX5_isBefore 51 = .ok (.iconst 1, 1) := by decide +kernel
theorem dX5_isBefore_52 : decode cX5_isBefore 52 = .ok (.goto 4, 3) := by decide +kernel
theorem dX5_isBefore_55 : decode cX5_isBefore 55 = .ok (.iconst 0, 1) := by decide +kernel
theorem dX5_isBefore_56 : decode cX5_isBefore 56 = .ok (.ireturn, 1) := by decide +kernel
set_option maxRecDepth 20000 in
theorem ggX5_findCorners_X5_isInside : GoodIn wsX5_findCorners wsX5_isInside := goodIn_r _ [10, 2, 3, 4, 11, 12, 9, 13, 14, 15, 16, 17, 18, 19, 20, 21, 22, 23, 28, 29, 30, 31, 32, 33, 34, 35, 36, 37, 38, 39, 40, 41, 42, 43, 44, 45, 46, 47, 48, 49, 50, 51, 52] (by decide +kernel) (by decide +kernel)
set_option maxRecDepth 20000 in
theorem gX5_findCorners_X5_isInside : GoodIn wsX5_findCorners (wsV RX5 99 RX5 yX5_isInside wsX5_isInside) := goodIn_app (goodIn_of _ (by decide +kernel)) ggX5_findCorners_X5_isInside
set_option maxRecDepth 20000 in
theorem ggX5_findCorners_X5_isBefore : GoodIn wsX5_findCorners wsX5_isBefore := goodIn_r _ [27, 5, 3, 4, 14, 15, 9, 16, 28, 29, 30, 31, 32, 33, 34, 35, 36, 37, 38, 39, 40, 41, 42, 43, 44, 45, 46, 47, 48, 49, 50, 51, 52] (by decide +kernel) (by decide +kernel)
set_option maxRecDepth 20000 in
theorem gX5_findCorners_X5_isBefore : GoodIn wsX5_findCorners (wsV RX5 106 RX5 yX5_isBefore wsX5_isBefore) := goodIn_app (goodIn_of _ (by decide +kernel)) ggX5_findCorners_X5_isBefore
theorem dX5_findCorners_0 : decode cX5_findCorners 0 = .ok (.aload_n 0, 1) := by decide +kernel
theorem dX5_findCorners_1 : decode cX5_findCorners 1 = .ok (.iconst 0, 1) := by decide +kernel
theorem dX5_findCorners_2 : decode cX5_findCorners 2 = .ok (.putfield 103, 3) := by decide +kernel
theorem dX5_findCorners_5 : decode cX5_findCorners 5 = .ok (.bipush 16, 2) := by decide +kernel
theorem dX5_findCorners_7 : decode cX5_findCorners 7 = .ok (.iload_n 1, 1) := by decide +kernel
theorem dX5_findCorners_8 : decode cX5_findCorners 8 = .ok (.imul, 1) := by decide +kernel
theorem dX5_findCorners_9 : decode cX5_findCorners 9 = .ok (.istore_n 2, 1) := by decide +kernel
theorem dX5_findCorners_10 : decode cX5_findCorners 10 = .ok (.iload_n 2, 1) := by decide +kernel
theorem dX5_findCorners_11 : decode cX5_findCorners 11 = .ok (.bipush 16, 2) := by decide +kernel
theorem dX5_findCorners_13 : decode cX5_findCorners 13 = .ok (.iload_n 1, 1) := by decide +kernel
theorem dX5_findCorners_14 : decode cX5_findCorners 14 = .ok (.imul, 1) := by decide +kernel
theorem dX5_findCorners_15 : decode cX5_findCorners 15 = .ok (.aload_n 0, 1) := by decide +kernel
theorem dX5_findCorners_16 : decode cX5_findCorners 16 = .ok (.getfield 16, 3) := by decide +kernel
theorem dX5_findCorners_19 : decode cX5_findCorners 19 = .ok (.iload_n 1, 1) := by decide +kernel
theorem dX5_findCorners_20 : decode cX5_findCorners 20 = .ok (.iaload, 1) := by decide +kernel
theorem dX5_findCorners_21 : decode cX5_findCorners 21 = .ok (.iadd, 1) := by decide +kernel
theorem dX5_findCorners_22 : decode cX5_findCorners 22 = .ok (.if_icmp .ge 118, 3) := by decide +kernel
theorem dX5_findCorners_25 : decode cX5_findCorners 25 = .ok (.iconst 0, 1) := by decide +kernel
theorem dX5_findCorners_26 : decode cX5_findCorners 26 = .ok (.istore_n 3, 1) := by decide +kernel
theorem dX5_findCorners_27 : decode cX5_findCorners 27 = .ok (.bipush 16, 2) := by decide +kernel
theorem dX5_findCorners_29 : decode cX5_findCorners 29 = .ok (.iload_n 1, 1) := by decide +kernel
theorem dX5_findCorners_30 : decode cX5_findCorners 30 = .ok (.imul, 1) := by decide +kernel
theorem dX5_findCorners_31 : decode cX5_findCorners 31 = .ok (.istore 4, 2) := by decide +kernel
theorem dX5_findCorners_33 : decode cX5_findCorners 33 = .ok (.iload 4, 2) := by decide +kernel
theorem dX5_findCorners_35 : decode cX5_findCorners 35 = .ok (.iload_n 2, 1) := by decide +kernel
theorem dX5_findCorners_36 : decode cX5_findCorners 36 = .ok (.if_icmp .ge 53, 3) := by decide +kernel
theorem dX5_findCorners_39 : decode cX5_findCorners 39 = .ok (.iload_n 3, 1) := by decide +kernel
theorem dX5_findCorners_40 : decode cX5_findCorners 40 = .ok (.ifCond .ne 37, 3) := by decide +kernel
theorem dX5_findCorners_43 : decode cX5_findCorners 43 = .ok (.aload_n 0, 1) := by decide +kernel
theorem dX5_findCorners_44 : decode cX5_findCorners 44 = .ok (.getfield 7, 3) := by decide +kernel
theorem dX5_findCorners_47 : decode cX5_findCorners 47 = .ok (.iload_n 2, 1) := by decide +kernel
theorem dX5_findCorners_48 : decode cX5_findCorners 48 = .ok (.laload, 1) := by decide +kernel
theorem dX5_findCorners_49 : decode cX5_findCorners 49 = .ok (.aload_n 0, 1) := by decide +kernel
theorem dX5_findCorners_50 : decode cX5_findCorners 50 = .ok (.getfield 7, 3) := by decide +kernel
theorem dX5_findCorners_53 : decode cX5_findCorners 53 = .ok (.iload 4, 2) := by decide +kernel
theorem dX5_findCorners_55 : decode cX5_findCorners 55 = .ok (.laload, 1) := by decide +kernel
theorem dX5_findCorners_56 : decode cX5_findCorners 56 = .ok (.lcmp, 1) := by decide +kernel
theorem dX5_findCorners_57 : decode cX5_findCorners 57 = .ok (.ifCond .ne 24, 3) := by decide +kernel
theorem dX5_findCorners_60 : decode cX5_findCorners 60 = .ok (.aload_n 0, 1) := by decide +kernel
theorem dX5_findCorners_61 : decode cX5_findCorners 61 = .ok (.getfield 13, 3) := by decide +kernel
theorem dX5_findCorners_64 : decode cX5_findCorners 64 = .ok (.iload_n 2, 1) := by decide +kernel
theorem dX5_findCorners_65 : decode cX5_findCorners 65 = .ok (.laload, 1) := by decide +kernel
theorem dX5_findCorners_66 : decode cX5_findCorners 66 = .ok (.aload_n 0, 1) := by decide +kernel
theorem dX5_findCorners_67 : decode cX5_findCorners 67 = .ok (.getfield 13, 3) := by decide +kernel
theorem dX5_findCorners_70 : decode cX5_findCorners 70 = .ok (.iload 4, 2) := by decide +kernel
theorem dX5_findCorners_72 : decode cX5_findCorners 72 = .ok (.laload, 1) := by decide +kernel
theorem dX5_findCorners_73 : decode cX5_findCorners 73 = .ok (.lcmp, 1) := by decide +kernel
theorem dX5_findCorners_74 : decode cX5_findCorners 74 = .ok (.ifCond .ne 7, 3) := by decide +kernel
theorem dX5_findCorners_77 : decode cX5_findCorners 77 = .ok (.iconst 1, 1) := by decide +kernel
theorem dX5_findCorners_78 : decode cX5_findCorners 78 = .ok (.goto 4, 3) := by decide +kernel
theorem dX5_findCorners_81 : decode cX5_findCorners 81 = .ok (.iconst 0, 1) := by decide +kernel
theorem dX5_findCorners_82 : decode cX5_findCorners 82 = .ok (.istore_n 3, 1) := by decide +kernel
theorem dX5_findCorners_83 : decode cX5_findCorners 83 = .ok (.iinc 4 1, 3) := by decide +kernel
theorem dX5_findCorners_86 : decode cX5_findCorners 86 = .ok (.goto (-53), 3) := by decide +kernel
theorem dX5_findCorners_89 : decode cX5_findCorners 89 = .ok (.iload_n 3, 1) := by decide +kernel
theorem dX5_findCorners_90 : decode cX5_findCorners 90 = .ok (.ifCond .ne 44, 3) := by decide +kernel
theorem dX5_findCorners_93 : decode cX5_findCorners 93 = .ok (.aload_n 0, 1) := by decide +kernel
theorem dX5_findCorners_94 : decode cX5_findCorners 94 = .ok (.iload_n 1, 1) := by decide +kernel
theorem dX5_findCorners_95 : decode cX5_findCorners 95 = .ok (.aload_n 0, 1) := by decide +kernel
theorem dX5_findCorners_96 : decode cX5_findCorners 96 = .ok (.getfield 7, 3) := by decide +kernel
theorem dX5_findCorners_99 : decode cX5_findCorners 99 = .ok (.iload_n 2, 1) := by decide +kernel
theorem dX5_findCorners_100 : decode cX5_findCorners 100 = .ok (.laload, 1) := by decide +kernel
theorem dX5_findCorners_101 : decode cX5_findCorners 101 = .ok (.aload_n 0, 1) := by decide +kernel
theorem dX5_findCorners_102 : decode cX5_findCorners 102 = .ok (.getfield 13, 3) := by decide +kernel
theorem dX5_findCorners_105 : decode cX5_findCorners 105 = .ok (.iload_n 2, 1) := by decide +kernel
theorem dX5_findCorners_106 : decode cX5_findCorners 106 = .ok (.laload, 1) := by decide +kernel
theorem dX5_findCorners_107 : decode cX5_findCorners 107 = .ok (.iconst 1, 1) := by decide +kernel
theorem dX5_findCorners_108 : decode cX5_findCorners 108 = .ok (.invokevirtual 99, 3) := by decide +kernel
theorem dX5_findCorners_111 : decode cX5_findCorners 111 = .ok (.ifCond .ne 23, 3) := by decide +kernel
theorem dX5_findCorners_114 : decode cX5_findCorners 114 = .ok (.aload_n 0, 1) := by decide +kernel
theorem dX5_findCorners_115 : decode cX5_findCorners 115 = .ok (.getfield 36, 3) := by decide +kernel
theorem dX5_findCorners_118 : decode cX5_findCorners 118 = .ok (.aload_n 0, 1) := by decide +kernel
theorem dX5_findCorners_119 : decode cX5_findCorners 119 = .ok (.getfield 103, 3) := by decide +kernel
theorem dX5_findCorners_122 : decode cX5_findCorners 122 = .ok (.iload_n 2, 1) := by decide +kernel
theorem dX5_findCorners_123 : decode cX5_findCorners 123 = .ok (.iastore, 1) := by decide +kernel
theorem dX5_findCorners_124 : decode cX5_findCorners 124 = .ok (.aload_n 0, 1) := by decide +kernel
theorem dX5_findCorners_125 : decode cX5_findCorners 125 = .ok (.dup, 1) := by decide +kernel
theorem dX5_findCorners_126 : decode cX5_findCorners 126 = .ok (.getfield 103, 3) := by decide +kernel
theorem dX5_findCorners_129 : decode cX5_findCorners 129 = .ok (.iconst 1, 1) := by decide +kernel
theorem dX5_findCorners_130 : decode cX5_findCorners 130 = .ok (.iadd, 1) := by decide +kernel
theorem dX5_findCorners_131 : decode cX5_findCorners 131 = .ok (.putfield 103, 3) := by decide +kernel
theorem dX5_findCorners_134 : decode cX5_findCorners 134 = .ok (.iinc 2 1, 3) := by decide +kernel
theorem dX5_findCorners_137 : decode cX5_findCorners 137 = .ok (.goto (-127), 3) := by decide +kernel
theorem dX5_findCorners_140 : decode cX5_findCorners 140 = .ok (.iconst 1, 1) := by decide +kernel
theorem dX5_findCorners_141 : decode cX5_findCorners 141 = .ok (.istore_n 2, 1) := by decide +kernel
theorem dX5_findCorners_142 : decode cX5_findCorners 142 = .ok (.iload_n 2, 1) := by decide +kernel
theorem dX5_findCorners_143 : decode cX5_findCorners 143 = .ok (.aload_n 0, 1) := by decide +kernel
theorem dX5_findCorners_144 : decode cX5_findCorners 144 = .ok (.getfield 103, 3) := by decide +kernel
theorem dX5_findCorners_147 : decode cX5_findCorners 147 = .ok (.if_icmp .ge 90, 3) := by decide +kernel
theorem dX5_findCorners_150 : decode cX5_findCorners 150 = .ok (.aload_n 0, 1) := by decide +kernel
theorem dX5_findCorners_151 : decode cX5_findCorners 151 = .ok (.getfield 36, 3) := by decide +kernel
theorem dX5_findCorners_154 : decode cX5_findCorners 154 = .ok (.iload_n 2, 1) := by decide +kernel
theorem dX5_findCorners_155 : decode cX5_findCorners 155 = .ok (.iaload, 1) := by decide +kernel
theorem dX5_findCorners_156 : decode cX5_findCorners 156 = .ok (.istore_n 3, 1) := by decide +kernel
theorem dX5_findCorners_157 : decode cX5_findCorners 157 = .ok (.aload_n 0, 1) := by decide +kernel
theorem dX5_findCorners_158 : decode cX5_findCorners 158 = .ok (.getfield 36, 3) := by decide +kernel
theorem dX5_findCorners_161 : decode cX5_findCorners 161 = .ok (.iconst 0, 1) := by decide +kernel
theorem dX5_findCorners_162 : decode cX5_findCorners 162 = .ok (.iaload, 1) := by decide +kernel
theorem dX5_findCorners_163 : decode cX5_findCorners 163 = .ok (.istore 4, 2) := by decide +kernel
theorem dX5_findCorners_165 : decode cX5_findCorners 165 = .ok (.aload_n 0, 1) := by decide +kernel
theorem dX5_findCorners_166 : decode cX5_findCorners 166 = .ok (.getfield 7, 3) := by decide +kernel
theorem dX5_findCorners_169 : decode cX5_findCorners 169 = .ok (.iload_n 3, 1) := by decide +kernel
theorem dX5_findCorners_170 : decode cX5_findCorners 170 = .ok (.laload, 1) := by decide +kernel
theorem dX5_findCorners_171 : decode cX5_findCorners 171 = .ok (.aload_n 0, 1) := by decide +kernel
theorem dX5_findCorners_172 : decode cX5_findCorners 172 = .ok (.getfield 7, 3) := by decide +kernel
theorem dX5_findCorners_175 : decode cX5_findCorners 175 = .ok (.iload 4, 2) := by decide +kernel
theorem dX5_findCorners_177 : decode cX5_findCorners 177 = .ok (.laload, 1) := by decide +kernel
theorem dX5_findCorners_178 : decode cX5_findCorners 178 = .ok (.lcmp, 1) := by decide +kernel
theorem dX5_findCorners_179 : decode cX5_findCorners 179 = .ok (.ifCond .lt 37, 3) := by decide +kernel
theorem dX5_findCorners_182 : decode cX5_findCorners 182 = .ok (.aload_n 0, 1) := by decide +kernel
theorem dX5_findCorners_183 : decode cX5_findCorners 183 = .ok (.getfield 7, 3) := by decide +kernel
theorem dX5_findCorners_186 : decode cX5_findCorners 186 = .ok (.iload_n 3, 1) := by decide +kernel
theorem dX5_findCorners_187 : decode cX5_findCorners 187 = .ok (.laload, 1) := by decide +kernel
theorem dX5_findCorners_188 : decode cX5_findCorners 188 = .ok (.aload_n 0, 1) := by decide +kernel
theorem dX5_findCorners_189 : decode cX5_findCorners 189 = .ok (.getfield 7, 3) := by decide +kernel
theorem dX5_findCorners_192 : decode cX5_findCorners 192 = .ok (.iload 4, 2) := by decide +kernel
theorem dX5_findCorners_194 : decode cX5_findCorners 194 = .ok (.laload, 1) := by decide +kernel
theorem dX5_findCorners_195 : decode cX5_findCorners 195 = .ok (.lcmp, 1) := by decide +kernel
theorem dX5_findCorners_196 : decode cX5_findCorners 196 = .ok (.ifCond .ne 35, 3) := by decide +kernel
theorem dX5_findCorners_199 : decode cX5_findCorners 199 = .ok (.aload_n 0, 1) := by decide +kernel
theorem dX5_findCorners_200 : decode cX5_findCorners 200 = .ok (.getfield 13, 3) := by decide +kernel
theorem dX5_findCorners_203 : decode cX5_findCorners 203 = .ok (.iload_n 3, 1) := by decide +kernel
theorem dX5_findCorners_204 : decode cX5_findCorners 204 = .ok (.laload, 1) := by decide +kernel
theorem dX5_findCorners_205 : decode cX5_findCorners 205 = .ok (.aload_n 0, 1) := by decide +kernel
theorem dX5_findCorners_206 : decode cX5_findCorners 206 = .ok (.getfield 13, 3) := by decide +kernel
theorem dX5_findCorners_209 : decode cX5_findCorners 209 = .ok (.iload 4, 2) := by decide +kernel
theorem dX5_findCorners_211 : decode cX5_findCorners 211 = .ok (.laload, 1) := by decide +kernel
theorem dX5_findCorners_212 : decode cX5_findCorners 212 = .ok (.lcmp, 1) := by decide +kernel
theorem dX5_findCorners_213 : decode cX5_findCorners 213 = .ok (.ifCond .ge 18, 3) := by decide +kernel
theorem dX5_findCorners_216 : decode cX5_findCorners 216 = .ok (.aload_n 0, 1) := by decide +kernel
theorem dX5_findCorners_217 : decode cX5_findCorners 217 = .ok (.getfield 36, 3) := by decide +kernel
theorem dX5_findCorners_220 : decode cX5_findCorners 220 = .ok (.iload_n 2, 1) := by decide +kernel
theorem dX5_findCorners_221 : decode cX5_findCorners 221 = .ok (.iload 4, 2) := by decide +kernel
theorem dX5_findCorners_223 : decode cX5_findCorners 223 = .ok (.iastore, 1) := by decide +kernel
theorem dX5_findCorners_224 : decode cX5_findCorners 224 = .ok (.aload_n 0, 1) := by decide +kernel
theorem dX5_findCorners_225 : decode cX5_findCorners 225 = .ok (.getfield 36, 3) := by decide +kernel
theorem dX5_findCorners_228 : decode cX5_findCorners 228 = .ok (.iconst 0, 1) := by decide +kernel
theorem dX5_findCorners_229 : decode cX5_findCorners 229 = .ok (.iload_n 3, 1) := by decide +kernel
theorem dX5_findCorners_230 : decode cX5_findCorners 230 = .ok (.iastore, 1) := by decide +kernel
theorem dX5_findCorners_231 : decode cX5_findCorners 231 = .ok (.iinc 2 1, 3) := by decide +kernel
theorem dX5_findCorners_234 : decode cX5_findCorners 234 = .ok (.goto (-92), 3) := by decide +kernel
theorem dX5_findCorners_237 : decode cX5_findCorners 237 = .ok (.iconst 1, 1) := by decide +kernel
theorem dX5_findCorners_238 : decode cX5_findCorners 238 = .ok (.istore_n 2, 1) := by decide +kernel
theorem dX5_findCorners_239 : decode cX5_findCorners 239 = .ok (.iload_n 2, 1) := by decide +kernel
theorem dX5_findCorners_240 : decode cX5_findCorners 240 = .ok (.aload_n 0, 1) := by decide +kernel
theorem dX5_findCorners_241 : decode cX5_findCorners 241 = .ok (.getfield 103, 3) := by decide +kernel
theorem dX5_findCorners_244 : decode cX5_findCorners 244 = .ok (.if_icmp .ge 72, 3) := by decide +kernel
theorem dX5_findCorners_247 : decode cX5_findCorners 247 = .ok (.aload_n 0, 1) := by decide +kernel
theorem dX5_findCorners_248 : decode cX5_findCorners 248 = .ok (.getfield 36, 3) := by decide +kernel
theorem dX5_findCorners_251 : decode cX5_findCorners 251 = .ok (.iload_n 2, 1) := by decide +kernel
theorem dX5_findCorners_252 : decode cX5_findCorners 252 = .ok (.iaload, 1) := by decide +kernel
theorem dX5_findCorners_253 : decode cX5_findCorners 253 = .ok (.istore_n 3, 1) := by decide +kernel
theorem dX5_findCorners_254 : decode cX5_findCorners 254 = .ok (.iload_n 2, 1) := by decide +kernel
theorem dX5_findCorners_255 : decode cX5_findCorners 255 = .ok (.istore 4, 2) := by decide +kernel
theorem dX5_findCorners_257 : decode cX5_findCorners 257 = .ok (.iload 4, 2) := by decide +kernel
theorem dX5_findCorners_259 : decode cX5_findCorners 259 = .ok (.iconst 1, 1) := by decide +kernel
theorem dX5_findCorners_260 : decode cX5_findCorners 260 = .ok (.if_icmp .le 42, 3) := by decide +kernel
theorem dX5_findCorners_263 : decode cX5_findCorners 263 = .ok (.aload_n 0, 1) := by decide +kernel
theorem dX5_findCorners_264 : decode cX5_findCorners 264 = .ok (.iload_n 3, 1) := by decide +kernel
theorem dX5_findCorners_265 : decode cX5_findCorners 265 = .ok (.aload_n 0, 1) := by decide +kernel
theorem dX5_findCorners_266 : decode cX5_findCorners 266 = .ok (.getfield 36, 3) := by decide +kernel
theorem dX5_findCorners_269 : decode cX5_findCorners 269 = .ok (.iload 4, 2) := by decide +kernel
theorem dX5_findCorners_271 : decode cX5_findCorners 271 = .ok (.iconst 1, 1) := by decide +kernel
theorem dX5_findCorners_272 : decode cX5_findCorners 272 = .ok (.isub, 1) := by decide +kernel
theorem dX5_findCorners_273 : decode cX5_findCorners 273 = .ok (.iaload, 1) := by decide +kernel
theorem dX5_findCorners_274 : decode cX5_findCorners 274 = .ok (.invokevirtual 106, 3) := by decide +kernel
theorem dX5_findCorners_277 : decode cX5_findCorners 277 = .ok (.ifCond .eq 25, 3) := by decide +kernel
theorem dX5_findCorners_280 : decode cX5_findCorners 280 = .ok (.aload_n 0, 1) := by decide +kernel
theorem dX5_findCorners_281 : decode cX5_findCorners 281 = .ok (.getfield 36, 3) := by decide +kernel
theorem dX5_findCorners_284 : decode cX5_findCorners 284 = .ok (.iload 4, 2) := by decide +kernel
theorem dX5_findCorners_286 : decode cX5_findCorners 286 = .ok (.aload_n 0, 1) := by decide +kernel
theorem dX5_findCorners_287 : decode cX5_findCorners 287 = .ok (.getfield 36, 3) := by decide +kernel
theorem dX5_findCorners_290 : decode cX5_findCorners 290 = .ok (.iload 4, 2) := by decide +kernel
theorem dX5_findCorners_292 : decode cX5_findCorners 292 = .ok (.iconst 1, 1) := by decide +kernel
theorem dX5_findCorners_293 : decode cX5_findCorners 293 = .ok (.isub, 1) := by decide +kernel
theorem dX5_findCorners_294 : decode cX5_findCorners 294 = .ok (.iaload, 1) := by decide +kernel
theorem dX5_findCorners_295 : decode cX5_findCorners 295 = .ok (.iastore, 1) := by decide +kernel
theorem dX5_findCorners_296 : decode cX5_findCorners 296 = .ok (.iinc 4 (-1), 3) := by decide +kernel
theorem dX5_findCorners_299 : decode cX5_findCorners 299 = .ok (.goto (-42), 3) := by decide +kernel
theorem dX5_findCorners_302 : decode cX5_findCorners 302 = .ok (.aload_n 0, 1) := by decide +kernel
theorem dX5_findCorners_303 : decode cX5_findCorners 303 = .ok (.getfield 36, 3) := by decide +kernel
theorem dX5_findCorners_306 : decode cX5_findCorners 306 = .ok (.iload 4, 2) := by decide +kernel
theorem dX5_findCorners_308 : decode cX5_findCorners 308 = .ok (.iload_n 3, 1) := by decide +kernel
theorem dX5_findCorners_309 : decode cX5_findCorners 309 = .ok (.iastore, 1) := by decide +kernel
theorem dX5_findCorners_310 : decode cX5_findCorners 310 = .ok (.iinc 2 1, 3) := by decide +kernel
theorem dX5_findCorners_313 : decode cX5_findCorners 313 = .ok (.goto (-74), 3) := by decide +kernel
theorem dX5_findCorners_316 : decode cX5_findCorners 316 = .ok (.return_, 1) := by decide +kernel
set_option maxRecDepth 20000 in
theorem ggX5_corners_X5_isShape : GoodIn wsX5_corners wsX5_isShape := goodIn_r _ [7, 8, 38, 39, 40, 41, 42, 43, 44, 45, 46, 47, 48, 49, 50, 51, 52, 53, 54, 55, 56, 57, 58, 59, 60, 61, 62] (by decide +kernel) (by decide +kernel)
set_option maxRecDepth 20000 in
theorem gX5_corners_X5_isShape : GoodIn wsX5_corners (wsV RX5 91 RX5 yX5_isShape wsX5_isShape) := goodIn_app (goodIn_of _ (by decide +kernel)) ggX5_corners_X5_isShape
set_option maxRecDepth 20000 in
theorem ggX5_corners_X5_findCorners : GoodIn wsX5_corners wsX5_findCorners := goodIn_r _ [12, 2, 13, 14, 15, 16, 17, 18, 19, 6, 20, 21, 22, 23, 24, 25, 26, 27, 28, 29, 30, 31, 32, 33, 34, 35, 36, 37, 38, 39, 40, 41, 42, 43, 44, 45, 46, 47, 48, 49, 50, 51, 52, 53, 54, 55, 56, 57, 58, 59, 60, 61, 62] (by decide +kernel) (by decide +kernel)
set_option maxRecDepth 20000 in
theorem gX5_corners_X5_findCorners : GoodIn wsX5_corners (wsV RX5 110 RX5 yX5_findCorners wsX5_findCorners) := goodIn_app (goodIn_of _ (by decide +kernel)) ggX5_corners_X5_findCorners
theorem dX5_corners_0 : decode cX5_corners 0 = .ok (.aload_n 0, 1) := by decide +kernel
theorem dX5_corners_1 : decode cX5_corners 1 = .ok (.aload_n 0, 1) := by decide +kernel
theorem dX5_corners_2 : decode cX5_corners 2 = .ok (.iload_n 1, 1) := by decide +kernel
theorem dX5_corners_3 : decode cX5_corners 3 = .ok (.invokevirtual 91, 3) := by decide +kernel
theorem dX5_corners_6 : decode cX5_corners 6 = .ok (.ifCond .eq 7, 3) := by decide +kernel
theorem dX5_corners_9 : decode cX5_corners 9 = .ok (.iconst 0, 1) := by decide +kernel
theorem dX5_corners_10 : decode cX5_corners 10 = .ok (.goto 4, 3) := by decide +kernel
theorem dX5_corners_13 : decode cX5_corners 13 = .ok (.iconst 1, 1) := by decide +kernel
theorem dX5_corners_14 : decode cX5_corners 14 = .ok (.putfield 54, 3) := by decide +kernel
theorem dX5_corners_17 : decode cX5_corners 17 = .ok (.aload_n 0, 1) := by decide +kernel
theorem dX5_corners_18 : decode cX5_corners 18 = .ok (.getfield 54, 3) := by decide +kernel
theorem dX5_corners_21 : decode cX5_corners 21 = .ok (.ifCond .le 5, 3) := by decide +kernel
theorem dX5_corners_24 : decode cX5_corners 24 = .ok (.iconst 0, 1) := by decide +kernel
theorem dX5_corners_25 : decode cX5_corners 25 = .ok (.ireturn, 1) := by decide +kernel
theorem dX5_corners_26 : decode cX5_corners 26 = .ok (.aload_n 0, 1) := by decide +kernel
theorem dX5_corners_27 : decode cX5_corners 27 = .ok (.iload_n 1, 1) := by decide +kernel
theorem dX5_corners_28 : decode cX5_corners 28 = .ok (.invokevirtual 110, 3) := by decide +kernel
theorem dX5_corners_31 : decode cX5_corners 31 = .ok (.aload_n 0, 1) := by decide +kernel
theorem dX5_corners_32 : decode cX5_corners 32 = .ok (.getfield 103, 3) := by decide +kernel
theorem dX5_corners_35 : decode cX5_corners 35 = .ok (.ireturn, 1) := by decide +kernel
set_option maxRecDepth 20000 in
theorem ggX5_corner_X5_isShape : GoodIn wsX5_corner wsX5_isShape := goodIn_r _ [10, 11, 38, 39, 40, 41, 42, 43, 44, 45, 46, 47, 48, 49, 50, 51, 52, 53, 54, 55, 56, 57, 58, 59, 60, 61, 62] (by decide +kernel) (by decide +kernel)
set_option maxRecDepth 20000 in
theorem gX5_corner_X5_isShape : GoodIn wsX5_corner (wsV RX5 91 RX5 yX5_isShape wsX5_isShape) := goodIn_app (goodIn_of _ (by decide +kernel)) ggX5_corner_X5_isShape
set_option maxRecDepth 20000 in
theorem ggX5_corner_X5_findCorners : GoodIn wsX5_corner wsX5_findCorners := goodIn_r _ [15, 2, 16, 3, 5, 4, 17, 18, 19, 9, 20, 21, 22, 23, 24, 25, 26, 27, 28, 29, 30, 31, 32, 33, 34, 35, 36, 37, 38, 39, 40, 41, 42, 43, 44, 45, 46, 47, 48, 49, 50, 51, 52, 53, 54, 55, 56, 57, 58, 59, 60, 61, 62] (by decide +kernel) (by decide +kernel)
set_option maxRecDepth 20000 in
theorem gX5_corner_X5_findCorners : GoodIn wsX5_corner (wsV RX5 110 RX5 yX5_findCorners wsX5_findCorners) := goodIn_app (goodIn_of _ (by decide +kernel)) ggX5_corner_X5_findCorners
theorem dX5_corner_0 : decode cX5_corner 0 = .ok (.aload_n 0, 1) := by decide +kernel
theorem dX5_corner_1 : decode cX5_corner 1 = .ok (.aload_n 0, 1) := by decide +kernel
theorem dX5_corner_2 : decode cX5_corner 2 = .ok (.iload_n 1, 1) := by decide +kernel
theorem dX5_corner_3 : decode cX5_corner 3 = .ok (.invokevirtual 91, 3) := by decide +kernel
theorem dX5_corner_6 : decode cX5_corner 6 = .ok (.ifCond .eq 16, 3) := by decide +kernel
theorem dX5_corner_9 : decode cX5_corner 9 = .ok (.iload_n 3, 1) := by decide +kernel
theorem dX5_corner_10 : decode cX5_corner 10 = .ok (.ifCond .eq 8, 3) := by decide +kernel
theorem dX5_corner_13 : decode cX5_corner 13 = .ok (.iload_n 3, 1) := by decide +kernel
theorem dX5_corner_14 : decode cX5_corner 14 = .ok (.iconst 1, 1) := by decide +kernel
theorem dX5_corner_15 : decode cX5_corner 15 = .ok (.if_icmp .ne 7, 3) := by decide +kernel
theorem dX5_corner_18 : decode cX5_corner 18 = .ok (.iconst 0, 1) := by decide +kernel
theorem dX5_corner_19 : decode cX5_corner 19 = .ok (.goto 4, 3) := by decide +kernel
theorem dX5_corner_22 : decode cX5_corner 22 = .ok (.iconst 1, 1) := by decide +kernel
theorem dX5_corner_23 : decode cX5_corner 23 = .ok (.putfield 54, 3) := by decide +kernel
theorem dX5_corner_26 : decode cX5_corner 26 = .ok (.aload_n 0, 1) := by decide +kernel
theorem dX5_corner_27 : decode cX5_corner 27 = .ok (.getfield 54, 3) := by decide +kernel
theorem dX5_corner_30 : decode cX5_corner 30 = .ok (.ifCond .ne 29, 3) := by decide +kernel
theorem dX5_corner_33 : decode cX5_corner 33 = .ok (.aload_n 0, 1) := by decide +kernel
theorem dX5_corner_34 : decode cX5_corner 34 = .ok (.iload_n 1, 1) := by decide +kernel
theorem dX5_corner_35 : decode cX5_corner 35 = .ok (.invokevirtual 110, 3) := by decide +kernel
theorem dX5_corner_38 : decode cX5_corner 38 = .ok (.aload_n 0, 1) := by decide +kernel
theorem dX5_corner_39 : decode cX5_corner 39 = .ok (.iload_n 2, 1) := by decide +kernel
theorem dX5_corner_40 : decode cX5_corner 40 = .ok (.ifCond .lt 11, 3) := by decide +kernel
theorem dX5_corner_43 : decode cX5_corner 43 = .ok (.iload_n 2, 1) := by decide +kernel
theorem dX5_corner_44 : decode cX5_corner 44 = .ok (.aload_n 0, 1) := by decide +kernel
theorem dX5_corner_45 : decode cX5_corner 45 = .ok (.getfield 103, 3) := by decide +kernel
theorem dX5_corner_48 : decode cX5_corner 48 = .ok (.if_icmp .lt 7, 3) := by decide +kernel
theorem dX5_corner_51 : decode cX5_corner 51 = .ok (.iconst 1, 1) := by decide +kernel
theorem dX5_corner_52 : decode cX5_corner 52 = .ok (.goto 4, 3) := by decide +kernel
theorem dX5_corner_55 : decode cX5_corner 55 = .ok (.iconst 0, 1) := by decide +kernel
theorem dX5_corner_56 : decode cX5_corner 56 = .ok (.putfield 54, 3) := by decide +kernel
theorem dX5_corner_59 : decode cX5_corner 59 = .ok (.aload_n 0, 1) := by decide +kernel
theorem dX5_corner_60 : decode cX5_corner 60 = .ok (.getfield 54, 3) := by decide +kernel
theorem dX5_corner_63 : decode cX5_corner 63 = .ok (.ifCond .le 7, 3) := by decide +kernel
theorem dX5_corner_66 : decode cX5_corner 66 = .ok (.lconst 0, 1) := by decide +kernel
theorem dX5_corner_67 : decode cX5_corner 67 = .ok (.goto 32, 3) := by decide +kernel
theorem dX5_corner_70 : decode cX5_corner 70 = .ok (.iload_n 3, 1) := by decide +kernel
theorem dX5_corner_71 : decode cX5_corner 71 = .ok (.ifCond .ne 17, 3) := by decide +kernel
theorem dX5_corner_74 : decode cX5_corner 74 = .ok (.aload_n 0, 1) := by decide +kernel
theorem dX5_corner_75 : decode cX5_corner 75 = .ok (.getfield 7, 3) := by decide +kernel
theorem dX5_corner_78 : decode cX5_corner 78 = .ok (.aload_n 0, 1) := by decide +kernel
theorem dX5_corner_79 : decode cX5_corner 79 = .ok (.getfield 36, 3) := by decide +kernel
theorem dX5_corner_82 : decode cX5_corner 82 = .ok (.iload_n 2, 1) := by decide +kernel
theorem dX5_corner_83 : decode cX5_corner 83 = .ok (.iaload, 1) := by decide +kernel
theorem dX5_corner_84 : decode cX5_corner 84 = .ok (.laload, 1) := by decide +kernel
theorem dX5_corner_85 : decode cX5_corner 85 = .ok (.goto 14, 3) := by decide +kernel
theorem dX5_corner_88 : decode cX5_corner 88 = .ok (.aload_n 0, 1) := by decide +kernel
theorem dX5_corner_89 : decode cX5_corner 89 = .ok (.getfield 13, 3) := by decide +kernel
theorem dX5_corner_92 : decode cX5_corner 92 = .ok (.aload_n 0, 1) := by decide +kernel
theorem dX5_corner_93 : decode cX5_corner 93 = .ok (.getfield 36, 3) := by decide +kernel
theorem dX5_corner_96 : decode cX5_corner 96 = .ok (.iload_n 2, 1) := by decide +kernel
theorem dX5_corner_97 : decode cX5_corner 97 = .ok (.iaload, 1) := by decide +kernel
theorem dX5_corner_98 : decode cX5_corner 98 = .ok (.laload, 1) := by decide +kernel
theorem dX5_corner_99 : decode cX5_corner 99 = .ok (.lreturn, 1) := by decide +kernel
theorem dX5_side_0 : decode cX5_side 0 = .ok (.lload_n 0, 1) := by decide +kernel
theorem dX5_side_1 : decode cX5_side 1 = .ok (.lconst 0, 1) := by decide +kernel
theorem dX5_side_2 : decode cX5_side 2 = .ok (.lcmp, 1) := by decide +kernel
theorem dX5_side_3 : decode cX5_side 3 = .ok (.ifCond .le 7, 3) := by decide +kernel
theorem dX5_side_6 : decode cX5_side 6 = .ok (.iconst 1, 1) := by decide +kernel
theorem dX5_side_7 : decode cX5_side 7 = .ok (.goto 14, 3) := by decide +kernel
theorem dX5_side_10 : decode cX5_side 10 = .ok (.lload_n 0, 1) := by decide +kernel
theorem dX5_side_11 : decode cX5_side 11 = .ok (.lconst 0, 1) := by decide +kernel
theorem dX5_side_12 : decode cX5_side 12 = .ok (.lcmp, 1) := by decide +kernel
theorem dX5_side_13 : decode cX5_side 13 = .ok (.ifCond .ge 7, 3) := by decide +kernel
theorem dX5_side_16 : decode cX5_side 16 = .ok (.iconst (-1), 1) := by decide +kernel
theorem dX5_side_17 : decode cX5_side 17 = .ok (.goto 4, 3) := by decide +kernel
theorem dX5_side_20 : decode cX5_side 20 = .ok (.iconst 0, 1) := by decide +kernel
theorem dX5_side_21 : decode cX5_side 21 = .ok (.ireturn, 1) := by decide +kernel
set_option maxRecDepth 20000 in
theorem ggX5_isMeeting_X5_isOn : GoodIn wsX5_isMeeting wsX5_isOn := goodIn_r _ [6, 7, 8, 5, 9, 10, 11, 12] (by decide +kernel) (by decide +kernel)
set_option maxRecDepth 20000 in
theorem gX5_isMeeting_X5_isOn : GoodIn wsX5_isMeeting (va_wsS RX5 83 yX5_isOn wsX5_isOn) := goodIn_app (goodIn_of _ (by decide +kernel)) ggX5_isMeeting_X5_isOn
set_option maxRecDepth 20000 in
theorem ggX5_isMeeting_X5_turn : GoodIn wsX5_isMeeting wsX5_turn := goodIn_r _ [9] (by decide +kernel) (by decide +kernel)
set_option maxRecDepth 20000 in
theorem gX5_isMeeting_X5_turn : GoodIn wsX5_isMeeting (va_wsS RX5 75 yX5_turn wsX5_turn) := goodIn_app (goodIn_of _ (by decide +kernel)) ggX5_isMeeting_X5_turn
set_option maxRecDepth 20000 in
theorem ggX5_isMeeting_X5_side : GoodIn wsX5_isMeeting wsX5_side := goodIn_r _ [15] (by decide +kernel) (by decide +kernel)
set_option maxRecDepth 20000 in
theorem gX5_isMeeting_X5_side : GoodIn wsX5_isMeeting (va_wsS RX5 114 yX5_side wsX5_side) := goodIn_app (goodIn_of _ (by decide +kernel)) ggX5_isMeeting_X5_side
theorem dX5_isMeeting_0 : decode cX5_isMeeting 0 = .ok (.aload_n 0, 1) := by decide +kernel
theorem dX5_isMeeting_1 : decode cX5_isMeeting 1 = .ok (.getfield 7, 3) := by decide +kernel
theorem dX5_isMeeting_4 : decode cX5_isMeeting 4 = .ok (.iload_n 1, 1) := by decide +kernel
theorem dX5_isMeeting_5 : decode cX5_isMeeting 5 = .ok (.laload, 1) := by decide +kernel
theorem dX5_isMeeting_6 : decode cX5_isMeeting 6 = .ok (.aload_n 0, 1) := by decide +kernel
theorem dX5_isMeeting_7 : decode cX5_isMeeting 7 = .ok (.getfield 13, 3) := by decide +kernel
theorem dX5_isMeeting_10 : decode cX5_isMeeting 10 = .ok (.iload_n 1, 1) := by decide +kernel
theorem dX5_isMeeting_11 : decode cX5_isMeeting 11 = .ok (.laload, 1) := by decide +kernel
theorem dX5_isMeeting_12 : decode cX5_isMeeting 12 = .ok (.aload_n 0, 1) := by decide +kernel
theorem dX5_isMeeting_13 : decode cX5_isMeeting 13 = .ok (.getfield 7, 3) := by decide +kernel
theorem dX5_isMeeting_16 : decode cX5_isMeeting 16 = .ok (.iload_n 2, 1) := by decide +kernel
theorem dX5_isMeeting_17 : decode cX5_isMeeting 17 = .ok (.laload, 1) := by decide +kernel
theorem dX5_isMeeting_18 : decode cX5_isMeeting 18 = .ok (.aload_n 0, 1) := by decide +kernel
theorem dX5_isMeeting_19 : decode cX5_isMeeting 19 = .ok (.getfield 13, 3) := by decide +kernel
theorem dX5_isMeeting_22 : decode cX5_isMeeting 22 = .ok (.iload_n 2, 1) := by decide +kernel
theorem dX5_isMeeting_23 : decode cX5_isMeeting 23 = .ok (.laload, 1) := by decide +kernel
theorem dX5_isMeeting_24 : decode cX5_isMeeting 24 = .ok (.aload_n 0, 1) := by decide +kernel
theorem dX5_isMeeting_25 : decode cX5_isMeeting 25 = .ok (.getfield 7, 3) := by decide +kernel
theorem dX5_isMeeting_28 : decode cX5_isMeeting 28 = .ok (.iload_n 3, 1) := by decide +kernel
theorem dX5_isMeeting_29 : decode cX5_isMeeting 29 = .ok (.laload, 1) := by decide +kernel
theorem dX5_isMeeting_30 : decode cX5_isMeeting 30 = .ok (.aload_n 0, 1) := by decide +kernel
theorem dX5_isMeeting_31 : decode cX5_isMeeting 31 = .ok (.getfield 13, 3) := by decide +kernel
theorem dX5_isMeeting_34 : decode cX5_isMeeting 34 = .ok (.iload_n 3, 1) := by decide +kernel
theorem dX5_isMeeting_35 : decode cX5_isMeeting 35 = .ok (.laload, 1) := by decide +kernel
theorem dX5_isMeeting_36 : decode cX5_isMeeting 36 = .ok (.invokestatic 83, 3) := by decide +kernel
theorem dX5_isMeeting_39 : decode cX5_isMeeting 39 = .ok (.ifCond .ne 135, 3) := by decide +kernel
theorem dX5_isMeeting_42 : decode cX5_isMeeting 42 = .ok (.aload_n 0, 1) := by decide +kernel
theorem dX5_isMeeting_43 : decode cX5_isMeeting 43 = .ok (.getfield 7, 3) := by decide +kernel
theorem dX5_isMeeting_46 : decode cX5_isMeeting 46 = .ok (.iload_n 1, 1) := by decide +kernel
theorem dX5_isMeeting_47 : decode cX5_isMeeting 47 = .ok (.laload, 1) := by decide +kernel
theorem dX5_isMeeting_48 : decode cX5_isMeeting 48 = .ok (.aload_n 0, 1) := by decide +kernel
theorem dX5_isMeeting_49 : decode cX5_isMeeting 49 = .ok (.getfield 13, 3) := by decide +kernel
theorem dX5_isMeeting_52 : decode cX5_isMeeting 52 = .ok (.iload_n 1, 1) := by decide +kernel
theorem dX5_isMeeting_53 : decode cX5_isMeeting 53 = .ok (.laload, 1) := by decide +kernel
theorem dX5_isMeeting_54 : decode cX5_isMeeting 54 = .ok (.aload_n 0, 1) := by decide +kernel
theorem dX5_isMeeting_55 : decode cX5_isMeeting 55 = .ok (.getfield 7, 3) := by decide +kernel
theorem dX5_isMeeting_58 : decode cX5_isMeeting 58 = .ok (.iload_n 2, 1) := by decide +kernel
theorem dX5_isMeeting_59 : decode cX5_isMeeting 59 = .ok (.laload, 1) := by decide +kernel
theorem dX5_isMeeting_60 : decode cX5_isMeeting 60 = .ok (.aload_n 0, 1) := by decide +kernel
theorem dX5_isMeeting_61 : decode cX5_isMeeting 61 = .ok (.getfield 13, 3) := by decide +kernel
theorem dX5_isMeeting_64 : decode cX5_isMeeting 64 = .ok (.iload_n 2, 1) := by decide +kernel
theorem dX5_isMeeting_65 : decode cX5_isMeeting 65 = .ok (.laload, 1) := by decide +kernel
theorem dX5_isMeeting_66 : decode cX5_isMeeting 66 = .ok (.aload_n 0, 1) := by decide +kernel
theorem dX5_isMeeting_67 : decode cX5_isMeeting 67 = .ok (.getfield 7, 3) := by decide +kernel
theorem dX5_isMeeting_70 : decode cX5_isMeeting 70 = .ok (.iload 4, 2) := by decide +kernel
theorem dX5_isMeeting_72 : decode cX5_isMeeting 72 = .ok (.laload, 1) := by decide +kernel
theorem dX5_isMeeting_73 : decode cX5_isMeeting 73 = .ok (.aload_n 0, 1) := by decide +kernel
theorem dX5_isMeeting_74 : decode cX5_isMeeting 74 = .ok (.getfield 13, 3) := by decide +kernel
theorem dX5_isMeeting_77 : decode cX5_isMeeting 77 = .ok (.iload 4, 2) := by decide +kernel
theorem dX5_isMeeting_79 : decode cX5_isMeeting 79 = .ok (.laload, 1) := by decide +kernel
theorem dX5_isMeeting_80 : decode cX5_isMeeting 80 = .ok (.invokestatic 83, 3) := by decide +kernel
theorem dX5_isMeeting_83 : decode cX5_isMeeting 83 = .ok (.ifCond .ne 91, 3) := by decide +kernel
theorem dX5_isMeeting_86 : decode cX5_isMeeting 86 = .ok (.aload_n 0, 1) := by decide +kernel
theorem dX5_isMeeting_87 : decode cX5_isMeeting 87 = .ok (.getfield 7, 3) := by decide +kernel
theorem dX5_isMeeting_90 : decode cX5_isMeeting 90 = .ok (.iload_n 3, 1) := by decide +kernel
theorem dX5_isMeeting_91 : decode cX5_isMeeting 91 = .ok (.laload, 1) := by decide +kernel
theorem dX5_isMeeting_92 : decode cX5_isMeeting 92 = .ok (.aload_n 0, 1) := by decide +kernel
theorem dX5_isMeeting_93 : decode cX5_isMeeting 93 = .ok (.getfield 13, 3) := by decide +kernel
theorem dX5_isMeeting_96 : decode cX5_isMeeting 96 = .ok (.iload_n 3, 1) := by decide +kernel
theorem dX5_isMeeting_97 : decode cX5_isMeeting 97 = .ok (.laload, 1) := by decide +kernel
theorem dX5_isMeeting_98 : decode cX5_isMeeting 98 = .ok (.aload_n 0, 1) := by decide +kernel
theorem dX5_isMeeting_99 : decode cX5_isMeeting 99 = .ok (.getfield 7, 3) := by decide +kernel
theorem dX5_isMeeting_102 : decode cX5_isMeeting 102 = .ok (.iload 4, 2) := by decide +kernel
theorem dX5_isMeeting_104 : decode cX5_isMeeting 104 = .ok (.laload, 1) := by decide +kernel
theorem dX5_isMeeting_105 : decode cX5_isMeeting 105 = .ok (.aload_n 0, 1) := by decide +kernel
theorem dX5_isMeeting_106 : decode cX5_isMeeting 106 = .ok (.getfield 13, 3) := by decide +kernel
theorem dX5_isMeeting_109 : decode cX5_isMeeting 109 = .ok (.iload 4, 2) := by decide +kernel
theorem dX5_isMeeting_111 : decode cX5_isMeeting 111 = .ok (.laload, 1) := by decide +kernel
theorem dX5_isMeeting_112 : decode cX5_isMeeting 112 = .ok (.aload_n 0, 1) := by decide +kernel
theorem dX5_isMeeting_113 : decode cX5_isMeeting 113 = .ok (.getfield 7, 3) := by decide +kernel
theorem dX5_isMeeting_116 : decode cX5_isMeeting 116 = .ok (.iload_n 1, 1) := by decide +kernel
theorem dX5_isMeeting_117 : decode cX5_isMeeting 117 = .ok (.laload, 1) := by decide +kernel
theorem dX5_isMeeting_118 : decode cX5_isMeeting 118 = .ok (.aload_n 0, 1) := by decide +kernel
theorem dX5_isMeeting_119 : decode cX5_isMeeting 119 = .ok (.getfield 13, 3) := by decide +kernel
theorem dX5_isMeeting_122 : decode cX5_isMeeting 122 = .ok (.iload_n 1, 1) := by decide +kernel
theorem dX5_isMeeting_123 : decode cX5_isMeeting 123 = .ok (.laload, 1) := by decide +kernel
theorem dX5_isMeeting_124 : decode cX5_isMeeting 124 = .ok (.invokestatic 83, 3) := by decide +kernel
theorem dX5_isMeeting_127 : decode cX5_isMeeting 127 = .ok (.ifCond .ne 47, 3) := by decide +kernel
theorem dX5_isMeeting_130 : decode cX5_isMeeting 130 = .ok (.aload_n 0, 1) := by decide +kernel
theorem dX5_isMeeting_131 : decode cX5_isMeeting 131 = .ok (.getfield 7, 3) := by decide +kernel
theorem dX5_isMeeting_134 : decode cX5_isMeeting 134 = .ok (.iload_n 3, 1) := by decide +kernel
theorem dX5_isMeeting_135 : decode cX5_isMeeting 135 = .ok (.laload, 1) := by decide +kernel
theorem dX5_isMeeting_136 : decode cX5_isMeeting 136 = .ok (.aload_n 0, 1) := by decide +kernel
theorem dX5_isMeeting_137 : decode cX5_isMeeting 137 = .ok (.getfield 13, 3) := by decide +kernel
theorem dX5_isMeeting_140 : decode cX5_isMeeting 140 = .ok (.iload_n 3, 1) := by decide +kernel
theorem dX5_isMeeting_141 : decode cX5_isMeeting 141 = .ok (.laload, 1) := by decide +kernel
theorem dX5_isMeeting_142 : decode cX5_isMeeting 142 = .ok (.aload_n 0, 1) := by decide +kernel
theorem dX5_isMeeting_143 : decode cX5_isMeeting 143 = .ok (.getfield 7, 3) := by decide +kernel
theorem dX5_isMeeting_146 : decode cX5_isMeeting 146 = .ok (.iload 4, 2) := by decide +kernel
theorem dX5_isMeeting_148 : decode cX5_isMeeting 148 = .ok (.laload, 1) := by decide +kernel
theorem dX5_isMeeting_149 : decode cX5_isMeeting 149 = .ok (.aload_n 0, 1) := by decide +kernel
theorem dX5_isMeeting_150 : decode cX5_isMeeting 150 = .ok (.getfield 13, 3) := by decide +kernel
theorem dX5_isMeeting_153 : decode cX5_isMeeting 153 = .ok (.iload 4, 2) := by decide +kernel
theorem dX5_isMeeting_155 : decode cX5_isMeeting 155 = .ok (.laload, 1) := by decide +kernel
theorem dX5_isMeeting_156 : decode cX5_isMeeting 156 = .ok (.aload_n 0, 1) := by decide +kernel
theorem dX5_isMeeting_157 : decode cX5_isMeeting 157 = .ok (.getfield 7, 3) := by decide +kernel
theorem dX5_isMeeting_160 : decode cX5_isMeeting 160 = .ok (.iload_n 2, 1) := by decide +kernel
theorem dX5_isMeeting_161 : decode cX5_isMeeting 161 = .ok (.laload, 1) := by decide +kernel
theorem dX5_isMeeting_162 : decode cX5_isMeeting 162 = .ok (.aload_n 0, 1) := by decide +kernel
theorem dX5_isMeeting_163 : decode cX5_isMeeting 163 = .ok (.getfield 13, 3) := by decide +kernel
theorem dX5_isMeeting_166 : decode cX5_isMeeting 166 = .ok (.iload_n 2, 1) := by decide +kernel
theorem dX5_isMeeting_167 : decode cX5_isMeeting 167 = .ok (.laload, 1) := by decide +kernel
theorem dX5_isMeeting_168 : decode cX5_isMeeting 168 = .ok (.invokestatic 83, 3) := by decide +kernel
theorem dX5_isMeeting_171 : decode cX5_isMeeting 171 = .ok (.ifCond .eq 5, 3) := by decide +kernel
theorem dX5_isMeeting_174 : decode cX5_isMeeting 174 = .ok (.iconst 1, 1) := by decide +kernel
theorem dX5_isMeeting_175 : decode cX5_isMeeting 175 = .ok (.ireturn, 1) := by decide +kernel
theorem dX5_isMeeting_176 : decode cX5_isMeeting 176 = .ok (.aload_n 0, 1) := by decide +kernel
theorem dX5_isMeeting_177 : decode cX5_isMeeting 177 = .ok (.getfield 7, 3) := by decide +kernel
theorem dX5_isMeeting_180 : decode cX5_isMeeting 180 = .ok (.iload_n 1, 1) := by decide +kernel
theorem dX5_isMeeting_181 : decode cX5_isMeeting 181 = .ok (.laload, 1) := by decide +kernel
theorem dX5_isMeeting_182 : decode cX5_isMeeting 182 = .ok (.aload_n 0, 1) := by decide +kernel
theorem dX5_isMeeting_183 : decode cX5_isMeeting 183 = .ok (.getfield 13, 3) := by decide +kernel
theorem dX5_isMeeting_186 : decode cX5_isMeeting 186 = .ok (.iload_n 1, 1) := by decide +kernel
theorem dX5_isMeeting_187 : decode cX5_isMeeting 187 = .ok (.laload, 1) := by decide +kernel
theorem dX5_isMeeting_188 : decode cX5_isMeeting 188 = .ok (.aload_n 0, 1) := by decide +kernel
theorem dX5_isMeeting_189 : decode cX5_isMeeting 189 = .ok (.getfield 7, 3) := by decide +kernel
theorem dX5_isMeeting_192 : decode cX5_isMeeting 192 = .ok (.iload_n 2, 1) := by decide +kernel
theorem dX5_isMeeting_193 : decode cX5_isMeeting 193 = .ok (.laload, 1) := by decide +kernel
theorem dX5_isMeeting_194 : decode cX5_isMeeting 194 = .ok (.aload_n 0, 1) := by decide +kernel
theorem dX5_isMeeting_195 : decode cX5_isMeeting 195 = .ok (.getfield 13, 3) := by decide +kernel
theorem dX5_isMeeting_198 : decode cX5_isMeeting 198 = .ok (.iload_n 2, 1) := by decide +kernel
theorem dX5_isMeeting_199 : decode cX5_isMeeting 199 = .ok (.laload, 1) := by decide +kernel
theorem dX5_isMeeting_200 : decode cX5_isMeeting 200 = .ok (.aload_n 0, 1) := by decide +kernel
theorem dX5_isMeeting_201 : decode cX5_isMeeting 201 = .ok (.getfield 7, 3) := by decide +kernel
theorem dX5_isMeeting_204 : decode cX5_isMeeting 204 = .ok (.iload_n 3, 1) := by decide +kernel
theorem dX5_isMeeting_205 : decode cX5_isMeeting 205 = .ok (.laload, 1) := by decide +kernel
theorem dX5_isMeeting_206 : decode cX5_isMeeting 206 = .ok (.aload_n 0, 1) := by decide +kernel
theorem dX5_isMeeting_207 : decode cX5_isMeeting 207 = .ok (.getfield 13, 3) := by decide +kernel
theorem dX5_isMeeting_210 : decode cX5_isMeeting 210 = .ok (.iload_n 3, 1) := by decide +kernel
theorem dX5_isMeeting_211 : decode cX5_isMeeting 211 = .ok (.laload, 1) := by decide +kernel
theorem dX5_isMeeting_212 : decode cX5_isMeeting 212 = .ok (.invokestatic 75, 3) := by decide +kernel
theorem dX5_isMeeting_215 : decode cX5_isMeeting 215 = .ok (.invokestatic 114, 3) := by decide +kernel
theorem dX5_isMeeting_218 : decode cX5_isMeeting 218 = .ok (.istore 5, 2) := by decide +kernel
theorem dX5_isMeeting_220 : decode cX5_isMeeting 220 = .ok (.aload_n 0, 1) := by decide +kernel
theorem dX5_isMeeting_221 : decode cX5_isMeeting 221 = .ok (.getfield 7, 3) := by decide +kernel
theorem dX5_isMeeting_224 : decode cX5_isMeeting 224 = .ok (.iload_n 1, 1) := by decide +kernel
theorem dX5_isMeeting_225 : decode cX5_isMeeting 225 = .ok (.laload, 1) := by decide +kernel
theorem dX5_isMeeting_226 : decode cX5_isMeeting 226 = .ok (.aload_n 0, 1) := by decide +kernel
theorem dX5_isMeeting_227 : decode cX5_isMeeting 227 = .ok (.getfield 13, 3) := by decide +kernel
theorem dX5_isMeeting_230 : decode cX5_isMeeting 230 = .ok (.iload_n 1, 1) := by decide +kernel
theorem dX5_isMeeting_231 : decode cX5_isMeeting 231 = .ok (.laload, 1) := by decide +kernel
theorem dX5_isMeeting_232 : decode cX5_isMeeting 232 = .ok (.aload_n 0, 1) := by decide +kernel
theorem dX5_isMeeting_233 : decode cX5_isMeeting 233 = .ok (.getfield 7, 3) := by decide +kernel
theorem dX5_isMeeting_236 : decode cX5_isMeeting 236 = .ok (.iload_n 2, 1) := by decide +kernel
theorem dX5_isMeeting_237 : decode cX5_isMeeting 237 = .ok (.laload, 1) := by decide +kernel
theorem dX5_isMeeting_238 : decode cX5_isMeeting 238 = .ok (.aload_n 0, 1) := by decide +kernel
theorem dX5_isMeeting_239 : decode cX5_isMeeting 239 = .ok (.getfield 13, 3) := by decide +kernel
theorem dX5_isMeeting_242 : decode cX5_isMeeting 242 = .ok (.iload_n 2, 1) := by decide +kernel
theorem dX5_isMeeting_243 : decode cX5_isMeeting 243 = .ok (.laload, 1) := by decide +kernel
theorem dX5_isMeeting_244 : decode cX5_isMeeting 244 = .ok (.aload_n 0, 1) := by decide +kernel
theorem dX5_isMeeting_245 : decode cX5_isMeeting 245 = .ok (.getfield 7, 3) := by decide +kernel
theorem dX5_isMeeting_248 : decode cX5_isMeeting 248 = .ok (.iload 4, 2) := by decide +kernel
theorem dX5_isMeeting_250 : decode cX5_isMeeting 250 = .ok (.laload, 1) := by decide +kernel
theorem dX5_isMeeting_251 : decode cX5_isMeeting 251 = .ok (.aload_n 0, 1) := by decide +kernel
theorem dX5_isMeeting_252 : decode cX5_isMeeting 252 = .ok (.getfield 13, 3) := by decide +kernel
theorem dX5_isMeeting_255 : decode cX5_isMeeting 255 = .ok (.iload 4, 2) := by decide +kernel
theorem dX5_isMeeting_257 : decode cX5_isMeeting 257 = .ok (.laload, 1) := by decide +kernel
theorem dX5_isMeeting_258 : decode cX5_isMeeting 258 = .ok (.invokestatic 75, 3) := by decide +kernel
theorem dX5_isMeeting_261 : decode cX5_isMeeting 261 = .ok (.invokestatic 114, 3) := by decide +kernel
theorem dX5_isMeeting_264 : decode cX5_isMeeting 264 = .ok (.istore 6, 2) := by decide +kernel
theorem dX5_isMeeting_266 : decode cX5_isMeeting 266 = .ok (.aload_n 0, 1) := by decide +kernel
theorem dX5_isMeeting_267 : decode cX5_isMeeting 267 = .ok (.getfield 7, 3) := by decide +kernel
theorem dX5_isMeeting_270 : decode cX5_isMeeting 270 = .ok (.iload_n 3, 1) := by decide +kernel
theorem dX5_isMeeting_271 : decode cX5_isMeeting 271 = .ok (.laload, 1) := by decide +kernel
theorem dX5_isMeeting_272 : decode cX5_isMeeting 272 = .ok (.aload_n 0, 1) := by decide +kernel
theorem dX5_isMeeting_273 : decode cX5_isMeeting 273 = .ok (.getfield 13, 3) := by decide +kernel
theorem dX5_isMeeting_276 : decode cX5_isMeeting 276 = .ok (.iload_n 3, 1) := by decide +kernel
theorem dX5_isMeeting_277 : decode cX5_isMeeting 277 = .ok (.laload, 1) := by decide +kernel
theorem dX5_isMeeting_278 : decode cX5_isMeeting 278 = .ok (.aload_n 0, 1) := by decide +kernel
theorem dX5_isMeeting_279 : decode cX5_isMeeting 279 = .ok (.getfield 7, 3) := by decide +kernel
theorem dX5_isMeeting_282 : decode cX5_isMeeting 282 = .ok (.iload 4, 2) := by decide +kernel
theorem dX5_isMeeting_284 : decode cX5_isMeeting 284 = .ok (.laload, 1) := by decide +kernel
theorem dX5_isMeeting_285 : decode cX5_isMeeting 285 = .ok (.aload_n 0, 1) := by decide +kernel
theorem dX5_isMeeting_286 : decode cX5_isMeeting 286 = .ok (.getfield 13, 3) := by decide +kernel
theorem dX5_isMeeting_289 : decode cX5_isMeeting 289 = .ok (.iload 4, 2) := by decide +kernel
theorem dX5_isMeeting_291 : decode cX5_isMeeting 291 = .ok (.laload, 1) := by decide +kernel
theorem dX5_isMeeting_292 : decode cX5_isMeeting 292 = .ok (.aload_n 0, 1) := by decide +kernel
theorem dX5_isMeeting_293 : decode cX5_isMeeting 293 = .ok (.getfield 7, 3) := by decide +kernel
theorem dX5_isMeeting_296 : decode cX5_isMeeting 296 = .ok (.iload_n 1, 1) := by decide +kernel
theorem dX5_isMeeting_297 : decode cX5_isMeeting 297 = .ok (.laload, 1) := by decide +kernel
theorem dX5_isMeeting_298 : decode cX5_isMeeting 298 = .ok (.aload_n 0, 1) := by decide +kernel
theorem dX5_isMeeting_299 : decode cX5_isMeeting 299 = .ok (.getfield 13, 3) := by decide +kernel
theorem dX5_isMeeting_302 : decode cX5_isMeeting 302 = .ok (.iload_n 1, 1) := by decide +kernel
theorem dX5_isMeeting_303 : decode cX5_isMeeting 303 = .ok (.laload, 1) := by decide +kernel
theorem dX5_isMeeting_304 : decode cX5_isMeeting 304 = .ok (.invokestatic 75, 3) := by decide +kernel
theorem dX5_isMeeting_307 : decode cX5_isMeeting 307 = .ok (.invokestatic 114, 3) := by decide +kernel
theorem dX5_isMeeting_310 : decode cX5_isMeeting 310 = .ok (.istore 7, 2) := by decide +kernel
theorem dX5_isMeeting_312 : decode cX5_isMeeting 312 = .ok (.aload_n 0, 1) := by decide +kernel
theorem dX5_isMeeting_313 : decode cX5_isMeeting 313 = .ok (.getfield 7, 3) := by decide +kernel
theorem dX5_isMeeting_316 : decode cX5_isMeeting 316 = .ok (.iload_n 3, 1) := by decide +kernel
theorem dX5_isMeeting_317 : decode cX5_isMeeting 317 = .ok (.laload, 1) := by decide +kernel
theorem dX5_isMeeting_318 : decode cX5_isMeeting 318 = .ok (.aload_n 0, 1) := by decide +kernel
theorem dX5_isMeeting_319 : decode cX5_isMeeting 319 = .ok (.getfield 13, 3) := by decide +kernel
theorem dX5_isMeeting_322 : decode cX5_isMeeting 322 = .ok (.iload_n 3, 1) := by decide +kernel
theorem dX5_isMeeting_323 : decode cX5_isMeeting 323 = .ok (.laload, 1) := by decide +kernel
theorem dX5_isMeeting_324 : decode cX5_isMeeting 324 = .ok (.aload_n 0, 1) := by decide +kernel
theorem dX5_isMeeting_325 : decode cX5_isMeeting 325 = .ok (.getfield 7, 3) := by decide +kernel
theorem dX5_isMeeting_328 : decode cX5_isMeeting 328 = .ok (.iload 4, 2) := by decide +kernel
theorem dX5_isMeeting_330 : decode cX5_isMeeting 330 = .ok (.laload, 1) := by decide +kernel
theorem dX5_isMeeting_331 : decode cX5_isMeeting 331 = .ok (.aload_n 0, 1) := by decide +kernel
theorem dX5_isMeeting_332 : decode cX5_isMeeting 332 = .ok (.getfield 13, 3) := by decide +kernel
theorem dX5_isMeeting_335 : decode cX5_isMeeting 335 = .ok (.iload 4, 2) := by decide +kernel
theorem dX5_isMeeting_337 : decode cX5_isMeeting 337 = .ok (.laload, 1) := by decide +kernel
theorem dX5_isMeeting_338 : decode cX5_isMeeting 338 = .ok (.aload_n 0, 1) := by decide +kernel
theorem dX5_isMeeting_339 : decode cX5_isMeeting 339 = .ok (.getfield 7, 3) := by decide +kernel
theorem dX5_isMeeting_342 : decode cX5_isMeeting 342 = .ok (.iload_n 2, 1) := by decide +kernel
theorem dX5_isMeeting_343 : decode cX5_isMeeting 343 = .ok (.laload, 1) := by decide +kernel
theorem dX5_isMeeting_344 : decode cX5_isMeeting 344 = .ok (.aload_n 0, 1) := by decide +kernel
theorem dX5_isMeeting_345 : decode cX5_isMeeting 345 = .ok (.getfield 13, 3) := by decide +kernel
theorem dX5_isMeeting_348 : decode cX5_isMeeting 348 = .ok (.iload_n 2, 1) := by decide +kernel
theorem dX5_isMeeting_349 : decode cX5_isMeeting 349 = .ok (.laload, 1) := by decide +kernel
theorem dX5_isMeeting_350 : decode cX5_isMeeting 350 = .ok (.invokestatic 75, 3) := by decide +kernel
theorem dX5_isMeeting_353 : decode cX5_isMeeting 353 = .ok (.invokestatic 114, 3) := by decide +kernel
theorem dX5_isMeeting_356 : decode cX5_isMeeting 356 = .ok (.istore 8, 2) := by decide +kernel
theorem dX5_isMeeting_358 : decode cX5_isMeeting 358 = .ok (.iload 5, 2) := by decide +kernel
theorem dX5_isMeeting_360 : decode cX5_isMeeting 360 = .ok (.iload 6, 2) := by decide +kernel
theorem dX5_isMeeting_362 : decode cX5_isMeeting 362 = .ok (.imul, 1) := by decide +kernel
theorem dX5_isMeeting_363 : decode cX5_isMeeting 363 = .ok (.ifCond .ge 15, 3) := by decide +kernel
theorem dX5_isMeeting_366 : decode cX5_isMeeting 366 = .ok (.iload 7, 2) := by decide +kernel
theorem dX5_isMeeting_368 : decode cX5_isMeeting 368 = .ok (.iload 8, 2) := by decide +kernel
theorem dX5_isMeeting_370 : decode cX5_isMeeting 370 = .ok (.imul, 1) := by decide +kernel
theorem dX5_isMeeting_371 : decode cX5_isMeeting 371 = .ok (.ifCond .ge 7, 3) := by decide +kernel
theorem dX5_isMeeting_374 : decode cX5_isMeeting 374 = .ok (.iconst 1, 1) := by decide +kernel
theorem dX5_isMeeting_375 : decode cX5_isMeeting 375 = .ok (.goto 4, 3) := by decide +kernel
theorem dX5_isMeeting_378 : decode cX5_isMeeting 378 = .ok (.iconst 0, 1) := by decide +kernel
theorem dX5_isMeeting_379 : decode cX5_isMeeting 379 = .ok (.ireturn, 1) := by decide +kernel
set_option maxRecDepth 20000 in
theorem ggX5_isCrossing_X5_isMeeting : GoodIn wsX5_isCrossing wsX5_isMeeting := goodIn_r _ [6, 7, 8, 9, 10, 5, 11, 12, 13, 14, 15, 16, 17, 18, 19, 20, 21, 22, 23, 24, 25, 26, 27, 28, 29, 30, 31, 32, 33, 34, 35, 36, 37, 38, 39, 40, 41, 42, 43, 44, 45] (by decide +kernel) (by decide +kernel)
set_option maxRecDepth 20000 in
theorem gX5_isCrossing_X5_isMeeting : GoodIn wsX5_isCrossing (wsV RX5 118 RX5 yX5_isMeeting wsX5_isMeeting) := goodIn_app (goodIn_of _ (by decide +kernel)) ggX5_isCrossing_X5_isMeeting
theorem dX5_isCrossing_0 : decode cX5_isCrossing 0 = .ok (.bipush 16, 2) := by decide +kernel
theorem dX5_isCrossing_2 : decode cX5_isCrossing 2 = .ok (.iload_n 1, 1) := by decide +kernel
theorem dX5_isCrossing_3 : decode cX5_isCrossing 3 = .ok (.imul, 1) := by decide +kernel
theorem dX5_isCrossing_4 : decode cX5_isCrossing 4 = .ok (.istore_n 3, 1) := by decide +kernel
theorem dX5_isCrossing_5 : decode cX5_isCrossing 5 = .ok (.iload_n 3, 1) := by decide +kernel
theorem dX5_isCrossing_6 : decode cX5_isCrossing 6 = .ok (.bipush 16, 2) := by decide +kernel
theorem dX5_isCrossing_8 : decode cX5_isCrossing 8 = .ok (.iload_n 1, 1) := by decide +kernel
theorem dX5_isCrossing_9 : decode cX5_isCrossing 9 = .ok (.imul, 1) := by decide +kernel
theorem dX5_isCrossing_10 : decode cX5_isCrossing 10 = .ok (.aload_n 0, 1) := by decide +kernel
theorem dX5_isCrossing_11 : decode cX5_isCrossing 11 = .ok (.getfield 16, 3) := by decide +kernel
theorem dX5_isCrossing_14 : decode cX5_isCrossing 14 = .ok (.iload_n 1, 1) := by decide +kernel
theorem dX5_isCrossing_15 : decode cX5_isCrossing 15 = .ok (.iaload, 1) := by decide +kernel
theorem dX5_isCrossing_16 : decode cX5_isCrossing 16 = .ok (.iadd, 1) := by decide +kernel
theorem dX5_isCrossing_17 : decode cX5_isCrossing 17 = .ok (.if_icmp .ge 104, 3) := by decide +kernel
theorem dX5_isCrossing_20 : decode cX5_isCrossing 20 = .ok (.iload_n 3, 1) := by decide +kernel
theorem dX5_isCrossing_21 : decode cX5_isCrossing 21 = .ok (.istore 4, 2) := by decide +kernel
theorem dX5_isCrossing_23 : decode cX5_isCrossing 23 = .ok (.iload 4, 2) := by decide +kernel
theorem dX5_isCrossing_25 : decode cX5_isCrossing 25 = .ok (.bipush 16, 2) := by decide +kernel
theorem dX5_isCrossing_27 : decode cX5_isCrossing 27 = .ok (.iload_n 1, 1) := by decide +kernel
theorem dX5_isCrossing_28 : decode cX5_isCrossing 28 = .ok (.imul, 1) := by decide +kernel
theorem dX5_isCrossing_29 : decode cX5_isCrossing 29 = .ok (.aload_n 0, 1) := by decide +kernel
theorem dX5_isCrossing_30 : decode cX5_isCrossing 30 = .ok (.getfield 16, 3) := by decide +kernel
theorem dX5_isCrossing_33 : decode cX5_isCrossing 33 = .ok (.iload_n 1, 1) := by decide +kernel
theorem dX5_isCrossing_34 : decode cX5_isCrossing 34 = .ok (.iaload, 1) := by decide +kernel
theorem dX5_isCrossing_35 : decode cX5_isCrossing 35 = .ok (.iadd, 1) := by decide +kernel
theorem dX5_isCrossing_36 : decode cX5_isCrossing 36 = .ok (.if_icmp .ge 79, 3) := by decide +kernel
theorem dX5_isCrossing_39 : decode cX5_isCrossing 39 = .ok (.bipush 16, 2) := by decide +kernel
theorem dX5_isCrossing_41 : decode cX5_isCrossing 41 = .ok (.iload_n 2, 1) := by decide +kernel
theorem dX5_isCrossing_42 : decode cX5_isCrossing 42 = .ok (.imul, 1) := by decide +kernel
theorem dX5_isCrossing_43 : decode cX5_isCrossing 43 = .ok (.istore 5, 2) := by decide +kernel
theorem dX5_isCrossing_45 : decode cX5_isCrossing 45 = .ok (.iload 5, 2) := by decide +kernel
theorem dX5_isCrossing_47 : decode cX5_isCrossing 47 = .ok (.bipush 16, 2) := by decide +kernel
theorem dX5_isCrossing_49 : decode cX5_isCrossing 49 = .ok (.iload_n 2, 1) := by decide +kernel
theorem dX5_isCrossing_50 : decode cX5_isCrossing 50 = .ok (.imul, 1) := by decide +kernel
theorem dX5_isCrossing_51 : decode cX5_isCrossing 51 = .ok (.aload_n 0, 1) := by decide +kernel
theorem dX5_isCrossing_52 : decode cX5_isCrossing 52 = .ok (.getfield 16, 3) := by decide +kernel
theorem dX5_isCrossing_55 : decode cX5_isCrossing 55 = .ok (.iload_n 2, 1) := by decide +kernel
theorem dX5_isCrossing_56 : decode cX5_isCrossing 56 = .ok (.iaload, 1) := by decide +kernel
theorem dX5_isCrossing_57 : decode cX5_isCrossing 57 = .ok (.iadd, 1) := by decide +kernel
theorem dX5_isCrossing_58 : decode cX5_isCrossing 58 = .ok (.if_icmp .ge 51, 3) := by decide +kernel
theorem dX5_isCrossing_61 : decode cX5_isCrossing 61 = .ok (.iload 5, 2) := by decide +kernel
theorem dX5_isCrossing_63 : decode cX5_isCrossing 63 = .ok (.istore 6, 2) := by decide +kernel
theorem dX5_isCrossing_65 : decode cX5_isCrossing 65 = .ok (.iload 6, 2) := by decide +kernel
theorem dX5_isCrossing_67 : decode cX5_isCrossing 67 = .ok (.bipush 16, 2) := by decide +kernel
theorem dX5_isCrossing_69 : decode cX5_isCrossing 69 = .ok (.iload_n 2, 1) := by decide +kernel
theorem dX5_isCrossing_70 : decode cX5_isCrossing 70 = .ok (.imul, 1) := by decide +kernel
theorem dX5_isCrossing_71 : decode cX5_isCrossing 71 = .ok (.aload_n 0, 1) := by decide +kernel
theorem dX5_isCrossing_72 : decode cX5_isCrossing 72 = .ok (.getfield 16, 3) := by decide +kernel
theorem dX5_isCrossing_75 : decode cX5_isCrossing 75 = .ok (.iload_n 2, 1) := by decide +kernel
theorem dX5_isCrossing_76 : decode cX5_isCrossing 76 = .ok (.iaload, 1) := by decide +kernel
theorem dX5_isCrossing_77 : decode cX5_isCrossing 77 = .ok (.iadd, 1) := by decide +kernel
theorem dX5_isCrossing_78 : decode cX5_isCrossing 78 = .ok (.if_icmp .ge 25, 3) := by decide +kernel
theorem dX5_isCrossing_81 : decode cX5_isCrossing 81 = .ok (.aload_n 0, 1) := by decide +kernel
theorem dX5_isCrossing_82 : decode cX5_isCrossing 82 = .ok (.iload_n 3, 1) := by decide +kernel
theorem dX5_isCrossing_83 : decode cX5_isCrossing 83 = .ok (.iload 4, 2) := by decide +kernel
theorem dX5_isCrossing_85 : decode cX5_isCrossing 85 = .ok (.iload 5, 2) := by decide +kernel
theorem dX5_isCrossing_87 : decode cX5_isCrossing 87 = .ok (.iload 6, 2) := by decide +kernel
theorem dX5_isCrossing_89 : decode cX5_isCrossing 89 = .ok (.invokevirtual 118, 3) := by decide +kernel
theorem dX5_isCrossing_92 : decode cX5_isCrossing 92 = .ok (.ifCond .eq 5, 3) := by decide +kernel
theorem dX5_isCrossing_95 : decode cX5_isCrossing 95 = .ok (.iconst 1, 1) := by decide +kernel
theorem dX5_isCrossing_96 : decode cX5_isCrossing 96 = .ok (.ireturn, 1) := by decide +kernel
theorem dX5_isCrossing_97 : decode cX5_isCrossing 97 = .ok (.iinc 6 1, 3) := by decide +kernel
theorem dX5_isCrossing_100 : decode cX5_isCrossing 100 = .ok (.goto (-35), 3) := by decide +kernel
theorem dX5_isCrossing_103 : decode cX5_isCrossing 103 = .ok (.iinc 5 1, 3) := by decide +kernel
theorem dX5_isCrossing_106 : decode cX5_isCrossing 106 = .ok (.goto (-61), 3) := by decide +kernel
theorem dX5_isCrossing_109 : decode cX5_isCrossing 109 = .ok (.iinc 4 1, 3) := by decide +kernel
theorem dX5_isCrossing_112 : decode cX5_isCrossing 112 = .ok (.goto (-89), 3) := by decide +kernel
theorem dX5_isCrossing_115 : decode cX5_isCrossing 115 = .ok (.iinc 3 1, 3) := by decide +kernel
theorem dX5_isCrossing_118 : decode cX5_isCrossing 118 = .ok (.goto (-113), 3) := by decide +kernel
theorem dX5_isCrossing_121 : decode cX5_isCrossing 121 = .ok (.iconst 0, 1) := by decide +kernel
theorem dX5_isCrossing_122 : decode cX5_isCrossing 122 = .ok (.ireturn, 1) := by decide +kernel
set_option maxRecDepth 20000 in
theorem ggX5_apart_X5_isShape : GoodIn wsX5_apart wsX5_isShape := goodIn_r _ [9, 10, 39, 40, 41, 42, 43, 44, 45, 46, 47, 48, 49, 50, 51, 52, 53, 54, 55, 56, 57, 58, 59, 60, 61, 62, 63] (by decide +kernel) (by decide +kernel)
set_option maxRecDepth 20000 in
theorem gX5_apart_X5_isShape : GoodIn wsX5_apart (wsV RX5 91 RX5 yX5_isShape wsX5_isShape) := goodIn_app (goodIn_of _ (by decide +kernel)) ggX5_apart_X5_isShape
set_option maxRecDepth 20000 in
theorem ggX5_apart_X5_isInside : GoodIn wsX5_apart wsX5_isInside := goodIn_r _ [14, 2, 3, 4, 15, 16, 8, 17, 18, 19, 20, 21, 22, 23, 24, 25, 26, 27, 39, 40, 41, 42, 43, 44, 45, 46, 47, 48, 49, 50, 51, 52, 53, 54, 55, 56, 57, 58, 59, 60, 61, 62, 63] (by decide +kernel) (by decide +kernel)
set_option maxRecDepth 20000 in
theorem gX5_apart_X5_isInside : GoodIn wsX5_apart (wsV RX5 99 RX5 yX5_isInside wsX5_isInside) := goodIn_app (goodIn_of _ (by decide +kernel)) ggX5_apart_X5_isInside
set_option maxRecDepth 20000 in
theorem ggX5_apart_X5_isCrossing : GoodIn wsX5_apart wsX5_isCrossing := goodIn_r _ [31, 2, 32, 33, 34, 8, 35, 3, 4, 15, 16, 17, 18, 19, 20, 21, 22, 23, 36, 37, 38, 39, 40, 41, 42, 43, 44, 45, 46, 47, 48, 49, 50, 51, 52, 53, 54, 55, 56, 57, 58, 59, 60, 61, 62, 63] (by decide +kernel) (by decide +kernel)
set_option maxRecDepth 20000 in
theorem gX5_apart_X5_isCrossing : GoodIn wsX5_apart (wsV RX5 122 RX5 yX5_isCrossing wsX5_isCrossing) := goodIn_app (goodIn_of _ (by decide +kernel)) ggX5_apart_X5_isCrossing
theorem dX5_apart_0 : decode cX5_apart 0 = .ok (.aload_n 0, 1) := by decide +kernel
theorem dX5_apart_1 : decode cX5_apart 1 = .ok (.aload_n 0, 1) := by decide +kernel
theorem dX5_apart_2 : decode cX5_apart 2 = .ok (.iload_n 1, 1) := by decide +kernel
theorem dX5_apart_3 : decode cX5_apart 3 = .ok (.invokevirtual 91, 3) := by decide +kernel
theorem dX5_apart_6 : decode cX5_apart 6 = .ok (.ifCond .eq 15, 3) := by decide +kernel
theorem dX5_apart_9 : decode cX5_apart 9 = .ok (.aload_n 0, 1) := by decide +kernel
theorem dX5_apart_10 : decode cX5_apart 10 = .ok (.iload_n 2, 1) := by decide +kernel
theorem dX5_apart_11 : decode cX5_apart 11 = .ok (.invokevirtual 91, 3) := by decide +kernel
theorem dX5_apart_14 : decode cX5_apart 14 = .ok (.ifCond .eq 7, 3) := by decide +kernel
theorem dX5_apart_17 : decode cX5_apart 17 = .ok (.iconst 0, 1) := by decide +kernel
theorem dX5_apart_18 : decode cX5_apart 18 = .ok (.goto 4, 3) := by decide +kernel
theorem dX5_apart_21 : decode cX5_apart 21 = .ok (.iconst 1, 1) := by decide +kernel
theorem dX5_apart_22 : decode cX5_apart 22 = .ok (.putfield 54, 3) := by decide +kernel
theorem dX5_apart_25 : decode cX5_apart 25 = .ok (.aload_n 0, 1) := by decide +kernel
theorem dX5_apart_26 : decode cX5_apart 26 = .ok (.getfield 54, 3) := by decide +kernel
theorem dX5_apart_29 : decode cX5_apart 29 = .ok (.ifCond .gt 21, 3) := by decide +kernel
theorem dX5_apart_32 : decode cX5_apart 32 = .ok (.aload_n 0, 1) := by decide +kernel
theorem dX5_apart_33 : decode cX5_apart 33 = .ok (.getfield 16, 3) := by decide +kernel
theorem dX5_apart_36 : decode cX5_apart 36 = .ok (.iload_n 1, 1) := by decide +kernel
theorem dX5_apart_37 : decode cX5_apart 37 = .ok (.iaload, 1) := by decide +kernel
theorem dX5_apart_38 : decode cX5_apart 38 = .ok (.ifCond .eq 12, 3) := by decide +kernel
theorem dX5_apart_41 : decode cX5_apart 41 = .ok (.aload_n 0, 1) := by decide +kernel
theorem dX5_apart_42 : decode cX5_apart 42 = .ok (.getfield 16, 3) := by decide +kernel
theorem dX5_apart_45 : decode cX5_apart 45 = .ok (.iload_n 2, 1) := by decide +kernel
theorem dX5_apart_46 : decode cX5_apart 46 = .ok (.iaload, 1) := by decide +kernel
theorem dX5_apart_47 : decode cX5_apart 47 = .ok (.ifCond .ne 16, 3) := by decide +kernel
theorem dX5_apart_50 : decode cX5_apart 50 = .ok (.aload_n 0, 1) := by decide +kernel
theorem dX5_apart_51 : decode cX5_apart 51 = .ok (.getfield 54, 3) := by decide +kernel
theorem dX5_apart_54 : decode cX5_apart 54 = .ok (.ifCond .ne 7, 3) := by decide +kernel
theorem dX5_apart_57 : decode cX5_apart 57 = .ok (.iconst 1, 1) := by decide +kernel
theorem dX5_apart_58 : decode cX5_apart 58 = .ok (.goto 4, 3) := by decide +kernel
theorem dX5_apart_61 : decode cX5_apart 61 = .ok (.iconst 0, 1) := by decide +kernel
theorem dX5_apart_62 : decode cX5_apart 62 = .ok (.ireturn, 1) := by decide +kernel
theorem dX5_apart_63 : decode cX5_apart 63 = .ok (.aload_n 0, 1) := by decide +kernel
theorem dX5_apart_64 : decode cX5_apart 64 = .ok (.iload_n 1, 1) := by decide +kernel
theorem dX5_apart_65 : decode cX5_apart 65 = .ok (.aload_n 0, 1) := by decide +kernel
theorem dX5_apart_66 : decode cX5_apart 66 = .ok (.getfield 7, 3) := by decide +kernel
theorem dX5_apart_69 : decode cX5_apart 69 = .ok (.bipush 16, 2) := by decide +kernel
theorem dX5_apart_71 : decode cX5_apart 71 = .ok (.iload_n 2, 1) := by decide +kernel
theorem dX5_apart_72 : decode cX5_apart 72 = .ok (.imul, 1) := by decide +kernel
theorem dX5_apart_73 : decode cX5_apart 73 = .ok (.laload, 1) := by decide +kernel
theorem dX5_apart_74 : decode cX5_apart 74 = .ok (.aload_n 0, 1) := by decide +kernel
theorem dX5_apart_75 : decode cX5_apart 75 = .ok (.getfield 13, 3) := by decide +kernel
theorem dX5_apart_78 : decode cX5_apart 78 = .ok (.bipush 16, 2) := by decide +kernel
theorem dX5_apart_80 : decode cX5_apart 80 = .ok (.iload_n 2, 1) := by decide +kernel
theorem dX5_apart_81 : decode cX5_apart 81 = .ok (.imul, 1) := by decide +kernel
theorem dX5_apart_82 : decode cX5_apart 82 = .ok (.laload, 1) := by decide +kernel
theorem dX5_apart_83 : decode cX5_apart 83 = .ok (.iconst 0, 1) := by decide +kernel
theorem dX5_apart_84 : decode cX5_apart 84 = .ok (.invokevirtual 99, 3) := by decide +kernel
theorem dX5_apart_87 : decode cX5_apart 87 = .ok (.ifCond .ne 30, 3) := by decide +kernel
theorem dX5_apart_90 : decode cX5_apart 90 = .ok (.aload_n 0, 1) := by decide +kernel
theorem dX5_apart_91 : decode cX5_apart 91 = .ok (.iload_n 2, 1) := by decide +kernel
theorem dX5_apart_92 : decode cX5_apart 92 = .ok (.aload_n 0, 1) := by decide +kernel
theorem dX5_apart_93 : decode cX5_apart 93 = .ok (.getfield 7, 3) := by decide +kernel
theorem dX5_apart_96 : decode cX5_apart 96 = .ok (.bipush 16, 2) := by decide +kernel
theorem dX5_apart_98 : decode cX5_apart 98 = .ok (.iload_n 1, 1) := by decide +kernel
theorem dX5_apart_99 : decode cX5_apart 99 = .ok (.imul, 1) := by decide +kernel
theorem dX5_apart_100 : decode cX5_apart 100 = .ok (.laload, 1) := by decide +kernel
theorem dX5_apart_101 : decode cX5_apart 101 = .ok (.aload_n 0, 1) := by decide +kernel
theorem dX5_apart_102 : decode cX5_apart 102 = .ok (.getfield 13, 3) := by decide +kernel
theorem dX5_apart_105 : decode cX5_apart 105 = .ok (.bipush 16, 2) := by decide +kernel
theorem dX5_apart_107 : decode cX5_apart 107 = .ok (.iload_n 1, 1) := by decide +kernel
theorem dX5_apart_108 : decode cX5_apart 108 = .ok (.imul, 1) := by decide +kernel
theorem dX5_apart_109 : decode cX5_apart 109 = .ok (.laload, 1) := by decide +kernel
theorem dX5_apart_110 : decode cX5_apart 110 = .ok (.iconst 0, 1) := by decide +kernel
theorem dX5_apart_111 : decode cX5_apart 111 = .ok (.invokevirtual 99, 3) := by decide +kernel
theorem dX5_apart_114 : decode cX5_apart 114 = .ok (.ifCond .eq 7, 3) := by decide +kernel
theorem dX5_apart_117 : decode cX5_apart 117 = .ok (.iconst 1, 1) := by decide +kernel
theorem dX5_apart_118 : decode cX5_apart 118 = .ok (.goto 4, 3) := by decide +kernel
theorem dX5_apart_121 : decode cX5_apart 121 = .ok (.iconst 0, 1) := by decide +kernel
theorem dX5_apart_122 : decode cX5_apart 122 = .ok (.istore_n 3, 1) := by decide +kernel
theorem dX5_apart_123 : decode cX5_apart 123 = .ok (.iload_n 3, 1) := by decide +kernel
theorem dX5_apart_124 : decode cX5_apart 124 = .ok (.ifCond .ne 16, 3) := by decide +kernel
theorem dX5_apart_127 : decode cX5_apart 127 = .ok (.aload_n 0, 1) := by decide +kernel
theorem dX5_apart_128 : decode cX5_apart 128 = .ok (.iload_n 1, 1) := by decide +kernel
theorem dX5_apart_129 : decode cX5_apart 129 = .ok (.iload_n 2, 1) := by decide +kernel
theorem dX5_apart_130 : decode cX5_apart 130 = .ok (.invokevirtual 122, 3) := by decide +kernel
theorem dX5_apart_133 : decode cX5_apart 133 = .ok (.ifCond .ne 7, 3) := by decide +kernel
theorem dX5_apart_136 : decode cX5_apart 136 = .ok (.iconst 1, 1) := by decide +kernel
theorem dX5_apart_137 : decode cX5_apart 137 = .ok (.goto 4, 3) := by decide +kernel
theorem dX5_apart_140 : decode cX5_apart 140 = .ok (.iconst 0, 1) := by decide +kernel
theorem dX5_apart_141 : decode cX5_apart 141 = .ok (.ireturn, 1) := by decide +kernel
theorem dX5_isBox_0 : decode cX5_isBox 0 = .ok (.iload_n 1, 1) := by decide +kernel
theorem dX5_isBox_1 : decode cX5_isBox 1 = .ok (.ifCond .lt 15, 3) := by decide +kernel
theorem dX5_isBox_4 : decode cX5_isBox 4 = .ok (.iload_n 1, 1) := by decide +kernel
theorem dX5_isBox_5 : decode cX5_isBox 5 = .ok (.aload_n 0, 1) := by decide +kernel
theorem dX5_isBox_6 : decode cX5_isBox 6 = .ok (.getfield 61, 3) := by decide +kernel
theorem dX5_isBox_9 : decode cX5_isBox 9 = .ok (.if_icmp .ge 7, 3) := by decide +kernel
theorem dX5_isBox_12 : decode cX5_isBox 12 = .ok (.iconst 1, 1) := by decide +kernel
theorem dX5_isBox_13 : decode cX5_isBox 13 = .ok (.goto 4, 3) := by decide +kernel
theorem dX5_isBox_16 : decode cX5_isBox 16 = .ok (.iconst 0, 1) := by decide +kernel
theorem dX5_isBox_17 : decode cX5_isBox 17 = .ok (.ireturn, 1) := by decide +kernel
set_option maxRecDepth 20000 in
theorem ggX5_box_X5_isIn : GoodIn wsX5_box wsX5_isIn := goodIn_r _ [8, 9, 10] (by decide +kernel) (by decide +kernel)
set_option maxRecDepth 20000 in
theorem gX5_box_X5_isIn : GoodIn wsX5_box (va_wsS RX5 95 yX5_isIn wsX5_isIn) := goodIn_app (goodIn_of _ (by decide +kernel)) ggX5_box_X5_isIn
theorem dX5_box_0 : decode cX5_box 0 = .ok (.aload_n 0, 1) := by decide +kernel
theorem dX5_box_1 : decode cX5_box 1 = .ok (.aload_n 0, 1) := by decide +kernel
theorem dX5_box_2 : decode cX5_box 2 = .ok (.getfield 61, 3) := by decide +kernel
theorem dX5_box_5 : decode cX5_box 5 = .ok (.bipush 16, 2) := by decide +kernel
theorem dX5_box_7 : decode cX5_box 7 = .ok (.if_icmp .ne 7, 3) := by decide +kernel
theorem dX5_box_10 : decode cX5_box 10 = .ok (.iconst 1, 1) := by decide +kernel
theorem dX5_box_11 : decode cX5_box 11 = .ok (.goto 52, 3) := by decide +kernel
theorem dX5_box_14 : decode cX5_box 14 = .ok (.lload_n 1, 1) := by decide +kernel
theorem dX5_box_15 : decode cX5_box 15 = .ok (.invokestatic 95, 3) := by decide +kernel
theorem dX5_box_18 : decode cX5_box 18 = .ok (.ifCond .eq 44, 3) := by decide +kernel
theorem dX5_box_21 : decode cX5_box 21 = .ok (.lload_n 3, 1) := by decide +kernel
theorem dX5_box_22 : decode cX5_box 22 = .ok (.invokestatic 95, 3) := by decide +kernel
theorem dX5_box_25 : decode cX5_box 25 = .ok (.ifCond .eq 37, 3) := by decide +kernel
theorem dX5_box_28 : decode cX5_box 28 = .ok (.lload 5, 2) := by decide +kernel
theorem dX5_box_30 : decode cX5_box 30 = .ok (.invokestatic 95, 3) := by decide +kernel
theorem dX5_box_33 : decode cX5_box 33 = .ok (.ifCond .eq 29, 3) := by decide +kernel
theorem dX5_box_36 : decode cX5_box 36 = .ok (.lload 7, 2) := by decide +kernel
theorem dX5_box_38 : decode cX5_box 38 = .ok (.invokestatic 95, 3) := by decide +kernel
theorem dX5_box_41 : decode cX5_box 41 = .ok (.ifCond .eq 21, 3) := by decide +kernel
theorem dX5_box_44 : decode cX5_box 44 = .ok (.lload_n 1, 1) := by decide +kernel
theorem dX5_box_45 : decode cX5_box 45 = .ok (.lload 5, 2) := by decide +kernel
theorem dX5_box_47 : decode cX5_box 47 = .ok (.lcmp, 1) := by decide +kernel
theorem dX5_box_48 : decode cX5_box 48 = .ok (.ifCond .gt 14, 3) := by decide +kernel
theorem dX5_box_51 : decode cX5_box 51 = .ok (.lload_n 3, 1) := by decide +kernel
theorem dX5_box_52 : decode cX5_box 52 = .ok (.lload 7, 2) := by decide +kernel
theorem dX5_box_54 : decode cX5_box 54 = .ok (.lcmp, 1) := by decide +kernel
theorem dX5_box_55 : decode cX5_box 55 = .ok (.ifCond .gt 7, 3) := by decide +kernel
theorem dX5_box_58 : decode cX5_box 58 = .ok (.iconst 0, 1) := by decide +kernel
theorem dX5_box_59 : decode cX5_box 59 = .ok (.goto 4, 3) := by decide +kernel
theorem dX5_box_62 : decode cX5_box 62 = .ok (.iconst 2, 1) := by decide +kernel
theorem dX5_box_63 : decode cX5_box 63 = .ok (.putfield 54, 3) := by decide +kernel
theorem dX5_box_66 : decode cX5_box 66 = .ok (.aload_n 0, 1) := by decide +kernel
theorem dX5_box_67 : decode cX5_box 67 = .ok (.getfield 54, 3) := by decide +kernel
theorem dX5_box_70 : decode cX5_box 70 = .ok (.ifCond .le 5, 3) := by decide +kernel
theorem dX5_box_73 : decode cX5_box 73 = .ok (.iconst 0, 1) := by decide +kernel
theorem dX5_box_74 : decode cX5_box 74 = .ok (.ireturn, 1) := by decide +kernel
theorem dX5_box_75 : decode cX5_box 75 = .ok (.aload_n 0, 1) := by decide +kernel
theorem dX5_box_76 : decode cX5_box 76 = .ok (.getfield 20, 3) := by decide +kernel
theorem dX5_box_79 : decode cX5_box 79 = .ok (.iconst 4, 1) := by decide +kernel
theorem dX5_box_80 : decode cX5_box 80 = .ok (.aload_n 0, 1) := by decide +kernel
theorem dX5_box_81 : decode cX5_box 81 = .ok (.getfield 61, 3) := by decide +kernel
theorem dX5_box_84 : decode cX5_box 84 = .ok (.imul, 1) := by decide +kernel
theorem dX5_box_85 : decode cX5_box 85 = .ok (.lload_n 1, 1) := by decide +kernel
theorem dX5_box_86 : decode cX5_box 86 = .ok (.lastore, 1) := by decide +kernel
theorem dX5_box_87 : decode cX5_box 87 = .ok (.aload_n 0, 1) := by decide +kernel
theorem dX5_box_88 : decode cX5_box 88 = .ok (.getfield 20, 3) := by decide +kernel
theorem dX5_box_91 : decode cX5_box 91 = .ok (.iconst 4, 1) := by decide +kernel
theorem dX5_box_92 : decode cX5_box 92 = .ok (.aload_n 0, 1) := by decide +kernel
theorem dX5_box_93 : decode cX5_box 93 = .ok (.getfield 61, 3) := by decide +kernel
theorem dX5_box_96 : decode cX5_box 96 = .ok (.imul, 1) := by decide +kernel
theorem dX5_box_97 : decode cX5_box 97 = .ok (.iconst 1, 1) := by decide +kernel
theorem dX5_box_98 : decode cX5_box 98 = .ok (.iadd, 1) := by decide +kernel
theorem dX5_box_99 : decode cX5_box 99 = .ok (.lload_n 3, 1) := by decide +kernel
theorem dX5_box_100 : decode cX5_box 100 = .ok (.lastore, 1) := by decide +kernel
theorem dX5_box_101 : decode cX5_box 101 = .ok (.aload_n 0, 1) := by decide +kernel
theorem dX5_box_102 : decode cX5_box 102 = .ok (.getfield 20, 3) := by decide +kernel
theorem dX5_box_105 : decode cX5_box 105 = .ok (.iconst 4, 1) := by decide +kernel
theorem dX5_box_106 : decode cX5_box 106 = .ok (.aload_n 0, 1) := by decide +kernel
theorem dX5_box_107 : decode cX5_box 107 = .ok (.getfield 61, 3) := by decide +kernel
theorem dX5_box_110 : decode cX5_box 110 = .ok (.imul, 1) := by decide +kernel
theorem dX5_box_111 : decode cX5_box 111 = .ok (.iconst 2, 1) := by decide +kernel
theorem dX5_box_112 : decode cX5_box 112 = .ok (.iadd, 1) := by decide +kernel
theorem dX5_box_113 : decode cX5_box 113 = .ok (.lload 5, 2) := by decide +kernel
theorem dX5_box_115 : decode cX5_box 115 = .ok (.lastore, 1) := by decide +kernel
theorem dX5_box_116 : decode cX5_box 116 = .ok (.aload_n 0, 1) := by decide +kernel
theorem dX5_box_117 : decode cX5_box 117 = .ok (.getfield 20, 3) := by decide +kernel
theorem dX5_box_120 : decode cX5_box 120 = .ok (.iconst 4, 1) := by decide +kernel
theorem dX5_box_121 : decode cX5_box 121 = .ok (.aload_n 0, 1) := by decide +kernel
theorem dX5_box_122 : decode cX5_box 122 = .ok (.getfield 61, 3) := by decide +kernel
theorem dX5_box_125 : decode cX5_box 125 = .ok (.imul, 1) := by decide +kernel
theorem dX5_box_126 : decode cX5_box 126 = .ok (.iconst 3, 1) := by decide +kernel
theorem dX5_box_127 : decode cX5_box 127 = .ok (.iadd, 1) := by decide +kernel
theorem dX5_box_128 : decode cX5_box 128 = .ok (.lload 7, 2) := by decide +kernel
theorem dX5_box_130 : decode cX5_box 130 = .ok (.lastore, 1) := by decide +kernel
theorem dX5_box_131 : decode cX5_box 131 = .ok (.aload_n 0, 1) := by decide +kernel
theorem dX5_box_132 : decode cX5_box 132 = .ok (.getfield 23, 3) := by decide +kernel
theorem dX5_box_135 : decode cX5_box 135 = .ok (.iconst 2, 1) := by decide +kernel
theorem dX5_box_136 : decode cX5_box 136 = .ok (.aload_n 0, 1) := by decide +kernel
theorem dX5_box_137 : decode cX5_box 137 = .ok (.getfield 61, 3) := by decide +kernel
theorem dX5_box_140 : decode cX5_box 140 = .ok (.imul, 1) := by decide +kernel
theorem dX5_box_141 : decode cX5_box 141 = .ok (.lconst 0, 1) := by decide +kernel
theorem dX5_box_142 : decode cX5_box 142 = .ok (.lastore, 1) := by decide +kernel
theorem dX5_box_143 : decode cX5_box 143 = .ok (.aload_n 0, 1) := by decide +kernel
theorem dX5_box_144 : decode cX5_box 144 = .ok (.getfield 23, 3) := by decide +kernel
theorem dX5_box_147 : decode cX5_box 147 = .ok (.iconst 2, 1) := by decide +kernel
theorem dX5_box_148 : decode cX5_box 148 = .ok (.aload_n 0, 1) := by decide +kernel
theorem dX5_box_149 : decode cX5_box 149 = .ok (.getfield 61, 3) := by decide +kernel
theorem dX5_box_152 : decode cX5_box 152 = .ok (.imul, 1) := by decide +kernel
theorem dX5_box_153 : decode cX5_box 153 = .ok (.iconst 1, 1) := by decide +kernel
theorem dX5_box_154 : decode cX5_box 154 = .ok (.iadd, 1) := by decide +kernel
theorem dX5_box_155 : decode cX5_box 155 = .ok (.lconst 0, 1) := by decide +kernel
theorem dX5_box_156 : decode cX5_box 156 = .ok (.lastore, 1) := by decide +kernel
theorem dX5_box_157 : decode cX5_box 157 = .ok (.aload_n 0, 1) := by decide +kernel
theorem dX5_box_158 : decode cX5_box 158 = .ok (.dup, 1) := by decide +kernel
theorem dX5_box_159 : decode cX5_box 159 = .ok (.getfield 61, 3) := by decide +kernel
theorem dX5_box_162 : decode cX5_box 162 = .ok (.iconst 1, 1) := by decide +kernel
theorem dX5_box_163 : decode cX5_box 163 = .ok (.iadd, 1) := by decide +kernel
theorem dX5_box_164 : decode cX5_box 164 = .ok (.putfield 61, 3) := by decide +kernel
theorem dX5_box_167 : decode cX5_box 167 = .ok (.aload_n 0, 1) := by decide +kernel
theorem dX5_box_168 : decode cX5_box 168 = .ok (.getfield 61, 3) := by decide +kernel
theorem dX5_box_171 : decode cX5_box 171 = .ok (.iconst 1, 1) := by decide +kernel
theorem dX5_box_172 : decode cX5_box 172 = .ok (.isub, 1) := by decide +kernel
theorem dX5_box_173 : decode cX5_box 173 = .ok (.ireturn, 1) := by decide +kernel
set_option maxRecDepth 20000 in
theorem ggX5_move_X5_isBox : GoodIn wsX5_move wsX5_isBox := goodIn_r _ [7, 8, 14, 15, 16, 17, 18, 19, 20, 21, 22, 23, 24, 25, 26, 27, 28, 29, 30, 31, 32, 33, 34, 35, 36, 37, 38] (by decide +kernel) (by decide +kernel)
set_option maxRecDepth 20000 in
theorem gX5_move_X5_isBox : GoodIn wsX5_move (wsV RX5 125 RX5 yX5_isBox wsX5_isBox) := goodIn_app (goodIn_of _ (by decide +kernel)) ggX5_move_X5_isBox
set_option maxRecDepth 20000 in
theorem ggX5_move_X5_isIn : GoodIn wsX5_move wsX5_isIn := goodIn_r _ [11, 12, 13] (by decide +kernel) (by decide +kernel)
set_option maxRecDepth 20000 in
theorem gX5_move_X5_isIn : GoodIn wsX5_move (va_wsS RX5 95 yX5_isIn wsX5_isIn) := goodIn_app (goodIn_of _ (by decide +kernel)) ggX5_move_X5_isIn
theorem dX5_move_0 : decode cX5_move 0 = .ok (.aload_n 0, 1) := by decide +kernel
theorem dX5_move_1 : decode cX5_move 1 = .ok (.aload_n 0, 1) := by decide +kernel
theorem dX5_move_2 : decode cX5_move 2 = .ok (.iload_n 1, 1) := by decide +kernel
theorem dX5_move_3 : decode cX5_move 3 = .ok (.invokevirtual 125, 3) := by decide +kernel
theorem dX5_move_6 : decode cX5_move 6 = .ok (.ifCond .ne 7, 3) := by decide +kernel
theorem dX5_move_9 : decode cX5_move 9 = .ok (.iconst 1, 1) := by decide +kernel
theorem dX5_move_10 : decode cX5_move 10 = .ok (.goto 23, 3) := by decide +kernel
theorem dX5_move_13 : decode cX5_move 13 = .ok (.lload_n 2, 1) := by decide +kernel
theorem dX5_move_14 : decode cX5_move 14 = .ok (.invokestatic 95, 3) := by decide +kernel
theorem dX5_move_17 : decode cX5_move 17 = .ok (.ifCond .eq 15, 3) := by decide +kernel
theorem dX5_move_20 : decode cX5_move 20 = .ok (.lload 4, 2) := by decide +kernel
theorem dX5_move_22 : decode cX5_move 22 = .ok (.invokestatic 95, 3) := by decide +kernel
theorem dX5_move_25 : decode cX5_move 25 = .ok (.ifCond .eq 7, 3) := by decide +kernel
theorem dX5_move_28 : decode cX5_move 28 = .ok (.iconst 0, 1) := by decide +kernel
theorem dX5_move_29 : decode cX5_move 29 = .ok (.goto 4, 3) := by decide +kernel
theorem dX5_move_32 : decode cX5_move 32 = .ok (.iconst 2, 1) := by decide +kernel
theorem dX5_move_33 : decode cX5_move 33 = .ok (.putfield 54, 3) := by decide +kernel
theorem dX5_move_36 : decode cX5_move 36 = .ok (.aload_n 0, 1) := by decide +kernel
theorem dX5_move_37 : decode cX5_move 37 = .ok (.getfield 54, 3) := by decide +kernel
theorem dX5_move_40 : decode cX5_move 40 = .ok (.ifCond .gt 32, 3) := by decide +kernel
theorem dX5_move_43 : decode cX5_move 43 = .ok (.aload_n 0, 1) := by decide +kernel
theorem dX5_move_44 : decode cX5_move 44 = .ok (.getfield 23, 3) := by decide +kernel
theorem dX5_move_47 : decode cX5_move 47 = .ok (.iconst 2, 1) := by decide +kernel
theorem dX5_move_48 : decode cX5_move 48 = .ok (.iload_n 1, 1) := by decide +kernel
theorem dX5_move_49 : decode cX5_move 49 = .ok (.imul, 1) := by decide +kernel
theorem dX5_move_50 : decode cX5_move 50 = .ok (.laload, 1) := by decide +kernel
theorem dX5_move_51 : decode cX5_move 51 = .ok (.lload_n 2, 1) := by decide +kernel
theorem dX5_move_52 : decode cX5_move 52 = .ok (.lcmp, 1) := by decide +kernel
theorem dX5_move_53 : decode cX5_move 53 = .ok (.ifCond .ne 21, 3) := by decide +kernel
theorem dX5_move_56 : decode cX5_move 56 = .ok (.aload_n 0, 1) := by decide +kernel
theorem dX5_move_57 : decode cX5_move 57 = .ok (.getfield 23, 3) := by decide +kernel
theorem dX5_move_60 : decode cX5_move 60 = .ok (.iconst 2, 1) := by decide +kernel
theorem dX5_move_61 : decode cX5_move 61 = .ok (.iload_n 1, 1) := by decide +kernel
theorem dX5_move_62 : decode cX5_move 62 = .ok (.imul, 1) := by decide +kernel
theorem dX5_move_63 : decode cX5_move 63 = .ok (.iconst 1, 1) := by decide +kernel
theorem dX5_move_64 : decode cX5_move 64 = .ok (.iadd, 1) := by decide +kernel
theorem dX5_move_65 : decode cX5_move 65 = .ok (.laload, 1) := by decide +kernel
theorem dX5_move_66 : decode cX5_move 66 = .ok (.lload 4, 2) := by decide +kernel
theorem dX5_move_68 : decode cX5_move 68 = .ok (.lcmp, 1) := by decide +kernel
theorem dX5_move_69 : decode cX5_move 69 = .ok (.ifCond .ne 5, 3) := by decide +kernel
theorem dX5_move_72 : decode cX5_move 72 = .ok (.iconst 0, 1) := by decide +kernel
theorem dX5_move_73 : decode cX5_move 73 = .ok (.ireturn, 1) := by decide +kernel
theorem dX5_move_74 : decode cX5_move 74 = .ok (.aload_n 0, 1) := by decide +kernel
theorem dX5_move_75 : decode cX5_move 75 = .ok (.getfield 23, 3) := by decide +kernel
theorem dX5_move_78 : decode cX5_move 78 = .ok (.iconst 2, 1) := by decide +kernel
theorem dX5_move_79 : decode cX5_move 79 = .ok (.iload_n 1, 1) := by decide +kernel
theorem dX5_move_80 : decode cX5_move 80 = .ok (.imul, 1) := by decide +kernel
theorem dX5_move_81 : decode cX5_move 81 = .ok (.lload_n 2, 1) := by decide +kernel
theorem dX5_move_82 : decode cX5_move 82 = .ok (.lastore, 1) := by decide +kernel
theorem dX5_move_83 : decode cX5_move 83 = .ok (.aload_n 0, 1) := by decide +kernel
theorem dX5_move_84 : decode cX5_move 84 = .ok (.getfield 23, 3) := by decide +kernel
theorem dX5_move_87 : decode cX5_move 87 = .ok (.iconst 2, 1) := by decide +kernel
theorem dX5_move_88 : decode cX5_move 88 = .ok (.iload_n 1, 1) := by decide +kernel
theorem dX5_move_89 : decode cX5_move 89 = .ok (.imul, 1) := by decide +kernel
theorem dX5_move_90 : decode cX5_move 90 = .ok (.iconst 1, 1) := by decide +kernel
theorem dX5_move_91 : decode cX5_move 91 = .ok (.iadd, 1) := by decide +kernel
theorem dX5_move_92 : decode cX5_move 92 = .ok (.lload 4, 2) := by decide +kernel
theorem dX5_move_94 : decode cX5_move 94 = .ok (.lastore, 1) := by decide +kernel
theorem dX5_move_95 : decode cX5_move 95 = .ok (.iconst 1, 1) := by decide +kernel
theorem dX5_move_96 : decode cX5_move 96 = .ok (.ireturn, 1) := by decide +kernel
theorem dX5_load_0 : decode cX5_load 0 = .ok (.iconst 0, 1) := by decide +kernel
theorem dX5_load_1 : decode cX5_load 1 = .ok (.istore_n 3, 1) := by decide +kernel
theorem dX5_load_2 : decode cX5_load 2 = .ok (.iload_n 3, 1) := by decide +kernel
theorem dX5_load_3 : decode cX5_load 3 = .ok (.iconst 4, 1) := by decide +kernel
theorem dX5_load_4 : decode cX5_load 4 = .ok (.if_icmp .ge 41, 3) := by decide +kernel
theorem dX5_load_7 : decode cX5_load 7 = .ok (.aload_n 0, 1) := by decide +kernel
theorem dX5_load_8 : decode cX5_load 8 = .ok (.getfield 39, 3) := by decide +kernel
theorem dX5_load_11 : decode cX5_load 11 = .ok (.iload_n 3, 1) := by decide +kernel
theorem dX5_load_12 : decode cX5_load 12 = .ok (.aload_n 0, 1) := by decide +kernel
theorem dX5_load_13 : decode cX5_load 13 = .ok (.getfield 20, 3) := by decide +kernel
theorem dX5_load_16 : decode cX5_load 16 = .ok (.iconst 4, 1) := by decide +kernel
theorem dX5_load_17 : decode cX5_load 17 = .ok (.iload_n 1, 1) := by decide +kernel
theorem dX5_load_18 : decode cX5_load 18 = .ok (.imul, 1) := by decide +kernel
theorem dX5_load_19 : decode cX5_load 19 = .ok (.iload_n 3, 1) := by decide +kernel
theorem dX5_load_20 : decode cX5_load 20 = .ok (.iadd, 1) := by decide +kernel
theorem dX5_load_21 : decode cX5_load 21 = .ok (.laload, 1) := by decide +kernel
theorem dX5_load_22 : decode cX5_load 22 = .ok (.lastore, 1) := by decide +kernel
theorem dX5_load_23 : decode cX5_load 23 = .ok (.aload_n 0, 1) := by decide +kernel
theorem dX5_load_24 : decode cX5_load 24 = .ok (.getfield 42, 3) := by decide +kernel
theorem dX5_load_27 : decode cX5_load 27 = .ok (.iload_n 3, 1) := by decide +kernel
theorem dX5_load_28 : decode cX5_load 28 = .ok (.aload_n 0, 1) := by decide +kernel
theorem dX5_load_29 : decode cX5_load 29 = .ok (.getfield 20, 3) := by decide +kernel
theorem dX5_load_32 : decode cX5_load 32 = .ok (.iconst 4, 1) := by decide +kernel
theorem dX5_load_33 : decode cX5_load 33 = .ok (.iload_n 2, 1) := by decide +kernel
theorem dX5_load_34 : decode cX5_load 34 = .ok (.imul, 1) := by decide +kernel
theorem dX5_load_35 : decode cX5_load 35 = .ok (.iload_n 3, 1) := by decide +kernel
theorem dX5_load_36 : decode cX5_load 36 = .ok (.iadd, 1) := by decide +kernel
theorem dX5_load_37 : decode cX5_load 37 = .ok (.laload, 1) := by decide +kernel
theorem dX5_load_38 : decode cX5_load 38 = .ok (.lastore, 1) := by decide +kernel
theorem dX5_load_39 : decode cX5_load 39 = .ok (.iinc 3 1, 3) := by decide +kernel
theorem dX5_load_42 : decode cX5_load 42 = .ok (.goto (-40), 3) := by decide +kernel
theorem dX5_load_45 : decode cX5_load 45 = .ok (.aload_n 0, 1) := by decide +kernel
theorem dX5_load_46 : decode cX5_load 46 = .ok (.aload_n 0, 1) := by decide +kernel
theorem dX5_load_47 : decode cX5_load 47 = .ok (.getfield 23, 3) := by decide +kernel
theorem dX5_load_50 : decode cX5_load 50 = .ok (.iconst 2, 1) := by decide +kernel
theorem dX5_load_51 : decode cX5_load 51 = .ok (.iload_n 1, 1) := by decide +kernel
theorem dX5_load_52 : decode cX5_load 52 = .ok (.imul, 1) := by decide +kernel
theorem dX5_load_53 : decode cX5_load 53 = .ok (.laload, 1) := by decide +kernel
theorem dX5_load_54 : decode cX5_load 54 = .ok (.aload_n 0, 1) := by decide +kernel
theorem dX5_load_55 : decode cX5_load 55 = .ok (.getfield 23, 3) := by decide +kernel
theorem dX5_load_58 : decode cX5_load 58 = .ok (.iconst 2, 1) := by decide +kernel
theorem dX5_load_59 : decode cX5_load 59 = .ok (.iload_n 2, 1) := by decide +kernel
theorem dX5_load_60 : decode cX5_load 60 = .ok (.imul, 1) := by decide +kernel
theorem dX5_load_61 : decode cX5_load 61 = .ok (.laload, 1) := by decide +kernel
theorem dX5_load_62 : decode cX5_load 62 = .ok (.lsub, 1) := by decide +kernel
theorem dX5_load_63 : decode cX5_load 63 = .ok (.putfield 128, 3) := by decide +kernel
theorem dX5_load_66 : decode cX5_load 66 = .ok (.aload_n 0, 1) := by decide +kernel
theorem dX5_load_67 : decode cX5_load 67 = .ok (.aload_n 0, 1) := by decide +kernel
theorem dX5_load_68 : decode cX5_load 68 = .ok (.getfield 23, 3) := by decide +kernel
theorem dX5_load_71 : decode cX5_load 71 = .ok (.iconst 2, 1) := by decide +kernel
theorem dX5_load_72 : decode cX5_load 72 = .ok (.iload_n 1, 1) := by decide +kernel
theorem dX5_load_73 : decode cX5_load 73 = .ok (.imul, 1) := by decide +kernel
theorem dX5_load_74 : decode cX5_load 74 = .ok (.iconst 1, 1) := by decide +kernel
theorem dX5_load_75 : decode cX5_load 75 = .ok (.iadd, 1) := by decide +kernel
theorem dX5_load_76 : decode cX5_load 76 = .ok (.laload, 1) := by decide +kernel
theorem dX5_load_77 : decode cX5_load 77 = .ok (.aload_n 0, 1) := by decide +kernel
theorem dX5_load_78 : decode cX5_load 78 = .ok (.getfield 23, 3) := by decide +kernel
theorem dX5_load_81 : decode cX5_load 81 = .ok (.iconst 2, 1) := by decide +kernel
theorem dX5_load_82 : decode cX5_load 82 = .ok (.iload_n 2, 1) := by decide +kernel
theorem dX5_load_83 : decode cX5_load 83 = .ok (.imul, 1) := by decide +kernel
theorem dX5_load_84 : decode cX5_load 84 = .ok (.iconst 1, 1) := by decide +kernel
theorem dX5_load_85 : decode cX5_load 85 = .ok (.iadd, 1) := by decide +kernel
theorem dX5_load_86 : decode cX5_load 86 = .ok (.laload, 1) := by decide +kernel
theorem dX5_load_87 : decode cX5_load 87 = .ok (.lsub, 1) := by decide +kernel
theorem dX5_load_88 : decode cX5_load 88 = .ok (.putfield 132, 3) := by decide +kernel
theorem dX5_load_91 : decode cX5_load 91 = .ok (.return_, 1) := by decide +kernel
theorem dX5_add_0 : decode cX5_add 0 = .ok (.lload 5, 2) := by decide +kernel
theorem dX5_add_2 : decode cX5_add 2 = .ok (.lconst 0, 1) := by decide +kernel
theorem dX5_add_3 : decode cX5_add 3 = .ok (.lcmp, 1) := by decide +kernel
theorem dX5_add_4 : decode cX5_add 4 = .ok (.ifCond .ge 9, 3) := by decide +kernel
theorem dX5_add_7 : decode cX5_add 7 = .ok (.lload_n 1, 1) := by decide +kernel
theorem dX5_add_8 : decode cX5_add 8 = .ok (.lload_n 3, 1) := by decide +kernel
theorem dX5_add_9 : decode cX5_add 9 = .ok (.lsub, 1) := by decide +kernel
theorem dX5_add_10 : decode cX5_add 10 = .ok (.goto 6, 3) := by decide +kernel
theorem dX5_add_13 : decode cX5_add 13 = .ok (.lload_n 3, 1) := by decide +kernel
theorem dX5_add_14 : decode cX5_add 14 = .ok (.lload_n 1, 1) := by decide +kernel
theorem dX5_add_15 : decode cX5_add 15 = .ok (.lsub, 1) := by decide +kernel
theorem dX5_add_16 : decode cX5_add 16 = .ok (.lstore 7, 2) := by decide +kernel
theorem dX5_add_18 : decode cX5_add 18 = .ok (.lload 5, 2) := by decide +kernel
theorem dX5_add_20 : decode cX5_add 20 = .ok (.lconst 0, 1) := by decide +kernel
theorem dX5_add_21 : decode cX5_add 21 = .ok (.lcmp, 1) := by decide +kernel
theorem dX5_add_22 : decode cX5_add 22 = .ok (.ifCond .ge 9, 3) := by decide +kernel
theorem dX5_add_25 : decode cX5_add 25 = .ok (.lload 5, 2) := by decide +kernel
theorem dX5_add_27 : decode cX5_add 27 = .ok (.lneg, 1) := by decide +kernel
theorem dX5_add_28 : decode cX5_add 28 = .ok (.goto 5, 3) := by decide +kernel
theorem dX5_add_31 : decode cX5_add 31 = .ok (.lload 5, 2) := by decide +kernel
theorem dX5_add_33 : decode cX5_add 33 = .ok (.lstore 9, 2) := by decide +kernel
theorem dX5_add_35 : decode cX5_add 35 = .ok (.lload 9, 2) := by decide +kernel
theorem dX5_add_37 : decode cX5_add 37 = .ok (.lconst 0, 1) := by decide +kernel
theorem dX5_add_38 : decode cX5_add 38 = .ok (.lcmp, 1) := by decide +kernel
theorem dX5_add_39 : decode cX5_add 39 = .ok (.ifCond .eq 18, 3) := by decide +kernel
theorem dX5_add_42 : decode cX5_add 42 = .ok (.lload 7, 2) := by decide +kernel
theorem dX5_add_44 : decode cX5_add 44 = .ok (.lconst 0, 1) := by decide +kernel
theorem dX5_add_45 : decode cX5_add 45 = .ok (.lcmp, 1) := by decide +kernel
theorem dX5_add_46 : decode cX5_add 46 = .ok (.ifCond .lt 11, 3) := by decide +kernel
theorem dX5_add_49 : decode cX5_add 49 = .ok (.lload 7, 2) := by decide +kernel
theorem dX5_add_51 : decode cX5_add 51 = .ok (.lload 9, 2) := by decide +kernel
theorem dX5_add_53 : decode cX5_add 53 = .ok (.lcmp, 1) := by decide +kernel
theorem dX5_add_54 : decode cX5_add 54 = .ok (.ifCond .le 4, 3) := by decide +kernel
theorem dX5_add_57 : decode cX5_add 57 = .ok (.return_, 1) := by decide +kernel
theorem dX5_add_58 : decode cX5_add 58 = .ok (.aload_n 0, 1) := by decide +kernel
theorem dX5_add_59 : decode cX5_add 59 = .ok (.getfield 135, 3) := by decide +kernel
theorem dX5_add_62 : decode cX5_add 62 = .ok (.istore 11, 2) := by decide +kernel
theorem dX5_add_64 : decode cX5_add 64 = .ok (.iload 11, 2) := by decide +kernel
theorem dX5_add_66 : decode cX5_add 66 = .ok (.ifCond .le 69, 3) := by decide +kernel
theorem dX5_add_69 : decode cX5_add 69 = .ok (.aload_n 0, 1) := by decide +kernel
theorem dX5_add_70 : decode cX5_add 70 = .ok (.getfield 45, 3) := by decide +kernel
theorem dX5_add_73 : decode cX5_add 73 = .ok (.iload 11, 2) := by decide +kernel
theorem dX5_add_75 : decode cX5_add 75 = .ok (.iconst 1, 1) := by decide +kernel
theorem dX5_add_76 : decode cX5_add 76 = .ok (.isub, 1) := by decide +kernel
theorem dX5_add_77 : decode cX5_add 77 = .ok (.laload, 1) := by decide +kernel
theorem dX5_add_78 : decode cX5_add 78 = .ok (.lload 9, 2) := by decide +kernel
theorem dX5_add_80 : decode cX5_add 80 = .ok (.lmul, 1) := by decide +kernel
theorem dX5_add_81 : decode cX5_add 81 = .ok (.lload 7, 2) := by decide +kernel
theorem dX5_add_83 : decode cX5_add 83 = .ok (.aload_n 0, 1) := by decide +kernel
theorem dX5_add_84 : decode cX5_add 84 = .ok (.getfield 48, 3) := by decide +kernel
theorem dX5_add_87 : decode cX5_add 87 = .ok (.iload 11, 2) := by decide +kernel
theorem dX5_add_89 : decode cX5_add 89 = .ok (.iconst 1, 1) := by decide +kernel
theorem dX5_add_90 : decode cX5_add 90 = .ok (.isub, 1) := by decide +kernel
theorem dX5_add_91 : decode cX5_add 91 = .ok (.laload, 1) := by decide +kernel
theorem dX5_add_92 : decode cX5_add 92 = .ok (.lmul, 1) := by decide +kernel
theorem dX5_add_93 : decode cX5_add 93 = .ok (.lcmp, 1) := by decide +kernel
theorem dX5_add_94 : decode cX5_add 94 = .ok (.ifCond .le 41, 3) := by decide +kernel
theorem dX5_add_97 : decode cX5_add 97 = .ok (.aload_n 0, 1) := by decide +kernel
theorem dX5_add_98 : decode cX5_add 98 = .ok (.getfield 45, 3) := by decide +kernel
theorem dX5_add_101 : decode cX5_add 101 = .ok (.iload 11, 2) := by decide +kernel
theorem dX5_add_103 : decode cX5_add 103 = .ok (.aload_n 0, 1) := by decide +kernel
theorem dX5_add_104 : decode cX5_add 104 = .ok (.getfield 45, 3) := by decide +kernel
theorem dX5_add_107 : decode cX5_add 107 = .ok (.iload 11, 2) := by decide +kernel
theorem dX5_add_109 : decode cX5_add 109 = .ok (.iconst 1, 1) := by decide +kernel
theorem dX5_add_110 : decode cX5_add 110 = .ok (.isub, 1) := by decide +kernel
theorem dX5_add_111 : decode cX5_add 111 = .ok (.laload, 1) := by decide +kernel
theorem dX5_add_112 : decode cX5_add 112 = .ok (.lastore, 1) := by decide +kernel
theorem dX5_add_113 : decode cX5_add 113 = .ok (.aload_n 0, 1) := by decide +kernel
theorem dX5_add_114 : decode cX5_add 114 = .ok (.getfield 48, 3) := by decide +kernel
theorem dX5_add_117 : decode cX5_add 117 = .ok (.iload 11, 2) := by decide +kernel
theorem dX5_add_119 : decode cX5_add 119 = .ok (.aload_n 0, 1) := by decide +kernel
theorem dX5_add_120 : decode cX5_add 120 = .ok (.getfield 48, 3) := by decide +kernel
theorem dX5_add_123 : decode cX5_add 123 = .ok (.iload 11, 2) := by decide +kernel
theorem dX5_add_125 : decode cX5_add 125 = .ok (.iconst 1, 1) := by decide +kernel
theorem dX5_add_126 : decode cX5_add 126 = .ok (.isub, 1) := by decide +kernel
theorem dX5_add_127 : decode cX5_add 127 = .ok (.laload, 1) := by decide +kernel
theorem dX5_add_128 : decode cX5_add 128 = .ok (.lastore, 1) := by decide +kernel
theorem dX5_add_129 : decode cX5_add 129 = .ok (.iinc 11 (-1), 3) := by decide +kernel
theorem dX5_add_132 : decode cX5_add 132 = .ok (.goto (-68), 3) := by decide +kernel
theorem dX5_add_135 : decode cX5_add 135 = .ok (.aload_n 0, 1) := by decide +kernel
theorem dX5_add_136 : decode cX5_add 136 = .ok (.getfield 45, 3) := by decide +kernel
theorem dX5_add_139 : decode cX5_add 139 = .ok (.iload 11, 2) := by decide +kernel
theorem dX5_add_141 : decode cX5_add 141 = .ok (.lload 7, 2) := by decide +kernel
theorem dX5_add_143 : decode cX5_add 143 = .ok (.lastore, 1) := by decide +kernel
theorem dX5_add_144 : decode cX5_add 144 = .ok (.aload_n 0, 1) := by decide +kernel
theorem dX5_add_145 : decode cX5_add 145 = .ok (.getfield 48, 3) := by decide +kernel
theorem dX5_add_148 : decode cX5_add 148 = .ok (.iload 11, 2) := by decide +kernel
theorem dX5_add_150 : decode cX5_add 150 = .ok (.lload 9, 2) := by decide +kernel
theorem dX5_add_152 : decode cX5_add 152 = .ok (.lastore, 1) := by decide +kernel
theorem dX5_add_153 : decode cX5_add 153 = .ok (.aload_n 0, 1) := by decide +kernel
theorem dX5_add_154 : decode cX5_add 154 = .ok (.dup, 1) := by decide +kernel
theorem dX5_add_155 : decode cX5_add 155 = .ok (.getfield 135, 3) := by decide +kernel
theorem dX5_add_158 : decode cX5_add 158 = .ok (.iconst 1, 1) := by decide +kernel
theorem dX5_add_159 : decode cX5_add 159 = .ok (.iadd, 1) := by decide +kernel
theorem dX5_add_160 : decode cX5_add 160 = .ok (.putfield 135, 3) := by decide +kernel
theorem dX5_add_163 : decode cX5_add 163 = .ok (.return_, 1) := by decide +kernel
set_option maxRecDepth 20000 in
theorem ggX5_findMoments_X5_add : GoodIn wsX5_findMoments wsX5_add := goodIn_r _ [10, 1, 11, 12, 13, 14, 15, 16, 17, 18, 19, 20, 21, 22, 23, 24, 25, 26, 27, 28, 29, 30, 31, 32, 33, 34, 35, 36, 37] (by decide +kernel) (by decide +kernel)
set_option maxRecDepth 20000 in
theorem gX5_findMoments_X5_add : GoodIn wsX5_findMoments (wsV RX5 138 RX5 yX5_add wsX5_add) := goodIn_app (goodIn_of _ (by decide +kernel)) ggX5_findMoments_X5_add
theorem dX5_findMoments_0 : decode cX5_findMoments 0 = .ok (.aload_n 0, 1) := by decide +kernel
theorem dX5_findMoments_1 : decode cX5_findMoments 1 = .ok (.iconst 0, 1) := by decide +kernel
theorem dX5_findMoments_2 : decode cX5_findMoments 2 = .ok (.putfield 135, 3) := by decide +kernel
theorem dX5_findMoments_5 : decode cX5_findMoments 5 = .ok (.aload_n 0, 1) := by decide +kernel
theorem dX5_findMoments_6 : decode cX5_findMoments 6 = .ok (.lconst 0, 1) := by decide +kernel
theorem dX5_findMoments_7 : decode cX5_findMoments 7 = .ok (.lconst 0, 1) := by decide +kernel
theorem dX5_findMoments_8 : decode cX5_findMoments 8 = .ok (.lconst 1, 1) := by decide +kernel
theorem dX5_findMoments_9 : decode cX5_findMoments 9 = .ok (.invokevirtual 138, 3) := by decide +kernel
theorem dX5_findMoments_12 : decode cX5_findMoments 12 = .ok (.aload_n 0, 1) := by decide +kernel
theorem dX5_findMoments_13 : decode cX5_findMoments 13 = .ok (.lconst 0, 1) := by decide +kernel
theorem dX5_findMoments_14 : decode cX5_findMoments 14 = .ok (.lconst 1, 1) := by decide +kernel
theorem dX5_findMoments_15 : decode cX5_findMoments 15 = .ok (.lconst 1, 1) := by decide +kernel
theorem dX5_findMoments_16 : decode cX5_findMoments 16 = .ok (.invokevirtual 138, 3) := by decide +kernel
theorem dX5_findMoments_19 : decode cX5_findMoments 19 = .ok (.iconst 0, 1) := by decide +kernel
theorem dX5_findMoments_20 : decode cX5_findMoments 20 = .ok (.istore_n 1, 1) := by decide +kernel
theorem dX5_findMoments_21 : decode cX5_findMoments 21 = .ok (.iload_n 1, 1) := by decide +kernel
theorem dX5_findMoments_22 : decode cX5_findMoments 22 = .ok (.iconst 2, 1) := by decide +kernel
theorem dX5_findMoments_23 : decode cX5_findMoments 23 = .ok (.if_icmp .ge 63, 3) := by decide +kernel
theorem dX5_findMoments_26 : decode cX5_findMoments 26 = .ok (.iload_n 1, 1) := by decide +kernel
theorem dX5_findMoments_27 : decode cX5_findMoments 27 = .ok (.ifCond .ne 10, 3) := by decide +kernel
theorem dX5_findMoments_30 : decode cX5_findMoments 30 = .ok (.aload_n 0, 1) := by decide +kernel
theorem dX5_findMoments_31 : decode cX5_findMoments 31 = .ok (.getfield 128, 3) := by decide +kernel
theorem dX5_findMoments_34 : decode cX5_findMoments 34 = .ok (.goto 7, 3) := by decide +kernel
theorem dX5_findMoments_37 : decode cX5_findMoments 37 = .ok (.aload_n 0, 1) := by decide +kernel
theorem dX5_findMoments_38 : decode cX5_findMoments 38 = .ok (.getfield 132, 3) := by decide +kernel
theorem dX5_findMoments_41 : decode cX5_findMoments 41 = .ok (.lstore_n 2, 1) := by decide +kernel
theorem dX5_findMoments_42 : decode cX5_findMoments 42 = .ok (.aload_n 0, 1) := by decide +kernel
theorem dX5_findMoments_43 : decode cX5_findMoments 43 = .ok (.aload_n 0, 1) := by decide +kernel
theorem dX5_findMoments_44 : decode cX5_findMoments 44 = .ok (.getfield 39, 3) := by decide +kernel
theorem dX5_findMoments_47 : decode cX5_findMoments 47 = .ok (.iload_n 1, 1) := by decide +kernel
theorem dX5_findMoments_48 : decode cX5_findMoments 48 = .ok (.laload, 1) := by decide +kernel
theorem dX5_findMoments_49 : decode cX5_findMoments 49 = .ok (.aload_n 0, 1) := by decide +kernel
theorem dX5_findMoments_50 : decode cX5_findMoments 50 = .ok (.getfield 42, 3) := by decide +kernel
theorem dX5_findMoments_53 : decode cX5_findMoments 53 = .ok (.iload_n 1, 1) := by decide +kernel
theorem dX5_findMoments_54 : decode cX5_findMoments 54 = .ok (.iconst 2, 1) := by decide +kernel
theorem dX5_findMoments_55 : decode cX5_findMoments 55 = .ok (.iadd, 1) := by decide +kernel
theorem dX5_findMoments_56 : decode cX5_findMoments 56 = .ok (.laload, 1) := by decide +kernel
theorem dX5_findMoments_57 : decode cX5_findMoments 57 = .ok (.lload_n 2, 1) := by decide +kernel
theorem dX5_findMoments_58 : decode cX5_findMoments 58 = .ok (.invokevirtual 138, 3) := by decide +kernel
theorem dX5_findMoments_61 : decode cX5_findMoments 61 = .ok (.aload_n 0, 1) := by decide +kernel
theorem dX5_findMoments_62 : decode cX5_findMoments 62 = .ok (.aload_n 0, 1) := by decide +kernel
theorem dX5_findMoments_63 : decode cX5_findMoments 63 = .ok (.getfield 39, 3) := by decide +kernel
theorem dX5_findMoments_66 : decode cX5_findMoments 66 = .ok (.iload_n 1, 1) := by decide +kernel
theorem dX5_findMoments_67 : decode cX5_findMoments 67 = .ok (.iconst 2, 1) := by decide +kernel
theorem dX5_findMoments_68 : decode cX5_findMoments 68 = .ok (.iadd, 1) := by decide +kernel
theorem dX5_findMoments_69 : decode cX5_findMoments 69 = .ok (.laload, 1) := by decide +kernel
theorem dX5_findMoments_70 : decode cX5_findMoments 70 = .ok (.aload_n 0, 1) := by decide +kernel
theorem dX5_findMoments_71 : decode cX5_findMoments 71 = .ok (.getfield 42, 3) := by decide +kernel
theorem dX5_findMoments_74 : decode cX5_findMoments 74 = .ok (.iload_n 1, 1) := by decide +kernel
theorem dX5_findMoments_75 : decode cX5_findMoments 75 = .ok (.laload, 1) := by decide +kernel
theorem dX5_findMoments_76 : decode cX5_findMoments 76 = .ok (.lload_n 2, 1) := by decide +kernel
theorem dX5_findMoments_77 : decode cX5_findMoments 77 = .ok (.invokevirtual 138, 3) := by decide +kernel
theorem dX5_findMoments_80 : decode cX5_findMoments 80 = .ok (.iinc 1 1, 3) := by decide +kernel
theorem dX5_findMoments_83 : decode cX5_findMoments 83 = .ok (.goto (-62), 3) := by decide +kernel
theorem dX5_findMoments_86 : decode cX5_findMoments 86 = .ok (.return_, 1) := by decide +kernel
theorem dX5_isCommon_0 : decode cX5_isCommon 0 = .ok (.iload_n 1, 1) := by decide +kernel
theorem dX5_isCommon_1 : decode cX5_isCommon 1 = .ok (.ifCond .ne 10, 3) := by decide +kernel
theorem dX5_isCommon_4 : decode cX5_isCommon 4 = .ok (.aload_n 0, 1) := by decide +kernel
theorem dX5_isCommon_5 : decode cX5_isCommon 5 = .ok (.getfield 128, 3) := by decide +kernel
theorem dX5_isCommon_8 : decode cX5_isCommon 8 = .ok (.goto 7, 3) := by decide +kernel
theorem dX5_isCommon_11 : decode cX5_isCommon 11 = .ok (.aload_n 0, 1) := by decide +kernel
theorem dX5_isCommon_12 : decode cX5_isCommon 12 = .ok (.getfield 132, 3) := by decide +kernel
theorem dX5_isCommon_15 : decode cX5_isCommon 15 = .ok (.lstore 7, 2) := by decide +kernel
theorem dX5_isCommon_17 : decode cX5_isCommon 17 = .ok (.aload_n 0, 1) := by decide +kernel
theorem dX5_isCommon_18 : decode cX5_isCommon 18 = .ok (.getfield 39, 3) := by decide +kernel
theorem dX5_isCommon_21 : decode cX5_isCommon 21 = .ok (.iload_n 1, 1) := by decide +kernel
theorem dX5_isCommon_22 : decode cX5_isCommon 22 = .ok (.laload, 1) := by decide +kernel
theorem dX5_isCommon_23 : decode cX5_isCommon 23 = .ok (.lload 4, 2) := by decide +kernel
theorem dX5_isCommon_25 : decode cX5_isCommon 25 = .ok (.lmul, 1) := by decide +kernel
theorem dX5_isCommon_26 : decode cX5_isCommon 26 = .ok (.lload 7, 2) := by decide +kernel
theorem dX5_isCommon_28 : decode cX5_isCommon 28 = .ok (.lload_n 2, 1) := by decide +kernel
theorem dX5_isCommon_29 : decode cX5_isCommon 29 = .ok (.lmul, 1) := by decide +kernel
theorem dX5_isCommon_30 : decode cX5_isCommon 30 = .ok (.ladd, 1) := by decide +kernel
theorem dX5_isCommon_31 : decode cX5_isCommon 31 = .ok (.lstore 9, 2) := by decide +kernel
theorem dX5_isCommon_33 : decode cX5_isCommon 33 = .ok (.aload_n 0, 1) := by decide +kernel
theorem dX5_isCommon_34 : decode cX5_isCommon 34 = .ok (.getfield 39, 3) := by decide +kernel
theorem dX5_isCommon_37 : decode cX5_isCommon 37 = .ok (.iload_n 1, 1) := by decide +kernel
theorem dX5_isCommon_38 : decode cX5_isCommon 38 = .ok (.iconst 2, 1) := by decide +kernel
theorem dX5_isCommon_39 : decode cX5_isCommon 39 = .ok (.iadd, 1) := by decide +kernel
theorem dX5_isCommon_40 : decode cX5_isCommon 40 = .ok (.laload, 1) := by decide +kernel
theorem dX5_isCommon_41 : decode cX5_isCommon 41 = .ok (.lload 4, 2) := by decide +kernel
theorem dX5_isCommon_43 : decode cX5_isCommon 43 = .ok (.lmul, 1) := by decide +kernel
theorem dX5_isCommon_44 : decode cX5_isCommon 44 = .ok (.lload 7, 2) := by decide +kernel
theorem dX5_isCommon_46 : decode cX5_isCommon 46 = .ok (.lload_n 2, 1) := by decide +kernel
theorem dX5_isCommon_47 : decode cX5_isCommon 47 = .ok (.lmul, 1) := by decide +kernel
theorem dX5_isCommon_48 : decode cX5_isCommon 48 = .ok (.ladd, 1) := by decide +kernel
theorem dX5_isCommon_49 : decode cX5_isCommon 49 = .ok (.lstore 11, 2) := by decide +kernel
theorem dX5_isCommon_51 : decode cX5_isCommon 51 = .ok (.aload_n 0, 1) := by decide +kernel
theorem dX5_isCommon_52 : decode cX5_isCommon 52 = .ok (.getfield 42, 3) := by decide +kernel
theorem dX5_isCommon_55 : decode cX5_isCommon 55 = .ok (.iload_n 1, 1) := by decide +kernel
theorem dX5_isCommon_56 : decode cX5_isCommon 56 = .ok (.laload, 1) := by decide +kernel
theorem dX5_isCommon_57 : decode cX5_isCommon 57 = .ok (.lload 4, 2) := by decide +kernel
theorem dX5_isCommon_59 : decode cX5_isCommon 59 = .ok (.lmul, 1) := by decide +kernel
theorem dX5_isCommon_60 : decode cX5_isCommon 60 = .ok (.lstore 13, 2) := by decide +kernel
theorem dX5_isCommon_62 : decode cX5_isCommon 62 = .ok (.aload_n 0, 1) := by decide +kernel
theorem dX5_isCommon_63 : decode cX5_isCommon 63 = .ok (.getfield 42, 3) := by decide +kernel
theorem dX5_isCommon_66 : decode cX5_isCommon 66 = .ok (.iload_n 1, 1) := by decide +kernel
theorem dX5_isCommon_67 : decode cX5_isCommon 67 = .ok (.iconst 2, 1) := by decide +kernel
theorem dX5_isCommon_68 : decode cX5_isCommon 68 = .ok (.iadd, 1) := by decide +kernel
theorem dX5_isCommon_69 : decode cX5_isCommon 69 = .ok (.laload, 1) := by decide +kernel
theorem dX5_isCommon_70 : decode cX5_isCommon 70 = .ok (.lload 4, 2) := by decide +kernel
theorem dX5_isCommon_72 : decode cX5_isCommon 72 = .ok (.lmul, 1) := by decide +kernel
theorem dX5_isCommon_73 : decode cX5_isCommon 73 = .ok (.lstore 15, 2) := by decide +kernel
theorem dX5_isCommon_75 : decode cX5_isCommon 75 = .ok (.lload 9, 2) := by decide +kernel
theorem dX5_isCommon_77 : decode cX5_isCommon 77 = .ok (.lload 13, 2) := by decide +kernel
theorem dX5_isCommon_79 : decode cX5_isCommon 79 = .ok (.lcmp, 1) := by decide +kernel
theorem dX5_isCommon_80 : decode cX5_isCommon 80 = .ok (.ifCond .le 8, 3) := by decide +kernel
theorem dX5_isCommon_83 : decode cX5_isCommon 83 = .ok (.lload 9, 2) := by decide +kernel
theorem dX5_isCommon_85 : decode cX5_isCommon 85 = .ok (.goto 5, 3) := by decide +kernel
theorem dX5_isCommon_88 : decode cX5_isCommon 88 = .ok (.lload 13, 2) := by decide +kernel
theorem dX5_isCommon_90 : decode cX5_isCommon 90 = .ok (.lstore 17, 2) := by decide +kernel
theorem dX5_isCommon_92 : decode cX5_isCommon 92 = .ok (.lload 11, 2) := by decide +kernel
theorem dX5_isCommon_94 : decode cX5_isCommon 94 = .ok (.lload 15, 2) := by decide +kernel
theorem dX5_isCommon_96 : decode cX5_isCommon 96 = .ok (.lcmp, 1) := by decide +kernel
theorem dX5_isCommon_97 : decode cX5_isCommon 97 = .ok (.ifCond .ge 8, 3) := by decide +kernel
theorem dX5_isCommon_100 : decode cX5_isCommon 100 = .ok (.lload 11, 2) := by decide +kernel
theorem dX5_isCommon_102 : decode cX5_isCommon 102 = .ok (.goto 5, 3) := by decide +kernel
theorem dX5_isCommon_105 : decode cX5_isCommon 105 = .ok (.lload 15, 2) := by decide +kernel
theorem dX5_isCommon_107 : decode cX5_isCommon 107 = .ok (.lstore 19, 2) := by decide +kernel
theorem dX5_isCommon_109 : decode cX5_isCommon 109 = .ok (.iload 6, 2) := by decide +kernel
theorem dX5_isCommon_111 : decode cX5_isCommon 111 = .ok (.ifCond .eq 35, 3) := by decide +kernel
theorem dX5_isCommon_114 : decode cX5_isCommon 114 = .ok (.lload 17, 2) := by decide +kernel
theorem dX5_isCommon_116 : decode cX5_isCommon 116 = .ok (.lload 19, 2) := by decide +kernel
theorem dX5_isCommon_118 : decode cX5_isCommon 118 = .ok (.lcmp, 1) := by decide +kernel
theorem dX5_isCommon_119 : decode cX5_isCommon 119 = .ok (.ifCond .ge 23, 3) := by decide +kernel
theorem dX5_isCommon_122 : decode cX5_isCommon 122 = .ok (.lload 9, 2) := by decide +kernel
theorem dX5_isCommon_124 : decode cX5_isCommon 124 = .ok (.lload 11, 2) := by decide +kernel
theorem dX5_isCommon_126 : decode cX5_isCommon 126 = .ok (.lcmp, 1) := by decide +kernel
theorem dX5_isCommon_127 : decode cX5_isCommon 127 = .ok (.ifCond .ge 15, 3) := by decide +kernel
theorem dX5_isCommon_130 : decode cX5_isCommon 130 = .ok (.lload 13, 2) := by decide +kernel
theorem dX5_isCommon_132 : decode cX5_isCommon 132 = .ok (.lload 15, 2) := by decide +kernel
theorem dX5_isCommon_134 : decode cX5_isCommon 134 = .ok (.lcmp, 1) := by decide +kernel
theorem dX5_isCommon_135 : decode cX5_isCommon 135 = .ok (.ifCond .ge 7, 3) := by decide +kernel
theorem dX5_isCommon_138 : decode cX5_isCommon 138 = .ok (.iconst 1, 1) := by decide +kernel
theorem dX5_isCommon_139 : decode cX5_isCommon 139 = .ok (.goto 20, 3) := by decide +kernel
theorem dX5_isCommon_142 : decode cX5_isCommon 142 = .ok (.iconst 0, 1) := by decide +kernel
theorem dX5_isCommon_143 : decode cX5_isCommon 143 = .ok (.goto 16, 3) := by decide +kernel
theorem dX5_isCommon_146 : decode cX5_isCommon 146 = .ok (.lload 17, 2) := by decide +kernel
theorem dX5_isCommon_148 : decode cX5_isCommon 148 = .ok (.lload 19, 2) := by decide +kernel
theorem dX5_isCommon_150 : decode cX5_isCommon 150 = .ok (.lcmp, 1) := by decide +kernel
theorem dX5_isCommon_151 : decode cX5_isCommon 151 = .ok (.ifCond .gt 7, 3) := by decide +kernel
theorem dX5_isCommon_154 : decode cX5_isCommon 154 = .ok (.iconst 1, 1) := by decide +kernel
theorem dX5_isCommon_155 : decode cX5_isCommon 155 = .ok (.goto 4, 3) := by decide +kernel
theorem dX5_isCommon_158 : decode cX5_isCommon 158 = .ok (.iconst 0, 1) := by decide +kernel
theorem dX5_isCommon_159 : decode cX5_isCommon 159 = .ok (.ireturn, 1) := by decide +kernel
set_option maxRecDepth 20000 in
theorem ggX5_isAt_X5_isCommon : GoodIn wsX5_isAt wsX5_isCommon := goodIn_r _ [5, 6, 7, 8, 9, 10, 11, 12, 13, 14, 15, 16, 17, 18, 19, 20, 21, 22, 23, 24, 25, 26, 27, 28, 29, 30, 31, 32, 33, 34] (by decide +kernel) (by decide +kernel)
set_option maxRecDepth 20000 in
theorem gX5_isAt_X5_isCommon : GoodIn wsX5_isAt (wsV RX5 142 RX5 yX5_isCommon wsX5_isCommon) := goodIn_app (goodIn_of _ (by decide +kernel)) ggX5_isAt_X5_isCommon
theorem dX5_isAt_0 : decode cX5_isAt 0 = .ok (.aload_n 0, 1) := by decide +kernel
theorem dX5_isAt_1 : decode cX5_isAt 1 = .ok (.iconst 0, 1) := by decide +kernel
theorem dX5_isAt_2 : decode cX5_isAt 2 = .ok (.lload_n 1, 1) := by decide +kernel
theorem dX5_isAt_3 : decode cX5_isAt 3 = .ok (.lload_n 3, 1) := by decide +kernel
theorem dX5_isAt_4 : decode cX5_isAt 4 = .ok (.iload 5, 2) := by decide +kernel
theorem dX5_isAt_6 : decode cX5_isAt 6 = .ok (.invokevirtual 142, 3) := by decide +kernel
theorem dX5_isAt_9 : decode cX5_isAt 9 = .ok (.ifCond .eq 19, 3) := by decide +kernel
theorem dX5_isAt_12 : decode cX5_isAt 12 = .ok (.aload_n 0, 1) := by decide +kernel
theorem dX5_isAt_13 : decode cX5_isAt 13 = .ok (.iconst 1, 1) := by decide +kernel
theorem dX5_isAt_14 : decode cX5_isAt 14 = .ok (.lload_n 1, 1) := by decide +kernel
theorem dX5_isAt_15 : decode cX5_isAt 15 = .ok (.lload_n 3, 1) := by decide +kernel
theorem dX5_isAt_16 : decode cX5_isAt 16 = .ok (.iload 5, 2) := by decide +kernel
theorem dX5_isAt_18 : decode cX5_isAt 18 = .ok (.invokevirtual 142, 3) := by decide +kernel
theorem dX5_isAt_21 : decode cX5_isAt 21 = .ok (.ifCond .eq 7, 3) := by decide +kernel
theorem dX5_isAt_24 : decode cX5_isAt 24 = .ok (.iconst 1, 1) := by decide +kernel
theorem dX5_isAt_25 : decode cX5_isAt 25 = .ok (.goto 4, 3) := by decide +kernel
theorem dX5_isAt_28 : decode cX5_isAt 28 = .ok (.iconst 0, 1) := by decide +kernel
theorem dX5_isAt_29 : decode cX5_isAt 29 = .ok (.ireturn, 1) := by decide +kernel
theorem dX5_tell_0 : decode cX5_tell 0 = .ok (.lload_n 1, 1) := by decide +kernel
theorem dX5_tell_1 : decode cX5_tell 1 = .ok (.lstore 5, 2) := by decide +kernel
theorem dX5_tell_3 : decode cX5_tell 3 = .ok (.lload_n 3, 1) := by decide +kernel
theorem dX5_tell_4 : decode cX5_tell 4 = .ok (.lstore 7, 2) := by decide +kernel
theorem dX5_tell_6 : decode cX5_tell 6 = .ok (.lload 7, 2) := by decide +kernel
theorem dX5_tell_8 : decode cX5_tell 8 = .ok (.lconst 0, 1) := by decide +kernel
theorem dX5_tell_9 : decode cX5_tell 9 = .ok (.lcmp, 1) := by decide +kernel
theorem dX5_tell_10 : decode cX5_tell 10 = .ok (.ifCond .eq 21, 3) := by decide +kernel
theorem dX5_tell_13 : decode cX5_tell 13 = .ok (.lload 5, 2) := by decide +kernel
theorem dX5_tell_15 : decode cX5_tell 15 = .ok (.lload 7, 2) := by decide +kernel
theorem dX5_tell_17 : decode cX5_tell 17 = .ok (.lrem, 1) := by decide +kernel
theorem dX5_tell_18 : decode cX5_tell 18 = .ok (.lstore 9, 2) := by decide +kernel
theorem dX5_tell_20 : decode cX5_tell 20 = .ok (.lload 7, 2) := by decide +kernel
theorem dX5_tell_22 : decode cX5_tell 22 = .ok (.lstore 5, 2) := by decide +kernel
theorem dX5_tell_24 : decode cX5_tell 24 = .ok (.lload 9, 2) := by decide +kernel
theorem dX5_tell_26 : decode cX5_tell 26 = .ok (.lstore 7, 2) := by decide +kernel
theorem dX5_tell_28 : decode cX5_tell 28 = .ok (.goto (-22), 3) := by decide +kernel
theorem dX5_tell_31 : decode cX5_tell 31 = .ok (.aload_n 0, 1) := by decide +kernel
theorem dX5_tell_32 : decode cX5_tell 32 = .ok (.lload_n 1, 1) := by decide +kernel
theorem dX5_tell_33 : decode cX5_tell 33 = .ok (.lload 5, 2) := by decide +kernel
theorem dX5_tell_35 : decode cX5_tell 35 = .ok (.ldiv, 1) := by decide +kernel
theorem dX5_tell_36 : decode cX5_tell 36 = .ok (.putfield 145, 3) := by decide +kernel
theorem dX5_tell_39 : decode cX5_tell 39 = .ok (.aload_n 0, 1) := by decide +kernel
theorem dX5_tell_40 : decode cX5_tell 40 = .ok (.lload_n 3, 1) := by decide +kernel
theorem dX5_tell_41 : decode cX5_tell 41 = .ok (.lload 5, 2) := by decide +kernel
theorem dX5_tell_43 : decode cX5_tell 43 = .ok (.ldiv, 1) := by decide +kernel
theorem dX5_tell_44 : decode cX5_tell 44 = .ok (.putfield 148, 3) := by decide +kernel
theorem dX5_tell_47 : decode cX5_tell 47 = .ok (.return_, 1) := by decide +kernel
set_option maxRecDepth 20000 in
theorem ggX5_isFound_X5_findMoments : GoodIn wsX5_isFound wsX5_findMoments := goodIn_r _ [12, 4, 13, 14, 15, 16, 17, 18, 19, 11, 20, 5, 6, 33, 34, 35, 36, 37, 38, 39, 40, 41, 42, 43, 44, 45, 46, 47, 48, 49, 50, 51, 52, 53, 54, 55, 56, 57] (by decide +kernel) (by decide +kernel)
set_option maxRecDepth 20000 in
theorem gX5_isFound_X5_findMoments : GoodIn wsX5_isFound (wsV RX5 151 RX5 yX5_findMoments wsX5_findMoments) := goodIn_app (goodIn_of _ (by decide +kernel)) ggX5_isFound_X5_findMoments
set_option maxRecDepth 20000 in
theorem ggX5_isFound_X5_isAt : GoodIn wsX5_isFound wsX5_isAt := goodIn_r _ [24, 25, 26, 27, 11, 28, 13, 14, 15, 16, 33, 34, 35, 36, 37, 38, 39, 40, 41, 42, 43, 44, 45, 46, 47, 48, 49, 50, 51, 52, 53, 54, 55, 56, 57] (by decide +kernel) (by decide +kernel)
set_option maxRecDepth 20000 in
theorem gX5_isFound_X5_isAt : GoodIn wsX5_isFound (wsV RX5 156 RX5 yX5_isAt wsX5_isAt) := goodIn_app (goodIn_of _ (by decide +kernel)) ggX5_isFound_X5_isAt
set_option maxRecDepth 20000 in
theorem ggX5_isFound_X5_tell : GoodIn wsX5_isFound wsX5_tell := goodIn_r _ [32, 2, 3, 33, 34, 35, 36, 37, 38, 39, 40, 41, 42, 43, 44, 45, 46, 47, 48, 49, 50, 51, 52, 53, 54, 55, 56, 57] (by decide +kernel) (by decide +kernel)
set_option maxRecDepth 20000 in
theorem gX5_isFound_X5_tell : GoodIn wsX5_isFound (wsV RX5 162 RX5 yX5_tell wsX5_tell) := goodIn_app (goodIn_of _ (by decide +kernel)) ggX5_isFound_X5_tell
theorem dX5_isFound_0 : decode cX5_isFound 0 = .ok (.aload_n 0, 1) := by decide +kernel
theorem dX5_isFound_1 : decode cX5_isFound 1 = .ok (.invokevirtual 151, 3) := by decide +kernel
theorem dX5_isFound_4 : decode cX5_isFound 4 = .ok (.aload_n 0, 1) := by decide +kernel
theorem dX5_isFound_5 : decode cX5_isFound 5 = .ok (.ldc2_w 154, 3) := by decide +kernel
theorem dX5_isFound_8 : decode cX5_isFound 8 = .ok (.putfield 145, 3) := by decide +kernel
theorem dX5_isFound_11 : decode cX5_isFound 11 = .ok (.aload_n 0, 1) := by decide +kernel
theorem dX5_isFound_12 : decode cX5_isFound 12 = .ok (.lconst 1, 1) := by decide +kernel
theorem dX5_isFound_13 : decode cX5_isFound 13 = .ok (.putfield 148, 3) := by decide +kernel
theorem dX5_isFound_16 : decode cX5_isFound 16 = .ok (.iconst 0, 1) := by decide +kernel
theorem dX5_isFound_17 : decode cX5_isFound 17 = .ok (.istore_n 2, 1) := by decide +kernel
theorem dX5_isFound_18 : decode cX5_isFound 18 = .ok (.iload_n 2, 1) := by decide +kernel
theorem dX5_isFound_19 : decode cX5_isFound 19 = .ok (.aload_n 0, 1) := by decide +kernel
theorem dX5_isFound_20 : decode cX5_isFound 20 = .ok (.getfield 135, 3) := by decide +kernel
theorem dX5_isFound_23 : decode cX5_isFound 23 = .ok (.if_icmp .ge 163, 3) := by decide +kernel
theorem dX5_isFound_26 : decode cX5_isFound 26 = .ok (.aload_n 0, 1) := by decide +kernel
theorem dX5_isFound_27 : decode cX5_isFound 27 = .ok (.aload_n 0, 1) := by decide +kernel
theorem dX5_isFound_28 : decode cX5_isFound 28 = .ok (.getfield 45, 3) := by decide +kernel
theorem dX5_isFound_31 : decode cX5_isFound 31 = .ok (.iload_n 2, 1) := by decide +kernel
theorem dX5_isFound_32 : decode cX5_isFound 32 = .ok (.laload, 1) := by decide +kernel
theorem dX5_isFound_33 : decode cX5_isFound 33 = .ok (.aload_n 0, 1) := by decide +kernel
theorem dX5_isFound_34 : decode cX5_isFound 34 = .ok (.getfield 48, 3) := by decide +kernel
theorem dX5_isFound_37 : decode cX5_isFound 37 = .ok (.iload_n 2, 1) := by decide +kernel
theorem dX5_isFound_38 : decode cX5_isFound 38 = .ok (.laload, 1) := by decide +kernel
theorem dX5_isFound_39 : decode cX5_isFound 39 = .ok (.iload_n 1, 1) := by decide +kernel
theorem dX5_isFound_40 : decode cX5_isFound 40 = .ok (.invokevirtual 156, 3) := by decide +kernel
theorem dX5_isFound_43 : decode cX5_isFound 43 = .ok (.istore_n 3, 1) := by decide +kernel
theorem dX5_isFound_44 : decode cX5_isFound 44 = .ok (.iload_n 2, 1) := by decide +kernel
theorem dX5_isFound_45 : decode cX5_isFound 45 = .ok (.iconst 1, 1) := by decide +kernel
theorem dX5_isFound_46 : decode cX5_isFound 46 = .ok (.iadd, 1) := by decide +kernel
theorem dX5_isFound_47 : decode cX5_isFound 47 = .ok (.aload_n 0, 1) := by decide +kernel
theorem dX5_isFound_48 : decode cX5_isFound 48 = .ok (.getfield 135, 3) := by decide +kernel
theorem dX5_isFound_51 : decode cX5_isFound 51 = .ok (.if_icmp .ge 99, 3) := by decide +kernel
theorem dX5_isFound_54 : decode cX5_isFound 54 = .ok (.aload_n 0, 1) := by decide +kernel
theorem dX5_isFound_55 : decode cX5_isFound 55 = .ok (.getfield 45, 3) := by decide +kernel
theorem dX5_isFound_58 : decode cX5_isFound 58 = .ok (.iload_n 2, 1) := by decide +kernel
theorem dX5_isFound_59 : decode cX5_isFound 59 = .ok (.laload, 1) := by decide +kernel
theorem dX5_isFound_60 : decode cX5_isFound 60 = .ok (.aload_n 0, 1) := by decide +kernel
theorem dX5_isFound_61 : decode cX5_isFound 61 = .ok (.getfield 48, 3) := by decide +kernel
theorem dX5_isFound_64 : decode cX5_isFound 64 = .ok (.iload_n 2, 1) := by decide +kernel
theorem dX5_isFound_65 : decode cX5_isFound 65 = .ok (.iconst 1, 1) := by decide +kernel
theorem dX5_isFound_66 : decode cX5_isFound 66 = .ok (.iadd, 1) := by decide +kernel
theorem dX5_isFound_67 : decode cX5_isFound 67 = .ok (.laload, 1) := by decide +kernel
theorem dX5_isFound_68 : decode cX5_isFound 68 = .ok (.lmul, 1) := by decide +kernel
theorem dX5_isFound_69 : decode cX5_isFound 69 = .ok (.aload_n 0, 1) := by decide +kernel
theorem dX5_isFound_70 : decode cX5_isFound 70 = .ok (.getfield 45, 3) := by decide +kernel
theorem dX5_isFound_73 : decode cX5_isFound 73 = .ok (.iload_n 2, 1) := by decide +kernel
theorem dX5_isFound_74 : decode cX5_isFound 74 = .ok (.iconst 1, 1) := by decide +kernel
theorem dX5_isFound_75 : decode cX5_isFound 75 = .ok (.iadd, 1) := by decide +kernel
theorem dX5_isFound_76 : decode cX5_isFound 76 = .ok (.laload, 1) := by decide +kernel
theorem dX5_isFound_77 : decode cX5_isFound 77 = .ok (.aload_n 0, 1) := by decide +kernel
theorem dX5_isFound_78 : decode cX5_isFound 78 = .ok (.getfield 48, 3) := by decide +kernel
theorem dX5_isFound_81 : decode cX5_isFound 81 = .ok (.iload_n 2, 1) := by decide +kernel
theorem dX5_isFound_82 : decode cX5_isFound 82 = .ok (.laload, 1) := by decide +kernel
theorem dX5_isFound_83 : decode cX5_isFound 83 = .ok (.lmul, 1) := by decide +kernel
theorem dX5_isFound_84 : decode cX5_isFound 84 = .ok (.lcmp, 1) := by decide +kernel
theorem dX5_isFound_85 : decode cX5_isFound 85 = .ok (.ifCond .eq 65, 3) := by decide +kernel
theorem dX5_isFound_88 : decode cX5_isFound 88 = .ok (.aload_n 0, 1) := by decide +kernel
theorem dX5_isFound_89 : decode cX5_isFound 89 = .ok (.aload_n 0, 1) := by decide +kernel
theorem dX5_isFound_90 : decode cX5_isFound 90 = .ok (.getfield 45, 3) := by decide +kernel
theorem dX5_isFound_93 : decode cX5_isFound 93 = .ok (.iload_n 2, 1) := by decide +kernel
theorem dX5_isFound_94 : decode cX5_isFound 94 = .ok (.laload, 1) := by decide +kernel
theorem dX5_isFound_95 : decode cX5_isFound 95 = .ok (.aload_n 0, 1) := by decide +kernel
theorem dX5_isFound_96 : decode cX5_isFound 96 = .ok (.getfield 48, 3) := by decide +kernel
theorem dX5_isFound_99 : decode cX5_isFound 99 = .ok (.iload_n 2, 1) := by decide +kernel
theorem dX5_isFound_100 : decode cX5_isFound 100 = .ok (.iconst 1, 1) := by decide +kernel
theorem dX5_isFound_101 : decode cX5_isFound 101 = .ok (.iadd, 1) := by decide +kernel
theorem dX5_isFound_102 : decode cX5_isFound 102 = .ok (.laload, 1) := by decide +kernel
theorem dX5_isFound_103 : decode cX5_isFound 103 = .ok (.lmul, 1) := by decide +kernel
theorem dX5_isFound_104 : decode cX5_isFound 104 = .ok (.aload_n 0, 1) := by decide +kernel
theorem dX5_isFound_105 : decode cX5_isFound 105 = .ok (.getfield 45, 3) := by decide +kernel
theorem dX5_isFound_108 : decode cX5_isFound 108 = .ok (.iload_n 2, 1) := by decide +kernel
theorem dX5_isFound_109 : decode cX5_isFound 109 = .ok (.iconst 1, 1) := by decide +kernel
theorem dX5_isFound_110 : decode cX5_isFound 110 = .ok (.iadd, 1) := by decide +kernel
theorem dX5_isFound_111 : decode cX5_isFound 111 = .ok (.laload, 1) := by decide +kernel
theorem dX5_isFound_112 : decode cX5_isFound 112 = .ok (.aload_n 0, 1) := by decide +kernel
theorem dX5_isFound_113 : decode cX5_isFound 113 = .ok (.getfield 48, 3) := by decide +kernel
theorem dX5_isFound_116 : decode cX5_isFound 116 = .ok (.iload_n 2, 1) := by decide +kernel
theorem dX5_isFound_117 : decode cX5_isFound 117 = .ok (.laload, 1) := by decide +kernel
theorem dX5_isFound_118 : decode cX5_isFound 118 = .ok (.lmul, 1) := by decide +kernel
theorem dX5_isFound_119 : decode cX5_isFound 119 = .ok (.ladd, 1) := by decide +kernel
theorem dX5_isFound_120 : decode cX5_isFound 120 = .ok (.ldc2_w 160, 3) := by decide +kernel
theorem dX5_isFound_123 : decode cX5_isFound 123 = .ok (.aload_n 0, 1) := by decide +kernel
theorem dX5_isFound_124 : decode cX5_isFound 124 = .ok (.getfield 48, 3) := by decide +kernel
theorem dX5_isFound_127 : decode cX5_isFound 127 = .ok (.iload_n 2, 1) := by decide +kernel
theorem dX5_isFound_128 : decode cX5_isFound 128 = .ok (.laload, 1) := by decide +kernel
theorem dX5_isFound_129 : decode cX5_isFound 129 = .ok (.lmul, 1) := by decide +kernel
theorem dX5_isFound_130 : decode cX5_isFound 130 = .ok (.aload_n 0, 1) := by decide +kernel
theorem dX5_isFound_131 : decode cX5_isFound 131 = .ok (.getfield 48, 3) := by decide +kernel
theorem dX5_isFound_134 : decode cX5_isFound 134 = .ok (.iload_n 2, 1) := by decide +kernel
theorem dX5_isFound_135 : decode cX5_isFound 135 = .ok (.iconst 1, 1) := by decide +kernel
theorem dX5_isFound_136 : decode cX5_isFound 136 = .ok (.iadd, 1) := by decide +kernel
theorem dX5_isFound_137 : decode cX5_isFound 137 = .ok (.laload, 1) := by decide +kernel
theorem dX5_isFound_138 : decode cX5_isFound 138 = .ok (.lmul, 1) := by decide +kernel
theorem dX5_isFound_139 : decode cX5_isFound 139 = .ok (.iload_n 1, 1) := by decide +kernel
theorem dX5_isFound_140 : decode cX5_isFound 140 = .ok (.invokevirtual 156, 3) := by decide +kernel
theorem dX5_isFound_143 : decode cX5_isFound 143 = .ok (.ifCond .eq 7, 3) := by decide +kernel
theorem dX5_isFound_146 : decode cX5_isFound 146 = .ok (.iconst 1, 1) := by decide +kernel
theorem dX5_isFound_147 : decode cX5_isFound 147 = .ok (.goto 4, 3) := by decide +kernel
theorem dX5_isFound_150 : decode cX5_isFound 150 = .ok (.iconst 0, 1) := by decide +kernel
theorem dX5_isFound_151 : decode cX5_isFound 151 = .ok (.istore 4, 2) := by decide +kernel
theorem dX5_isFound_153 : decode cX5_isFound 153 = .ok (.iload_n 3, 1) := by decide +kernel
theorem dX5_isFound_154 : decode cX5_isFound 154 = .ok (.ifCond .ne 8, 3) := by decide +kernel
theorem dX5_isFound_157 : decode cX5_isFound 157 = .ok (.iload 4, 2) := by decide +kernel
theorem dX5_isFound_159 : decode cX5_isFound 159 = .ok (.ifCond .eq 21, 3) := by decide +kernel
theorem dX5_isFound_162 : decode cX5_isFound 162 = .ok (.aload_n 0, 1) := by decide +kernel
theorem dX5_isFound_163 : decode cX5_isFound 163 = .ok (.aload_n 0, 1) := by decide +kernel
theorem dX5_isFound_164 : decode cX5_isFound 164 = .ok (.getfield 45, 3) := by decide +kernel
theorem dX5_isFound_167 : decode cX5_isFound 167 = .ok (.iload_n 2, 1) := by decide +kernel
theorem dX5_isFound_168 : decode cX5_isFound 168 = .ok (.laload, 1) := by decide +kernel
theorem dX5_isFound_169 : decode cX5_isFound 169 = .ok (.aload_n 0, 1) := by decide +kernel
theorem dX5_isFound_170 : decode cX5_isFound 170 = .ok (.getfield 48, 3) := by decide +kernel
theorem dX5_isFound_173 : decode cX5_isFound 173 = .ok (.iload_n 2, 1) := by decide +kernel
theorem dX5_isFound_174 : decode cX5_isFound 174 = .ok (.laload, 1) := by decide +kernel
theorem dX5_isFound_175 : decode cX5_isFound 175 = .ok (.invokevirtual 162, 3) := by decide +kernel
theorem dX5_isFound_178 : decode cX5_isFound 178 = .ok (.iconst 1, 1) := by decide +kernel
theorem dX5_isFound_179 : decode cX5_isFound 179 = .ok (.ireturn, 1) := by decide +kernel
theorem dX5_isFound_180 : decode cX5_isFound 180 = .ok (.iinc 2 1, 3) := by decide +kernel
theorem dX5_isFound_183 : decode cX5_isFound 183 = .ok (.goto (-165), 3) := by decide +kernel
theorem dX5_isFound_186 : decode cX5_isFound 186 = .ok (.iconst 0, 1) := by decide +kernel
theorem dX5_isFound_187 : decode cX5_isFound 187 = .ok (.ireturn, 1) := by decide +kernel
set_option maxRecDepth 20000 in
theorem ggX5_told_X5_isBox : GoodIn wsX5_told wsX5_isBox := goodIn_r _ [8, 9, 49, 50, 51, 52, 53, 54, 55, 56, 57, 58, 59, 60, 61, 62, 63, 64, 65, 66, 67, 68, 69, 70, 71, 72, 73] (by decide +kernel) (by decide +kernel)
set_option maxRecDepth 20000 in
theorem gX5_told_X5_isBox : GoodIn wsX5_told (wsV RX5 125 RX5 yX5_isBox wsX5_isBox) := goodIn_app (goodIn_of _ (by decide +kernel)) ggX5_told_X5_isBox
set_option maxRecDepth 20000 in
theorem ggX5_told_X5_load : GoodIn wsX5_told wsX5_load := goodIn_r _ [13, 14, 15, 16, 17, 18, 19, 49, 50, 51, 52, 53, 54, 55, 56, 57, 58, 59, 60, 61, 62, 63, 64, 65, 66, 67, 68, 69, 70, 71, 72, 73] (by decide +kernel) (by decide +kernel)
set_option maxRecDepth 20000 in
theorem gX5_told_X5_load : GoodIn wsX5_told (wsV RX5 166 RX5 yX5_load wsX5_load) := goodIn_app (goodIn_of _ (by decide +kernel)) ggX5_told_X5_load
set_option maxRecDepth 20000 in
theorem ggX5_told_X5_isFound : GoodIn wsX5_told wsX5_isFound := goodIn_r _ [23, 24, 2, 3, 25, 26, 27, 28, 29, 30, 31, 7, 32, 18, 19, 14, 16, 33, 34, 35, 36, 37, 38, 39, 40, 41, 42, 43, 44, 45, 46, 47, 48, 49, 50, 51, 52, 53, 54, 55, 56, 57, 58, 59, 60, 61, 62, 63, 64, 65, 66, 67, 68, 69, 70, 71, 72, 73] (by decide +kernel) (by decide +kernel)
set_option maxRecDepth 20000 in
theorem gX5_told_X5_isFound : GoodIn wsX5_told (wsV RX5 170 RX5 yX5_isFound wsX5_isFound) := goodIn_app (goodIn_of _ (by decide +kernel)) ggX5_told_X5_isFound
theorem dX5_told_0 : decode cX5_told 0 = .ok (.aload_n 0, 1) := by decide +kernel
theorem dX5_told_1 : decode cX5_told 1 = .ok (.aload_n 0, 1) := by decide +kernel
theorem dX5_told_2 : decode cX5_told 2 = .ok (.iload_n 1, 1) := by decide +kernel
theorem dX5_told_3 : decode cX5_told 3 = .ok (.invokevirtual 125, 3) := by decide +kernel
theorem dX5_told_6 : decode cX5_told 6 = .ok (.ifCond .eq 24, 3) := by decide +kernel
theorem dX5_told_9 : decode cX5_told 9 = .ok (.aload_n 0, 1) := by decide +kernel
theorem dX5_told_10 : decode cX5_told 10 = .ok (.iload_n 2, 1) := by decide +kernel
theorem dX5_told_11 : decode cX5_told 11 = .ok (.invokevirtual 125, 3) := by decide +kernel
theorem dX5_told_14 : decode cX5_told 14 = .ok (.ifCond .eq 16, 3) := by decide +kernel
theorem dX5_told_17 : decode cX5_told 17 = .ok (.iload_n 3, 1) := by decide +kernel
theorem dX5_told_18 : decode cX5_told 18 = .ok (.ifCond .eq 8, 3) := by decide +kernel
theorem dX5_told_21 : decode cX5_told 21 = .ok (.iload_n 3, 1) := by decide +kernel
theorem dX5_told_22 : decode cX5_told 22 = .ok (.iconst 1, 1) := by decide +kernel
theorem dX5_told_23 : decode cX5_told 23 = .ok (.if_icmp .ne 7, 3) := by decide +kernel
theorem dX5_told_26 : decode cX5_told 26 = .ok (.iconst 0, 1) := by decide +kernel
theorem dX5_told_27 : decode cX5_told 27 = .ok (.goto 4, 3) := by decide +kernel
theorem dX5_told_30 : decode cX5_told 30 = .ok (.iconst 1, 1) := by decide +kernel
theorem dX5_told_31 : decode cX5_told 31 = .ok (.putfield 54, 3) := by decide +kernel
theorem dX5_told_34 : decode cX5_told 34 = .ok (.aload_n 0, 1) := by decide +kernel
theorem dX5_told_35 : decode cX5_told 35 = .ok (.getfield 54, 3) := by decide +kernel
theorem dX5_told_38 : decode cX5_told 38 = .ok (.ifCond .le 5, 3) := by decide +kernel
theorem dX5_told_41 : decode cX5_told 41 = .ok (.lconst 0, 1) := by decide +kernel
theorem dX5_told_42 : decode cX5_told 42 = .ok (.lreturn, 1) := by decide +kernel
theorem dX5_told_43 : decode cX5_told 43 = .ok (.aload_n 0, 1) := by decide +kernel
theorem dX5_told_44 : decode cX5_told 44 = .ok (.iload_n 1, 1) := by decide +kernel
theorem dX5_told_45 : decode cX5_told 45 = .ok (.iload_n 2, 1) := by decide +kernel
theorem dX5_told_46 : decode cX5_told 46 = .ok (.invokevirtual 166, 3) := by decide +kernel
theorem dX5_told_49 : decode cX5_told 49 = .ok (.aload_n 0, 1) := by decide +kernel
theorem dX5_told_50 : decode cX5_told 50 = .ok (.iload 4, 2) := by decide +kernel
theorem dX5_told_52 : decode cX5_told 52 = .ok (.invokevirtual 170, 3) := by decide +kernel
theorem dX5_told_55 : decode cX5_told 55 = .ok (.pop, 1) := by decide +kernel
theorem dX5_told_56 : decode cX5_told 56 = .ok (.iload_n 3, 1) := by decide +kernel
theorem dX5_told_57 : decode cX5_told 57 = .ok (.ifCond .ne 10, 3) := by decide +kernel
theorem dX5_told_60 : decode cX5_told 60 = .ok (.aload_n 0, 1) := by decide +kernel
theorem dX5_told_61 : decode cX5_told 61 = .ok (.getfield 145, 3) := by decide +kernel
theorem dX5_told_64 : decode cX5_told 64 = .ok (.goto 7, 3) := by decide +kernel
theorem dX5_told_67 : decode cX5_told 67 = .ok (.aload_n 0, 1) := by decide +kernel
theorem dX5_told_68 : decode cX5_told 68 = .ok (.getfield 148, 3) := by decide +kernel
theorem dX5_told_71 : decode cX5_told 71 = .ok (.lreturn, 1) := by decide +kernel
set_option maxRecDepth 20000 in
theorem ggX5_touch_X5_told : GoodIn wsX5_touch wsX5_told := goodIn_r _ [5, 6, 7, 8, 9, 10, 11, 4, 12, 13, 14, 15, 16, 17, 18, 19, 20, 21, 22, 23, 24, 25, 26, 27, 28, 29, 30, 31, 32, 33, 34, 35, 36, 37, 38, 39, 40, 41, 42, 43, 44, 45, 46, 47, 48, 49, 50, 51, 52, 53, 54, 55, 56, 57, 58, 59, 60, 61, 62, 63, 64, 65, 66, 67, 68, 69, 70, 71, 72, 73, 74, 75, 76, 77] (by decide +kernel) (by decide +kernel)
set_option maxRecDepth 20000 in
theorem gX5_touch_X5_told : GoodIn wsX5_touch (wsV RX5 174 RX5 yX5_told wsX5_told) := goodIn_app (goodIn_of _ (by decide +kernel)) ggX5_touch_X5_told
theorem dX5_touch_0 : decode cX5_touch 0 = .ok (.aload_n 0, 1) := by decide +kernel
theorem dX5_touch_1 : decode cX5_touch 1 = .ok (.iload_n 1, 1) := by decide +kernel
theorem dX5_touch_2 : decode cX5_touch 2 = .ok (.iload_n 2, 1) := by decide +kernel
theorem dX5_touch_3 : decode cX5_touch 3 = .ok (.iload_n 3, 1) := by decide +kernel
theorem dX5_touch_4 : decode cX5_touch 4 = .ok (.iconst 0, 1) := by decide +kernel
theorem dX5_touch_5 : decode cX5_touch 5 = .ok (.invokevirtual 174, 3) := by decide +kernel
theorem dX5_touch_8 : decode cX5_touch 8 = .ok (.lreturn, 1) := by decide +kernel
set_option maxRecDepth 20000 in
theorem ggX5_overlap_X5_told : GoodIn wsX5_overlap wsX5_told := goodIn_r _ [5, 6, 7, 8, 9, 10, 11, 4, 12, 13, 14, 15, 16, 17, 18, 19, 20, 21, 22, 23, 24, 25, 26, 27, 28, 29, 30, 31, 32, 33, 34, 35, 36, 37, 38, 39, 40, 41, 42, 43, 44, 45, 46, 47, 48, 49, 50, 51, 52, 53, 54, 55, 56, 57, 58, 59, 60, 61, 62, 63, 64, 65, 66, 67, 68, 69, 70, 71, 72, 73, 74, 75, 76, 77] (by decide +kernel) (by decide +kernel)
set_option maxRecDepth 20000 in
theorem gX5_overlap_X5_told : GoodIn wsX5_overlap (wsV RX5 174 RX5 yX5_told wsX5_told) := goodIn_app (goodIn_of _ (by decide +kernel)) ggX5_overlap_X5_told
theorem dX5_overlap_0 : decode cX5_overlap 0 = .ok (.aload_n 0, 1) := by decide +kernel
theorem dX5_overlap_1 : decode cX5_overlap 1 = .ok (.iload_n 1, 1) := by decide +kernel
theorem dX5_overlap_2 : decode cX5_overlap 2 = .ok (.iload_n 2, 1) := by decide +kernel
theorem dX5_overlap_3 : decode cX5_overlap 3 = .ok (.iload_n 3, 1) := by decide +kernel
theorem dX5_overlap_4 : decode cX5_overlap 4 = .ok (.iconst 1, 1) := by decide +kernel
theorem dX5_overlap_5 : decode cX5_overlap 5 = .ok (.invokevirtual 174, 3) := by decide +kernel
theorem dX5_overlap_8 : decode cX5_overlap 8 = .ok (.lreturn, 1) := by decide +kernel
theorem dX5_loadTile_0 : decode cX5_loadTile 0 = .ok (.aload_n 0, 1) := by decide +kernel
theorem dX5_loadTile_1 : decode cX5_loadTile 1 = .ok (.getfield 39, 3) := by decide +kernel
theorem dX5_loadTile_4 : decode cX5_loadTile 4 = .ok (.iconst 0, 1) := by decide +kernel
theorem dX5_loadTile_5 : decode cX5_loadTile 5 = .ok (.lload_n 3, 1) := by decide +kernel
theorem dX5_loadTile_6 : decode cX5_loadTile 6 = .ok (.lastore, 1) := by decide +kernel
theorem dX5_loadTile_7 : decode cX5_loadTile 7 = .ok (.aload_n 0, 1) := by decide +kernel
theorem dX5_loadTile_8 : decode cX5_loadTile 8 = .ok (.getfield 39, 3) := by decide +kernel
theorem dX5_loadTile_11 : decode cX5_loadTile 11 = .ok (.iconst 1, 1) := by decide +kernel
theorem dX5_loadTile_12 : decode cX5_loadTile 12 = .ok (.lload 5, 2) := by decide +kernel
theorem dX5_loadTile_14 : decode cX5_loadTile 14 = .ok (.lastore, 1) := by decide +kernel
theorem dX5_loadTile_15 : decode cX5_loadTile 15 = .ok (.aload_n 0, 1) := by decide +kernel
theorem dX5_loadTile_16 : decode cX5_loadTile 16 = .ok (.getfield 39, 3) := by decide +kernel
theorem dX5_loadTile_19 : decode cX5_loadTile 19 = .ok (.iconst 2, 1) := by decide +kernel
theorem dX5_loadTile_20 : decode cX5_loadTile 20 = .ok (.lload_n 3, 1) := by decide +kernel
theorem dX5_loadTile_21 : decode cX5_loadTile 21 = .ok (.lload 7, 2) := by decide +kernel
theorem dX5_loadTile_23 : decode cX5_loadTile 23 = .ok (.ladd, 1) := by decide +kernel
theorem dX5_loadTile_24 : decode cX5_loadTile 24 = .ok (.lastore, 1) := by decide +kernel
theorem dX5_loadTile_25 : decode cX5_loadTile 25 = .ok (.aload_n 0, 1) := by decide +kernel
theorem dX5_loadTile_26 : decode cX5_loadTile 26 = .ok (.getfield 39, 3) := by decide +kernel
theorem dX5_loadTile_29 : decode cX5_loadTile 29 = .ok (.iconst 3, 1) := by decide +kernel
theorem dX5_loadTile_30 : decode cX5_loadTile 30 = .ok (.lload 5, 2) := by decide +kernel
theorem dX5_loadTile_32 : decode cX5_loadTile 32 = .ok (.lload 9, 2) := by decide +kernel
theorem dX5_loadTile_34 : decode cX5_loadTile 34 = .ok (.ladd, 1) := by decide +kernel
theorem dX5_loadTile_35 : decode cX5_loadTile 35 = .ok (.lastore, 1) := by decide +kernel
theorem dX5_loadTile_36 : decode cX5_loadTile 36 = .ok (.aload_n 0, 1) := by decide +kernel
theorem dX5_loadTile_37 : decode cX5_loadTile 37 = .ok (.getfield 42, 3) := by decide +kernel
theorem dX5_loadTile_40 : decode cX5_loadTile 40 = .ok (.iconst 0, 1) := by decide +kernel
theorem dX5_loadTile_41 : decode cX5_loadTile 41 = .ok (.bipush 16, 2) := by decide +kernel
theorem dX5_loadTile_43 : decode cX5_loadTile 43 = .ok (.iload_n 1, 1) := by decide +kernel
theorem dX5_loadTile_44 : decode cX5_loadTile 44 = .ok (.imul, 1) := by decide +kernel
theorem dX5_loadTile_45 : decode cX5_loadTile 45 = .ok (.i2l, 1) := by decide +kernel
theorem dX5_loadTile_46 : decode cX5_loadTile 46 = .ok (.lastore, 1) := by decide +kernel
theorem dX5_loadTile_47 : decode cX5_loadTile 47 = .ok (.aload_n 0, 1) := by decide +kernel
theorem dX5_loadTile_48 : decode cX5_loadTile 48 = .ok (.getfield 42, 3) := by decide +kernel
theorem dX5_loadTile_51 : decode cX5_loadTile 51 = .ok (.iconst 1, 1) := by decide +kernel
theorem dX5_loadTile_52 : decode cX5_loadTile 52 = .ok (.bipush 16, 2) := by decide +kernel
theorem dX5_loadTile_54 : decode cX5_loadTile 54 = .ok (.iload_n 2, 1) := by decide +kernel
theorem dX5_loadTile_55 : decode cX5_loadTile 55 = .ok (.imul, 1) := by decide +kernel
theorem dX5_loadTile_56 : decode cX5_loadTile 56 = .ok (.i2l, 1) := by decide +kernel
theorem dX5_loadTile_57 : decode cX5_loadTile 57 = .ok (.lastore, 1) := by decide +kernel
theorem dX5_loadTile_58 : decode cX5_loadTile 58 = .ok (.aload_n 0, 1) := by decide +kernel
theorem dX5_loadTile_59 : decode cX5_loadTile 59 = .ok (.getfield 42, 3) := by decide +kernel
theorem dX5_loadTile_62 : decode cX5_loadTile 62 = .ok (.iconst 2, 1) := by decide +kernel
theorem dX5_loadTile_63 : decode cX5_loadTile 63 = .ok (.bipush 16, 2) := by decide +kernel
theorem dX5_loadTile_65 : decode cX5_loadTile 65 = .ok (.iload_n 1, 1) := by decide +kernel
theorem dX5_loadTile_66 : decode cX5_loadTile 66 = .ok (.imul, 1) := by decide +kernel
theorem dX5_loadTile_67 : decode cX5_loadTile 67 = .ok (.bipush 16, 2) := by decide +kernel
theorem dX5_loadTile_69 : decode cX5_loadTile 69 = .ok (.iadd, 1) := by decide +kernel
theorem dX5_loadTile_70 : decode cX5_loadTile 70 = .ok (.i2l, 1) := by decide +kernel
theorem dX5_loadTile_71 : decode cX5_loadTile 71 = .ok (.lastore, 1) := by decide +kernel
theorem dX5_loadTile_72 : decode cX5_loadTile 72 = .ok (.aload_n 0, 1) := by decide +kernel
theorem dX5_loadTile_73 : decode cX5_loadTile 73 = .ok (.getfield 42, 3) := by decide +kernel
theorem dX5_loadTile_76 : decode cX5_loadTile 76 = .ok (.iconst 3, 1) := by decide +kernel
theorem dX5_loadTile_77 : decode cX5_loadTile 77 = .ok (.bipush 16, 2) := by decide +kernel
theorem dX5_loadTile_79 : decode cX5_loadTile 79 = .ok (.iload_n 2, 1) := by decide +kernel
theorem dX5_loadTile_80 : decode cX5_loadTile 80 = .ok (.imul, 1) := by decide +kernel
theorem dX5_loadTile_81 : decode cX5_loadTile 81 = .ok (.bipush 16, 2) := by decide +kernel
theorem dX5_loadTile_83 : decode cX5_loadTile 83 = .ok (.iadd, 1) := by decide +kernel
theorem dX5_loadTile_84 : decode cX5_loadTile 84 = .ok (.i2l, 1) := by decide +kernel
theorem dX5_loadTile_85 : decode cX5_loadTile 85 = .ok (.lastore, 1) := by decide +kernel
theorem dX5_loadTile_86 : decode cX5_loadTile 86 = .ok (.aload_n 0, 1) := by decide +kernel
theorem dX5_loadTile_87 : decode cX5_loadTile 87 = .ok (.lconst 0, 1) := by decide +kernel
theorem dX5_loadTile_88 : decode cX5_loadTile 88 = .ok (.putfield 128, 3) := by decide +kernel
theorem dX5_loadTile_91 : decode cX5_loadTile 91 = .ok (.aload_n 0, 1) := by decide +kernel
theorem dX5_loadTile_92 : decode cX5_loadTile 92 = .ok (.lconst 0, 1) := by decide +kernel
theorem dX5_loadTile_93 : decode cX5_loadTile 93 = .ok (.putfield 132, 3) := by decide +kernel
theorem dX5_loadTile_96 : decode cX5_loadTile 96 = .ok (.return_, 1) := by decide +kernel
theorem dX5_isTile_0 : decode cX5_isTile 0 = .ok (.iload_n 0, 1) := by decide +kernel
theorem dX5_isTile_1 : decode cX5_isTile 1 = .ok (.ifCond .lt 23, 3) := by decide +kernel
theorem dX5_isTile_4 : decode cX5_isTile 4 = .ok (.iload_n 0, 1) := by decide +kernel
theorem dX5_isTile_5 : decode cX5_isTile 5 = .ok (.bipush 24, 2) := by decide +kernel
theorem dX5_isTile_7 : decode cX5_isTile 7 = .ok (.if_icmp .ge 17, 3) := by decide +kernel
theorem dX5_isTile_10 : decode cX5_isTile 10 = .ok (.iload_n 1, 1) := by decide +kernel
theorem dX5_isTile_11 : decode cX5_isTile 11 = .ok (.ifCond .lt 13, 3) := by decide +kernel
theorem dX5_isTile_14 : decode cX5_isTile 14 = .ok (.iload_n 1, 1) := by decide +kernel
theorem dX5_isTile_15 : decode cX5_isTile 15 = .ok (.bipush 24, 2) := by decide +kernel
theorem dX5_isTile_17 : decode cX5_isTile 17 = .ok (.if_icmp .ge 7, 3) := by decide +kernel
theorem dX5_isTile_20 : decode cX5_isTile 20 = .ok (.iconst 1, 1) := by decide +kernel
theorem dX5_isTile_21 : decode cX5_isTile 21 = .ok (.goto 4, 3) := by decide +kernel
theorem dX5_isTile_24 : decode cX5_isTile 24 = .ok (.iconst 0, 1) := by decide +kernel
theorem dX5_isTile_25 : decode cX5_isTile 25 = .ok (.ireturn, 1) := by decide +kernel
set_option maxRecDepth 20000 in
theorem ggX5_tile_X5_isTile : GoodIn wsX5_tile wsX5_isTile := goodIn_r _ [7] (by decide +kernel) (by decide +kernel)
set_option maxRecDepth 20000 in
theorem gX5_tile_X5_isTile : GoodIn wsX5_tile (va_wsS RX5 178 yX5_isTile wsX5_isTile) := goodIn_app (goodIn_of _ (by decide +kernel)) ggX5_tile_X5_isTile
set_option maxRecDepth 20000 in
theorem ggX5_tile_X5_loadTile : GoodIn wsX5_tile wsX5_loadTile := goodIn_r _ [11, 12, 13, 14, 15, 24, 25, 26, 27, 28, 29, 30, 31, 32, 33, 34, 35, 36, 37, 38, 39, 40, 41, 42, 43, 44, 45, 46, 47, 48] (by decide +kernel) (by decide +kernel)
set_option maxRecDepth 20000 in
theorem gX5_tile_X5_loadTile : GoodIn wsX5_tile (wsV RX5 181 RX5 yX5_loadTile wsX5_loadTile) := goodIn_app (goodIn_of _ (by decide +kernel)) ggX5_tile_X5_loadTile
set_option maxRecDepth 20000 in
theorem ggX5_tile_X5_isAt : GoodIn wsX5_tile wsX5_isAt := goodIn_r _ [19, 20, 21, 22, 6, 23, 14, 15, 12, 13, 24, 25, 26, 27, 28, 29, 30, 31, 32, 33, 34, 35, 36, 37, 38, 39, 40, 41, 42, 43, 44, 45, 46, 47, 48] (by decide +kernel) (by decide +kernel)
set_option maxRecDepth 20000 in
theorem gX5_tile_X5_isAt : GoodIn wsX5_tile (wsV RX5 156 RX5 yX5_isAt wsX5_isAt) := goodIn_app (goodIn_of _ (by decide +kernel)) ggX5_tile_X5_isAt
theorem dX5_tile_0 : decode cX5_tile 0 = .ok (.aload_n 0, 1) := by decide +kernel
theorem dX5_tile_1 : decode cX5_tile 1 = .ok (.iload_n 1, 1) := by decide +kernel
theorem dX5_tile_2 : decode cX5_tile 2 = .ok (.iload_n 2, 1) := by decide +kernel
theorem dX5_tile_3 : decode cX5_tile 3 = .ok (.invokestatic 178, 3) := by decide +kernel
theorem dX5_tile_6 : decode cX5_tile 6 = .ok (.ifCond .eq 7, 3) := by decide +kernel
theorem dX5_tile_9 : decode cX5_tile 9 = .ok (.iconst 0, 1) := by decide +kernel
theorem dX5_tile_10 : decode cX5_tile 10 = .ok (.goto 4, 3) := by decide +kernel
theorem dX5_tile_13 : decode cX5_tile 13 = .ok (.iconst 1, 1) := by decide +kernel
theorem dX5_tile_14 : decode cX5_tile 14 = .ok (.putfield 54, 3) := by decide +kernel
theorem dX5_tile_17 : decode cX5_tile 17 = .ok (.aload_n 0, 1) := by decide +kernel
theorem dX5_tile_18 : decode cX5_tile 18 = .ok (.getfield 54, 3) := by decide +kernel
theorem dX5_tile_21 : decode cX5_tile 21 = .ok (.ifCond .ne 70, 3) := by decide +kernel
theorem dX5_tile_24 : decode cX5_tile 24 = .ok (.iload_n 3, 1) := by decide +kernel
theorem dX5_tile_25 : decode cX5_tile 25 = .ok (.ifCond .eq 66, 3) := by decide +kernel
theorem dX5_tile_28 : decode cX5_tile 28 = .ok (.aload_n 0, 1) := by decide +kernel
theorem dX5_tile_29 : decode cX5_tile 29 = .ok (.getfield 26, 3) := by decide +kernel
theorem dX5_tile_32 : decode cX5_tile 32 = .ok (.bipush 24, 2) := by decide +kernel
theorem dX5_tile_34 : decode cX5_tile 34 = .ok (.iload_n 2, 1) := by decide +kernel
theorem dX5_tile_35 : decode cX5_tile 35 = .ok (.imul, 1) := by decide +kernel
theorem dX5_tile_36 : decode cX5_tile 36 = .ok (.iload_n 1, 1) := by decide +kernel
theorem dX5_tile_37 : decode cX5_tile 37 = .ok (.iadd, 1) := by decide +kernel
theorem dX5_tile_38 : decode cX5_tile 38 = .ok (.baload, 1) := by decide +kernel
theorem dX5_tile_39 : decode cX5_tile 39 = .ok (.ifCond .ne 52, 3) := by decide +kernel
theorem dX5_tile_42 : decode cX5_tile 42 = .ok (.aload_n 0, 1) := by decide +kernel
theorem dX5_tile_43 : decode cX5_tile 43 = .ok (.iload_n 1, 1) := by decide +kernel
theorem dX5_tile_44 : decode cX5_tile 44 = .ok (.iload_n 2, 1) := by decide +kernel
theorem dX5_tile_45 : decode cX5_tile 45 = .ok (.aload_n 0, 1) := by decide +kernel
theorem dX5_tile_46 : decode cX5_tile 46 = .ok (.getfield 30, 3) := by decide +kernel
theorem dX5_tile_49 : decode cX5_tile 49 = .ok (.iconst 0, 1) := by decide +kernel
theorem dX5_tile_50 : decode cX5_tile 50 = .ok (.laload, 1) := by decide +kernel
theorem dX5_tile_51 : decode cX5_tile 51 = .ok (.aload_n 0, 1) := by decide +kernel
theorem dX5_tile_52 : decode cX5_tile 52 = .ok (.getfield 30, 3) := by decide +kernel
theorem dX5_tile_55 : decode cX5_tile 55 = .ok (.iconst 1, 1) := by decide +kernel
theorem dX5_tile_56 : decode cX5_tile 56 = .ok (.laload, 1) := by decide +kernel
theorem dX5_tile_57 : decode cX5_tile 57 = .ok (.aload_n 0, 1) := by decide +kernel
theorem dX5_tile_58 : decode cX5_tile 58 = .ok (.getfield 30, 3) := by decide +kernel
theorem dX5_tile_61 : decode cX5_tile 61 = .ok (.iconst 2, 1) := by decide +kernel
theorem dX5_tile_62 : decode cX5_tile 62 = .ok (.laload, 1) := by decide +kernel
theorem dX5_tile_63 : decode cX5_tile 63 = .ok (.aload_n 0, 1) := by decide +kernel
theorem dX5_tile_64 : decode cX5_tile 64 = .ok (.getfield 30, 3) := by decide +kernel
theorem dX5_tile_67 : decode cX5_tile 67 = .ok (.iconst 3, 1) := by decide +kernel
theorem dX5_tile_68 : decode cX5_tile 68 = .ok (.laload, 1) := by decide +kernel
theorem dX5_tile_69 : decode cX5_tile 69 = .ok (.invokevirtual 181, 3) := by decide +kernel
theorem dX5_tile_72 : decode cX5_tile 72 = .ok (.aload_n 0, 1) := by decide +kernel
theorem dX5_tile_73 : decode cX5_tile 73 = .ok (.aload_n 0, 1) := by decide +kernel
theorem dX5_tile_74 : decode cX5_tile 74 = .ok (.lconst 0, 1) := by decide +kernel
theorem dX5_tile_75 : decode cX5_tile 75 = .ok (.lconst 1, 1) := by decide +kernel
theorem dX5_tile_76 : decode cX5_tile 76 = .ok (.iconst 1, 1) := by decide +kernel
theorem dX5_tile_77 : decode cX5_tile 77 = .ok (.invokevirtual 156, 3) := by decide +kernel
theorem dX5_tile_80 : decode cX5_tile 80 = .ok (.ifCond .eq 7, 3) := by decide +kernel
theorem dX5_tile_83 : decode cX5_tile 83 = .ok (.iconst 2, 1) := by decide +kernel
theorem dX5_tile_84 : decode cX5_tile 84 = .ok (.goto 4, 3) := by decide +kernel
theorem dX5_tile_87 : decode cX5_tile 87 = .ok (.iconst 0, 1) := by decide +kernel
theorem dX5_tile_88 : decode cX5_tile 88 = .ok (.putfield 54, 3) := by decide +kernel
theorem dX5_tile_91 : decode cX5_tile 91 = .ok (.aload_n 0, 1) := by decide +kernel
theorem dX5_tile_92 : decode cX5_tile 92 = .ok (.getfield 54, 3) := by decide +kernel
theorem dX5_tile_95 : decode cX5_tile 95 = .ok (.ifCond .gt 18, 3) := by decide +kernel
theorem dX5_tile_98 : decode cX5_tile 98 = .ok (.aload_n 0, 1) := by decide +kernel
theorem dX5_tile_99 : decode cX5_tile 99 = .ok (.getfield 26, 3) := by decide +kernel
theorem dX5_tile_102 : decode cX5_tile 102 = .ok (.bipush 24, 2) := by decide +kernel
theorem dX5_tile_104 : decode cX5_tile 104 = .ok (.iload_n 2, 1) := by decide +kernel
theorem dX5_tile_105 : decode cX5_tile 105 = .ok (.imul, 1) := by decide +kernel
theorem dX5_tile_106 : decode cX5_tile 106 = .ok (.iload_n 1, 1) := by decide +kernel
theorem dX5_tile_107 : decode cX5_tile 107 = .ok (.iadd, 1) := by decide +kernel
theorem dX5_tile_108 : decode cX5_tile 108 = .ok (.baload, 1) := by decide +kernel
theorem dX5_tile_109 : decode cX5_tile 109 = .ok (.iload_n 3, 1) := by decide +kernel
theorem dX5_tile_110 : decode cX5_tile 110 = .ok (.if_icmp .ne 5, 3) := by decide +kernel
theorem dX5_tile_113 : decode cX5_tile 113 = .ok (.iconst 0, 1) := by decide +kernel
theorem dX5_tile_114 : decode cX5_tile 114 = .ok (.ireturn, 1) := by decide +kernel
theorem dX5_tile_115 : decode cX5_tile 115 = .ok (.aload_n 0, 1) := by decide +kernel
theorem dX5_tile_116 : decode cX5_tile 116 = .ok (.getfield 26, 3) := by decide +kernel
theorem dX5_tile_119 : decode cX5_tile 119 = .ok (.bipush 24, 2) := by decide +kernel
theorem dX5_tile_121 : decode cX5_tile 121 = .ok (.iload_n 2, 1) := by decide +kernel
theorem dX5_tile_122 : decode cX5_tile 122 = .ok (.imul, 1) := by decide +kernel
theorem dX5_tile_123 : decode cX5_tile 123 = .ok (.iload_n 1, 1) := by decide +kernel
theorem dX5_tile_124 : decode cX5_tile 124 = .ok (.iadd, 1) := by decide +kernel
theorem dX5_tile_125 : decode cX5_tile 125 = .ok (.iload_n 3, 1) := by decide +kernel
theorem dX5_tile_126 : decode cX5_tile 126 = .ok (.bastore, 1) := by decide +kernel
theorem dX5_tile_127 : decode cX5_tile 127 = .ok (.iconst 1, 1) := by decide +kernel
theorem dX5_tile_128 : decode cX5_tile 128 = .ok (.ireturn, 1) := by decide +kernel
set_option maxRecDepth 20000 in
theorem ggX5_player_X5_isIn : GoodIn wsX5_player wsX5_isIn := goodIn_r _ [8, 9, 10] (by decide +kernel) (by decide +kernel)
set_option maxRecDepth 20000 in
theorem gX5_player_X5_isIn : GoodIn wsX5_player (va_wsS RX5 95 yX5_isIn wsX5_isIn) := goodIn_app (goodIn_of _ (by decide +kernel)) ggX5_player_X5_isIn
set_option maxRecDepth 20000 in
theorem ggX5_player_X5_loadTile : GoodIn wsX5_player wsX5_loadTile := goodIn_r _ [14, 15, 16, 17, 18, 27, 28, 29, 30, 31, 32, 33, 34, 35, 36, 37, 38, 39, 40, 41, 42, 43, 44, 45, 46, 47, 48, 49, 50, 51] (by decide +kernel) (by decide +kernel)
set_option maxRecDepth 20000 in
theorem gX5_player_X5_loadTile : GoodIn wsX5_player (wsV RX5 181 RX5 yX5_loadTile wsX5_loadTile) := goodIn_app (goodIn_of _ (by decide +kernel)) ggX5_player_X5_loadTile
set_option maxRecDepth 20000 in
theorem ggX5_player_X5_isAt : GoodIn wsX5_player wsX5_isAt := goodIn_r _ [22, 23, 24, 25, 7, 26, 17, 18, 15, 16, 27, 28, 29, 30, 31, 32, 33, 34, 35, 36, 37, 38, 39, 40, 41, 42, 43, 44, 45, 46, 47, 48, 49, 50, 51] (by decide +kernel) (by decide +kernel)
set_option maxRecDepth 20000 in
theorem gX5_player_X5_isAt : GoodIn wsX5_player (wsV RX5 156 RX5 yX5_isAt wsX5_isAt) := goodIn_app (goodIn_of _ (by decide +kernel)) ggX5_player_X5_isAt
theorem dX5_player_0 : decode cX5_player 0 = .ok (.aload_n 0, 1) := by decide +kernel
theorem dX5_player_1 : decode cX5_player 1 = .ok (.lload_n 1, 1) := by decide +kernel
theorem dX5_player_2 : decode cX5_player 2 = .ok (.invokestatic 95, 3) := by decide +kernel
theorem dX5_player_5 : decode cX5_player 5 = .ok (.ifCond .eq 46, 3) := by decide +kernel
theorem dX5_player_8 : decode cX5_player 8 = .ok (.lload_n 3, 1) := by decide +kernel
theorem dX5_player_9 : decode cX5_player 9 = .ok (.invokestatic 95, 3) := by decide +kernel
theorem dX5_player_12 : decode cX5_player 12 = .ok (.ifCond .eq 39, 3) := by decide +kernel
theorem dX5_player_15 : decode cX5_player 15 = .ok (.lload 5, 2) := by decide +kernel
theorem dX5_player_17 : decode cX5_player 17 = .ok (.lconst 1, 1) := by decide +kernel
theorem dX5_player_18 : decode cX5_player 18 = .ok (.lcmp, 1) := by decide +kernel
theorem dX5_player_19 : decode cX5_player 19 = .ok (.ifCond .lt 32, 3) := by decide +kernel
theorem dX5_player_22 : decode cX5_player 22 = .ok (.lload 5, 2) := by decide +kernel
theorem dX5_player_24 : decode cX5_player 24 = .ok (.ldc2_w 185, 3) := by decide +kernel
theorem dX5_player_27 : decode cX5_player 27 = .ok (.lcmp, 1) := by decide +kernel
theorem dX5_player_28 : decode cX5_player 28 = .ok (.ifCond .gt 23, 3) := by decide +kernel
theorem dX5_player_31 : decode cX5_player 31 = .ok (.lload 7, 2) := by decide +kernel
theorem dX5_player_33 : decode cX5_player 33 = .ok (.lconst 1, 1) := by decide +kernel
theorem dX5_player_34 : decode cX5_player 34 = .ok (.lcmp, 1) := by decide +kernel
theorem dX5_player_35 : decode cX5_player 35 = .ok (.ifCond .lt 16, 3) := by decide +kernel
theorem dX5_player_38 : decode cX5_player 38 = .ok (.lload 7, 2) := by decide +kernel
theorem dX5_player_40 : decode cX5_player 40 = .ok (.ldc2_w 185, 3) := by decide +kernel
theorem dX5_player_43 : decode cX5_player 43 = .ok (.lcmp, 1) := by decide +kernel
theorem dX5_player_44 : decode cX5_player 44 = .ok (.ifCond .gt 7, 3) := by decide +kernel
theorem dX5_player_47 : decode cX5_player 47 = .ok (.iconst 0, 1) := by decide +kernel
theorem dX5_player_48 : decode cX5_player 48 = .ok (.goto 4, 3) := by decide +kernel
theorem dX5_player_51 : decode cX5_player 51 = .ok (.iconst 1, 1) := by decide +kernel
theorem dX5_player_52 : decode cX5_player 52 = .ok (.putfield 54, 3) := by decide +kernel
theorem dX5_player_55 : decode cX5_player 55 = .ok (.iconst 0, 1) := by decide +kernel
theorem dX5_player_56 : decode cX5_player 56 = .ok (.istore 9, 2) := by decide +kernel
theorem dX5_player_58 : decode cX5_player 58 = .ok (.iload 9, 2) := by decide +kernel
theorem dX5_player_60 : decode cX5_player 60 = .ok (.sipush 576, 3) := by decide +kernel
theorem dX5_player_63 : decode cX5_player 63 = .ok (.if_icmp .ge 58, 3) := by decide +kernel
theorem dX5_player_66 : decode cX5_player 66 = .ok (.aload_n 0, 1) := by decide +kernel
theorem dX5_player_67 : decode cX5_player 67 = .ok (.getfield 54, 3) := by decide +kernel
theorem dX5_player_70 : decode cX5_player 70 = .ok (.ifCond .ne 51, 3) := by decide +kernel
theorem dX5_player_73 : decode cX5_player 73 = .ok (.aload_n 0, 1) := by decide +kernel
theorem dX5_player_74 : decode cX5_player 74 = .ok (.iload 9, 2) := by decide +kernel
theorem dX5_player_76 : decode cX5_player 76 = .ok (.bipush 24, 2) := by decide +kernel
theorem dX5_player_78 : decode cX5_player 78 = .ok (.irem, 1) := by decide +kernel
theorem dX5_player_79 : decode cX5_player 79 = .ok (.iload 9, 2) := by decide +kernel
theorem dX5_player_81 : decode cX5_player 81 = .ok (.bipush 24, 2) := by decide +kernel
theorem dX5_player_83 : decode cX5_player 83 = .ok (.idiv, 1) := by decide +kernel
theorem dX5_player_84 : decode cX5_player 84 = .ok (.lload_n 1, 1) := by decide +kernel
theorem dX5_player_85 : decode cX5_player 85 = .ok (.lload_n 3, 1) := by decide +kernel
theorem dX5_player_86 : decode cX5_player 86 = .ok (.lload 5, 2) := by decide +kernel
theorem dX5_player_88 : decode cX5_player 88 = .ok (.lload 7, 2) := by decide +kernel
theorem dX5_player_90 : decode cX5_player 90 = .ok (.invokevirtual 181, 3) := by decide +kernel
theorem dX5_player_93 : decode cX5_player 93 = .ok (.aload_n 0, 1) := by decide +kernel
theorem dX5_player_94 : decode cX5_player 94 = .ok (.getfield 26, 3) := by decide +kernel
theorem dX5_player_97 : decode cX5_player 97 = .ok (.iload 9, 2) := by decide +kernel
theorem dX5_player_99 : decode cX5_player 99 = .ok (.baload, 1) := by decide +kernel
theorem dX5_player_100 : decode cX5_player 100 = .ok (.ifCond .eq 15, 3) := by decide +kernel
theorem dX5_player_103 : decode cX5_player 103 = .ok (.aload_n 0, 1) := by decide +kernel
theorem dX5_player_104 : decode cX5_player 104 = .ok (.lconst 0, 1) := by decide +kernel
theorem dX5_player_105 : decode cX5_player 105 = .ok (.lconst 1, 1) := by decide +kernel
theorem dX5_player_106 : decode cX5_player 106 = .ok (.iconst 1, 1) := by decide +kernel
theorem dX5_player_107 : decode cX5_player 107 = .ok (.invokevirtual 156, 3) := by decide +kernel
theorem dX5_player_110 : decode cX5_player 110 = .ok (.ifCond .eq 5, 3) := by decide +kernel
theorem dX5_player_113 : decode cX5_player 113 = .ok (.iconst 0, 1) := by decide +kernel
theorem dX5_player_114 : decode cX5_player 114 = .ok (.ireturn, 1) := by decide +kernel
theorem dX5_player_115 : decode cX5_player 115 = .ok (.iinc 9 1, 3) := by decide +kernel
theorem dX5_player_118 : decode cX5_player 118 = .ok (.goto (-60), 3) := by decide +kernel
theorem dX5_player_121 : decode cX5_player 121 = .ok (.aload_n 0, 1) := by decide +kernel
theorem dX5_player_122 : decode cX5_player 122 = .ok (.getfield 54, 3) := by decide +kernel
theorem dX5_player_125 : decode cX5_player 125 = .ok (.ifCond .le 5, 3) := by decide +kernel
theorem dX5_player_128 : decode cX5_player 128 = .ok (.iconst 0, 1) := by decide +kernel
theorem dX5_player_129 : decode cX5_player 129 = .ok (.ireturn, 1) := by decide +kernel
theorem dX5_player_130 : decode cX5_player 130 = .ok (.aload_n 0, 1) := by decide +kernel
theorem dX5_player_131 : decode cX5_player 131 = .ok (.getfield 30, 3) := by decide +kernel
theorem dX5_player_134 : decode cX5_player 134 = .ok (.iconst 0, 1) := by decide +kernel
theorem dX5_player_135 : decode cX5_player 135 = .ok (.lload_n 1, 1) := by decide +kernel
theorem dX5_player_136 : decode cX5_player 136 = .ok (.lastore, 1) := by decide +kernel
theorem dX5_player_137 : decode cX5_player 137 = .ok (.aload_n 0, 1) := by decide +kernel
theorem dX5_player_138 : decode cX5_player 138 = .ok (.getfield 30, 3) := by decide +kernel
theorem dX5_player_141 : decode cX5_player 141 = .ok (.iconst 1, 1) := by decide +kernel
theorem dX5_player_142 : decode cX5_player 142 = .ok (.lload_n 3, 1) := by decide +kernel
theorem dX5_player_143 : decode cX5_player 143 = .ok (.lastore, 1) := by decide +kernel
theorem dX5_player_144 : decode cX5_player 144 = .ok (.aload_n 0, 1) := by decide +kernel
theorem dX5_player_145 : decode cX5_player 145 = .ok (.getfield 30, 3) := by decide +kernel
theorem dX5_player_148 : decode cX5_player 148 = .ok (.iconst 2, 1) := by decide +kernel
theorem dX5_player_149 : decode cX5_player 149 = .ok (.lload 5, 2) := by decide +kernel
theorem dX5_player_151 : decode cX5_player 151 = .ok (.lastore, 1) := by decide +kernel
theorem dX5_player_152 : decode cX5_player 152 = .ok (.aload_n 0, 1) := by decide +kernel
theorem dX5_player_153 : decode cX5_player 153 = .ok (.getfield 30, 3) := by decide +kernel
theorem dX5_player_156 : decode cX5_player 156 = .ok (.iconst 3, 1) := by decide +kernel
theorem dX5_player_157 : decode cX5_player 157 = .ok (.lload 7, 2) := by decide +kernel
theorem dX5_player_159 : decode cX5_player 159 = .ok (.lastore, 1) := by decide +kernel
theorem dX5_player_160 : decode cX5_player 160 = .ok (.iconst 1, 1) := by decide +kernel
theorem dX5_player_161 : decode cX5_player 161 = .ok (.ireturn, 1) := by decide +kernel
set_option maxRecDepth 20000 in
theorem ggX5_go_X5_loadTile : GoodIn wsX5_go wsX5_loadTile := goodIn_r _ [15, 16, 17, 3, 5, 47, 48, 49, 50, 51, 52, 53, 54, 55, 56, 57, 58, 59, 60, 61, 62, 63, 64, 65, 66, 67, 68, 69, 70, 71] (by decide +kernel) (by decide +kernel)
set_option maxRecDepth 20000 in
theorem gX5_go_X5_loadTile : GoodIn wsX5_go (wsV RX5 181 RX5 yX5_loadTile wsX5_loadTile) := goodIn_app (goodIn_of _ (by decide +kernel)) ggX5_go_X5_loadTile
set_option maxRecDepth 20000 in
theorem ggX5_go_X5_isFound : GoodIn wsX5_go wsX5_isFound := goodIn_r _ [21, 22, 7, 8, 23, 24, 25, 26, 27, 28, 29, 14, 30, 3, 5, 16, 17, 31, 32, 33, 34, 35, 36, 37, 38, 39, 40, 41, 42, 43, 44, 45, 46, 47, 48, 49, 50, 51, 52, 53, 54, 55, 56, 57, 58, 59, 60, 61, 62, 63, 64, 65, 66, 67, 68, 69, 70, 71] (by decide +kernel) (by decide +kernel)
set_option maxRecDepth 20000 in
theorem gX5_go_X5_isFound : GoodIn wsX5_go (wsV RX5 170 RX5 yX5_isFound wsX5_isFound) := goodIn_app (goodIn_of _ (by decide +kernel)) ggX5_go_X5_isFound
set_option maxRecDepth 20000 in
theorem ggX5_go_X5_isCommon : GoodIn wsX5_go wsX5_isCommon := goodIn_r _ [42, 3, 5, 16, 17, 47, 48, 49, 50, 51, 52, 53, 54, 55, 56, 57, 58, 59, 60, 61, 62, 63, 64, 65, 66, 67, 68, 69, 70, 71] (by decide +kernel) (by decide +kernel)
set_option maxRecDepth 20000 in
theorem gX5_go_X5_isCommon : GoodIn wsX5_go (wsV RX5 142 RX5 yX5_isCommon wsX5_isCommon) := goodIn_app (goodIn_of _ (by decide +kernel)) ggX5_go_X5_isCommon
theorem dX5_go_0 : decode cX5_go 0 = .ok (.iconst (-1), 1) := by decide +kernel
theorem dX5_go_1 : decode cX5_go 1 = .ok (.istore_n 1, 1) := by decide +kernel
theorem dX5_go_2 : decode cX5_go 2 = .ok (.lconst 1, 1) := by decide +kernel
theorem dX5_go_3 : decode cX5_go 3 = .ok (.lstore_n 2, 1) := by decide +kernel
theorem dX5_go_4 : decode cX5_go 4 = .ok (.lconst 1, 1) := by decide +kernel
theorem dX5_go_5 : decode cX5_go 5 = .ok (.lstore 4, 2) := by decide +kernel
theorem dX5_go_7 : decode cX5_go 7 = .ok (.iconst 0, 1) := by decide +kernel
theorem dX5_go_8 : decode cX5_go 8 = .ok (.istore 6, 2) := by decide +kernel
theorem dX5_go_10 : decode cX5_go 10 = .ok (.iload 6, 2) := by decide +kernel
theorem dX5_go_12 : decode cX5_go 12 = .ok (.sipush 576, 3) := by decide +kernel
theorem dX5_go_15 : decode cX5_go 15 = .ok (.if_icmp .ge 117, 3) := by decide +kernel
theorem dX5_go_18 : decode cX5_go 18 = .ok (.aload_n 0, 1) := by decide +kernel
theorem dX5_go_19 : decode cX5_go 19 = .ok (.iload 6, 2) := by decide +kernel
theorem dX5_go_21 : decode cX5_go 21 = .ok (.bipush 24, 2) := by decide +kernel
theorem dX5_go_23 : decode cX5_go 23 = .ok (.irem, 1) := by decide +kernel
theorem dX5_go_24 : decode cX5_go 24 = .ok (.iload 6, 2) := by decide +kernel
theorem dX5_go_26 : decode cX5_go 26 = .ok (.bipush 24, 2) := by decide +kernel
theorem dX5_go_28 : decode cX5_go 28 = .ok (.idiv, 1) := by decide +kernel
theorem dX5_go_29 : decode cX5_go 29 = .ok (.aload_n 0, 1) := by decide +kernel
theorem dX5_go_30 : decode cX5_go 30 = .ok (.getfield 30, 3) := by decide +kernel
theorem dX5_go_33 : decode cX5_go 33 = .ok (.iconst 0, 1) := by decide +kernel
theorem dX5_go_34 : decode cX5_go 34 = .ok (.laload, 1) := by decide +kernel
theorem dX5_go_35 : decode cX5_go 35 = .ok (.aload_n 0, 1) := by decide +kernel
theorem dX5_go_36 : decode cX5_go 36 = .ok (.getfield 30, 3) := by decide +kernel
theorem dX5_go_39 : decode cX5_go 39 = .ok (.iconst 1, 1) := by decide +kernel
theorem dX5_go_40 : decode cX5_go 40 = .ok (.laload, 1) := by decide +kernel
theorem dX5_go_41 : decode cX5_go 41 = .ok (.aload_n 0, 1) := by decide +kernel
theorem dX5_go_42 : decode cX5_go 42 = .ok (.getfield 30, 3) := by decide +kernel
theorem dX5_go_45 : decode cX5_go 45 = .ok (.iconst 2, 1) := by decide +kernel
theorem dX5_go_46 : decode cX5_go 46 = .ok (.laload, 1) := by decide +kernel
theorem dX5_go_47 : decode cX5_go 47 = .ok (.aload_n 0, 1) := by decide +kernel
theorem dX5_go_48 : decode cX5_go 48 = .ok (.getfield 30, 3) := by decide +kernel
theorem dX5_go_51 : decode cX5_go 51 = .ok (.iconst 3, 1) := by decide +kernel
theorem dX5_go_52 : decode cX5_go 52 = .ok (.laload, 1) := by decide +kernel
theorem dX5_go_53 : decode cX5_go 53 = .ok (.invokevirtual 181, 3) := by decide +kernel
theorem dX5_go_56 : decode cX5_go 56 = .ok (.aload_n 0, 1) := by decide +kernel
theorem dX5_go_57 : decode cX5_go 57 = .ok (.aload_n 0, 1) := by decide +kernel
theorem dX5_go_58 : decode cX5_go 58 = .ok (.getfield 187, 3) := by decide +kernel
theorem dX5_go_61 : decode cX5_go 61 = .ok (.putfield 128, 3) := by decide +kernel
theorem dX5_go_64 : decode cX5_go 64 = .ok (.aload_n 0, 1) := by decide +kernel
theorem dX5_go_65 : decode cX5_go 65 = .ok (.aload_n 0, 1) := by decide +kernel
theorem dX5_go_66 : decode cX5_go 66 = .ok (.getfield 190, 3) := by decide +kernel
theorem dX5_go_69 : decode cX5_go 69 = .ok (.putfield 132, 3) := by decide +kernel
theorem dX5_go_72 : decode cX5_go 72 = .ok (.aload_n 0, 1) := by decide +kernel
theorem dX5_go_73 : decode cX5_go 73 = .ok (.getfield 26, 3) := by decide +kernel
theorem dX5_go_76 : decode cX5_go 76 = .ok (.iload 6, 2) := by decide +kernel
theorem dX5_go_78 : decode cX5_go 78 = .ok (.baload, 1) := by decide +kernel
theorem dX5_go_79 : decode cX5_go 79 = .ok (.ifCond .eq 47, 3) := by decide +kernel
theorem dX5_go_82 : decode cX5_go 82 = .ok (.aload_n 0, 1) := by decide +kernel
theorem dX5_go_83 : decode cX5_go 83 = .ok (.iconst 1, 1) := by decide +kernel
theorem dX5_go_84 : decode cX5_go 84 = .ok (.invokevirtual 170, 3) := by decide +kernel
theorem dX5_go_87 : decode cX5_go 87 = .ok (.ifCond .eq 39, 3) := by decide +kernel
theorem dX5_go_90 : decode cX5_go 90 = .ok (.iload_n 1, 1) := by decide +kernel
theorem dX5_go_91 : decode cX5_go 91 = .ok (.iconst (-1), 1) := by decide +kernel
theorem dX5_go_92 : decode cX5_go 92 = .ok (.if_icmp .eq 20, 3) := by decide +kernel
theorem dX5_go_95 : decode cX5_go 95 = .ok (.aload_n 0, 1) := by decide +kernel
theorem dX5_go_96 : decode cX5_go 96 = .ok (.getfield 145, 3) := by decide +kernel
theorem dX5_go_99 : decode cX5_go 99 = .ok (.lload 4, 2) := by decide +kernel
theorem dX5_go_101 : decode cX5_go 101 = .ok (.lmul, 1) := by decide +kernel
theorem dX5_go_102 : decode cX5_go 102 = .ok (.lload_n 2, 1) := by decide +kernel
theorem dX5_go_103 : decode cX5_go 103 = .ok (.aload_n 0, 1) := by decide +kernel
theorem dX5_go_104 : decode cX5_go 104 = .ok (.getfield 148, 3) := by decide +kernel
theorem dX5_go_107 : decode cX5_go 107 = .ok (.lmul, 1) := by decide +kernel
theorem dX5_go_108 : decode cX5_go 108 = .ok (.lcmp, 1) := by decide +kernel
theorem dX5_go_109 : decode cX5_go 109 = .ok (.ifCond .ge 17, 3) := by decide +kernel
theorem dX5_go_112 : decode cX5_go 112 = .ok (.iload 6, 2) := by decide +kernel
theorem dX5_go_114 : decode cX5_go 114 = .ok (.istore_n 1, 1) := by decide +kernel
theorem dX5_go_115 : decode cX5_go 115 = .ok (.aload_n 0, 1) := by decide +kernel
theorem dX5_go_116 : decode cX5_go 116 = .ok (.getfield 145, 3) := by decide +kernel
theorem dX5_go_119 : decode cX5_go 119 = .ok (.lstore_n 2, 1) := by decide +kernel
theorem dX5_go_120 : decode cX5_go 120 = .ok (.aload_n 0, 1) := by decide +kernel
theorem dX5_go_121 : decode cX5_go 121 = .ok (.getfield 148, 3) := by decide +kernel
theorem dX5_go_124 : decode cX5_go 124 = .ok (.lstore 4, 2) := by decide +kernel
theorem dX5_go_126 : decode cX5_go 126 = .ok (.iinc 6 1, 3) := by decide +kernel
theorem dX5_go_129 : decode cX5_go 129 = .ok (.goto (-119), 3) := by decide +kernel
theorem dX5_go_132 : decode cX5_go 132 = .ok (.bipush 6, 2) := by decide +kernel
theorem dX5_go_134 : decode cX5_go 134 = .ok (.aload_n 0, 1) := by decide +kernel
theorem dX5_go_135 : decode cX5_go 135 = .ok (.getfield 64, 3) := by decide +kernel
theorem dX5_go_138 : decode cX5_go 138 = .ok (.imul, 1) := by decide +kernel
theorem dX5_go_139 : decode cX5_go 139 = .ok (.istore 6, 2) := by decide +kernel
theorem dX5_go_141 : decode cX5_go 141 = .ok (.aload_n 0, 1) := by decide +kernel
theorem dX5_go_142 : decode cX5_go 142 = .ok (.dup, 1) := by decide +kernel
theorem dX5_go_143 : decode cX5_go 143 = .ok (.getfield 64, 3) := by decide +kernel
theorem dX5_go_146 : decode cX5_go 146 = .ok (.iconst 1, 1) := by decide +kernel
theorem dX5_go_147 : decode cX5_go 147 = .ok (.iadd, 1) := by decide +kernel
theorem dX5_go_148 : decode cX5_go 148 = .ok (.putfield 64, 3) := by decide +kernel
theorem dX5_go_151 : decode cX5_go 151 = .ok (.iconst (-1), 1) := by decide +kernel
theorem dX5_go_152 : decode cX5_go 152 = .ok (.istore 7, 2) := by decide +kernel
theorem dX5_go_154 : decode cX5_go 154 = .ok (.aload_n 0, 1) := by decide +kernel
theorem dX5_go_155 : decode cX5_go 155 = .ok (.getfield 187, 3) := by decide +kernel
theorem dX5_go_158 : decode cX5_go 158 = .ok (.lstore 8, 2) := by decide +kernel
theorem dX5_go_160 : decode cX5_go 160 = .ok (.aload_n 0, 1) := by decide +kernel
theorem dX5_go_161 : decode cX5_go 161 = .ok (.getfield 190, 3) := by decide +kernel
theorem dX5_go_164 : decode cX5_go 164 = .ok (.lstore 10, 2) := by decide +kernel
theorem dX5_go_166 : decode cX5_go 166 = .ok (.iload_n 1, 1) := by decide +kernel
theorem dX5_go_167 : decode cX5_go 167 = .ok (.iconst (-1), 1) := by decide +kernel
theorem dX5_go_168 : decode cX5_go 168 = .ok (.if_icmp .eq 96, 3) := by decide +kernel
theorem dX5_go_171 : decode cX5_go 171 = .ok (.aload_n 0, 1) := by decide +kernel
theorem dX5_go_172 : decode cX5_go 172 = .ok (.iload_n 1, 1) := by decide +kernel
theorem dX5_go_173 : decode cX5_go 173 = .ok (.bipush 24, 2) := by decide +kernel
theorem dX5_go_175 : decode cX5_go 175 = .ok (.irem, 1) := by decide +kernel
theorem dX5_go_176 : decode cX5_go 176 = .ok (.iload_n 1, 1) := by decide +kernel
theorem dX5_go_177 : decode cX5_go 177 = .ok (.bipush 24, 2) := by decide +kernel
theorem dX5_go_179 : decode cX5_go 179 = .ok (.idiv, 1) := by decide +kernel
theorem dX5_go_180 : decode cX5_go 180 = .ok (.aload_n 0, 1) := by decide +kernel
theorem dX5_go_181 : decode cX5_go 181 = .ok (.getfield 30, 3) := by decide +kernel
theorem dX5_go_184 : decode cX5_go 184 = .ok (.iconst 0, 1) := by decide +kernel
theorem dX5_go_185 : decode cX5_go 185 = .ok (.laload, 1) := by decide +kernel
theorem dX5_go_186 : decode cX5_go 186 = .ok (.aload_n 0, 1) := by decide +kernel
theorem dX5_go_187 : decode cX5_go 187 = .ok (.getfield 30, 3) := by decide +kernel
theorem dX5_go_190 : decode cX5_go 190 = .ok (.iconst 1, 1) := by decide +kernel
theorem dX5_go_191 : decode cX5_go 191 = .ok (.laload, 1) := by decide +kernel
theorem dX5_go_192 : decode cX5_go 192 = .ok (.aload_n 0, 1) := by decide +kernel
theorem dX5_go_193 : decode cX5_go 193 = .ok (.getfield 30, 3) := by decide +kernel
theorem dX5_go_196 : decode cX5_go 196 = .ok (.iconst 2, 1) := by decide +kernel
theorem dX5_go_197 : decode cX5_go 197 = .ok (.laload, 1) := by decide +kernel
theorem dX5_go_198 : decode cX5_go 198 = .ok (.aload_n 0, 1) := by decide +kernel
theorem dX5_go_199 : decode cX5_go 199 = .ok (.getfield 30, 3) := by decide +kernel
theorem dX5_go_202 : decode cX5_go 202 = .ok (.iconst 3, 1) := by decide +kernel
theorem dX5_go_203 : decode cX5_go 203 = .ok (.laload, 1) := by decide +kernel
theorem dX5_go_204 : decode cX5_go 204 = .ok (.invokevirtual 181, 3) := by decide +kernel
theorem dX5_go_207 : decode cX5_go 207 = .ok (.aload_n 0, 1) := by decide +kernel
theorem dX5_go_208 : decode cX5_go 208 = .ok (.aload_n 0, 1) := by decide +kernel
theorem dX5_go_209 : decode cX5_go 209 = .ok (.getfield 187, 3) := by decide +kernel
theorem dX5_go_212 : decode cX5_go 212 = .ok (.putfield 128, 3) := by decide +kernel
theorem dX5_go_215 : decode cX5_go 215 = .ok (.aload_n 0, 1) := by decide +kernel
theorem dX5_go_216 : decode cX5_go 216 = .ok (.aload_n 0, 1) := by decide +kernel
theorem dX5_go_217 : decode cX5_go 217 = .ok (.getfield 190, 3) := by decide +kernel
theorem dX5_go_220 : decode cX5_go 220 = .ok (.putfield 132, 3) := by decide +kernel
theorem dX5_go_223 : decode cX5_go 223 = .ok (.aload_n 0, 1) := by decide +kernel
theorem dX5_go_224 : decode cX5_go 224 = .ok (.iconst 0, 1) := by decide +kernel
theorem dX5_go_225 : decode cX5_go 225 = .ok (.lload_n 2, 1) := by decide +kernel
theorem dX5_go_226 : decode cX5_go 226 = .ok (.lload 4, 2) := by decide +kernel
theorem dX5_go_228 : decode cX5_go 228 = .ok (.iconst 1, 1) := by decide +kernel
theorem dX5_go_229 : decode cX5_go 229 = .ok (.invokevirtual 142, 3) := by decide +kernel
theorem dX5_go_232 : decode cX5_go 232 = .ok (.ifCond .eq 7, 3) := by decide +kernel
theorem dX5_go_235 : decode cX5_go 235 = .ok (.iconst 1, 1) := by decide +kernel
theorem dX5_go_236 : decode cX5_go 236 = .ok (.goto 4, 3) := by decide +kernel
theorem dX5_go_239 : decode cX5_go 239 = .ok (.iconst 0, 1) := by decide +kernel
theorem dX5_go_240 : decode cX5_go 240 = .ok (.istore 7, 2) := by decide +kernel
theorem dX5_go_242 : decode cX5_go 242 = .ok (.aload_n 0, 1) := by decide +kernel
theorem dX5_go_243 : decode cX5_go 243 = .ok (.getfield 187, 3) := by decide +kernel
theorem dX5_go_246 : decode cX5_go 246 = .ok (.lload_n 2, 1) := by decide +kernel
theorem dX5_go_247 : decode cX5_go 247 = .ok (.lmul, 1) := by decide +kernel
theorem dX5_go_248 : decode cX5_go 248 = .ok (.lload 4, 2) := by decide +kernel
theorem dX5_go_250 : decode cX5_go 250 = .ok (.ldiv, 1) := by decide +kernel
theorem dX5_go_251 : decode cX5_go 251 = .ok (.lstore 8, 2) := by decide +kernel
theorem dX5_go_253 : decode cX5_go 253 = .ok (.aload_n 0, 1) := by decide +kernel
theorem dX5_go_254 : decode cX5_go 254 = .ok (.getfield 190, 3) := by decide +kernel
theorem dX5_go_257 : decode cX5_go 257 = .ok (.lload_n 2, 1) := by decide +kernel
theorem dX5_go_258 : decode cX5_go 258 = .ok (.lmul, 1) := by decide +kernel
theorem dX5_go_259 : decode cX5_go 259 = .ok (.lload 4, 2) := by decide +kernel
theorem dX5_go_261 : decode cX5_go 261 = .ok (.ldiv, 1) := by decide +kernel
theorem dX5_go_262 : decode cX5_go 262 = .ok (.lstore 10, 2) := by decide +kernel
theorem dX5_go_264 : decode cX5_go 264 = .ok (.aload_n 0, 1) := by decide +kernel
theorem dX5_go_265 : decode cX5_go 265 = .ok (.getfield 30, 3) := by decide +kernel
theorem dX5_go_268 : decode cX5_go 268 = .ok (.iconst 0, 1) := by decide +kernel
theorem dX5_go_269 : decode cX5_go 269 = .ok (.dup2, 1) := by decide +kernel
theorem dX5_go_270 : decode cX5_go 270 = .ok (.laload, 1) := by decide +kernel
theorem dX5_go_271 : decode cX5_go 271 = .ok (.lload 8, 2) := by decide +kernel
theorem dX5_go_273 : decode cX5_go 273 = .ok (.ladd, 1) := by decide +kernel
theorem dX5_go_274 : decode cX5_go 274 = .ok (.lastore, 1) := by decide +kernel
theorem dX5_go_275 : decode cX5_go 275 = .ok (.aload_n 0, 1) := by decide +kernel
theorem dX5_go_276 : decode cX5_go 276 = .ok (.getfield 30, 3) := by decide +kernel
theorem dX5_go_279 : decode cX5_go 279 = .ok (.iconst 1, 1) := by decide +kernel
theorem dX5_go_280 : decode cX5_go 280 = .ok (.dup2, 1) := by decide +kernel
theorem dX5_go_281 : decode cX5_go 281 = .ok (.laload, 1) := by decide +kernel
theorem dX5_go_282 : decode cX5_go 282 = .ok (.lload 10, 2) := by decide +kernel
theorem dX5_go_284 : decode cX5_go 284 = .ok (.ladd, 1) := by decide +kernel
theorem dX5_go_285 : decode cX5_go 285 = .ok (.lastore, 1) := by decide +kernel
theorem dX5_go_286 : decode cX5_go 286 = .ok (.aload_n 0, 1) := by decide +kernel
theorem dX5_go_287 : decode cX5_go 287 = .ok (.iload 7, 2) := by decide +kernel
theorem dX5_go_289 : decode cX5_go 289 = .ok (.iconst 1, 1) := by decide +kernel
theorem dX5_go_290 : decode cX5_go 290 = .ok (.if_icmp .ne 13, 3) := by decide +kernel
theorem dX5_go_293 : decode cX5_go 293 = .ok (.aload_n 0, 1) := by decide +kernel
theorem dX5_go_294 : decode cX5_go 294 = .ok (.getfield 187, 3) := by decide +kernel
theorem dX5_go_297 : decode cX5_go 297 = .ok (.lload 8, 2) := by decide +kernel
theorem dX5_go_299 : decode cX5_go 299 = .ok (.lsub, 1) := by decide +kernel
theorem dX5_go_300 : decode cX5_go 300 = .ok (.goto 4, 3) := by decide +kernel
theorem dX5_go_303 : decode cX5_go 303 = .ok (.lconst 0, 1) := by decide +kernel
theorem dX5_go_304 : decode cX5_go 304 = .ok (.putfield 187, 3) := by decide +kernel
theorem dX5_go_307 : decode cX5_go 307 = .ok (.aload_n 0, 1) := by decide +kernel
theorem dX5_go_308 : decode cX5_go 308 = .ok (.iload 7, 2) := by decide +kernel
theorem dX5_go_310 : decode cX5_go 310 = .ok (.ifCond .ne 13, 3) := by decide +kernel
theorem dX5_go_313 : decode cX5_go 313 = .ok (.aload_n 0, 1) := by decide +kernel
theorem dX5_go_314 : decode cX5_go 314 = .ok (.getfield 190, 3) := by decide +kernel
theorem dX5_go_317 : decode cX5_go 317 = .ok (.lload 10, 2) := by decide +kernel
theorem dX5_go_319 : decode cX5_go 319 = .ok (.lsub, 1) := by decide +kernel
theorem dX5_go_320 : decode cX5_go 320 = .ok (.goto 4, 3) := by decide +kernel
theorem dX5_go_323 : decode cX5_go 323 = .ok (.lconst 0, 1) := by decide +kernel
theorem dX5_go_324 : decode cX5_go 324 = .ok (.putfield 190, 3) := by decide +kernel
theorem dX5_go_327 : decode cX5_go 327 = .ok (.aload_n 0, 1) := by decide +kernel
theorem dX5_go_328 : decode cX5_go 328 = .ok (.getfield 33, 3) := by decide +kernel
theorem dX5_go_331 : decode cX5_go 331 = .ok (.iload 6, 2) := by decide +kernel
theorem dX5_go_333 : decode cX5_go 333 = .ok (.aload_n 0, 1) := by decide +kernel
theorem dX5_go_334 : decode cX5_go 334 = .ok (.getfield 30, 3) := by decide +kernel
theorem dX5_go_337 : decode cX5_go 337 = .ok (.iconst 0, 1) := by decide +kernel
theorem dX5_go_338 : decode cX5_go 338 = .ok (.laload, 1) := by decide +kernel
theorem dX5_go_339 : decode cX5_go 339 = .ok (.lastore, 1) := by decide +kernel
theorem dX5_go_340 : decode cX5_go 340 = .ok (.aload_n 0, 1) := by decide +kernel
theorem dX5_go_341 : decode cX5_go 341 = .ok (.getfield 33, 3) := by decide +kernel
theorem dX5_go_344 : decode cX5_go 344 = .ok (.iload 6, 2) := by decide +kernel
theorem dX5_go_346 : decode cX5_go 346 = .ok (.iconst 1, 1) := by decide +kernel
theorem dX5_go_347 : decode cX5_go 347 = .ok (.iadd, 1) := by decide +kernel
theorem dX5_go_348 : decode cX5_go 348 = .ok (.aload_n 0, 1) := by decide +kernel
theorem dX5_go_349 : decode cX5_go 349 = .ok (.getfield 30, 3) := by decide +kernel
theorem dX5_go_352 : decode cX5_go 352 = .ok (.iconst 1, 1) := by decide +kernel
theorem dX5_go_353 : decode cX5_go 353 = .ok (.laload, 1) := by decide +kernel
theorem dX5_go_354 : decode cX5_go 354 = .ok (.lastore, 1) := by decide +kernel
theorem dX5_go_355 : decode cX5_go 355 = .ok (.aload_n 0, 1) := by decide +kernel
theorem dX5_go_356 : decode cX5_go 356 = .ok (.getfield 33, 3) := by decide +kernel
theorem dX5_go_359 : decode cX5_go 359 = .ok (.iload 6, 2) := by decide +kernel
theorem dX5_go_361 : decode cX5_go 361 = .ok (.iconst 2, 1) := by decide +kernel
theorem dX5_go_362 : decode cX5_go 362 = .ok (.iadd, 1) := by decide +kernel
theorem dX5_go_363 : decode cX5_go 363 = .ok (.iload 7, 2) := by decide +kernel
theorem dX5_go_365 : decode cX5_go 365 = .ok (.i2l, 1) := by decide +kernel
theorem dX5_go_366 : decode cX5_go 366 = .ok (.lastore, 1) := by decide +kernel
theorem dX5_go_367 : decode cX5_go 367 = .ok (.aload_n 0, 1) := by decide +kernel
theorem dX5_go_368 : decode cX5_go 368 = .ok (.getfield 33, 3) := by decide +kernel
theorem dX5_go_371 : decode cX5_go 371 = .ok (.iload 6, 2) := by decide +kernel
theorem dX5_go_373 : decode cX5_go 373 = .ok (.iconst 3, 1) := by decide +kernel
theorem dX5_go_374 : decode cX5_go 374 = .ok (.iadd, 1) := by decide +kernel
theorem dX5_go_375 : decode cX5_go 375 = .ok (.iload_n 1, 1) := by decide +kernel
theorem dX5_go_376 : decode cX5_go 376 = .ok (.i2l, 1) := by decide +kernel
theorem dX5_go_377 : decode cX5_go 377 = .ok (.lastore, 1) := by decide +kernel
theorem dX5_go_378 : decode cX5_go 378 = .ok (.aload_n 0, 1) := by decide +kernel
theorem dX5_go_379 : decode cX5_go 379 = .ok (.getfield 33, 3) := by decide +kernel
theorem dX5_go_382 : decode cX5_go 382 = .ok (.iload 6, 2) := by decide +kernel
theorem dX5_go_384 : decode cX5_go 384 = .ok (.iconst 4, 1) := by decide +kernel
theorem dX5_go_385 : decode cX5_go 385 = .ok (.iadd, 1) := by decide +kernel
theorem dX5_go_386 : decode cX5_go 386 = .ok (.lload_n 2, 1) := by decide +kernel
theorem dX5_go_387 : decode cX5_go 387 = .ok (.lastore, 1) := by decide +kernel
theorem dX5_go_388 : decode cX5_go 388 = .ok (.aload_n 0, 1) := by decide +kernel
theorem dX5_go_389 : decode cX5_go 389 = .ok (.getfield 33, 3) := by decide +kernel
theorem dX5_go_392 : decode cX5_go 392 = .ok (.iload 6, 2) := by decide +kernel
theorem dX5_go_394 : decode cX5_go 394 = .ok (.iconst 5, 1) := by decide +kernel
theorem dX5_go_395 : decode cX5_go 395 = .ok (.iadd, 1) := by decide +kernel
theorem dX5_go_396 : decode cX5_go 396 = .ok (.lload 4, 2) := by decide +kernel
theorem dX5_go_398 : decode cX5_go 398 = .ok (.lastore, 1) := by decide +kernel
theorem dX5_go_399 : decode cX5_go 399 = .ok (.return_, 1) := by decide +kernel
set_option maxRecDepth 20000 in
theorem ggX5_step_X5_isIn : GoodIn wsX5_step wsX5_isIn := goodIn_r _ [9, 10, 11] (by decide +kernel) (by decide +kernel)
set_option maxRecDepth 20000 in
theorem gX5_step_X5_isIn : GoodIn wsX5_step (va_wsS RX5 95 yX5_isIn wsX5_isIn) := goodIn_app (goodIn_of _ (by decide +kernel)) ggX5_step_X5_isIn
set_option maxRecDepth 20000 in
theorem ggX5_step_X5_go : GoodIn wsX5_step wsX5_go := goodIn_r _ [15, 1, 4, 16, 5, 17, 18, 19, 20, 3, 21, 22, 23, 24, 8, 25, 26, 27, 28, 29, 30, 31, 32, 33, 34, 35, 36, 37, 38, 39, 40, 41, 42, 43, 44, 45, 46, 47, 48, 49, 50, 51, 52, 53, 54, 55, 56, 57, 58, 59, 60, 61, 62, 63, 64, 65, 66, 67, 68, 69, 70, 71, 72, 73, 74, 75, 76, 77, 78, 79, 80, 81] (by decide +kernel) (by decide +kernel)
set_option maxRecDepth 20000 in
theorem gX5_step_X5_go : GoodIn wsX5_step (wsV RX5 193 RX5 yX5_go wsX5_go) := goodIn_app (goodIn_of _ (by decide +kernel)) ggX5_step_X5_go
theorem dX5_step_0 : decode cX5_step 0 = .ok (.aload_n 0, 1) := by decide +kernel
theorem dX5_step_1 : decode cX5_step 1 = .ok (.lload_n 1, 1) := by decide +kernel
theorem dX5_step_2 : decode cX5_step 2 = .ok (.invokestatic 95, 3) := by decide +kernel
theorem dX5_step_5 : decode cX5_step 5 = .ok (.ifCond .eq 54, 3) := by decide +kernel
theorem dX5_step_8 : decode cX5_step 8 = .ok (.lload_n 3, 1) := by decide +kernel
theorem dX5_step_9 : decode cX5_step 9 = .ok (.invokestatic 95, 3) := by decide +kernel
theorem dX5_step_12 : decode cX5_step 12 = .ok (.ifCond .eq 47, 3) := by decide +kernel
theorem dX5_step_15 : decode cX5_step 15 = .ok (.aload_n 0, 1) := by decide +kernel
theorem dX5_step_16 : decode cX5_step 16 = .ok (.getfield 30, 3) := by decide +kernel
theorem dX5_step_19 : decode cX5_step 19 = .ok (.iconst 0, 1) := by decide +kernel
theorem dX5_step_20 : decode cX5_step 20 = .ok (.laload, 1) := by decide +kernel
theorem dX5_step_21 : decode cX5_step 21 = .ok (.lload_n 1, 1) := by decide +kernel
theorem dX5_step_22 : decode cX5_step 22 = .ok (.ladd, 1) := by decide +kernel
theorem dX5_step_23 : decode cX5_step 23 = .ok (.invokestatic 95, 3) := by decide +kernel
theorem dX5_step_26 : decode cX5_step 26 = .ok (.ifCond .eq 33, 3) := by decide +kernel
theorem dX5_step_29 : decode cX5_step 29 = .ok (.aload_n 0, 1) := by decide +kernel
theorem dX5_step_30 : decode cX5_step 30 = .ok (.getfield 30, 3) := by decide +kernel
theorem dX5_step_33 : decode cX5_step 33 = .ok (.iconst 1, 1) := by decide +kernel
theorem dX5_step_34 : decode cX5_step 34 = .ok (.laload, 1) := by decide +kernel
theorem dX5_step_35 : decode cX5_step 35 = .ok (.lload_n 3, 1) := by decide +kernel
theorem dX5_step_36 : decode cX5_step 36 = .ok (.ladd, 1) := by decide +kernel
theorem dX5_step_37 : decode cX5_step 37 = .ok (.invokestatic 95, 3) := by decide +kernel
theorem dX5_step_40 : decode cX5_step 40 = .ok (.ifCond .eq 19, 3) := by decide +kernel
theorem dX5_step_43 : decode cX5_step 43 = .ok (.iload 5, 2) := by decide +kernel
theorem dX5_step_45 : decode cX5_step 45 = .ok (.ifCond .lt 14, 3) := by decide +kernel
theorem dX5_step_48 : decode cX5_step 48 = .ok (.iload 5, 2) := by decide +kernel
theorem dX5_step_50 : decode cX5_step 50 = .ok (.bipush 8, 2) := by decide +kernel
theorem dX5_step_52 : decode cX5_step 52 = .ok (.if_icmp .gt 7, 3) := by decide +kernel
theorem dX5_step_55 : decode cX5_step 55 = .ok (.iconst 0, 1) := by decide +kernel
theorem dX5_step_56 : decode cX5_step 56 = .ok (.goto 4, 3) := by decide +kernel
theorem dX5_step_59 : decode cX5_step 59 = .ok (.iconst 1, 1) := by decide +kernel
theorem dX5_step_60 : decode cX5_step 60 = .ok (.putfield 54, 3) := by decide +kernel
theorem dX5_step_63 : decode cX5_step 63 = .ok (.aload_n 0, 1) := by decide +kernel
theorem dX5_step_64 : decode cX5_step 64 = .ok (.getfield 54, 3) := by decide +kernel
theorem dX5_step_67 : decode cX5_step 67 = .ok (.ifCond .le 5, 3) := by decide +kernel
theorem dX5_step_70 : decode cX5_step 70 = .ok (.iconst 0, 1) := by decide +kernel
theorem dX5_step_71 : decode cX5_step 71 = .ok (.ireturn, 1) := by decide +kernel
theorem dX5_step_72 : decode cX5_step 72 = .ok (.aload_n 0, 1) := by decide +kernel
theorem dX5_step_73 : decode cX5_step 73 = .ok (.iconst 0, 1) := by decide +kernel
theorem dX5_step_74 : decode cX5_step 74 = .ok (.putfield 64, 3) := by decide +kernel
theorem dX5_step_77 : decode cX5_step 77 = .ok (.aload_n 0, 1) := by decide +kernel
theorem dX5_step_78 : decode cX5_step 78 = .ok (.lload_n 1, 1) := by decide +kernel
theorem dX5_step_79 : decode cX5_step 79 = .ok (.putfield 187, 3) := by decide +kernel
theorem dX5_step_82 : decode cX5_step 82 = .ok (.aload_n 0, 1) := by decide +kernel
theorem dX5_step_83 : decode cX5_step 83 = .ok (.lload_n 3, 1) := by decide +kernel
theorem dX5_step_84 : decode cX5_step 84 = .ok (.putfield 190, 3) := by decide +kernel
theorem dX5_step_87 : decode cX5_step 87 = .ok (.aload_n 0, 1) := by decide +kernel
theorem dX5_step_88 : decode cX5_step 88 = .ok (.getfield 64, 3) := by decide +kernel
theorem dX5_step_91 : decode cX5_step 91 = .ok (.iload 5, 2) := by decide +kernel
theorem dX5_step_93 : decode cX5_step 93 = .ok (.if_icmp .ge 28, 3) := by decide +kernel
theorem dX5_step_96 : decode cX5_step 96 = .ok (.aload_n 0, 1) := by decide +kernel
theorem dX5_step_97 : decode cX5_step 97 = .ok (.getfield 187, 3) := by decide +kernel
theorem dX5_step_100 : decode cX5_step 100 = .ok (.lconst 0, 1) := by decide +kernel
theorem dX5_step_101 : decode cX5_step 101 = .ok (.lcmp, 1) := by decide +kernel
theorem dX5_step_102 : decode cX5_step 102 = .ok (.ifCond .ne 12, 3) := by decide +kernel
theorem dX5_step_105 : decode cX5_step 105 = .ok (.aload_n 0, 1) := by decide +kernel
theorem dX5_step_106 : decode cX5_step 106 = .ok (.getfield 190, 3) := by decide +kernel
theorem dX5_step_109 : decode cX5_step 109 = .ok (.lconst 0, 1) := by decide +kernel
theorem dX5_step_110 : decode cX5_step 110 = .ok (.lcmp, 1) := by decide +kernel
theorem dX5_step_111 : decode cX5_step 111 = .ok (.ifCond .eq 10, 3) := by decide +kernel
theorem dX5_step_114 : decode cX5_step 114 = .ok (.aload_n 0, 1) := by decide +kernel
theorem dX5_step_115 : decode cX5_step 115 = .ok (.invokevirtual 193, 3) := by decide +kernel
theorem dX5_step_118 : decode cX5_step 118 = .ok (.goto (-31), 3) := by decide +kernel
theorem dX5_step_121 : decode cX5_step 121 = .ok (.aload_n 0, 1) := by decide +kernel
theorem dX5_step_122 : decode cX5_step 122 = .ok (.getfield 64, 3) := by decide +kernel
theorem dX5_step_125 : decode cX5_step 125 = .ok (.ireturn, 1) := by decide +kernel
theorem dX5_at_0 : decode cX5_at 0 = .ok (.aload_n 0, 1) := by decide +kernel
theorem dX5_at_1 : decode cX5_at 1 = .ok (.iload_n 1, 1) := by decide +kernel
theorem dX5_at_2 : decode cX5_at 2 = .ok (.ifCond .lt 8, 3) := by decide +kernel
theorem dX5_at_5 : decode cX5_at 5 = .ok (.iload_n 1, 1) := by decide +kernel
theorem dX5_at_6 : decode cX5_at 6 = .ok (.iconst 3, 1) := by decide +kernel
theorem dX5_at_7 : decode cX5_at 7 = .ok (.if_icmp .le 7, 3) := by decide +kernel
theorem dX5_at_10 : decode cX5_at 10 = .ok (.iconst 1, 1) := by decide +kernel
theorem dX5_at_11 : decode cX5_at 11 = .ok (.goto 4, 3) := by decide +kernel
theorem dX5_at_14 : decode cX5_at 14 = .ok (.iconst 0, 1) := by decide +kernel
theorem dX5_at_15 : decode cX5_at 15 = .ok (.putfield 54, 3) := by decide +kernel
theorem dX5_at_18 : decode cX5_at 18 = .ok (.aload_n 0, 1) := by decide +kernel
theorem dX5_at_19 : decode cX5_at 19 = .ok (.getfield 54, 3) := by decide +kernel
theorem dX5_at_22 : decode cX5_at 22 = .ok (.ifCond .le 7, 3) := by decide +kernel
theorem dX5_at_25 : decode cX5_at 25 = .ok (.lconst 0, 1) := by decide +kernel
theorem dX5_at_26 : decode cX5_at 26 = .ok (.goto 9, 3) := by decide +kernel
theorem dX5_at_29 : decode cX5_at 29 = .ok (.aload_n 0, 1) := by decide +kernel
theorem dX5_at_30 : decode cX5_at 30 = .ok (.getfield 30, 3) := by decide +kernel
theorem dX5_at_33 : decode cX5_at 33 = .ok (.iload_n 1, 1) := by decide +kernel
theorem dX5_at_34 : decode cX5_at 34 = .ok (.laload, 1) := by decide +kernel
theorem dX5_at_35 : decode cX5_at 35 = .ok (.lreturn, 1) := by decide +kernel
theorem dX5_sweep_0 : decode cX5_sweep 0 = .ok (.aload_n 0, 1) := by decide +kernel
theorem dX5_sweep_1 : decode cX5_sweep 1 = .ok (.iload_n 1, 1) := by decide +kernel
theorem dX5_sweep_2 : decode cX5_sweep 2 = .ok (.ifCond .lt 20, 3) := by decide +kernel
theorem dX5_sweep_5 : decode cX5_sweep 5 = .ok (.iload_n 1, 1) := by decide +kernel
theorem dX5_sweep_6 : decode cX5_sweep 6 = .ok (.aload_n 0, 1) := by decide +kernel
theorem dX5_sweep_7 : decode cX5_sweep 7 = .ok (.getfield 64, 3) := by decide +kernel
theorem dX5_sweep_10 : decode cX5_sweep 10 = .ok (.if_icmp .ge 12, 3) := by decide +kernel
theorem dX5_sweep_13 : decode cX5_sweep 13 = .ok (.iload_n 2, 1) := by decide +kernel
theorem dX5_sweep_14 : decode cX5_sweep 14 = .ok (.ifCond .lt 8, 3) := by decide +kernel
theorem dX5_sweep_17 : decode cX5_sweep 17 = .ok (.iload_n 2, 1) := by decide +kernel
theorem dX5_sweep_18 : decode cX5_sweep 18 = .ok (.iconst 5, 1) := by decide +kernel
theorem dX5_sweep_19 : decode cX5_sweep 19 = .ok (.if_icmp .le 7, 3) := by decide +kernel
theorem dX5_sweep_22 : decode cX5_sweep 22 = .ok (.iconst 1, 1) := by decide +kernel
theorem dX5_sweep_23 : decode cX5_sweep 23 = .ok (.goto 4, 3) := by decide +kernel
theorem dX5_sweep_26 : decode cX5_sweep 26 = .ok (.iconst 0, 1) := by decide +kernel
theorem dX5_sweep_27 : decode cX5_sweep 27 = .ok (.putfield 54, 3) := by decide +kernel
theorem dX5_sweep_30 : decode cX5_sweep 30 = .ok (.aload_n 0, 1) := by decide +kernel
theorem dX5_sweep_31 : decode cX5_sweep 31 = .ok (.getfield 54, 3) := by decide +kernel
theorem dX5_sweep_34 : decode cX5_sweep 34 = .ok (.ifCond .le 7, 3) := by decide +kernel
theorem dX5_sweep_37 : decode cX5_sweep 37 = .ok (.lconst 0, 1) := by decide +kernel
theorem dX5_sweep_38 : decode cX5_sweep 38 = .ok (.goto 14, 3) := by decide +kernel
theorem dX5_sweep_41 : decode cX5_sweep 41 = .ok (.aload_n 0, 1) := by decide +kernel
theorem dX5_sweep_42 : decode cX5_sweep 42 = .ok (.getfield 33, 3) := by decide +kernel
theorem dX5_sweep_45 : decode cX5_sweep 45 = .ok (.bipush 6, 2) := by decide +kernel
theorem dX5_sweep_47 : decode cX5_sweep 47 = .ok (.iload_n 1, 1) := by decide +kernel
theorem dX5_sweep_48 : decode cX5_sweep 48 = .ok (.imul, 1) := by decide +kernel
theorem dX5_sweep_49 : decode cX5_sweep 49 = .ok (.iload_n 2, 1) := by decide +kernel
theorem dX5_sweep_50 : decode cX5_sweep 50 = .ok (.iadd, 1) := by decide +kernel
theorem dX5_sweep_51 : decode cX5_sweep 51 = .ok (.laload, 1) := by decide +kernel
theorem dX5_sweep_52 : decode cX5_sweep 52 = .ok (.lreturn, 1) := by decide +kernel
