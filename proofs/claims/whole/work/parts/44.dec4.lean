set_option maxRecDepth 20000 in
theorem ggX4_init_X0_init : GoodIn wsX4_init wsX0_init := goodIn_r _ [25, 26, 2, 3] (by decide +kernel) (by decide +kernel)
set_option maxRecDepth 20000 in
theorem gX4_init_X0_init_n25 : GoodIn wsX4_init (wsX0_init) := ggX4_init_X0_init
set_option maxRecDepth 20000 in
theorem ggX4_init_X2_init : GoodIn wsX4_init wsX2_init := goodIn_r _ [28, 29, 2, 3] (by decide +kernel) (by decide +kernel)
set_option maxRecDepth 20000 in
theorem gX4_init_X2_init_n41 : GoodIn wsX4_init (wsX2_init) := ggX4_init_X2_init
set_option maxRecDepth 20000 in
theorem ggX4_init_X1_init : GoodIn wsX4_init wsX1_init := goodIn_r _ [31, 32, 2, 3, 33, 34, 35, 36, 37, 90, 91, 92, 93, 94, 95, 96] (by decide +kernel) (by decide +kernel)
set_option maxRecDepth 20000 in
theorem gX4_init_X1_init_n46 : GoodIn wsX4_init (wsX1_init) := ggX4_init_X1_init
set_option maxRecDepth 20000 in
theorem ggX4_init_X3_init : GoodIn wsX4_init wsX3_init := goodIn_r _ [39, 40, 2, 3] (by decide +kernel) (by decide +kernel)
set_option maxRecDepth 20000 in
theorem gX4_init_X3_init_n47 : GoodIn wsX4_init (wsX3_init) := ggX4_init_X3_init
set_option maxRecDepth 20000 in
theorem ggX4_init_X4_startAnew : GoodIn wsX4_init wsX4_startAnew := goodIn_r _ [45, 46, 47, 48, 9, 49, 12, 50, 51, 52, 53, 54, 55, 56, 57, 11, 58, 59, 60, 61, 62, 63, 64, 65, 66, 67, 68, 69, 70, 71, 72, 73, 74, 75, 76, 77, 78, 79, 80, 81, 82, 83, 84] (by decide +kernel) (by decide +kernel)
set_option maxRecDepth 20000 in
theorem gX4_init_X4_startAnew : GoodIn wsX4_init (wsV RX4 48 RX4 yX4_startAnew wsX4_startAnew) := goodIn_app (goodIn_of _ (by decide +kernel)) ggX4_init_X4_startAnew
theorem dX4_init_0 : decode cX4_init 0 = .ok (.aload_n 0, 1) := by decide +kernel
theorem dX4_init_1 : decode cX4_init 1 = .ok (.invokespecial 1, 3) := by decide +kernel
theorem dX4_init_4 : decode cX4_init 4 = .ok (.aload_n 0, 1) := by decide +kernel
theorem dX4_init_5 : decode cX4_init 5 = .ok (.bipush 16, 2) := by decide +kernel
theorem dX4_init_7 : decode cX4_init 7 = .ok (.anewarray 9, 3) := by decide +kernel
theorem dX4_init_10 : decode cX4_init 10 = .ok (.putfield 11, 3) := by decide +kernel
theorem dX4_init_13 : decode cX4_init 13 = .ok (.aload_n 0, 1) := by decide +kernel
theorem dX4_init_14 : decode cX4_init 14 = .ok (.bipush 16, 2) := by decide +kernel
theorem dX4_init_16 : decode cX4_init 16 = .ok (.anewarray 15, 3) := by decide +kernel
theorem dX4_init_19 : decode cX4_init 19 = .ok (.putfield 17, 3) := by decide +kernel
theorem dX4_init_22 : decode cX4_init 22 = .ok (.aload_n 0, 1) := by decide +kernel
theorem dX4_init_23 : decode cX4_init 23 = .ok (.bipush 24, 2) := by decide +kernel
theorem dX4_init_25 : decode cX4_init 25 = .ok (.newarray .int, 2) := by decide +kernel
theorem dX4_init_27 : decode cX4_init 27 = .ok (.putfield 21, 3) := by decide +kernel
theorem dX4_init_30 : decode cX4_init 30 = .ok (.aload_n 0, 1) := by decide +kernel
theorem dX4_init_31 : decode cX4_init 31 = .ok (.new 15, 3) := by decide +kernel
theorem dX4_init_34 : decode cX4_init 34 = .ok (.dup, 1) := by decide +kernel
theorem dX4_init_35 : decode cX4_init 35 = .ok (.invokespecial 25, 3) := by decide +kernel
theorem dX4_init_38 : decode cX4_init 38 = .ok (.putfield 26, 3) := by decide +kernel
theorem dX4_init_41 : decode cX4_init 41 = .ok (.aload_n 0, 1) := by decide +kernel
theorem dX4_init_42 : decode cX4_init 42 = .ok (.bipush 8, 2) := by decide +kernel
theorem dX4_init_44 : decode cX4_init 44 = .ok (.anewarray 30, 3) := by decide +kernel
theorem dX4_init_47 : decode cX4_init 47 = .ok (.putfield 32, 3) := by decide +kernel
theorem dX4_init_50 : decode cX4_init 50 = .ok (.aload_n 0, 1) := by decide +kernel
theorem dX4_init_51 : decode cX4_init 51 = .ok (.new 15, 3) := by decide +kernel
theorem dX4_init_54 : decode cX4_init 54 = .ok (.dup, 1) := by decide +kernel
theorem dX4_init_55 : decode cX4_init 55 = .ok (.invokespecial 25, 3) := by decide +kernel
theorem dX4_init_58 : decode cX4_init 58 = .ok (.putfield 36, 3) := by decide +kernel
theorem dX4_init_61 : decode cX4_init 61 = .ok (.aload_n 0, 1) := by decide +kernel
theorem dX4_init_62 : decode cX4_init 62 = .ok (.new 39, 3) := by decide +kernel
theorem dX4_init_65 : decode cX4_init 65 = .ok (.dup, 1) := by decide +kernel
theorem dX4_init_66 : decode cX4_init 66 = .ok (.invokespecial 41, 3) := by decide +kernel
theorem dX4_init_69 : decode cX4_init 69 = .ok (.putfield 42, 3) := by decide +kernel
theorem dX4_init_72 : decode cX4_init 72 = .ok (.iconst 0, 1) := by decide +kernel
theorem dX4_init_73 : decode cX4_init 73 = .ok (.istore_n 1, 1) := by decide +kernel
theorem dX4_init_74 : decode cX4_init 74 = .ok (.iload_n 1, 1) := by decide +kernel
theorem dX4_init_75 : decode cX4_init 75 = .ok (.bipush 16, 2) := by decide +kernel
theorem dX4_init_77 : decode cX4_init 77 = .ok (.if_icmp .ge 22, 3) := by decide +kernel
theorem dX4_init_80 : decode cX4_init 80 = .ok (.aload_n 0, 1) := by decide +kernel
theorem dX4_init_81 : decode cX4_init 81 = .ok (.getfield 11, 3) := by decide +kernel
theorem dX4_init_84 : decode cX4_init 84 = .ok (.iload_n 1, 1) := by decide +kernel
theorem dX4_init_85 : decode cX4_init 85 = .ok (.new 9, 3) := by decide +kernel
theorem dX4_init_88 : decode cX4_init 88 = .ok (.dup, 1) := by decide +kernel
theorem dX4_init_89 : decode cX4_init 89 = .ok (.invokespecial 46, 3) := by decide +kernel
theorem dX4_init_92 : decode cX4_init 92 = .ok (.aastore, 1) := by decide +kernel
theorem dX4_init_93 : decode cX4_init 93 = .ok (.iinc 1 1, 3) := by decide +kernel
theorem dX4_init_96 : decode cX4_init 96 = .ok (.goto (-22), 3) := by decide +kernel
theorem dX4_init_99 : decode cX4_init 99 = .ok (.iconst 0, 1) := by decide +kernel
theorem dX4_init_100 : decode cX4_init 100 = .ok (.istore_n 1, 1) := by decide +kernel
theorem dX4_init_101 : decode cX4_init 101 = .ok (.iload_n 1, 1) := by decide +kernel
theorem dX4_init_102 : decode cX4_init 102 = .ok (.bipush 16, 2) := by decide +kernel
theorem dX4_init_104 : decode cX4_init 104 = .ok (.if_icmp .ge 22, 3) := by decide +kernel
theorem dX4_init_107 : decode cX4_init 107 = .ok (.aload_n 0, 1) := by decide +kernel
theorem dX4_init_108 : decode cX4_init 108 = .ok (.getfield 17, 3) := by decide +kernel
theorem dX4_init_111 : decode cX4_init 111 = .ok (.iload_n 1, 1) := by decide +kernel
theorem dX4_init_112 : decode cX4_init 112 = .ok (.new 15, 3) := by decide +kernel
theorem dX4_init_115 : decode cX4_init 115 = .ok (.dup, 1) := by decide +kernel
theorem dX4_init_116 : decode cX4_init 116 = .ok (.invokespecial 25, 3) := by decide +kernel
theorem dX4_init_119 : decode cX4_init 119 = .ok (.aastore, 1) := by decide +kernel
theorem dX4_init_120 : decode cX4_init 120 = .ok (.iinc 1 1, 3) := by decide +kernel
theorem dX4_init_123 : decode cX4_init 123 = .ok (.goto (-22), 3) := by decide +kernel
theorem dX4_init_126 : decode cX4_init 126 = .ok (.iconst 0, 1) := by decide +kernel
theorem dX4_init_127 : decode cX4_init 127 = .ok (.istore_n 1, 1) := by decide +kernel
theorem dX4_init_128 : decode cX4_init 128 = .ok (.iload_n 1, 1) := by decide +kernel
theorem dX4_init_129 : decode cX4_init 129 = .ok (.bipush 8, 2) := by decide +kernel
theorem dX4_init_131 : decode cX4_init 131 = .ok (.if_icmp .ge 22, 3) := by decide +kernel
theorem dX4_init_134 : decode cX4_init 134 = .ok (.aload_n 0, 1) := by decide +kernel
theorem dX4_init_135 : decode cX4_init 135 = .ok (.getfield 32, 3) := by decide +kernel
theorem dX4_init_138 : decode cX4_init 138 = .ok (.iload_n 1, 1) := by decide +kernel
theorem dX4_init_139 : decode cX4_init 139 = .ok (.new 30, 3) := by decide +kernel
theorem dX4_init_142 : decode cX4_init 142 = .ok (.dup, 1) := by decide +kernel
theorem dX4_init_143 : decode cX4_init 143 = .ok (.invokespecial 47, 3) := by decide +kernel
theorem dX4_init_146 : decode cX4_init 146 = .ok (.aastore, 1) := by decide +kernel
theorem dX4_init_147 : decode cX4_init 147 = .ok (.iinc 1 1, 3) := by decide +kernel
theorem dX4_init_150 : decode cX4_init 150 = .ok (.goto (-22), 3) := by decide +kernel
theorem dX4_init_153 : decode cX4_init 153 = .ok (.aload_n 0, 1) := by decide +kernel
theorem dX4_init_154 : decode cX4_init 154 = .ok (.invokevirtual 48, 3) := by decide +kernel
theorem dX4_init_157 : decode cX4_init 157 = .ok (.return_, 1) := by decide +kernel
set_option maxRecDepth 20000 in
theorem ggX4_shape_X1_empty : GoodIn wsX4_shape wsX1_empty := goodIn_r _ [9, 10, 11, 12, 23, 24, 25, 26, 27, 28, 29] (by decide +kernel) (by decide +kernel)
set_option maxRecDepth 20000 in
theorem gX4_shape_X1_empty : GoodIn wsX4_shape (wsV RX4 62 RX1 yX1_empty wsX1_empty) := goodIn_app (goodIn_of _ (by decide +kernel)) ggX4_shape_X1_empty
theorem dX4_shape_0 : decode cX4_shape 0 = .ok (.aload_n 0, 1) := by decide +kernel
theorem dX4_shape_1 : decode cX4_shape 1 = .ok (.getfield 51, 3) := by decide +kernel
theorem dX4_shape_4 : decode cX4_shape 4 = .ok (.bipush 16, 2) := by decide +kernel
theorem dX4_shape_6 : decode cX4_shape 6 = .ok (.if_icmp .lt 13, 3) := by decide +kernel
theorem dX4_shape_9 : decode cX4_shape 9 = .ok (.new 55, 3) := by decide +kernel
theorem dX4_shape_12 : decode cX4_shape 12 = .ok (.dup, 1) := by decide +kernel
theorem dX4_shape_13 : decode cX4_shape 13 = .ok (.ldc 57, 2) := by decide +kernel
theorem dX4_shape_15 : decode cX4_shape 15 = .ok (.invokespecial 59, 3) := by decide +kernel
theorem dX4_shape_18 : decode cX4_shape 18 = .ok (.athrow, 1) := by decide +kernel
theorem dX4_shape_19 : decode cX4_shape 19 = .ok (.aload_n 0, 1) := by decide +kernel
theorem dX4_shape_20 : decode cX4_shape 20 = .ok (.getfield 11, 3) := by decide +kernel
theorem dX4_shape_23 : decode cX4_shape 23 = .ok (.aload_n 0, 1) := by decide +kernel
theorem dX4_shape_24 : decode cX4_shape 24 = .ok (.getfield 51, 3) := by decide +kernel
theorem dX4_shape_27 : decode cX4_shape 27 = .ok (.aaload, 1) := by decide +kernel
theorem dX4_shape_28 : decode cX4_shape 28 = .ok (.invokevirtual 62, 3) := by decide +kernel
theorem dX4_shape_31 : decode cX4_shape 31 = .ok (.aload_n 0, 1) := by decide +kernel
theorem dX4_shape_32 : decode cX4_shape 32 = .ok (.dup, 1) := by decide +kernel
theorem dX4_shape_33 : decode cX4_shape 33 = .ok (.getfield 51, 3) := by decide +kernel
theorem dX4_shape_36 : decode cX4_shape 36 = .ok (.iconst 1, 1) := by decide +kernel
theorem dX4_shape_37 : decode cX4_shape 37 = .ok (.iadd, 1) := by decide +kernel
theorem dX4_shape_38 : decode cX4_shape 38 = .ok (.putfield 51, 3) := by decide +kernel
theorem dX4_shape_41 : decode cX4_shape 41 = .ok (.aload_n 0, 1) := by decide +kernel
theorem dX4_shape_42 : decode cX4_shape 42 = .ok (.getfield 51, 3) := by decide +kernel
theorem dX4_shape_45 : decode cX4_shape 45 = .ok (.iconst 1, 1) := by decide +kernel
theorem dX4_shape_46 : decode cX4_shape 46 = .ok (.isub, 1) := by decide +kernel
theorem dX4_shape_47 : decode cX4_shape 47 = .ok (.ireturn, 1) := by decide +kernel
set_option maxRecDepth 20000 in
theorem ggX4_point_X4_needIndex : GoodIn wsX4_point wsX4_needIndex := goodIn_ca (goodIn_r _ [9, 10, 11] (by decide +kernel) (by decide +kernel)) (goodIn_sub (fun _ h => List.mem_cons_of_mem _ (List.mem_append_left _ (List.mem_append_right _ h))) (by decide +kernel))
set_option maxRecDepth 20000 in
theorem gX4_point_X4_needIndex : GoodIn wsX4_point (va_wsS RX4 65 yX4_needIndex wsX4_needIndex) := goodIn_app (goodIn_of _ (by decide +kernel)) ggX4_point_X4_needIndex
set_option maxRecDepth 20000 in
theorem ggX4_point_X4_needInRange : GoodIn wsX4_point wsX4_needInRange := goodIn_ca (goodIn_r _ [14, 15, 16, 17, 18] (by decide +kernel) (by decide +kernel)) (goodIn_sub (fun _ h => List.mem_cons_of_mem _ (List.mem_append_right _ h)) (by decide +kernel))
set_option maxRecDepth 20000 in
theorem gX4_point_X4_needInRange : GoodIn wsX4_point (va_wsS RX4 74 yX4_needInRange wsX4_needInRange) := goodIn_app (goodIn_of _ (by decide +kernel)) ggX4_point_X4_needInRange
set_option maxRecDepth 20000 in
theorem ggX4_point_X1_take : GoodIn wsX4_point wsX1_take := goodIn_r _ [23, 24, 25, 26, 27, 22, 28, 29, 30, 31, 32, 33, 34, 35, 36, 37, 38, 39, 40, 41, 42, 43, 44, 45, 46, 47, 48, 49, 50, 51, 52, 53, 54, 55, 56, 57, 58, 59, 60, 61, 62, 63, 64, 65, 66, 67, 68, 69, 70, 81, 82, 83, 84, 85, 86, 87] (by decide +kernel) (by decide +kernel)
set_option maxRecDepth 20000 in
theorem gX4_point_X1_take : GoodIn wsX4_point (wsV RX4 78 RX1 yX1_take wsX1_take) := goodIn_app (goodIn_of _ (by decide +kernel)) ggX4_point_X1_take
theorem dX4_point_0 : decode cX4_point 0 = .ok (.iload_n 1, 1) := by decide +kernel
theorem dX4_point_1 : decode cX4_point 1 = .ok (.aload_n 0, 1) := by decide +kernel
theorem dX4_point_2 : decode cX4_point 2 = .ok (.getfield 51, 3) := by decide +kernel
theorem dX4_point_5 : decode cX4_point 5 = .ok (.invokestatic 65, 3) := by decide +kernel
theorem dX4_point_8 : decode cX4_point 8 = .ok (.aload_n 0, 1) := by decide +kernel
theorem dX4_point_9 : decode cX4_point 9 = .ok (.getfield 11, 3) := by decide +kernel
theorem dX4_point_12 : decode cX4_point 12 = .ok (.iload_n 1, 1) := by decide +kernel
theorem dX4_point_13 : decode cX4_point 13 = .ok (.aaload, 1) := by decide +kernel
theorem dX4_point_14 : decode cX4_point 14 = .ok (.astore 6, 2) := by decide +kernel
theorem dX4_point_16 : decode cX4_point 16 = .ok (.aload 6, 2) := by decide +kernel
theorem dX4_point_18 : decode cX4_point 18 = .ok (.getfield 69, 3) := by decide +kernel
theorem dX4_point_21 : decode cX4_point 21 = .ok (.bipush 16, 2) := by decide +kernel
theorem dX4_point_23 : decode cX4_point 23 = .ok (.if_icmp .lt 13, 3) := by decide +kernel
theorem dX4_point_26 : decode cX4_point 26 = .ok (.new 55, 3) := by decide +kernel
theorem dX4_point_29 : decode cX4_point 29 = .ok (.dup, 1) := by decide +kernel
theorem dX4_point_30 : decode cX4_point 30 = .ok (.ldc 72, 2) := by decide +kernel
theorem dX4_point_32 : decode cX4_point 32 = .ok (.invokespecial 59, 3) := by decide +kernel
theorem dX4_point_35 : decode cX4_point 35 = .ok (.athrow, 1) := by decide +kernel
theorem dX4_point_36 : decode cX4_point 36 = .ok (.lload_n 2, 1) := by decide +kernel
theorem dX4_point_37 : decode cX4_point 37 = .ok (.lload 4, 2) := by decide +kernel
theorem dX4_point_39 : decode cX4_point 39 = .ok (.invokestatic 74, 3) := by decide +kernel
theorem dX4_point_42 : decode cX4_point 42 = .ok (.aload 6, 2) := by decide +kernel
theorem dX4_point_44 : decode cX4_point 44 = .ok (.lload_n 2, 1) := by decide +kernel
theorem dX4_point_45 : decode cX4_point 45 = .ok (.lload 4, 2) := by decide +kernel
theorem dX4_point_47 : decode cX4_point 47 = .ok (.invokevirtual 78, 3) := by decide +kernel
theorem dX4_point_50 : decode cX4_point 50 = .ok (.ireturn, 1) := by decide +kernel
set_option maxRecDepth 20000 in
theorem ggX4_corners_X4_needIndex : GoodIn wsX4_corners wsX4_needIndex := goodIn_ca (goodIn_r _ [7, 8, 9] (by decide +kernel) (by decide +kernel)) (goodIn_sub (fun _ h => List.mem_cons_of_mem _ (List.mem_append_right _ h)) (by decide +kernel))
set_option maxRecDepth 20000 in
theorem gX4_corners_X4_needIndex : GoodIn wsX4_corners (va_wsS RX4 65 yX4_needIndex wsX4_needIndex) := goodIn_app (goodIn_of _ (by decide +kernel)) ggX4_corners_X4_needIndex
theorem dX4_corners_0 : decode cX4_corners 0 = .ok (.iload_n 1, 1) := by decide +kernel
theorem dX4_corners_1 : decode cX4_corners 1 = .ok (.aload_n 0, 1) := by decide +kernel
theorem dX4_corners_2 : decode cX4_corners 2 = .ok (.getfield 51, 3) := by decide +kernel
theorem dX4_corners_5 : decode cX4_corners 5 = .ok (.invokestatic 65, 3) := by decide +kernel
theorem dX4_corners_8 : decode cX4_corners 8 = .ok (.aload_n 0, 1) := by decide +kernel
theorem dX4_corners_9 : decode cX4_corners 9 = .ok (.getfield 11, 3) := by decide +kernel
theorem dX4_corners_12 : decode cX4_corners 12 = .ok (.iload_n 1, 1) := by decide +kernel
theorem dX4_corners_13 : decode cX4_corners 13 = .ok (.aaload, 1) := by decide +kernel
theorem dX4_corners_14 : decode cX4_corners 14 = .ok (.getfield 82, 3) := by decide +kernel
theorem dX4_corners_17 : decode cX4_corners 17 = .ok (.ireturn, 1) := by decide +kernel
set_option maxRecDepth 20000 in
theorem ggX4_corner_X4_needIndex : GoodIn wsX4_corner wsX4_needIndex := goodIn_ca (goodIn_r _ [9, 10, 11] (by decide +kernel) (by decide +kernel)) (goodIn_sub (fun _ h => List.mem_cons_of_mem _ (List.mem_append_right _ h)) (by decide +kernel))
set_option maxRecDepth 20000 in
theorem gX4_corner_X4_needIndex : GoodIn wsX4_corner (va_wsS RX4 65 yX4_needIndex wsX4_needIndex) := goodIn_app (goodIn_of _ (by decide +kernel)) ggX4_corner_X4_needIndex
theorem dX4_corner_0 : decode cX4_corner 0 = .ok (.iload_n 1, 1) := by decide +kernel
theorem dX4_corner_1 : decode cX4_corner 1 = .ok (.aload_n 0, 1) := by decide +kernel
theorem dX4_corner_2 : decode cX4_corner 2 = .ok (.getfield 51, 3) := by decide +kernel
theorem dX4_corner_5 : decode cX4_corner 5 = .ok (.invokestatic 65, 3) := by decide +kernel
theorem dX4_corner_8 : decode cX4_corner 8 = .ok (.aload_n 0, 1) := by decide +kernel
theorem dX4_corner_9 : decode cX4_corner 9 = .ok (.getfield 11, 3) := by decide +kernel
theorem dX4_corner_12 : decode cX4_corner 12 = .ok (.iload_n 1, 1) := by decide +kernel
theorem dX4_corner_13 : decode cX4_corner 13 = .ok (.aaload, 1) := by decide +kernel
theorem dX4_corner_14 : decode cX4_corner 14 = .ok (.astore 4, 2) := by decide +kernel
theorem dX4_corner_16 : decode cX4_corner 16 = .ok (.iload_n 2, 1) := by decide +kernel
theorem dX4_corner_17 : decode cX4_corner 17 = .ok (.aload 4, 2) := by decide +kernel
theorem dX4_corner_19 : decode cX4_corner 19 = .ok (.getfield 82, 3) := by decide +kernel
theorem dX4_corner_22 : decode cX4_corner 22 = .ok (.invokestatic 65, 3) := by decide +kernel
theorem dX4_corner_25 : decode cX4_corner 25 = .ok (.iload_n 3, 1) := by decide +kernel
theorem dX4_corner_26 : decode cX4_corner 26 = .ok (.iconst 2, 1) := by decide +kernel
theorem dX4_corner_27 : decode cX4_corner 27 = .ok (.invokestatic 65, 3) := by decide +kernel
theorem dX4_corner_30 : decode cX4_corner 30 = .ok (.iload_n 3, 1) := by decide +kernel
theorem dX4_corner_31 : decode cX4_corner 31 = .ok (.ifCond .ne 13, 3) := by decide +kernel
theorem dX4_corner_34 : decode cX4_corner 34 = .ok (.aload 4, 2) := by decide +kernel
theorem dX4_corner_36 : decode cX4_corner 36 = .ok (.getfield 85, 3) := by decide +kernel
theorem dX4_corner_39 : decode cX4_corner 39 = .ok (.iload_n 2, 1) := by decide +kernel
theorem dX4_corner_40 : decode cX4_corner 40 = .ok (.laload, 1) := by decide +kernel
theorem dX4_corner_41 : decode cX4_corner 41 = .ok (.goto 10, 3) := by decide +kernel
theorem dX4_corner_44 : decode cX4_corner 44 = .ok (.aload 4, 2) := by decide +kernel
theorem dX4_corner_46 : decode cX4_corner 46 = .ok (.getfield 89, 3) := by decide +kernel
theorem dX4_corner_49 : decode cX4_corner 49 = .ok (.iload_n 2, 1) := by decide +kernel
theorem dX4_corner_50 : decode cX4_corner 50 = .ok (.laload, 1) := by decide +kernel
theorem dX4_corner_51 : decode cX4_corner 51 = .ok (.lreturn, 1) := by decide +kernel
set_option maxRecDepth 20000 in
theorem ggX4_apart_X4_needIndex : GoodIn wsX4_apart wsX4_needIndex := goodIn_ca (goodIn_r _ [6, 7, 8] (by decide +kernel) (by decide +kernel)) (goodIn_sub (fun _ h => List.mem_cons_of_mem _ (List.mem_append_right _ h)) (by decide +kernel))
set_option maxRecDepth 20000 in
theorem gX4_apart_X4_needIndex : GoodIn wsX4_apart (va_wsS RX4 65 yX4_needIndex wsX4_needIndex) := goodIn_app (goodIn_of _ (by decide +kernel)) ggX4_apart_X4_needIndex
set_option maxRecDepth 20000 in
theorem ggX4_apart_X1_isApartFrom : GoodIn wsX4_apart wsX1_isApartFrom := goodIn_r _ [13, 14, 15, 16, 17, 12, 18, 19, 20, 21, 22, 23, 24, 25, 26, 27, 28, 29, 30, 31, 32, 33, 34, 35, 36, 47, 48, 49, 50, 51, 52, 53] (by decide +kernel) (by decide +kernel)
set_option maxRecDepth 20000 in
theorem gX4_apart_X1_isApartFrom : GoodIn wsX4_apart (wsV RX4 92 RX1 yX1_isApartFrom wsX1_isApartFrom) := goodIn_app (goodIn_of _ (by decide +kernel)) ggX4_apart_X1_isApartFrom
theorem dX4_apart_0 : decode cX4_apart 0 = .ok (.iload_n 1, 1) := by decide +kernel
theorem dX4_apart_1 : decode cX4_apart 1 = .ok (.aload_n 0, 1) := by decide +kernel
theorem dX4_apart_2 : decode cX4_apart 2 = .ok (.getfield 51, 3) := by decide +kernel
theorem dX4_apart_5 : decode cX4_apart 5 = .ok (.invokestatic 65, 3) := by decide +kernel
theorem dX4_apart_8 : decode cX4_apart 8 = .ok (.iload_n 2, 1) := by decide +kernel
theorem dX4_apart_9 : decode cX4_apart 9 = .ok (.aload_n 0, 1) := by decide +kernel
theorem dX4_apart_10 : decode cX4_apart 10 = .ok (.getfield 51, 3) := by decide +kernel
theorem dX4_apart_13 : decode cX4_apart 13 = .ok (.invokestatic 65, 3) := by decide +kernel
theorem dX4_apart_16 : decode cX4_apart 16 = .ok (.aload_n 0, 1) := by decide +kernel
theorem dX4_apart_17 : decode cX4_apart 17 = .ok (.getfield 11, 3) := by decide +kernel
theorem dX4_apart_20 : decode cX4_apart 20 = .ok (.iload_n 1, 1) := by decide +kernel
theorem dX4_apart_21 : decode cX4_apart 21 = .ok (.aaload, 1) := by decide +kernel
theorem dX4_apart_22 : decode cX4_apart 22 = .ok (.aload_n 0, 1) := by decide +kernel
theorem dX4_apart_23 : decode cX4_apart 23 = .ok (.getfield 11, 3) := by decide +kernel
theorem dX4_apart_26 : decode cX4_apart 26 = .ok (.iload_n 2, 1) := by decide +kernel
theorem dX4_apart_27 : decode cX4_apart 27 = .ok (.aaload, 1) := by decide +kernel
theorem dX4_apart_28 : decode cX4_apart 28 = .ok (.invokevirtual 92, 3) := by decide +kernel
theorem dX4_apart_31 : decode cX4_apart 31 = .ok (.ireturn, 1) := by decide +kernel
set_option maxRecDepth 20000 in
theorem ggX4_box_X4_needInRange : GoodIn wsX4_box wsX4_needInRange := goodIn_ca (goodIn_r _ [10, 3, 4, 11, 12] (by decide +kernel) (by decide +kernel)) (goodIn_sub (fun _ h => List.mem_cons_of_mem _ (List.mem_append_right _ h)) (by decide +kernel))
set_option maxRecDepth 20000 in
theorem gX4_box_X4_needInRange : GoodIn wsX4_box (va_wsS RX4 74 yX4_needInRange wsX4_needInRange) := goodIn_app (goodIn_of _ (by decide +kernel)) ggX4_box_X4_needInRange
set_option maxRecDepth 20000 in
theorem ggX4_box_X0_put : GoodIn wsX4_box wsX0_put := goodIn_r _ [17, 18, 19, 20, 21, 22, 23, 24, 16, 25, 26, 27, 38, 39, 40, 41, 42, 43] (by decide +kernel) (by decide +kernel)
set_option maxRecDepth 20000 in
theorem gX4_box_X0_put : GoodIn wsX4_box (wsV RX4 106 RX0 yX0_put wsX0_put) := goodIn_app (goodIn_of _ (by decide +kernel)) ggX4_box_X0_put
theorem dX4_box_0 : decode cX4_box 0 = .ok (.aload_n 0, 1) := by decide +kernel
theorem dX4_box_1 : decode cX4_box 1 = .ok (.getfield 96, 3) := by decide +kernel
theorem dX4_box_4 : decode cX4_box 4 = .ok (.bipush 16, 2) := by decide +kernel
theorem dX4_box_6 : decode cX4_box 6 = .ok (.if_icmp .lt 13, 3) := by decide +kernel
theorem dX4_box_9 : decode cX4_box 9 = .ok (.new 55, 3) := by decide +kernel
theorem dX4_box_12 : decode cX4_box 12 = .ok (.dup, 1) := by decide +kernel
theorem dX4_box_13 : decode cX4_box 13 = .ok (.ldc 99, 2) := by decide +kernel
theorem dX4_box_15 : decode cX4_box 15 = .ok (.invokespecial 59, 3) := by decide +kernel
theorem dX4_box_18 : decode cX4_box 18 = .ok (.athrow, 1) := by decide +kernel
theorem dX4_box_19 : decode cX4_box 19 = .ok (.lload_n 1, 1) := by decide +kernel
theorem dX4_box_20 : decode cX4_box 20 = .ok (.lload_n 3, 1) := by decide +kernel
theorem dX4_box_21 : decode cX4_box 21 = .ok (.invokestatic 74, 3) := by decide +kernel
theorem dX4_box_24 : decode cX4_box 24 = .ok (.lload 5, 2) := by decide +kernel
theorem dX4_box_26 : decode cX4_box 26 = .ok (.lload 7, 2) := by decide +kernel
theorem dX4_box_28 : decode cX4_box 28 = .ok (.invokestatic 74, 3) := by decide +kernel
theorem dX4_box_31 : decode cX4_box 31 = .ok (.lload_n 1, 1) := by decide +kernel
theorem dX4_box_32 : decode cX4_box 32 = .ok (.lload 5, 2) := by decide +kernel
theorem dX4_box_34 : decode cX4_box 34 = .ok (.lcmp, 1) := by decide +kernel
theorem dX4_box_35 : decode cX4_box 35 = .ok (.ifCond .gt 10, 3) := by decide +kernel
theorem dX4_box_38 : decode cX4_box 38 = .ok (.lload_n 3, 1) := by decide +kernel
theorem dX4_box_39 : decode cX4_box 39 = .ok (.lload 7, 2) := by decide +kernel
theorem dX4_box_41 : decode cX4_box 41 = .ok (.lcmp, 1) := by decide +kernel
theorem dX4_box_42 : decode cX4_box 42 = .ok (.ifCond .le 13, 3) := by decide +kernel
theorem dX4_box_45 : decode cX4_box 45 = .ok (.new 101, 3) := by decide +kernel
theorem dX4_box_48 : decode cX4_box 48 = .ok (.dup, 1) := by decide +kernel
theorem dX4_box_49 : decode cX4_box 49 = .ok (.ldc 103, 2) := by decide +kernel
theorem dX4_box_51 : decode cX4_box 51 = .ok (.invokespecial 105, 3) := by decide +kernel
theorem dX4_box_54 : decode cX4_box 54 = .ok (.athrow, 1) := by decide +kernel
theorem dX4_box_55 : decode cX4_box 55 = .ok (.aload_n 0, 1) := by decide +kernel
theorem dX4_box_56 : decode cX4_box 56 = .ok (.getfield 17, 3) := by decide +kernel
theorem dX4_box_59 : decode cX4_box 59 = .ok (.aload_n 0, 1) := by decide +kernel
theorem dX4_box_60 : decode cX4_box 60 = .ok (.getfield 96, 3) := by decide +kernel
theorem dX4_box_63 : decode cX4_box 63 = .ok (.aaload, 1) := by decide +kernel
theorem dX4_box_64 : decode cX4_box 64 = .ok (.lload_n 1, 1) := by decide +kernel
theorem dX4_box_65 : decode cX4_box 65 = .ok (.lload_n 3, 1) := by decide +kernel
theorem dX4_box_66 : decode cX4_box 66 = .ok (.lload 5, 2) := by decide +kernel
theorem dX4_box_68 : decode cX4_box 68 = .ok (.lload 7, 2) := by decide +kernel
theorem dX4_box_70 : decode cX4_box 70 = .ok (.invokevirtual 106, 3) := by decide +kernel
theorem dX4_box_73 : decode cX4_box 73 = .ok (.aload_n 0, 1) := by decide +kernel
theorem dX4_box_74 : decode cX4_box 74 = .ok (.dup, 1) := by decide +kernel
theorem dX4_box_75 : decode cX4_box 75 = .ok (.getfield 96, 3) := by decide +kernel
theorem dX4_box_78 : decode cX4_box 78 = .ok (.iconst 1, 1) := by decide +kernel
theorem dX4_box_79 : decode cX4_box 79 = .ok (.iadd, 1) := by decide +kernel
theorem dX4_box_80 : decode cX4_box 80 = .ok (.putfield 96, 3) := by decide +kernel
theorem dX4_box_83 : decode cX4_box 83 = .ok (.aload_n 0, 1) := by decide +kernel
theorem dX4_box_84 : decode cX4_box 84 = .ok (.getfield 96, 3) := by decide +kernel
theorem dX4_box_87 : decode cX4_box 87 = .ok (.iconst 1, 1) := by decide +kernel
theorem dX4_box_88 : decode cX4_box 88 = .ok (.isub, 1) := by decide +kernel
theorem dX4_box_89 : decode cX4_box 89 = .ok (.ireturn, 1) := by decide +kernel
set_option maxRecDepth 20000 in
theorem ggX4_move_X4_needIndex : GoodIn wsX4_move wsX4_needIndex := goodIn_ca (goodIn_r _ [8, 9, 10] (by decide +kernel) (by decide +kernel)) (goodIn_sub (fun _ h => List.mem_cons_of_mem _ (List.mem_append_left _ (List.mem_append_right _ h))) (by decide +kernel))
set_option maxRecDepth 20000 in
theorem gX4_move_X4_needIndex : GoodIn wsX4_move (va_wsS RX4 65 yX4_needIndex wsX4_needIndex) := goodIn_app (goodIn_of _ (by decide +kernel)) ggX4_move_X4_needIndex
set_option maxRecDepth 20000 in
theorem ggX4_move_X4_needInRange : GoodIn wsX4_move wsX4_needInRange := goodIn_ca (goodIn_r _ [13, 14, 15, 16, 17] (by decide +kernel) (by decide +kernel)) (goodIn_sub (fun _ h => List.mem_cons_of_mem _ (List.mem_append_right _ h)) (by decide +kernel))
set_option maxRecDepth 20000 in
theorem gX4_move_X4_needInRange : GoodIn wsX4_move (va_wsS RX4 74 yX4_needInRange wsX4_needInRange) := goodIn_app (goodIn_of _ (by decide +kernel)) ggX4_move_X4_needInRange
set_option maxRecDepth 20000 in
theorem ggX4_move_X0_head : GoodIn wsX4_move wsX0_head := goodIn_r _ [22, 23, 24, 35, 36, 37, 38, 39, 40] (by decide +kernel) (by decide +kernel)
set_option maxRecDepth 20000 in
theorem gX4_move_X0_head : GoodIn wsX4_move (wsV RX4 117 RX0 yX0_head wsX0_head) := goodIn_app (goodIn_of _ (by decide +kernel)) ggX4_move_X0_head
theorem dX4_move_0 : decode cX4_move 0 = .ok (.iload_n 1, 1) := by decide +kernel
theorem dX4_move_1 : decode cX4_move 1 = .ok (.aload_n 0, 1) := by decide +kernel
theorem dX4_move_2 : decode cX4_move 2 = .ok (.getfield 96, 3) := by decide +kernel
theorem dX4_move_5 : decode cX4_move 5 = .ok (.invokestatic 65, 3) := by decide +kernel
theorem dX4_move_8 : decode cX4_move 8 = .ok (.lload_n 2, 1) := by decide +kernel
theorem dX4_move_9 : decode cX4_move 9 = .ok (.lload 4, 2) := by decide +kernel
theorem dX4_move_11 : decode cX4_move 11 = .ok (.invokestatic 74, 3) := by decide +kernel
theorem dX4_move_14 : decode cX4_move 14 = .ok (.aload_n 0, 1) := by decide +kernel
theorem dX4_move_15 : decode cX4_move 15 = .ok (.getfield 17, 3) := by decide +kernel
theorem dX4_move_18 : decode cX4_move 18 = .ok (.iload_n 1, 1) := by decide +kernel
theorem dX4_move_19 : decode cX4_move 19 = .ok (.aaload, 1) := by decide +kernel
theorem dX4_move_20 : decode cX4_move 20 = .ok (.astore 6, 2) := by decide +kernel
theorem dX4_move_22 : decode cX4_move 22 = .ok (.aload 6, 2) := by decide +kernel
theorem dX4_move_24 : decode cX4_move 24 = .ok (.getfield 110, 3) := by decide +kernel
theorem dX4_move_27 : decode cX4_move 27 = .ok (.lload_n 2, 1) := by decide +kernel
theorem dX4_move_28 : decode cX4_move 28 = .ok (.lcmp, 1) := by decide +kernel
theorem dX4_move_29 : decode cX4_move 29 = .ok (.ifCond .ne 14, 3) := by decide +kernel
theorem dX4_move_32 : decode cX4_move 32 = .ok (.aload 6, 2) := by decide +kernel
theorem dX4_move_34 : decode cX4_move 34 = .ok (.getfield 114, 3) := by decide +kernel
theorem dX4_move_37 : decode cX4_move 37 = .ok (.lload 4, 2) := by decide +kernel
theorem dX4_move_39 : decode cX4_move 39 = .ok (.lcmp, 1) := by decide +kernel
theorem dX4_move_40 : decode cX4_move 40 = .ok (.ifCond .eq 7, 3) := by decide +kernel
theorem dX4_move_43 : decode cX4_move 43 = .ok (.iconst 1, 1) := by decide +kernel
theorem dX4_move_44 : decode cX4_move 44 = .ok (.goto 4, 3) := by decide +kernel
theorem dX4_move_47 : decode cX4_move 47 = .ok (.iconst 0, 1) := by decide +kernel
theorem dX4_move_48 : decode cX4_move 48 = .ok (.istore 7, 2) := by decide +kernel
theorem dX4_move_50 : decode cX4_move 50 = .ok (.aload 6, 2) := by decide +kernel
theorem dX4_move_52 : decode cX4_move 52 = .ok (.lload_n 2, 1) := by decide +kernel
theorem dX4_move_53 : decode cX4_move 53 = .ok (.lload 4, 2) := by decide +kernel
theorem dX4_move_55 : decode cX4_move 55 = .ok (.invokevirtual 117, 3) := by decide +kernel
theorem dX4_move_58 : decode cX4_move 58 = .ok (.iload 7, 2) := by decide +kernel
theorem dX4_move_60 : decode cX4_move 60 = .ok (.ireturn, 1) := by decide +kernel
set_option maxRecDepth 20000 in
theorem ggX4_touch_X4_needMeeting : GoodIn wsX4_touch wsX4_needMeeting := goodIn_ca (goodIn_r _ [9, 10, 11, 12, 8, 13, 14, 15, 55, 56, 57, 58, 59, 60, 61, 62, 63, 64] (by decide +kernel) (by decide +kernel)) (goodIn_sub (fun _ h => List.mem_cons_of_mem _ (List.mem_append_right _ h)) (by decide +kernel))
set_option maxRecDepth 20000 in
theorem gX4_touch_X4_needMeeting : GoodIn wsX4_touch (wsV RX4 120 RX4 yX4_needMeeting wsX4_needMeeting) := goodIn_app (goodIn_of _ (by decide +kernel)) ggX4_touch_X4_needMeeting
set_option maxRecDepth 20000 in
theorem ggX4_touch_X2_seekTouch : GoodIn wsX4_touch wsX2_seekTouch := goodIn_r _ [20, 21, 22, 23, 24, 25, 26, 27, 28, 19, 29, 30, 31, 32, 33, 34, 35, 36, 37, 38, 39, 40, 41, 42, 43, 44, 45, 46, 47, 48, 49, 50, 51, 52, 53, 54, 65, 66, 67, 68, 69, 70, 71, 72, 73, 74, 75] (by decide +kernel) (by decide +kernel)
set_option maxRecDepth 20000 in
theorem gX4_touch_X2_seekTouch : GoodIn wsX4_touch (wsV RX4 124 RX2 yX2_seekTouch wsX2_seekTouch) := goodIn_app (goodIn_of _ (by decide +kernel)) ggX4_touch_X2_seekTouch
theorem dX4_touch_0 : decode cX4_touch 0 = .ok (.aload_n 0, 1) := by decide +kernel
theorem dX4_touch_1 : decode cX4_touch 1 = .ok (.iload_n 1, 1) := by decide +kernel
theorem dX4_touch_2 : decode cX4_touch 2 = .ok (.iload_n 2, 1) := by decide +kernel
theorem dX4_touch_3 : decode cX4_touch 3 = .ok (.iload_n 3, 1) := by decide +kernel
theorem dX4_touch_4 : decode cX4_touch 4 = .ok (.invokevirtual 120, 3) := by decide +kernel
theorem dX4_touch_7 : decode cX4_touch 7 = .ok (.aload_n 0, 1) := by decide +kernel
theorem dX4_touch_8 : decode cX4_touch 8 = .ok (.getfield 42, 3) := by decide +kernel
theorem dX4_touch_11 : decode cX4_touch 11 = .ok (.aload_n 0, 1) := by decide +kernel
theorem dX4_touch_12 : decode cX4_touch 12 = .ok (.getfield 17, 3) := by decide +kernel
theorem dX4_touch_15 : decode cX4_touch 15 = .ok (.iload_n 1, 1) := by decide +kernel
theorem dX4_touch_16 : decode cX4_touch 16 = .ok (.aaload, 1) := by decide +kernel
theorem dX4_touch_17 : decode cX4_touch 17 = .ok (.aload_n 0, 1) := by decide +kernel
theorem dX4_touch_18 : decode cX4_touch 18 = .ok (.getfield 17, 3) := by decide +kernel
theorem dX4_touch_21 : decode cX4_touch 21 = .ok (.iload_n 2, 1) := by decide +kernel
theorem dX4_touch_22 : decode cX4_touch 22 = .ok (.aaload, 1) := by decide +kernel
theorem dX4_touch_23 : decode cX4_touch 23 = .ok (.invokevirtual 124, 3) := by decide +kernel
theorem dX4_touch_26 : decode cX4_touch 26 = .ok (.pop, 1) := by decide +kernel
theorem dX4_touch_27 : decode cX4_touch 27 = .ok (.iload_n 3, 1) := by decide +kernel
theorem dX4_touch_28 : decode cX4_touch 28 = .ok (.ifCond .ne 13, 3) := by decide +kernel
theorem dX4_touch_31 : decode cX4_touch 31 = .ok (.aload_n 0, 1) := by decide +kernel
theorem dX4_touch_32 : decode cX4_touch 32 = .ok (.getfield 42, 3) := by decide +kernel
theorem dX4_touch_35 : decode cX4_touch 35 = .ok (.getfield 128, 3) := by decide +kernel
theorem dX4_touch_38 : decode cX4_touch 38 = .ok (.goto 10, 3) := by decide +kernel
theorem dX4_touch_41 : decode cX4_touch 41 = .ok (.aload_n 0, 1) := by decide +kernel
theorem dX4_touch_42 : decode cX4_touch 42 = .ok (.getfield 42, 3) := by decide +kernel
theorem dX4_touch_45 : decode cX4_touch 45 = .ok (.getfield 131, 3) := by decide +kernel
theorem dX4_touch_48 : decode cX4_touch 48 = .ok (.lreturn, 1) := by decide +kernel
set_option maxRecDepth 20000 in
theorem ggX4_overlap_X4_needMeeting : GoodIn wsX4_overlap wsX4_needMeeting := goodIn_ca (goodIn_r _ [9, 10, 11, 12, 8, 13, 14, 15, 64, 65, 66, 67, 68, 69, 70, 71, 72, 73] (by decide +kernel) (by decide +kernel)) (goodIn_sub (fun _ h => List.mem_cons_of_mem _ (List.mem_append_right _ h)) (by decide +kernel))
set_option maxRecDepth 20000 in
theorem gX4_overlap_X4_needMeeting : GoodIn wsX4_overlap (wsV RX4 120 RX4 yX4_needMeeting wsX4_needMeeting) := goodIn_app (goodIn_of _ (by decide +kernel)) ggX4_overlap_X4_needMeeting
set_option maxRecDepth 20000 in
theorem ggX4_overlap_X2_seekOverlap : GoodIn wsX4_overlap wsX2_seekOverlap := goodIn_r _ [20, 21, 22, 23, 24, 25, 26, 27, 28, 19, 29, 30, 31, 32, 33, 34, 35, 36, 37, 38, 39, 40, 41, 42, 43, 44, 45, 46, 47, 48, 49, 50, 51, 52, 53, 54, 55, 56, 57, 58, 59, 60, 61, 62, 63, 74, 75, 76, 77, 78, 79, 80, 81, 82, 83, 84] (by decide +kernel) (by decide +kernel)
set_option maxRecDepth 20000 in
theorem gX4_overlap_X2_seekOverlap : GoodIn wsX4_overlap (wsV RX4 134 RX2 yX2_seekOverlap wsX2_seekOverlap) := goodIn_app (goodIn_of _ (by decide +kernel)) ggX4_overlap_X2_seekOverlap
theorem dX4_overlap_0 : decode cX4_overlap 0 = .ok (.aload_n 0, 1) := by decide +kernel
theorem dX4_overlap_1 : decode cX4_overlap 1 = .ok (.iload_n 1, 1) := by decide +kernel
theorem dX4_overlap_2 : decode cX4_overlap 2 = .ok (.iload_n 2, 1) := by decide +kernel
theorem dX4_overlap_3 : decode cX4_overlap 3 = .ok (.iload_n 3, 1) := by decide +kernel
theorem dX4_overlap_4 : decode cX4_overlap 4 = .ok (.invokevirtual 120, 3) := by decide +kernel
theorem dX4_overlap_7 : decode cX4_overlap 7 = .ok (.aload_n 0, 1) := by decide +kernel
theorem dX4_overlap_8 : decode cX4_overlap 8 = .ok (.getfield 42, 3) := by decide +kernel
theorem dX4_overlap_11 : decode cX4_overlap 11 = .ok (.aload_n 0, 1) := by decide +kernel
theorem dX4_overlap_12 : decode cX4_overlap 12 = .ok (.getfield 17, 3) := by decide +kernel
theorem dX4_overlap_15 : decode cX4_overlap 15 = .ok (.iload_n 1, 1) := by decide +kernel
theorem dX4_overlap_16 : decode cX4_overlap 16 = .ok (.aaload, 1) := by decide +kernel
theorem dX4_overlap_17 : decode cX4_overlap 17 = .ok (.aload_n 0, 1) := by decide +kernel
theorem dX4_overlap_18 : decode cX4_overlap 18 = .ok (.getfield 17, 3) := by decide +kernel
theorem dX4_overlap_21 : decode cX4_overlap 21 = .ok (.iload_n 2, 1) := by decide +kernel
theorem dX4_overlap_22 : decode cX4_overlap 22 = .ok (.aaload, 1) := by decide +kernel
theorem dX4_overlap_23 : decode cX4_overlap 23 = .ok (.invokevirtual 134, 3) := by decide +kernel
theorem dX4_overlap_26 : decode cX4_overlap 26 = .ok (.pop, 1) := by decide +kernel
theorem dX4_overlap_27 : decode cX4_overlap 27 = .ok (.iload_n 3, 1) := by decide +kernel
theorem dX4_overlap_28 : decode cX4_overlap 28 = .ok (.ifCond .ne 13, 3) := by decide +kernel
theorem dX4_overlap_31 : decode cX4_overlap 31 = .ok (.aload_n 0, 1) := by decide +kernel
theorem dX4_overlap_32 : decode cX4_overlap 32 = .ok (.getfield 42, 3) := by decide +kernel
theorem dX4_overlap_35 : decode cX4_overlap 35 = .ok (.getfield 128, 3) := by decide +kernel
theorem dX4_overlap_38 : decode cX4_overlap 38 = .ok (.goto 10, 3) := by decide +kernel
theorem dX4_overlap_41 : decode cX4_overlap 41 = .ok (.aload_n 0, 1) := by decide +kernel
theorem dX4_overlap_42 : decode cX4_overlap 42 = .ok (.getfield 42, 3) := by decide +kernel
theorem dX4_overlap_45 : decode cX4_overlap 45 = .ok (.getfield 131, 3) := by decide +kernel
theorem dX4_overlap_48 : decode cX4_overlap 48 = .ok (.lreturn, 1) := by decide +kernel
set_option maxRecDepth 20000 in
theorem ggX4_tile_X4_needIndex : GoodIn wsX4_tile wsX4_needIndex := goodIn_ca (goodIn_r _ [9, 10, 11] (by decide +kernel) (by decide +kernel)) (goodIn_sub (fun _ h => List.mem_cons_of_mem _ (List.mem_append_right _ h)) (by decide +kernel))
set_option maxRecDepth 20000 in
theorem gX4_tile_X4_needIndex : GoodIn wsX4_tile (va_wsS RX4 65 yX4_needIndex wsX4_needIndex) := goodIn_app (goodIn_of _ (by decide +kernel)) ggX4_tile_X4_needIndex
set_option maxRecDepth 20000 in
theorem ggX4_tile_X0_putTile : GoodIn wsX4_tile wsX0_putTile := goodIn_r _ [16, 17, 18, 19, 20, 15, 21, 22, 23, 24, 25, 26, 27, 28, 29, 30, 31, 54, 55, 56, 57, 58, 59] (by decide +kernel) (by decide +kernel)
set_option maxRecDepth 20000 in
theorem gX4_tile_X0_putTile : GoodIn wsX4_tile (wsV RX4 137 RX0 yX0_putTile wsX0_putTile) := goodIn_app (goodIn_of _ (by decide +kernel)) ggX4_tile_X0_putTile
set_option maxRecDepth 20000 in
theorem ggX4_tile_X0_liesOver : GoodIn wsX4_tile wsX0_liesOver := goodIn_r _ [35, 22, 23, 24, 25, 36, 37, 38, 15, 39, 54, 55, 56, 57, 58, 59] (by decide +kernel) (by decide +kernel)
set_option maxRecDepth 20000 in
theorem gX4_tile_X0_liesOver : GoodIn wsX4_tile (wsV RX4 140 RX0 yX0_liesOver wsX0_liesOver) := goodIn_app (goodIn_of _ (by decide +kernel)) ggX4_tile_X0_liesOver
set_option maxRecDepth 20000 in
theorem ggX4_tile_X4_isSolid : GoodIn wsX4_tile wsX4_isSolid := goodIn_r _ [43, 5, 44, 45, 46, 47, 48, 49, 50, 51, 52, 53] (by decide +kernel) (by decide +kernel)
set_option maxRecDepth 20000 in
theorem gX4_tile_X4_isSolid : GoodIn wsX4_tile (wsV RX4 146 RX4 yX4_isSolid wsX4_isSolid) := goodIn_app (goodIn_of _ (by decide +kernel)) ggX4_tile_X4_isSolid
theorem dX4_tile_0 : decode cX4_tile 0 = .ok (.iload_n 1, 1) := by decide +kernel
theorem dX4_tile_1 : decode cX4_tile 1 = .ok (.bipush 24, 2) := by decide +kernel
theorem dX4_tile_3 : decode cX4_tile 3 = .ok (.invokestatic 65, 3) := by decide +kernel
theorem dX4_tile_6 : decode cX4_tile 6 = .ok (.iload_n 2, 1) := by decide +kernel
theorem dX4_tile_7 : decode cX4_tile 7 = .ok (.bipush 24, 2) := by decide +kernel
theorem dX4_tile_9 : decode cX4_tile 9 = .ok (.invokestatic 65, 3) := by decide +kernel
theorem dX4_tile_12 : decode cX4_tile 12 = .ok (.aload_n 0, 1) := by decide +kernel
theorem dX4_tile_13 : decode cX4_tile 13 = .ok (.getfield 36, 3) := by decide +kernel
theorem dX4_tile_16 : decode cX4_tile 16 = .ok (.iload_n 1, 1) := by decide +kernel
theorem dX4_tile_17 : decode cX4_tile 17 = .ok (.iload_n 2, 1) := by decide +kernel
theorem dX4_tile_18 : decode cX4_tile 18 = .ok (.invokevirtual 137, 3) := by decide +kernel
theorem dX4_tile_21 : decode cX4_tile 21 = .ok (.iload_n 3, 1) := by decide +kernel
theorem dX4_tile_22 : decode cX4_tile 22 = .ok (.ifCond .eq 27, 3) := by decide +kernel
theorem dX4_tile_25 : decode cX4_tile 25 = .ok (.aload_n 0, 1) := by decide +kernel
theorem dX4_tile_26 : decode cX4_tile 26 = .ok (.getfield 36, 3) := by decide +kernel
theorem dX4_tile_29 : decode cX4_tile 29 = .ok (.aload_n 0, 1) := by decide +kernel
theorem dX4_tile_30 : decode cX4_tile 30 = .ok (.getfield 26, 3) := by decide +kernel
theorem dX4_tile_33 : decode cX4_tile 33 = .ok (.invokevirtual 140, 3) := by decide +kernel
theorem dX4_tile_36 : decode cX4_tile 36 = .ok (.ifCond .eq 13, 3) := by decide +kernel
theorem dX4_tile_39 : decode cX4_tile 39 = .ok (.new 55, 3) := by decide +kernel
theorem dX4_tile_42 : decode cX4_tile 42 = .ok (.dup, 1) := by decide +kernel
theorem dX4_tile_43 : decode cX4_tile 43 = .ok (.ldc 144, 2) := by decide +kernel
theorem dX4_tile_45 : decode cX4_tile 45 = .ok (.invokespecial 59, 3) := by decide +kernel
theorem dX4_tile_48 : decode cX4_tile 48 = .ok (.athrow, 1) := by decide +kernel
theorem dX4_tile_49 : decode cX4_tile 49 = .ok (.aload_n 0, 1) := by decide +kernel
theorem dX4_tile_50 : decode cX4_tile 50 = .ok (.iload_n 1, 1) := by decide +kernel
theorem dX4_tile_51 : decode cX4_tile 51 = .ok (.iload_n 2, 1) := by decide +kernel
theorem dX4_tile_52 : decode cX4_tile 52 = .ok (.invokevirtual 146, 3) := by decide +kernel
theorem dX4_tile_55 : decode cX4_tile 55 = .ok (.iload_n 3, 1) := by decide +kernel
theorem dX4_tile_56 : decode cX4_tile 56 = .ok (.if_icmp .eq 7, 3) := by decide +kernel
theorem dX4_tile_59 : decode cX4_tile 59 = .ok (.iconst 1, 1) := by decide +kernel
theorem dX4_tile_60 : decode cX4_tile 60 = .ok (.goto 4, 3) := by decide +kernel
theorem dX4_tile_63 : decode cX4_tile 63 = .ok (.iconst 0, 1) := by decide +kernel
theorem dX4_tile_64 : decode cX4_tile 64 = .ok (.istore 4, 2) := by decide +kernel
theorem dX4_tile_66 : decode cX4_tile 66 = .ok (.iload 4, 2) := by decide +kernel
theorem dX4_tile_68 : decode cX4_tile 68 = .ok (.ifCond .eq 15, 3) := by decide +kernel
theorem dX4_tile_71 : decode cX4_tile 71 = .ok (.aload_n 0, 1) := by decide +kernel
theorem dX4_tile_72 : decode cX4_tile 72 = .ok (.getfield 21, 3) := by decide +kernel
theorem dX4_tile_75 : decode cX4_tile 75 = .ok (.iload_n 2, 1) := by decide +kernel
theorem dX4_tile_76 : decode cX4_tile 76 = .ok (.dup2, 1) := by decide +kernel
theorem dX4_tile_77 : decode cX4_tile 77 = .ok (.iaload, 1) := by decide +kernel
theorem dX4_tile_78 : decode cX4_tile 78 = .ok (.iconst 1, 1) := by decide +kernel
theorem dX4_tile_79 : decode cX4_tile 79 = .ok (.iload_n 1, 1) := by decide +kernel
theorem dX4_tile_80 : decode cX4_tile 80 = .ok (.ishl, 1) := by decide +kernel
theorem dX4_tile_81 : decode cX4_tile 81 = .ok (.ixor, 1) := by decide +kernel
theorem dX4_tile_82 : decode cX4_tile 82 = .ok (.iastore, 1) := by decide +kernel
theorem dX4_tile_83 : decode cX4_tile 83 = .ok (.iload 4, 2) := by decide +kernel
theorem dX4_tile_85 : decode cX4_tile 85 = .ok (.ireturn, 1) := by decide +kernel
set_option maxRecDepth 20000 in
theorem ggX4_player_X4_needInRange : GoodIn wsX4_player wsX4_needInRange := goodIn_ca (goodIn_r _ [8, 1, 2, 9, 10] (by decide +kernel) (by decide +kernel)) (goodIn_sub (fun _ h => List.mem_cons_of_mem _ (List.mem_append_right _ h)) (by decide +kernel))
set_option maxRecDepth 20000 in
theorem gX4_player_X4_needInRange : GoodIn wsX4_player (va_wsS RX4 74 yX4_needInRange wsX4_needInRange) := goodIn_app (goodIn_of _ (by decide +kernel)) ggX4_player_X4_needInRange
set_option maxRecDepth 20000 in
theorem ggX4_player_X4_isBlocked : GoodIn wsX4_player wsX4_isBlocked := goodIn_r _ [14, 15, 16, 17, 7, 18, 19, 20, 21, 22, 23, 24, 25, 26, 27, 28, 29, 30, 31, 32, 33, 34, 35, 36, 37, 38, 39, 40, 41, 42, 43, 44, 45, 46, 47, 48, 49, 50, 51, 52, 53, 54, 55, 56, 57, 58, 59, 60, 61, 62, 63, 65, 66, 67, 68, 69, 70, 71, 72, 73, 74, 75, 76, 77, 78, 79, 80] (by decide +kernel) (by decide +kernel)
set_option maxRecDepth 20000 in
theorem gX4_player_X4_isBlocked : GoodIn wsX4_player (wsV RX4 154 RX4 yX4_isBlocked wsX4_isBlocked) := goodIn_app (goodIn_of _ (by decide +kernel)) ggX4_player_X4_isBlocked
set_option maxRecDepth 20000 in
theorem ggX4_player_X0_put : GoodIn wsX4_player wsX0_put := goodIn_r _ [44, 45, 46, 47, 48, 49, 50, 51, 38, 52, 53, 54, 75, 76, 77, 78, 79, 80] (by decide +kernel) (by decide +kernel)
set_option maxRecDepth 20000 in
theorem gX4_player_X0_put : GoodIn wsX4_player (wsV RX4 106 RX0 yX0_put wsX0_put) := goodIn_app (goodIn_of _ (by decide +kernel)) ggX4_player_X0_put
theorem dX4_player_0 : decode cX4_player 0 = .ok (.lload_n 1, 1) := by decide +kernel
theorem dX4_player_1 : decode cX4_player 1 = .ok (.lload_n 3, 1) := by decide +kernel
theorem dX4_player_2 : decode cX4_player 2 = .ok (.invokestatic 74, 3) := by decide +kernel
theorem dX4_player_5 : decode cX4_player 5 = .ok (.lload 5, 2) := by decide +kernel
theorem dX4_player_7 : decode cX4_player 7 = .ok (.lconst 1, 1) := by decide +kernel
theorem dX4_player_8 : decode cX4_player 8 = .ok (.lcmp, 1) := by decide +kernel
theorem dX4_player_9 : decode cX4_player 9 = .ok (.ifCond .lt 28, 3) := by decide +kernel
theorem dX4_player_12 : decode cX4_player 12 = .ok (.lload 5, 2) := by decide +kernel
theorem dX4_player_14 : decode cX4_player 14 = .ok (.ldc2_w 150, 3) := by decide +kernel
theorem dX4_player_17 : decode cX4_player 17 = .ok (.lcmp, 1) := by decide +kernel
theorem dX4_player_18 : decode cX4_player 18 = .ok (.ifCond .gt 19, 3) := by decide +kernel
theorem dX4_player_21 : decode cX4_player 21 = .ok (.lload 7, 2) := by decide +kernel
theorem dX4_player_23 : decode cX4_player 23 = .ok (.lconst 1, 1) := by decide +kernel
theorem dX4_player_24 : decode cX4_player 24 = .ok (.lcmp, 1) := by decide +kernel
theorem dX4_player_25 : decode cX4_player 25 = .ok (.ifCond .lt 12, 3) := by decide +kernel
theorem dX4_player_28 : decode cX4_player 28 = .ok (.lload 7, 2) := by decide +kernel
theorem dX4_player_30 : decode cX4_player 30 = .ok (.ldc2_w 150, 3) := by decide +kernel
theorem dX4_player_33 : decode cX4_player 33 = .ok (.lcmp, 1) := by decide +kernel
theorem dX4_player_34 : decode cX4_player 34 = .ok (.ifCond .le 13, 3) := by decide +kernel
theorem dX4_player_37 : decode cX4_player 37 = .ok (.new 101, 3) := by decide +kernel
theorem dX4_player_40 : decode cX4_player 40 = .ok (.dup, 1) := by decide +kernel
theorem dX4_player_41 : decode cX4_player 41 = .ok (.ldc 152, 2) := by decide +kernel
theorem dX4_player_43 : decode cX4_player 43 = .ok (.invokespecial 105, 3) := by decide +kernel
theorem dX4_player_46 : decode cX4_player 46 = .ok (.athrow, 1) := by decide +kernel
theorem dX4_player_47 : decode cX4_player 47 = .ok (.aload_n 0, 1) := by decide +kernel
theorem dX4_player_48 : decode cX4_player 48 = .ok (.lload_n 1, 1) := by decide +kernel
theorem dX4_player_49 : decode cX4_player 49 = .ok (.lload_n 3, 1) := by decide +kernel
theorem dX4_player_50 : decode cX4_player 50 = .ok (.lload_n 1, 1) := by decide +kernel
theorem dX4_player_51 : decode cX4_player 51 = .ok (.lload 5, 2) := by decide +kernel
theorem dX4_player_53 : decode cX4_player 53 = .ok (.ladd, 1) := by decide +kernel
theorem dX4_player_54 : decode cX4_player 54 = .ok (.lload_n 3, 1) := by decide +kernel
theorem dX4_player_55 : decode cX4_player 55 = .ok (.lload 7, 2) := by decide +kernel
theorem dX4_player_57 : decode cX4_player 57 = .ok (.ladd, 1) := by decide +kernel
theorem dX4_player_58 : decode cX4_player 58 = .ok (.invokevirtual 154, 3) := by decide +kernel
theorem dX4_player_61 : decode cX4_player 61 = .ok (.ifCond .eq 5, 3) := by decide +kernel
theorem dX4_player_64 : decode cX4_player 64 = .ok (.iconst 0, 1) := by decide +kernel
theorem dX4_player_65 : decode cX4_player 65 = .ok (.ireturn, 1) := by decide +kernel
theorem dX4_player_66 : decode cX4_player 66 = .ok (.aload_n 0, 1) := by decide +kernel
theorem dX4_player_67 : decode cX4_player 67 = .ok (.getfield 26, 3) := by decide +kernel
theorem dX4_player_70 : decode cX4_player 70 = .ok (.lload_n 1, 1) := by decide +kernel
theorem dX4_player_71 : decode cX4_player 71 = .ok (.lload_n 3, 1) := by decide +kernel
theorem dX4_player_72 : decode cX4_player 72 = .ok (.lload_n 1, 1) := by decide +kernel
theorem dX4_player_73 : decode cX4_player 73 = .ok (.lload 5, 2) := by decide +kernel
theorem dX4_player_75 : decode cX4_player 75 = .ok (.ladd, 1) := by decide +kernel
theorem dX4_player_76 : decode cX4_player 76 = .ok (.lload_n 3, 1) := by decide +kernel
theorem dX4_player_77 : decode cX4_player 77 = .ok (.lload 7, 2) := by decide +kernel
theorem dX4_player_79 : decode cX4_player 79 = .ok (.ladd, 1) := by decide +kernel
theorem dX4_player_80 : decode cX4_player 80 = .ok (.invokevirtual 106, 3) := by decide +kernel
theorem dX4_player_83 : decode cX4_player 83 = .ok (.iconst 1, 1) := by decide +kernel
theorem dX4_player_84 : decode cX4_player 84 = .ok (.ireturn, 1) := by decide +kernel
set_option maxRecDepth 20000 in
theorem ggX4_step_X4_needInRange : GoodIn wsX4_step wsX4_needInRange := goodIn_ca (goodIn_r _ [13, 1, 2, 14, 15] (by decide +kernel) (by decide +kernel)) (goodIn_sub (fun _ h => List.mem_cons_of_mem _ (List.mem_append_right _ h)) (by decide +kernel))
set_option maxRecDepth 20000 in
theorem gX4_step_X4_needInRange : GoodIn wsX4_step (va_wsS RX4 74 yX4_needInRange wsX4_needInRange) := goodIn_app (goodIn_of _ (by decide +kernel)) ggX4_step_X4_needInRange
set_option maxRecDepth 20000 in
theorem ggX4_step_X0_head : GoodIn wsX4_step wsX0_head := goodIn_r _ [20, 21, 22, 164, 165, 166, 167, 168, 169] (by decide +kernel) (by decide +kernel)
set_option maxRecDepth 20000 in
theorem gX4_step_X0_head : GoodIn wsX4_step (wsV RX4 117 RX0 yX0_head wsX0_head) := goodIn_app (goodIn_of _ (by decide +kernel)) ggX4_step_X0_head
set_option maxRecDepth 20000 in
theorem ggX4_step_X4_runSweep : GoodIn wsX4_step wsX4_runSweep := goodIn_r _ [26, 27, 3, 7, 8, 4, 28, 5, 29, 30, 31, 32, 33, 34, 35, 36, 37, 38, 39, 40, 41, 12, 42, 43, 44, 45, 46, 47, 48, 49, 50, 51, 52, 53, 54, 55, 56, 57, 58, 59, 60, 61, 62, 63, 64, 65, 66, 67, 68, 69, 70, 71, 72, 73, 74, 75, 76, 77, 78, 79, 80, 81, 19, 82, 83, 84, 85, 86, 87, 88, 89, 90, 91, 92, 17, 18, 20, 21, 22, 93, 94, 95, 96, 97, 98, 99, 100, 101, 102, 103, 104, 105, 106, 107, 108, 109, 110, 111, 112, 113, 114, 115, 116, 117, 118, 119, 120, 121, 122, 123, 124, 125, 126, 127, 128, 129, 130, 131, 132, 133, 134, 135, 136, 137, 138, 139, 140, 16, 141, 142, 143, 144, 145, 146, 147, 148, 149, 150, 151, 152, 153, 170, 171, 172, 173, 174, 175, 154, 155, 156, 157, 158, 159, 160, 161, 162, 163, 164, 165, 166, 167, 168, 169, 176, 177, 178, 179, 180] (by decide +kernel) (by decide +kernel)
set_option maxRecDepth 20000 in
theorem gX4_step_X4_runSweep : GoodIn wsX4_step (wsV RX4 169 RX4 yX4_runSweep wsX4_runSweep) := goodIn_app (goodIn_of _ (by decide +kernel)) ggX4_step_X4_runSweep
theorem dX4_step_0 : decode cX4_step 0 = .ok (.lload_n 1, 1) := by decide +kernel
theorem dX4_step_1 : decode cX4_step 1 = .ok (.lload_n 3, 1) := by decide +kernel
theorem dX4_step_2 : decode cX4_step 2 = .ok (.invokestatic 74, 3) := by decide +kernel
theorem dX4_step_5 : decode cX4_step 5 = .ok (.aload_n 0, 1) := by decide +kernel
theorem dX4_step_6 : decode cX4_step 6 = .ok (.getfield 26, 3) := by decide +kernel
theorem dX4_step_9 : decode cX4_step 9 = .ok (.getfield 158, 3) := by decide +kernel
theorem dX4_step_12 : decode cX4_step 12 = .ok (.lload_n 1, 1) := by decide +kernel
theorem dX4_step_13 : decode cX4_step 13 = .ok (.ladd, 1) := by decide +kernel
theorem dX4_step_14 : decode cX4_step 14 = .ok (.aload_n 0, 1) := by decide +kernel
theorem dX4_step_15 : decode cX4_step 15 = .ok (.getfield 26, 3) := by decide +kernel
theorem dX4_step_18 : decode cX4_step 18 = .ok (.getfield 161, 3) := by decide +kernel
theorem dX4_step_21 : decode cX4_step 21 = .ok (.lload_n 3, 1) := by decide +kernel
theorem dX4_step_22 : decode cX4_step 22 = .ok (.ladd, 1) := by decide +kernel
theorem dX4_step_23 : decode cX4_step 23 = .ok (.invokestatic 74, 3) := by decide +kernel
theorem dX4_step_26 : decode cX4_step 26 = .ok (.iload 5, 2) := by decide +kernel
theorem dX4_step_28 : decode cX4_step 28 = .ok (.ifCond .lt 10, 3) := by decide +kernel
theorem dX4_step_31 : decode cX4_step 31 = .ok (.iload 5, 2) := by decide +kernel
theorem dX4_step_33 : decode cX4_step 33 = .ok (.bipush 8, 2) := by decide +kernel
theorem dX4_step_35 : decode cX4_step 35 = .ok (.if_icmp .le 13, 3) := by decide +kernel
theorem dX4_step_38 : decode cX4_step 38 = .ok (.new 101, 3) := by decide +kernel
theorem dX4_step_41 : decode cX4_step 41 = .ok (.dup, 1) := by decide +kernel
theorem dX4_step_42 : decode cX4_step 42 = .ok (.ldc 164, 2) := by decide +kernel
theorem dX4_step_44 : decode cX4_step 44 = .ok (.invokespecial 105, 3) := by decide +kernel
theorem dX4_step_47 : decode cX4_step 47 = .ok (.athrow, 1) := by decide +kernel
theorem dX4_step_48 : decode cX4_step 48 = .ok (.aload_n 0, 1) := by decide +kernel
theorem dX4_step_49 : decode cX4_step 49 = .ok (.getfield 26, 3) := by decide +kernel
theorem dX4_step_52 : decode cX4_step 52 = .ok (.lload_n 1, 1) := by decide +kernel
theorem dX4_step_53 : decode cX4_step 53 = .ok (.lload_n 3, 1) := by decide +kernel
theorem dX4_step_54 : decode cX4_step 54 = .ok (.invokevirtual 117, 3) := by decide +kernel
theorem dX4_step_57 : decode cX4_step 57 = .ok (.aload_n 0, 1) := by decide +kernel
theorem dX4_step_58 : decode cX4_step 58 = .ok (.iconst 0, 1) := by decide +kernel
theorem dX4_step_59 : decode cX4_step 59 = .ok (.putfield 166, 3) := by decide +kernel
theorem dX4_step_62 : decode cX4_step 62 = .ok (.aload_n 0, 1) := by decide +kernel
theorem dX4_step_63 : decode cX4_step 63 = .ok (.getfield 166, 3) := by decide +kernel
theorem dX4_step_66 : decode cX4_step 66 = .ok (.iload 5, 2) := by decide +kernel
theorem dX4_step_68 : decode cX4_step 68 = .ok (.if_icmp .ge 53, 3) := by decide +kernel
theorem dX4_step_71 : decode cX4_step 71 = .ok (.aload_n 0, 1) := by decide +kernel
theorem dX4_step_72 : decode cX4_step 72 = .ok (.getfield 26, 3) := by decide +kernel
theorem dX4_step_75 : decode cX4_step 75 = .ok (.getfield 110, 3) := by decide +kernel
theorem dX4_step_78 : decode cX4_step 78 = .ok (.lconst 0, 1) := by decide +kernel
theorem dX4_step_79 : decode cX4_step 79 = .ok (.lcmp, 1) := by decide +kernel
theorem dX4_step_80 : decode cX4_step 80 = .ok (.ifCond .ne 15, 3) := by decide +kernel
theorem dX4_step_83 : decode cX4_step 83 = .ok (.aload_n 0, 1) := by decide +kernel
theorem dX4_step_84 : decode cX4_step 84 = .ok (.getfield 26, 3) := by decide +kernel
theorem dX4_step_87 : decode cX4_step 87 = .ok (.getfield 114, 3) := by decide +kernel
theorem dX4_step_90 : decode cX4_step 90 = .ok (.lconst 0, 1) := by decide +kernel
theorem dX4_step_91 : decode cX4_step 91 = .ok (.lcmp, 1) := by decide +kernel
theorem dX4_step_92 : decode cX4_step 92 = .ok (.ifCond .eq 29, 3) := by decide +kernel
theorem dX4_step_95 : decode cX4_step 95 = .ok (.aload_n 0, 1) := by decide +kernel
theorem dX4_step_96 : decode cX4_step 96 = .ok (.aload_n 0, 1) := by decide +kernel
theorem dX4_step_97 : decode cX4_step 97 = .ok (.getfield 32, 3) := by decide +kernel
theorem dX4_step_100 : decode cX4_step 100 = .ok (.aload_n 0, 1) := by decide +kernel
theorem dX4_step_101 : decode cX4_step 101 = .ok (.getfield 166, 3) := by decide +kernel
theorem dX4_step_104 : decode cX4_step 104 = .ok (.aaload, 1) := by decide +kernel
theorem dX4_step_105 : decode cX4_step 105 = .ok (.invokevirtual 169, 3) := by decide +kernel
theorem dX4_step_108 : decode cX4_step 108 = .ok (.aload_n 0, 1) := by decide +kernel
theorem dX4_step_109 : decode cX4_step 109 = .ok (.dup, 1) := by decide +kernel
theorem dX4_step_110 : decode cX4_step 110 = .ok (.getfield 166, 3) := by decide +kernel
theorem dX4_step_113 : decode cX4_step 113 = .ok (.iconst 1, 1) := by decide +kernel
theorem dX4_step_114 : decode cX4_step 114 = .ok (.iadd, 1) := by decide +kernel
theorem dX4_step_115 : decode cX4_step 115 = .ok (.putfield 166, 3) := by decide +kernel
theorem dX4_step_118 : decode cX4_step 118 = .ok (.goto (-56), 3) := by decide +kernel
theorem dX4_step_121 : decode cX4_step 121 = .ok (.aload_n 0, 1) := by decide +kernel
theorem dX4_step_122 : decode cX4_step 122 = .ok (.getfield 166, 3) := by decide +kernel
theorem dX4_step_125 : decode cX4_step 125 = .ok (.ireturn, 1) := by decide +kernel
theorem dX4_at_0 : decode cX4_at 0 = .ok (.iload_n 1, 1) := by decide +kernel
theorem dX4_at_1 : decode cX4_at 1 = .ok (.tableswitch 79 0 3 #[31, 39, 47, 63], 31) := by decide +kernel
theorem dX4_at_32 : decode cX4_at 32 = .ok (.aload_n 0, 1) := by decide +kernel
theorem dX4_at_33 : decode cX4_at 33 = .ok (.getfield 26, 3) := by decide +kernel
theorem dX4_at_36 : decode cX4_at 36 = .ok (.getfield 158, 3) := by decide +kernel
theorem dX4_at_39 : decode cX4_at 39 = .ok (.lreturn, 1) := by decide +kernel
theorem dX4_at_40 : decode cX4_at 40 = .ok (.aload_n 0, 1) := by decide +kernel
theorem dX4_at_41 : decode cX4_at 41 = .ok (.getfield 26, 3) := by decide +kernel
theorem dX4_at_44 : decode cX4_at 44 = .ok (.getfield 161, 3) := by decide +kernel
theorem dX4_at_47 : decode cX4_at 47 = .ok (.lreturn, 1) := by decide +kernel
theorem dX4_at_48 : decode cX4_at 48 = .ok (.aload_n 0, 1) := by decide +kernel
theorem dX4_at_49 : decode cX4_at 49 = .ok (.getfield 26, 3) := by decide +kernel
theorem dX4_at_52 : decode cX4_at 52 = .ok (.getfield 173, 3) := by decide +kernel
theorem dX4_at_55 : decode cX4_at 55 = .ok (.aload_n 0, 1) := by decide +kernel
theorem dX4_at_56 : decode cX4_at 56 = .ok (.getfield 26, 3) := by decide +kernel
theorem dX4_at_59 : decode cX4_at 59 = .ok (.getfield 158, 3) := by decide +kernel
theorem dX4_at_62 : decode cX4_at 62 = .ok (.lsub, 1) := by decide +kernel
theorem dX4_at_63 : decode cX4_at 63 = .ok (.lreturn, 1) := by decide +kernel
theorem dX4_at_64 : decode cX4_at 64 = .ok (.aload_n 0, 1) := by decide +kernel
theorem dX4_at_65 : decode cX4_at 65 = .ok (.getfield 26, 3) := by decide +kernel
theorem dX4_at_68 : decode cX4_at 68 = .ok (.getfield 176, 3) := by decide +kernel
theorem dX4_at_71 : decode cX4_at 71 = .ok (.aload_n 0, 1) := by decide +kernel
theorem dX4_at_72 : decode cX4_at 72 = .ok (.getfield 26, 3) := by decide +kernel
theorem dX4_at_75 : decode cX4_at 75 = .ok (.getfield 161, 3) := by decide +kernel
theorem dX4_at_78 : decode cX4_at 78 = .ok (.lsub, 1) := by decide +kernel
theorem dX4_at_79 : decode cX4_at 79 = .ok (.lreturn, 1) := by decide +kernel
theorem dX4_at_80 : decode cX4_at 80 = .ok (.new 179, 3) := by decide +kernel
theorem dX4_at_83 : decode cX4_at 83 = .ok (.dup, 1) := by decide +kernel
theorem dX4_at_84 : decode cX4_at 84 = .ok (.ldc 181, 2) := by decide +kernel
theorem dX4_at_86 : decode cX4_at 86 = .ok (.invokespecial 183, 3) := by decide +kernel
theorem dX4_at_89 : decode cX4_at 89 = .ok (.athrow, 1) := by decide +kernel
set_option maxRecDepth 20000 in
theorem ggX4_sweep_X4_needIndex : GoodIn wsX4_sweep wsX4_needIndex := goodIn_ca (goodIn_r _ [14, 1, 2] (by decide +kernel) (by decide +kernel)) (goodIn_sub (fun _ h => List.mem_cons_of_mem _ (List.mem_append_right _ h)) (by decide +kernel))
set_option maxRecDepth 20000 in
theorem gX4_sweep_X4_needIndex : GoodIn wsX4_sweep (va_wsS RX4 65 yX4_needIndex wsX4_needIndex) := goodIn_app (goodIn_of _ (by decide +kernel)) ggX4_sweep_X4_needIndex
theorem dX4_sweep_0 : decode cX4_sweep 0 = .ok (.iload_n 1, 1) := by decide +kernel
theorem dX4_sweep_1 : decode cX4_sweep 1 = .ok (.aload_n 0, 1) := by decide +kernel
theorem dX4_sweep_2 : decode cX4_sweep 2 = .ok (.getfield 166, 3) := by decide +kernel
theorem dX4_sweep_5 : decode cX4_sweep 5 = .ok (.invokestatic 65, 3) := by decide +kernel
theorem dX4_sweep_8 : decode cX4_sweep 8 = .ok (.aload_n 0, 1) := by decide +kernel
theorem dX4_sweep_9 : decode cX4_sweep 9 = .ok (.getfield 32, 3) := by decide +kernel
theorem dX4_sweep_12 : decode cX4_sweep 12 = .ok (.iload_n 1, 1) := by decide +kernel
theorem dX4_sweep_13 : decode cX4_sweep 13 = .ok (.aaload, 1) := by decide +kernel
theorem dX4_sweep_14 : decode cX4_sweep 14 = .ok (.astore_n 3, 1) := by decide +kernel
theorem dX4_sweep_15 : decode cX4_sweep 15 = .ok (.iload_n 2, 1) := by decide +kernel
theorem dX4_sweep_16 : decode cX4_sweep 16 = .ok (.tableswitch 72 0 5 #[40, 45, 50, 56, 62, 67], 40) := by decide +kernel
theorem dX4_sweep_56 : decode cX4_sweep 56 = .ok (.aload_n 3, 1) := by decide +kernel
theorem dX4_sweep_57 : decode cX4_sweep 57 = .ok (.getfield 184, 3) := by decide +kernel
theorem dX4_sweep_60 : decode cX4_sweep 60 = .ok (.lreturn, 1) := by decide +kernel
theorem dX4_sweep_61 : decode cX4_sweep 61 = .ok (.aload_n 3, 1) := by decide +kernel
theorem dX4_sweep_62 : decode cX4_sweep 62 = .ok (.getfield 187, 3) := by decide +kernel
theorem dX4_sweep_65 : decode cX4_sweep 65 = .ok (.lreturn, 1) := by decide +kernel
theorem dX4_sweep_66 : decode cX4_sweep 66 = .ok (.aload_n 3, 1) := by decide +kernel
theorem dX4_sweep_67 : decode cX4_sweep 67 = .ok (.getfield 190, 3) := by decide +kernel
theorem dX4_sweep_70 : decode cX4_sweep 70 = .ok (.i2l, 1) := by decide +kernel
theorem dX4_sweep_71 : decode cX4_sweep 71 = .ok (.lreturn, 1) := by decide +kernel
theorem dX4_sweep_72 : decode cX4_sweep 72 = .ok (.aload_n 3, 1) := by decide +kernel
theorem dX4_sweep_73 : decode cX4_sweep 73 = .ok (.getfield 193, 3) := by decide +kernel
theorem dX4_sweep_76 : decode cX4_sweep 76 = .ok (.i2l, 1) := by decide +kernel
theorem dX4_sweep_77 : decode cX4_sweep 77 = .ok (.lreturn, 1) := by decide +kernel
theorem dX4_sweep_78 : decode cX4_sweep 78 = .ok (.aload_n 3, 1) := by decide +kernel
theorem dX4_sweep_79 : decode cX4_sweep 79 = .ok (.getfield 196, 3) := by decide +kernel
theorem dX4_sweep_82 : decode cX4_sweep 82 = .ok (.lreturn, 1) := by decide +kernel
theorem dX4_sweep_83 : decode cX4_sweep 83 = .ok (.aload_n 3, 1) := by decide +kernel
theorem dX4_sweep_84 : decode cX4_sweep 84 = .ok (.getfield 197, 3) := by decide +kernel
theorem dX4_sweep_87 : decode cX4_sweep 87 = .ok (.lreturn, 1) := by decide +kernel
theorem dX4_sweep_88 : decode cX4_sweep 88 = .ok (.new 179, 3) := by decide +kernel
theorem dX4_sweep_91 : decode cX4_sweep 91 = .ok (.dup, 1) := by decide +kernel
theorem dX4_sweep_92 : decode cX4_sweep 92 = .ok (.ldc 181, 2) := by decide +kernel
theorem dX4_sweep_94 : decode cX4_sweep 94 = .ok (.invokespecial 183, 3) := by decide +kernel
theorem dX4_sweep_97 : decode cX4_sweep 97 = .ok (.athrow, 1) := by decide +kernel
set_option maxRecDepth 20000 in
theorem ggX4_clear_X4_startAnew : GoodIn wsX4_clear wsX4_startAnew := goodIn_r _ [5, 6, 7, 8, 9, 10, 11, 12, 13, 14, 15, 16, 17, 18, 19, 20, 21, 22, 23, 24, 25, 26, 27, 28, 29, 30, 31, 32, 33, 34, 35, 36, 37, 38, 39, 40, 41, 42, 43, 44, 45, 46, 47] (by decide +kernel) (by decide +kernel)
set_option maxRecDepth 20000 in
theorem gX4_clear_X4_startAnew : GoodIn wsX4_clear (wsV RX4 48 RX4 yX4_startAnew wsX4_startAnew) := goodIn_app (goodIn_of _ (by decide +kernel)) ggX4_clear_X4_startAnew
theorem dX4_clear_0 : decode cX4_clear 0 = .ok (.aload_n 0, 1) := by decide +kernel
theorem dX4_clear_1 : decode cX4_clear 1 = .ok (.invokevirtual 48, 3) := by decide +kernel
theorem dX4_clear_4 : decode cX4_clear 4 = .ok (.return_, 1) := by decide +kernel
set_option maxRecDepth 20000 in
theorem ggX4_startAnew_J7_fill_53178 : GoodIn wsX4_startAnew wsJ7_fill_53178 := goodIn_r _ [11] (by decide +kernel) (by decide +kernel)
set_option maxRecDepth 20000 in
theorem gX4_startAnew_J7_fill_53178 : GoodIn wsX4_startAnew (va_wsS RX4 198 yJ7_fill_53178 wsJ7_fill_53178) := goodIn_app (goodIn_of _ (by decide +kernel)) ggX4_startAnew_J7_fill_53178
set_option maxRecDepth 20000 in
theorem ggX4_startAnew_X0_put : GoodIn wsX4_startAnew wsX0_put := goodIn_r _ [16, 17, 18, 19, 20, 21, 22, 23, 15, 24, 25, 26, 37, 38, 39, 40, 41, 42] (by decide +kernel) (by decide +kernel)
set_option maxRecDepth 20000 in
theorem gX4_startAnew_X0_put : GoodIn wsX4_startAnew (wsV RX4 106 RX0 yX0_put wsX0_put) := goodIn_app (goodIn_of _ (by decide +kernel)) ggX4_startAnew_X0_put
theorem dX4_startAnew_0 : decode cX4_startAnew 0 = .ok (.aload_n 0, 1) := by decide +kernel
theorem dX4_startAnew_1 : decode cX4_startAnew 1 = .ok (.iconst 0, 1) := by decide +kernel
theorem dX4_startAnew_2 : decode cX4_startAnew 2 = .ok (.putfield 51, 3) := by decide +kernel
theorem dX4_startAnew_5 : decode cX4_startAnew 5 = .ok (.aload_n 0, 1) := by decide +kernel
theorem dX4_startAnew_6 : decode cX4_startAnew 6 = .ok (.iconst 0, 1) := by decide +kernel
theorem dX4_startAnew_7 : decode cX4_startAnew 7 = .ok (.putfield 96, 3) := by decide +kernel
theorem dX4_startAnew_10 : decode cX4_startAnew 10 = .ok (.aload_n 0, 1) := by decide +kernel
theorem dX4_startAnew_11 : decode cX4_startAnew 11 = .ok (.iconst 0, 1) := by decide +kernel
theorem dX4_startAnew_12 : decode cX4_startAnew 12 = .ok (.putfield 166, 3) := by decide +kernel
theorem dX4_startAnew_15 : decode cX4_startAnew 15 = .ok (.aload_n 0, 1) := by decide +kernel
theorem dX4_startAnew_16 : decode cX4_startAnew 16 = .ok (.getfield 21, 3) := by decide +kernel
theorem dX4_startAnew_19 : decode cX4_startAnew 19 = .ok (.iconst 0, 1) := by decide +kernel
theorem dX4_startAnew_20 : decode cX4_startAnew 20 = .ok (.invokestatic 198, 3) := by decide +kernel
theorem dX4_startAnew_23 : decode cX4_startAnew 23 = .ok (.ldc2_w 204, 3) := by decide +kernel
theorem dX4_startAnew_26 : decode cX4_startAnew 26 = .ok (.lstore_n 1, 1) := by decide +kernel
theorem dX4_startAnew_27 : decode cX4_startAnew 27 = .ok (.aload_n 0, 1) := by decide +kernel
theorem dX4_startAnew_28 : decode cX4_startAnew 28 = .ok (.getfield 26, 3) := by decide +kernel
theorem dX4_startAnew_31 : decode cX4_startAnew 31 = .ok (.ldc2_w 206, 3) := by decide +kernel
theorem dX4_startAnew_34 : decode cX4_startAnew 34 = .ok (.ldc2_w 206, 3) := by decide +kernel
theorem dX4_startAnew_37 : decode cX4_startAnew 37 = .ok (.lload_n 1, 1) := by decide +kernel
theorem dX4_startAnew_38 : decode cX4_startAnew 38 = .ok (.lload_n 1, 1) := by decide +kernel
theorem dX4_startAnew_39 : decode cX4_startAnew 39 = .ok (.invokevirtual 106, 3) := by decide +kernel
theorem dX4_startAnew_42 : decode cX4_startAnew 42 = .ok (.return_, 1) := by decide +kernel
theorem dX4_needIndex_0 : decode cX4_needIndex 0 = .ok (.iload_n 0, 1) := by decide +kernel
theorem dX4_needIndex_1 : decode cX4_needIndex 1 = .ok (.ifCond .lt 8, 3) := by decide +kernel
theorem dX4_needIndex_4 : decode cX4_needIndex 4 = .ok (.iload_n 0, 1) := by decide +kernel
theorem dX4_needIndex_5 : decode cX4_needIndex 5 = .ok (.iload_n 1, 1) := by decide +kernel
theorem dX4_needIndex_6 : decode cX4_needIndex 6 = .ok (.if_icmp .lt 13, 3) := by decide +kernel
theorem dX4_needIndex_9 : decode cX4_needIndex 9 = .ok (.new 179, 3) := by decide +kernel
theorem dX4_needIndex_12 : decode cX4_needIndex 12 = .ok (.dup, 1) := by decide +kernel
theorem dX4_needIndex_13 : decode cX4_needIndex 13 = .ok (.ldc 208, 2) := by decide +kernel
theorem dX4_needIndex_15 : decode cX4_needIndex 15 = .ok (.invokespecial 183, 3) := by decide +kernel
theorem dX4_needIndex_18 : decode cX4_needIndex 18 = .ok (.athrow, 1) := by decide +kernel
theorem dX4_needIndex_19 : decode cX4_needIndex 19 = .ok (.return_, 1) := by decide +kernel
set_option maxRecDepth 20000 in
theorem ggX4_needMeeting_X4_needIndex : GoodIn wsX4_needMeeting wsX4_needIndex := goodIn_ca (goodIn_r _ [5, 6, 7] (by decide +kernel) (by decide +kernel)) (goodIn_sub (fun _ h => List.mem_cons_of_mem _ (List.mem_append_right _ h)) (by decide +kernel))
set_option maxRecDepth 20000 in
theorem gX4_needMeeting_X4_needIndex : GoodIn wsX4_needMeeting (va_wsS RX4 65 yX4_needIndex wsX4_needIndex) := goodIn_app (goodIn_of _ (by decide +kernel)) ggX4_needMeeting_X4_needIndex
theorem dX4_needMeeting_0 : decode cX4_needMeeting 0 = .ok (.iload_n 1, 1) := by decide +kernel
theorem dX4_needMeeting_1 : decode cX4_needMeeting 1 = .ok (.aload_n 0, 1) := by decide +kernel
theorem dX4_needMeeting_2 : decode cX4_needMeeting 2 = .ok (.getfield 96, 3) := by decide +kernel
theorem dX4_needMeeting_5 : decode cX4_needMeeting 5 = .ok (.invokestatic 65, 3) := by decide +kernel
theorem dX4_needMeeting_8 : decode cX4_needMeeting 8 = .ok (.iload_n 2, 1) := by decide +kernel
theorem dX4_needMeeting_9 : decode cX4_needMeeting 9 = .ok (.aload_n 0, 1) := by decide +kernel
theorem dX4_needMeeting_10 : decode cX4_needMeeting 10 = .ok (.getfield 96, 3) := by decide +kernel
theorem dX4_needMeeting_13 : decode cX4_needMeeting 13 = .ok (.invokestatic 65, 3) := by decide +kernel
theorem dX4_needMeeting_16 : decode cX4_needMeeting 16 = .ok (.iload_n 3, 1) := by decide +kernel
theorem dX4_needMeeting_17 : decode cX4_needMeeting 17 = .ok (.iconst 2, 1) := by decide +kernel
theorem dX4_needMeeting_18 : decode cX4_needMeeting 18 = .ok (.invokestatic 65, 3) := by decide +kernel
theorem dX4_needMeeting_21 : decode cX4_needMeeting 21 = .ok (.return_, 1) := by decide +kernel
theorem dX4_needInRange_0 : decode cX4_needInRange 0 = .ok (.lload_n 0, 1) := by decide +kernel
theorem dX4_needInRange_1 : decode cX4_needInRange 1 = .ok (.ldc2_w 210, 3) := by decide +kernel
theorem dX4_needInRange_4 : decode cX4_needInRange 4 = .ok (.lcmp, 1) := by decide +kernel
theorem dX4_needInRange_5 : decode cX4_needInRange 5 = .ok (.ifCond .lt 27, 3) := by decide +kernel
theorem dX4_needInRange_8 : decode cX4_needInRange 8 = .ok (.lload_n 0, 1) := by decide +kernel
theorem dX4_needInRange_9 : decode cX4_needInRange 9 = .ok (.ldc2_w 212, 3) := by decide +kernel
theorem dX4_needInRange_12 : decode cX4_needInRange 12 = .ok (.lcmp, 1) := by decide +kernel
theorem dX4_needInRange_13 : decode cX4_needInRange 13 = .ok (.ifCond .gt 19, 3) := by decide +kernel
theorem dX4_needInRange_16 : decode cX4_needInRange 16 = .ok (.lload_n 2, 1) := by decide +kernel
theorem dX4_needInRange_17 : decode cX4_needInRange 17 = .ok (.ldc2_w 210, 3) := by decide +kernel
theorem dX4_needInRange_20 : decode cX4_needInRange 20 = .ok (.lcmp, 1) := by decide +kernel
theorem dX4_needInRange_21 : decode cX4_needInRange 21 = .ok (.ifCond .lt 11, 3) := by decide +kernel
theorem dX4_needInRange_24 : decode cX4_needInRange 24 = .ok (.lload_n 2, 1) := by decide +kernel
theorem dX4_needInRange_25 : decode cX4_needInRange 25 = .ok (.ldc2_w 212, 3) := by decide +kernel
theorem dX4_needInRange_28 : decode cX4_needInRange 28 = .ok (.lcmp, 1) := by decide +kernel
theorem dX4_needInRange_29 : decode cX4_needInRange 29 = .ok (.ifCond .le 13, 3) := by decide +kernel
theorem dX4_needInRange_32 : decode cX4_needInRange 32 = .ok (.new 101, 3) := by decide +kernel
theorem dX4_needInRange_35 : decode cX4_needInRange 35 = .ok (.dup, 1) := by decide +kernel
theorem dX4_needInRange_36 : decode cX4_needInRange 36 = .ok (.ldc 214, 2) := by decide +kernel
theorem dX4_needInRange_38 : decode cX4_needInRange 38 = .ok (.invokespecial 105, 3) := by decide +kernel
theorem dX4_needInRange_41 : decode cX4_needInRange 41 = .ok (.athrow, 1) := by decide +kernel
theorem dX4_needInRange_42 : decode cX4_needInRange 42 = .ok (.return_, 1) := by decide +kernel
theorem dX4_isSolid_0 : decode cX4_isSolid 0 = .ok (.aload_n 0, 1) := by decide +kernel
theorem dX4_isSolid_1 : decode cX4_isSolid 1 = .ok (.getfield 21, 3) := by decide +kernel
theorem dX4_isSolid_4 : decode cX4_isSolid 4 = .ok (.iload_n 2, 1) := by decide +kernel
theorem dX4_isSolid_5 : decode cX4_isSolid 5 = .ok (.iaload, 1) := by decide +kernel
theorem dX4_isSolid_6 : decode cX4_isSolid 6 = .ok (.iload_n 1, 1) := by decide +kernel
theorem dX4_isSolid_7 : decode cX4_isSolid 7 = .ok (.ishr, 1) := by decide +kernel
theorem dX4_isSolid_8 : decode cX4_isSolid 8 = .ok (.iconst 1, 1) := by decide +kernel
theorem dX4_isSolid_9 : decode cX4_isSolid 9 = .ok (.iand, 1) := by decide +kernel
theorem dX4_isSolid_10 : decode cX4_isSolid 10 = .ok (.iconst 1, 1) := by decide +kernel
theorem dX4_isSolid_11 : decode cX4_isSolid 11 = .ok (.if_icmp .ne 7, 3) := by decide +kernel
theorem dX4_isSolid_14 : decode cX4_isSolid 14 = .ok (.iconst 1, 1) := by decide +kernel
theorem dX4_isSolid_15 : decode cX4_isSolid 15 = .ok (.goto 4, 3) := by decide +kernel
theorem dX4_isSolid_18 : decode cX4_isSolid 18 = .ok (.iconst 0, 1) := by decide +kernel
theorem dX4_isSolid_19 : decode cX4_isSolid 19 = .ok (.ireturn, 1) := by decide +kernel
set_option maxRecDepth 20000 in
theorem ggX4_firstTileFrom_J9_floorDiv_f86c9 : GoodIn wsX4_firstTileFrom wsJ9_floorDiv_f86c9 := goodIn_r _ [9] (by decide +kernel) (by decide +kernel)
set_option maxRecDepth 20000 in
theorem gX4_firstTileFrom_J9_floorDiv_f86c9 : GoodIn wsX4_firstTileFrom (va_wsS RX4 218 yJ9_floorDiv_f86c9 wsJ9_floorDiv_f86c9) := goodIn_app (goodIn_of _ (by decide +kernel)) ggX4_firstTileFrom_J9_floorDiv_f86c9
theorem dX4_firstTileFrom_0 : decode cX4_firstTileFrom 0 = .ok (.lconst 0, 1) := by decide +kernel
theorem dX4_firstTileFrom_1 : decode cX4_firstTileFrom 1 = .ok (.lload_n 0, 1) := by decide +kernel
theorem dX4_firstTileFrom_2 : decode cX4_firstTileFrom 2 = .ok (.ldc2_w 216, 3) := by decide +kernel
theorem dX4_firstTileFrom_5 : decode cX4_firstTileFrom 5 = .ok (.invokestatic 218, 3) := by decide +kernel
theorem dX4_firstTileFrom_8 : decode cX4_firstTileFrom 8 = .ok (.invokestatic 224, 3) := by decide +kernel
theorem dX4_firstTileFrom_11 : decode cX4_firstTileFrom 11 = .ok (.l2i, 1) := by decide +kernel
theorem dX4_firstTileFrom_12 : decode cX4_firstTileFrom 12 = .ok (.ireturn, 1) := by decide +kernel
set_option maxRecDepth 20000 in
theorem ggX4_lastTileTo_J9_floorDiv_f86c9 : GoodIn wsX4_lastTileTo wsJ9_floorDiv_f86c9 := goodIn_r _ [10] (by decide +kernel) (by decide +kernel)
set_option maxRecDepth 20000 in
theorem gX4_lastTileTo_J9_floorDiv_f86c9 : GoodIn wsX4_lastTileTo (va_wsS RX4 218 yJ9_floorDiv_f86c9 wsJ9_floorDiv_f86c9) := goodIn_app (goodIn_of _ (by decide +kernel)) ggX4_lastTileTo_J9_floorDiv_f86c9
theorem dX4_lastTileTo_0 : decode cX4_lastTileTo 0 = .ok (.ldc2_w 227, 3) := by decide +kernel
theorem dX4_lastTileTo_3 : decode cX4_lastTileTo 3 = .ok (.lload_n 0, 1) := by decide +kernel
theorem dX4_lastTileTo_4 : decode cX4_lastTileTo 4 = .ok (.ldc2_w 216, 3) := by decide +kernel
theorem dX4_lastTileTo_7 : decode cX4_lastTileTo 7 = .ok (.invokestatic 218, 3) := by decide +kernel
theorem dX4_lastTileTo_10 : decode cX4_lastTileTo 10 = .ok (.invokestatic 229, 3) := by decide +kernel
theorem dX4_lastTileTo_13 : decode cX4_lastTileTo 13 = .ok (.l2i, 1) := by decide +kernel
theorem dX4_lastTileTo_14 : decode cX4_lastTileTo 14 = .ok (.ireturn, 1) := by decide +kernel
set_option maxRecDepth 20000 in
theorem ggX4_isBlocked_X4_lastTileTo : GoodIn wsX4_isBlocked wsX4_lastTileTo := goodIn_r _ [5, 6, 7, 8, 9, 10, 11, 12, 13, 14, 15] (by decide +kernel) (by decide +kernel)
set_option maxRecDepth 20000 in
theorem gX4_isBlocked_X4_lastTileTo : GoodIn wsX4_isBlocked (va_wsS RX4 232 yX4_lastTileTo wsX4_lastTileTo) := goodIn_app (goodIn_of _ (by decide +kernel)) ggX4_isBlocked_X4_lastTileTo
set_option maxRecDepth 20000 in
theorem ggX4_isBlocked_X4_firstTileFrom : GoodIn wsX4_isBlocked wsX4_firstTileFrom := goodIn_r _ [18, 7, 19, 20, 10, 21, 12, 13, 14, 15] (by decide +kernel) (by decide +kernel)
set_option maxRecDepth 20000 in
theorem gX4_isBlocked_X4_firstTileFrom : GoodIn wsX4_isBlocked (va_wsS RX4 236 yX4_firstTileFrom wsX4_firstTileFrom) := goodIn_app (goodIn_of _ (by decide +kernel)) ggX4_isBlocked_X4_firstTileFrom
set_option maxRecDepth 20000 in
theorem ggX4_isBlocked_X0_putTile : GoodIn wsX4_isBlocked wsX0_putTile := goodIn_r _ [26, 27, 28, 29, 30, 25, 31, 32, 33, 34, 35, 36, 37, 38, 39, 40, 41, 61, 62, 63, 64, 65, 66] (by decide +kernel) (by decide +kernel)
set_option maxRecDepth 20000 in
theorem gX4_isBlocked_X0_putTile : GoodIn wsX4_isBlocked (wsV RX4 137 RX0 yX0_putTile wsX0_putTile) := goodIn_app (goodIn_of _ (by decide +kernel)) ggX4_isBlocked_X0_putTile
set_option maxRecDepth 20000 in
theorem ggX4_isBlocked_X4_isSolid : GoodIn wsX4_isBlocked wsX4_isSolid := goodIn_r _ [45, 46, 51, 52, 53, 54, 55, 56, 57, 58, 59, 60] (by decide +kernel) (by decide +kernel)
set_option maxRecDepth 20000 in
theorem gX4_isBlocked_X4_isSolid : GoodIn wsX4_isBlocked (wsV RX4 146 RX4 yX4_isSolid wsX4_isSolid) := goodIn_app (goodIn_of _ (by decide +kernel)) ggX4_isBlocked_X4_isSolid
set_option maxRecDepth 20000 in
theorem ggX4_isBlocked_X0_liesOverRange : GoodIn wsX4_isBlocked wsX0_liesOverRange := goodIn_r _ [50, 32, 34, 33, 35, 61, 62, 63, 64, 65, 66] (by decide +kernel) (by decide +kernel)
set_option maxRecDepth 20000 in
theorem gX4_isBlocked_X0_liesOverRange : GoodIn wsX4_isBlocked (wsV RX4 239 RX0 yX0_liesOverRange wsX0_liesOverRange) := goodIn_app (goodIn_of _ (by decide +kernel)) ggX4_isBlocked_X0_liesOverRange
theorem dX4_isBlocked_0 : decode cX4_isBlocked 0 = .ok (.lload 7, 2) := by decide +kernel
theorem dX4_isBlocked_2 : decode cX4_isBlocked 2 = .ok (.invokestatic 232, 3) := by decide +kernel
theorem dX4_isBlocked_5 : decode cX4_isBlocked 5 = .ok (.istore 9, 2) := by decide +kernel
theorem dX4_isBlocked_7 : decode cX4_isBlocked 7 = .ok (.lload_n 1, 1) := by decide +kernel
theorem dX4_isBlocked_8 : decode cX4_isBlocked 8 = .ok (.invokestatic 236, 3) := by decide +kernel
theorem dX4_isBlocked_11 : decode cX4_isBlocked 11 = .ok (.istore 10, 2) := by decide +kernel
theorem dX4_isBlocked_13 : decode cX4_isBlocked 13 = .ok (.lload 5, 2) := by decide +kernel
theorem dX4_isBlocked_15 : decode cX4_isBlocked 15 = .ok (.invokestatic 232, 3) := by decide +kernel
theorem dX4_isBlocked_18 : decode cX4_isBlocked 18 = .ok (.istore 11, 2) := by decide +kernel
theorem dX4_isBlocked_20 : decode cX4_isBlocked 20 = .ok (.lload_n 3, 1) := by decide +kernel
theorem dX4_isBlocked_21 : decode cX4_isBlocked 21 = .ok (.invokestatic 236, 3) := by decide +kernel
theorem dX4_isBlocked_24 : decode cX4_isBlocked 24 = .ok (.istore 12, 2) := by decide +kernel
theorem dX4_isBlocked_26 : decode cX4_isBlocked 26 = .ok (.iload 12, 2) := by decide +kernel
theorem dX4_isBlocked_28 : decode cX4_isBlocked 28 = .ok (.iload 9, 2) := by decide +kernel
theorem dX4_isBlocked_30 : decode cX4_isBlocked 30 = .ok (.if_icmp .gt 66, 3) := by decide +kernel
theorem dX4_isBlocked_33 : decode cX4_isBlocked 33 = .ok (.iload 10, 2) := by decide +kernel
theorem dX4_isBlocked_35 : decode cX4_isBlocked 35 = .ok (.istore 13, 2) := by decide +kernel
theorem dX4_isBlocked_37 : decode cX4_isBlocked 37 = .ok (.iload 13, 2) := by decide +kernel
theorem dX4_isBlocked_39 : decode cX4_isBlocked 39 = .ok (.iload 11, 2) := by decide +kernel
theorem dX4_isBlocked_41 : decode cX4_isBlocked 41 = .ok (.if_icmp .gt 49, 3) := by decide +kernel
theorem dX4_isBlocked_44 : decode cX4_isBlocked 44 = .ok (.aload_n 0, 1) := by decide +kernel
theorem dX4_isBlocked_45 : decode cX4_isBlocked 45 = .ok (.getfield 36, 3) := by decide +kernel
theorem dX4_isBlocked_48 : decode cX4_isBlocked 48 = .ok (.iload 13, 2) := by decide +kernel
theorem dX4_isBlocked_50 : decode cX4_isBlocked 50 = .ok (.iload 12, 2) := by decide +kernel
theorem dX4_isBlocked_52 : decode cX4_isBlocked 52 = .ok (.invokevirtual 137, 3) := by decide +kernel
theorem dX4_isBlocked_55 : decode cX4_isBlocked 55 = .ok (.aload_n 0, 1) := by decide +kernel
theorem dX4_isBlocked_56 : decode cX4_isBlocked 56 = .ok (.iload 13, 2) := by decide +kernel
theorem dX4_isBlocked_58 : decode cX4_isBlocked 58 = .ok (.iload 12, 2) := by decide +kernel
theorem dX4_isBlocked_60 : decode cX4_isBlocked 60 = .ok (.invokevirtual 146, 3) := by decide +kernel
theorem dX4_isBlocked_63 : decode cX4_isBlocked 63 = .ok (.ifCond .eq 21, 3) := by decide +kernel
theorem dX4_isBlocked_66 : decode cX4_isBlocked 66 = .ok (.aload_n 0, 1) := by decide +kernel
theorem dX4_isBlocked_67 : decode cX4_isBlocked 67 = .ok (.getfield 36, 3) := by decide +kernel
theorem dX4_isBlocked_70 : decode cX4_isBlocked 70 = .ok (.lload_n 1, 1) := by decide +kernel
theorem dX4_isBlocked_71 : decode cX4_isBlocked 71 = .ok (.lload_n 3, 1) := by decide +kernel
theorem dX4_isBlocked_72 : decode cX4_isBlocked 72 = .ok (.lload 5, 2) := by decide +kernel
theorem dX4_isBlocked_74 : decode cX4_isBlocked 74 = .ok (.lload 7, 2) := by decide +kernel
theorem dX4_isBlocked_76 : decode cX4_isBlocked 76 = .ok (.invokevirtual 239, 3) := by decide +kernel
theorem dX4_isBlocked_79 : decode cX4_isBlocked 79 = .ok (.ifCond .eq 5, 3) := by decide +kernel
theorem dX4_isBlocked_82 : decode cX4_isBlocked 82 = .ok (.iconst 1, 1) := by decide +kernel
theorem dX4_isBlocked_83 : decode cX4_isBlocked 83 = .ok (.ireturn, 1) := by decide +kernel
theorem dX4_isBlocked_84 : decode cX4_isBlocked 84 = .ok (.iinc 13 1, 3) := by decide +kernel
theorem dX4_isBlocked_87 : decode cX4_isBlocked 87 = .ok (.goto (-50), 3) := by decide +kernel
theorem dX4_isBlocked_90 : decode cX4_isBlocked 90 = .ok (.iinc 12 1, 3) := by decide +kernel
theorem dX4_isBlocked_93 : decode cX4_isBlocked 93 = .ok (.goto (-67), 3) := by decide +kernel
theorem dX4_isBlocked_96 : decode cX4_isBlocked 96 = .ok (.iconst 0, 1) := by decide +kernel
theorem dX4_isBlocked_97 : decode cX4_isBlocked 97 = .ok (.ireturn, 1) := by decide +kernel
set_option maxRecDepth 20000 in
theorem ggX4_runSweep_X3_meetNothing : GoodIn wsX4_runSweep wsX3_meetNothing := goodIn_r _ [13, 14, 15, 16, 17, 141, 142, 143, 144, 145, 146] (by decide +kernel) (by decide +kernel)
set_option maxRecDepth 20000 in
theorem gX4_runSweep_X3_meetNothing : GoodIn wsX4_runSweep (wsV RX4 242 RX3 yX3_meetNothing wsX3_meetNothing) := goodIn_app (goodIn_of _ (by decide +kernel)) ggX4_runSweep_X3_meetNothing
set_option maxRecDepth 20000 in
theorem ggX4_runSweep_X4_seekFirstTile : GoodIn wsX4_runSweep wsX4_seekFirstTile := goodIn_r _ [22, 2, 23, 4, 24, 25, 26, 27, 5, 3, 28, 29, 30, 31, 7, 32, 33, 21, 34, 35, 36, 37, 38, 39, 40, 41, 42, 43, 44, 45, 46, 47, 48, 49, 50, 51, 52, 53, 54, 1, 55, 56, 57, 58, 59, 60, 61, 62, 63, 64, 65, 66, 67, 68, 69, 70, 71, 72, 73, 74, 75, 76, 77, 78, 79, 80, 81, 82, 83, 84, 85, 86, 87, 88, 89, 90, 91, 92, 93, 94, 95, 96, 97, 98, 99, 100, 101, 102, 103, 104, 105, 106, 107, 108, 109, 110, 111, 112, 113, 114, 115, 116, 117, 118, 119, 120, 121, 122, 147, 148, 149, 150, 151, 152, 153, 154, 155, 156, 157, 158, 159, 160, 161, 162, 141, 142, 143, 144, 145, 146, 163, 164, 165, 166, 167] (by decide +kernel) (by decide +kernel)
set_option maxRecDepth 20000 in
theorem gX4_runSweep_X4_seekFirstTile : GoodIn wsX4_runSweep (wsV RX4 245 RX4 yX4_seekFirstTile wsX4_seekFirstTile) := goodIn_app (goodIn_of _ (by decide +kernel)) ggX4_runSweep_X4_seekFirstTile
set_option maxRecDepth 20000 in
theorem ggX4_runSweep_X0_shift : GoodIn wsX4_runSweep wsX0_shift := goodIn_r _ [126, 69, 70, 71, 72, 157, 158, 159, 160, 161, 162] (by decide +kernel) (by decide +kernel)
set_option maxRecDepth 20000 in
theorem gX4_runSweep_X0_shift : GoodIn wsX4_runSweep (wsV RX4 248 RX0 yX0_shift wsX0_shift) := goodIn_app (goodIn_of _ (by decide +kernel)) ggX4_runSweep_X0_shift
set_option maxRecDepth 20000 in
theorem ggX4_runSweep_X0_head : GoodIn wsX4_runSweep wsX0_head := goodIn_r _ [76, 77, 78, 157, 158, 159, 160, 161, 162] (by decide +kernel) (by decide +kernel)
set_option maxRecDepth 20000 in
theorem gX4_runSweep_X0_head : GoodIn wsX4_runSweep (wsV RX4 117 RX0 yX0_head wsX0_head) := goodIn_app (goodIn_of _ (by decide +kernel)) ggX4_runSweep_X0_head
set_option maxRecDepth 20000 in
theorem ggX4_runSweep_X4_stopAndSlide : GoodIn wsX4_runSweep wsX4_stopAndSlide := goodIn_r _ [131, 132, 2, 3, 4, 133, 134, 135, 21, 136, 1, 36, 55, 5, 56, 31, 137, 138, 139, 12, 140, 17, 16, 123, 124, 125, 62, 126, 69, 70, 71, 72, 127, 74, 75, 76, 77, 78, 141, 142, 143, 144, 145, 146, 147, 148, 149, 150, 151, 152, 153, 154, 155, 156, 157, 158, 159, 160, 161, 162] (by decide +kernel) (by decide +kernel)
set_option maxRecDepth 20000 in
theorem gX4_runSweep_X4_stopAndSlide : GoodIn wsX4_runSweep (wsV RX4 251 RX4 yX4_stopAndSlide wsX4_stopAndSlide) := goodIn_app (goodIn_of _ (by decide +kernel)) ggX4_runSweep_X4_stopAndSlide
theorem dX4_runSweep_0 : decode cX4_runSweep 0 = .ok (.aload_n 1, 1) := by decide +kernel
theorem dX4_runSweep_1 : decode cX4_runSweep 1 = .ok (.invokevirtual 242, 3) := by decide +kernel
theorem dX4_runSweep_4 : decode cX4_runSweep 4 = .ok (.aload_n 0, 1) := by decide +kernel
theorem dX4_runSweep_5 : decode cX4_runSweep 5 = .ok (.aload_n 1, 1) := by decide +kernel
theorem dX4_runSweep_6 : decode cX4_runSweep 6 = .ok (.invokevirtual 245, 3) := by decide +kernel
theorem dX4_runSweep_9 : decode cX4_runSweep 9 = .ok (.aload_n 1, 1) := by decide +kernel
theorem dX4_runSweep_10 : decode cX4_runSweep 10 = .ok (.getfield 193, 3) := by decide +kernel
theorem dX4_runSweep_13 : decode cX4_runSweep 13 = .ok (.iconst (-1), 1) := by decide +kernel
theorem dX4_runSweep_14 : decode cX4_runSweep 14 = .ok (.if_icmp .ne 36, 3) := by decide +kernel
theorem dX4_runSweep_17 : decode cX4_runSweep 17 = .ok (.aload_n 0, 1) := by decide +kernel
theorem dX4_runSweep_18 : decode cX4_runSweep 18 = .ok (.getfield 26, 3) := by decide +kernel
theorem dX4_runSweep_21 : decode cX4_runSweep 21 = .ok (.aload_n 0, 1) := by decide +kernel
theorem dX4_runSweep_22 : decode cX4_runSweep 22 = .ok (.getfield 26, 3) := by decide +kernel
theorem dX4_runSweep_25 : decode cX4_runSweep 25 = .ok (.getfield 110, 3) := by decide +kernel
theorem dX4_runSweep_28 : decode cX4_runSweep 28 = .ok (.aload_n 0, 1) := by decide +kernel
theorem dX4_runSweep_29 : decode cX4_runSweep 29 = .ok (.getfield 26, 3) := by decide +kernel
theorem dX4_runSweep_32 : decode cX4_runSweep 32 = .ok (.getfield 114, 3) := by decide +kernel
theorem dX4_runSweep_35 : decode cX4_runSweep 35 = .ok (.invokevirtual 248, 3) := by decide +kernel
theorem dX4_runSweep_38 : decode cX4_runSweep 38 = .ok (.aload_n 0, 1) := by decide +kernel
theorem dX4_runSweep_39 : decode cX4_runSweep 39 = .ok (.getfield 26, 3) := by decide +kernel
theorem dX4_runSweep_42 : decode cX4_runSweep 42 = .ok (.lconst 0, 1) := by decide +kernel
theorem dX4_runSweep_43 : decode cX4_runSweep 43 = .ok (.lconst 0, 1) := by decide +kernel
theorem dX4_runSweep_44 : decode cX4_runSweep 44 = .ok (.invokevirtual 117, 3) := by decide +kernel
theorem dX4_runSweep_47 : decode cX4_runSweep 47 = .ok (.goto 8, 3) := by decide +kernel
theorem dX4_runSweep_50 : decode cX4_runSweep 50 = .ok (.aload_n 0, 1) := by decide +kernel
theorem dX4_runSweep_51 : decode cX4_runSweep 51 = .ok (.aload_n 1, 1) := by decide +kernel
theorem dX4_runSweep_52 : decode cX4_runSweep 52 = .ok (.invokevirtual 251, 3) := by decide +kernel
theorem dX4_runSweep_55 : decode cX4_runSweep 55 = .ok (.aload_n 1, 1) := by decide +kernel
theorem dX4_runSweep_56 : decode cX4_runSweep 56 = .ok (.aload_n 0, 1) := by decide +kernel
theorem dX4_runSweep_57 : decode cX4_runSweep 57 = .ok (.getfield 26, 3) := by decide +kernel
theorem dX4_runSweep_60 : decode cX4_runSweep 60 = .ok (.getfield 158, 3) := by decide +kernel
theorem dX4_runSweep_63 : decode cX4_runSweep 63 = .ok (.putfield 184, 3) := by decide +kernel
theorem dX4_runSweep_66 : decode cX4_runSweep 66 = .ok (.aload_n 1, 1) := by decide +kernel
theorem dX4_runSweep_67 : decode cX4_runSweep 67 = .ok (.aload_n 0, 1) := by decide +kernel
theorem dX4_runSweep_68 : decode cX4_runSweep 68 = .ok (.getfield 26, 3) := by decide +kernel
theorem dX4_runSweep_71 : decode cX4_runSweep 71 = .ok (.getfield 161, 3) := by decide +kernel
theorem dX4_runSweep_74 : decode cX4_runSweep 74 = .ok (.putfield 187, 3) := by decide +kernel
theorem dX4_runSweep_77 : decode cX4_runSweep 77 = .ok (.return_, 1) := by decide +kernel
set_option maxRecDepth 20000 in
theorem ggX4_seekFirstTile_X4_lastTileTo : GoodIn wsX4_seekFirstTile wsX4_lastTileTo := goodIn_r _ [18, 19, 20, 10, 11, 6, 12, 21, 22, 23, 24] (by decide +kernel) (by decide +kernel)
set_option maxRecDepth 20000 in
theorem gX4_seekFirstTile_X4_lastTileTo : GoodIn wsX4_seekFirstTile (va_wsS RX4 232 yX4_lastTileTo wsX4_lastTileTo) := goodIn_app (goodIn_of _ (by decide +kernel)) ggX4_seekFirstTile_X4_lastTileTo
set_option maxRecDepth 20000 in
theorem ggX4_seekFirstTile_X4_firstTileFrom : GoodIn wsX4_seekFirstTile wsX4_firstTileFrom := goodIn_r _ [27, 20, 4, 5, 6, 7, 21, 22, 23, 24] (by decide +kernel) (by decide +kernel)
set_option maxRecDepth 20000 in
theorem gX4_seekFirstTile_X4_firstTileFrom : GoodIn wsX4_seekFirstTile (va_wsS RX4 236 yX4_firstTileFrom wsX4_firstTileFrom) := goodIn_app (goodIn_of _ (by decide +kernel)) ggX4_seekFirstTile_X4_firstTileFrom
set_option maxRecDepth 20000 in
theorem ggX4_seekFirstTile_X4_isSolid : GoodIn wsX4_seekFirstTile wsX4_isSolid := goodIn_r _ [31, 32, 108, 109, 110, 111, 112, 113, 114, 115, 116, 117] (by decide +kernel) (by decide +kernel)
set_option maxRecDepth 20000 in
theorem gX4_seekFirstTile_X4_isSolid : GoodIn wsX4_seekFirstTile (wsV RX4 146 RX4 yX4_isSolid wsX4_isSolid) := goodIn_app (goodIn_of _ (by decide +kernel)) ggX4_seekFirstTile_X4_isSolid
set_option maxRecDepth 20000 in
theorem ggX4_seekFirstTile_X4_tryTile : GoodIn wsX4_seekFirstTile wsX4_tryTile := goodIn_r _ [36, 37, 38, 1, 39, 40, 41, 42, 43, 44, 45, 46, 47, 48, 49, 50, 51, 52, 53, 54, 55, 56, 57, 58, 59, 60, 61, 62, 63, 64, 65, 66, 67, 68, 69, 70, 71, 72, 73, 74, 75, 76, 77, 78, 79, 80, 81, 82, 83, 84, 85, 86, 87, 88, 89, 6, 90, 91, 92, 93, 94, 95, 96, 97, 98, 99, 100, 101, 102, 103, 5, 7, 104, 105, 106, 107, 108, 109, 110, 111, 112, 113, 114, 115, 116, 117, 124, 125, 126, 127, 128, 129, 130, 131, 132, 133, 134, 118, 119, 120, 121, 122, 123] (by decide +kernel) (by decide +kernel)
set_option maxRecDepth 20000 in
theorem gX4_seekFirstTile_X4_tryTile : GoodIn wsX4_seekFirstTile (wsV RX4 254 RX4 yX4_tryTile wsX4_tryTile) := goodIn_app (goodIn_of _ (by decide +kernel)) ggX4_seekFirstTile_X4_tryTile
theorem dX4_seekFirstTile_0 : decode cX4_seekFirstTile 0 = .ok (.aload_n 0, 1) := by decide +kernel
theorem dX4_seekFirstTile_1 : decode cX4_seekFirstTile 1 = .ok (.getfield 26, 3) := by decide +kernel
theorem dX4_seekFirstTile_4 : decode cX4_seekFirstTile 4 = .ok (.getfield 176, 3) := by decide +kernel
theorem dX4_seekFirstTile_7 : decode cX4_seekFirstTile 7 = .ok (.lconst 0, 1) := by decide +kernel
theorem dX4_seekFirstTile_8 : decode cX4_seekFirstTile 8 = .ok (.aload_n 0, 1) := by decide +kernel
theorem dX4_seekFirstTile_9 : decode cX4_seekFirstTile 9 = .ok (.getfield 26, 3) := by decide +kernel
theorem dX4_seekFirstTile_12 : decode cX4_seekFirstTile 12 = .ok (.getfield 114, 3) := by decide +kernel
theorem dX4_seekFirstTile_15 : decode cX4_seekFirstTile 15 = .ok (.invokestatic 224, 3) := by decide +kernel
theorem dX4_seekFirstTile_18 : decode cX4_seekFirstTile 18 = .ok (.ladd, 1) := by decide +kernel
theorem dX4_seekFirstTile_19 : decode cX4_seekFirstTile 19 = .ok (.invokestatic 232, 3) := by decide +kernel
theorem dX4_seekFirstTile_22 : decode cX4_seekFirstTile 22 = .ok (.istore_n 2, 1) := by decide +kernel
theorem dX4_seekFirstTile_23 : decode cX4_seekFirstTile 23 = .ok (.aload_n 0, 1) := by decide +kernel
theorem dX4_seekFirstTile_24 : decode cX4_seekFirstTile 24 = .ok (.getfield 26, 3) := by decide +kernel
theorem dX4_seekFirstTile_27 : decode cX4_seekFirstTile 27 = .ok (.getfield 158, 3) := by decide +kernel
theorem dX4_seekFirstTile_30 : decode cX4_seekFirstTile 30 = .ok (.lconst 0, 1) := by decide +kernel
theorem dX4_seekFirstTile_31 : decode cX4_seekFirstTile 31 = .ok (.aload_n 0, 1) := by decide +kernel
theorem dX4_seekFirstTile_32 : decode cX4_seekFirstTile 32 = .ok (.getfield 26, 3) := by decide +kernel
theorem dX4_seekFirstTile_35 : decode cX4_seekFirstTile 35 = .ok (.getfield 110, 3) := by decide +kernel
theorem dX4_seekFirstTile_38 : decode cX4_seekFirstTile 38 = .ok (.invokestatic 229, 3) := by decide +kernel
theorem dX4_seekFirstTile_41 : decode cX4_seekFirstTile 41 = .ok (.ladd, 1) := by decide +kernel
theorem dX4_seekFirstTile_42 : decode cX4_seekFirstTile 42 = .ok (.invokestatic 236, 3) := by decide +kernel
theorem dX4_seekFirstTile_45 : decode cX4_seekFirstTile 45 = .ok (.istore_n 3, 1) := by decide +kernel
theorem dX4_seekFirstTile_46 : decode cX4_seekFirstTile 46 = .ok (.aload_n 0, 1) := by decide +kernel
theorem dX4_seekFirstTile_47 : decode cX4_seekFirstTile 47 = .ok (.getfield 26, 3) := by decide +kernel
theorem dX4_seekFirstTile_50 : decode cX4_seekFirstTile 50 = .ok (.getfield 173, 3) := by decide +kernel
theorem dX4_seekFirstTile_53 : decode cX4_seekFirstTile 53 = .ok (.lconst 0, 1) := by decide +kernel
theorem dX4_seekFirstTile_54 : decode cX4_seekFirstTile 54 = .ok (.aload_n 0, 1) := by decide +kernel
theorem dX4_seekFirstTile_55 : decode cX4_seekFirstTile 55 = .ok (.getfield 26, 3) := by decide +kernel
theorem dX4_seekFirstTile_58 : decode cX4_seekFirstTile 58 = .ok (.getfield 110, 3) := by decide +kernel
theorem dX4_seekFirstTile_61 : decode cX4_seekFirstTile 61 = .ok (.invokestatic 224, 3) := by decide +kernel
theorem dX4_seekFirstTile_64 : decode cX4_seekFirstTile 64 = .ok (.ladd, 1) := by decide +kernel
theorem dX4_seekFirstTile_65 : decode cX4_seekFirstTile 65 = .ok (.invokestatic 232, 3) := by decide +kernel
theorem dX4_seekFirstTile_68 : decode cX4_seekFirstTile 68 = .ok (.istore 4, 2) := by decide +kernel
theorem dX4_seekFirstTile_70 : decode cX4_seekFirstTile 70 = .ok (.aload_n 0, 1) := by decide +kernel
theorem dX4_seekFirstTile_71 : decode cX4_seekFirstTile 71 = .ok (.getfield 26, 3) := by decide +kernel
theorem dX4_seekFirstTile_74 : decode cX4_seekFirstTile 74 = .ok (.getfield 161, 3) := by decide +kernel
theorem dX4_seekFirstTile_77 : decode cX4_seekFirstTile 77 = .ok (.lconst 0, 1) := by decide +kernel
theorem dX4_seekFirstTile_78 : decode cX4_seekFirstTile 78 = .ok (.aload_n 0, 1) := by decide +kernel
theorem dX4_seekFirstTile_79 : decode cX4_seekFirstTile 79 = .ok (.getfield 26, 3) := by decide +kernel
theorem dX4_seekFirstTile_82 : decode cX4_seekFirstTile 82 = .ok (.getfield 114, 3) := by decide +kernel
theorem dX4_seekFirstTile_85 : decode cX4_seekFirstTile 85 = .ok (.invokestatic 229, 3) := by decide +kernel
theorem dX4_seekFirstTile_88 : decode cX4_seekFirstTile 88 = .ok (.ladd, 1) := by decide +kernel
theorem dX4_seekFirstTile_89 : decode cX4_seekFirstTile 89 = .ok (.invokestatic 236, 3) := by decide +kernel
theorem dX4_seekFirstTile_92 : decode cX4_seekFirstTile 92 = .ok (.istore 5, 2) := by decide +kernel
theorem dX4_seekFirstTile_94 : decode cX4_seekFirstTile 94 = .ok (.iload 5, 2) := by decide +kernel
theorem dX4_seekFirstTile_96 : decode cX4_seekFirstTile 96 = .ok (.iload_n 2, 1) := by decide +kernel
theorem dX4_seekFirstTile_97 : decode cX4_seekFirstTile 97 = .ok (.if_icmp .gt 45, 3) := by decide +kernel
theorem dX4_seekFirstTile_100 : decode cX4_seekFirstTile 100 = .ok (.iload_n 3, 1) := by decide +kernel
theorem dX4_seekFirstTile_101 : decode cX4_seekFirstTile 101 = .ok (.istore 6, 2) := by decide +kernel
theorem dX4_seekFirstTile_103 : decode cX4_seekFirstTile 103 = .ok (.iload 6, 2) := by decide +kernel
theorem dX4_seekFirstTile_105 : decode cX4_seekFirstTile 105 = .ok (.iload 4, 2) := by decide +kernel
theorem dX4_seekFirstTile_107 : decode cX4_seekFirstTile 107 = .ok (.if_icmp .gt 29, 3) := by decide +kernel
theorem dX4_seekFirstTile_110 : decode cX4_seekFirstTile 110 = .ok (.aload_n 0, 1) := by decide +kernel
theorem dX4_seekFirstTile_111 : decode cX4_seekFirstTile 111 = .ok (.iload 6, 2) := by decide +kernel
theorem dX4_seekFirstTile_113 : decode cX4_seekFirstTile 113 = .ok (.iload 5, 2) := by decide +kernel
theorem dX4_seekFirstTile_115 : decode cX4_seekFirstTile 115 = .ok (.invokevirtual 146, 3) := by decide +kernel
theorem dX4_seekFirstTile_118 : decode cX4_seekFirstTile 118 = .ok (.ifCond .eq 12, 3) := by decide +kernel
theorem dX4_seekFirstTile_121 : decode cX4_seekFirstTile 121 = .ok (.aload_n 0, 1) := by decide +kernel
theorem dX4_seekFirstTile_122 : decode cX4_seekFirstTile 122 = .ok (.iload 6, 2) := by decide +kernel
theorem dX4_seekFirstTile_124 : decode cX4_seekFirstTile 124 = .ok (.iload 5, 2) := by decide +kernel
theorem dX4_seekFirstTile_126 : decode cX4_seekFirstTile 126 = .ok (.aload_n 1, 1) := by decide +kernel
theorem dX4_seekFirstTile_127 : decode cX4_seekFirstTile 127 = .ok (.invokevirtual 254, 3) := by decide +kernel
theorem dX4_seekFirstTile_130 : decode cX4_seekFirstTile 130 = .ok (.iinc 6 1, 3) := by decide +kernel
theorem dX4_seekFirstTile_133 : decode cX4_seekFirstTile 133 = .ok (.goto (-30), 3) := by decide +kernel
theorem dX4_seekFirstTile_136 : decode cX4_seekFirstTile 136 = .ok (.iinc 5 1, 3) := by decide +kernel
theorem dX4_seekFirstTile_139 : decode cX4_seekFirstTile 139 = .ok (.goto (-45), 3) := by decide +kernel
theorem dX4_seekFirstTile_142 : decode cX4_seekFirstTile 142 = .ok (.return_, 1) := by decide +kernel
set_option maxRecDepth 20000 in
theorem ggX4_tryTile_X0_putTile : GoodIn wsX4_tryTile wsX0_putTile := goodIn_r _ [13, 14, 15, 16, 17, 12, 18, 19, 20, 21, 22, 23, 24, 25, 26, 27, 28, 97, 98, 99, 100, 101, 102] (by decide +kernel) (by decide +kernel)
set_option maxRecDepth 20000 in
theorem gX4_tryTile_X0_putTile : GoodIn wsX4_tryTile (wsV RX4 137 RX0 yX0_putTile wsX0_putTile) := goodIn_app (goodIn_of _ (by decide +kernel)) ggX4_tryTile_X0_putTile
set_option maxRecDepth 20000 in
theorem ggX4_tryTile_X2_seekOverlap : GoodIn wsX4_tryTile wsX2_seekOverlap := goodIn_r _ [33, 34, 35, 36, 37, 38, 39, 40, 41, 32, 42, 43, 44, 45, 46, 47, 48, 49, 50, 51, 52, 53, 54, 55, 56, 57, 58, 59, 12, 60, 19, 21, 20, 22, 61, 62, 63, 64, 65, 66, 67, 68, 69, 70, 71, 92, 93, 94, 95, 96, 97, 98, 99, 100, 101, 102] (by decide +kernel) (by decide +kernel)
set_option maxRecDepth 20000 in
theorem gX4_tryTile_X2_seekOverlap : GoodIn wsX4_tryTile (wsV RX4 134 RX2 yX2_seekOverlap wsX2_seekOverlap) := goodIn_app (goodIn_of _ (by decide +kernel)) ggX4_tryTile_X2_seekOverlap
set_option maxRecDepth 20000 in
theorem ggX4_tryTile_X2_isBefore : GoodIn wsX4_tryTile wsX2_isBefore := goodIn_r _ [75, 35, 38, 92, 93, 94, 95, 96] (by decide +kernel) (by decide +kernel)
set_option maxRecDepth 20000 in
theorem gX4_tryTile_X2_isBefore : GoodIn wsX4_tryTile (wsV RX4 258 RX2 yX2_isBefore wsX2_isBefore) := goodIn_app (goodIn_of _ (by decide +kernel)) ggX4_tryTile_X2_isBefore
theorem dX4_tryTile_0 : decode cX4_tryTile 0 = .ok (.aload_n 0, 1) := by decide +kernel
theorem dX4_tryTile_1 : decode cX4_tryTile 1 = .ok (.getfield 36, 3) := by decide +kernel
theorem dX4_tryTile_4 : decode cX4_tryTile 4 = .ok (.iload_n 1, 1) := by decide +kernel
theorem dX4_tryTile_5 : decode cX4_tryTile 5 = .ok (.iload_n 2, 1) := by decide +kernel
theorem dX4_tryTile_6 : decode cX4_tryTile 6 = .ok (.invokevirtual 137, 3) := by decide +kernel
theorem dX4_tryTile_9 : decode cX4_tryTile 9 = .ok (.aload_n 0, 1) := by decide +kernel
theorem dX4_tryTile_10 : decode cX4_tryTile 10 = .ok (.getfield 42, 3) := by decide +kernel
theorem dX4_tryTile_13 : decode cX4_tryTile 13 = .ok (.aload_n 0, 1) := by decide +kernel
theorem dX4_tryTile_14 : decode cX4_tryTile 14 = .ok (.getfield 26, 3) := by decide +kernel
theorem dX4_tryTile_17 : decode cX4_tryTile 17 = .ok (.aload_n 0, 1) := by decide +kernel
theorem dX4_tryTile_18 : decode cX4_tryTile 18 = .ok (.getfield 36, 3) := by decide +kernel
theorem dX4_tryTile_21 : decode cX4_tryTile 21 = .ok (.invokevirtual 134, 3) := by decide +kernel
theorem dX4_tryTile_24 : decode cX4_tryTile 24 = .ok (.istore 4, 2) := by decide +kernel
theorem dX4_tryTile_26 : decode cX4_tryTile 26 = .ok (.iload 4, 2) := by decide +kernel
theorem dX4_tryTile_28 : decode cX4_tryTile 28 = .ok (.ifCond .eq 61, 3) := by decide +kernel
theorem dX4_tryTile_31 : decode cX4_tryTile 31 = .ok (.aload_n 3, 1) := by decide +kernel
theorem dX4_tryTile_32 : decode cX4_tryTile 32 = .ok (.getfield 193, 3) := by decide +kernel
theorem dX4_tryTile_35 : decode cX4_tryTile 35 = .ok (.iconst (-1), 1) := by decide +kernel
theorem dX4_tryTile_36 : decode cX4_tryTile 36 = .ok (.if_icmp .eq 21, 3) := by decide +kernel
theorem dX4_tryTile_39 : decode cX4_tryTile 39 = .ok (.aload_n 0, 1) := by decide +kernel
theorem dX4_tryTile_40 : decode cX4_tryTile 40 = .ok (.getfield 42, 3) := by decide +kernel
theorem dX4_tryTile_43 : decode cX4_tryTile 43 = .ok (.aload_n 3, 1) := by decide +kernel
theorem dX4_tryTile_44 : decode cX4_tryTile 44 = .ok (.getfield 196, 3) := by decide +kernel
theorem dX4_tryTile_47 : decode cX4_tryTile 47 = .ok (.aload_n 3, 1) := by decide +kernel
theorem dX4_tryTile_48 : decode cX4_tryTile 48 = .ok (.getfield 197, 3) := by decide +kernel
theorem dX4_tryTile_51 : decode cX4_tryTile 51 = .ok (.invokevirtual 258, 3) := by decide +kernel
theorem dX4_tryTile_54 : decode cX4_tryTile 54 = .ok (.ifCond .eq 35, 3) := by decide +kernel
theorem dX4_tryTile_57 : decode cX4_tryTile 57 = .ok (.aload_n 3, 1) := by decide +kernel
theorem dX4_tryTile_58 : decode cX4_tryTile 58 = .ok (.bipush 24, 2) := by decide +kernel
theorem dX4_tryTile_60 : decode cX4_tryTile 60 = .ok (.iload_n 2, 1) := by decide +kernel
theorem dX4_tryTile_61 : decode cX4_tryTile 61 = .ok (.imul, 1) := by decide +kernel
theorem dX4_tryTile_62 : decode cX4_tryTile 62 = .ok (.iload_n 1, 1) := by decide +kernel
theorem dX4_tryTile_63 : decode cX4_tryTile 63 = .ok (.iadd, 1) := by decide +kernel
theorem dX4_tryTile_64 : decode cX4_tryTile 64 = .ok (.putfield 193, 3) := by decide +kernel
theorem dX4_tryTile_67 : decode cX4_tryTile 67 = .ok (.aload_n 3, 1) := by decide +kernel
theorem dX4_tryTile_68 : decode cX4_tryTile 68 = .ok (.aload_n 0, 1) := by decide +kernel
theorem dX4_tryTile_69 : decode cX4_tryTile 69 = .ok (.getfield 42, 3) := by decide +kernel
theorem dX4_tryTile_72 : decode cX4_tryTile 72 = .ok (.getfield 128, 3) := by decide +kernel
theorem dX4_tryTile_75 : decode cX4_tryTile 75 = .ok (.putfield 196, 3) := by decide +kernel
theorem dX4_tryTile_78 : decode cX4_tryTile 78 = .ok (.aload_n 3, 1) := by decide +kernel
theorem dX4_tryTile_79 : decode cX4_tryTile 79 = .ok (.aload_n 0, 1) := by decide +kernel
theorem dX4_tryTile_80 : decode cX4_tryTile 80 = .ok (.getfield 42, 3) := by decide +kernel
theorem dX4_tryTile_83 : decode cX4_tryTile 83 = .ok (.getfield 131, 3) := by decide +kernel
theorem dX4_tryTile_86 : decode cX4_tryTile 86 = .ok (.putfield 197, 3) := by decide +kernel
theorem dX4_tryTile_89 : decode cX4_tryTile 89 = .ok (.return_, 1) := by decide +kernel
set_option maxRecDepth 20000 in
theorem ggX4_stopAndSlide_X4_overlapsInXThen : GoodIn wsX4_stopAndSlide wsX4_overlapsInXThen := goodIn_r _ [9, 10, 11, 2, 3, 12, 13, 14, 15, 38, 39, 40, 41, 42, 43, 44, 45, 46, 47, 48, 49, 50, 51, 52, 53, 54, 55, 56, 57, 58, 59] (by decide +kernel) (by decide +kernel)
set_option maxRecDepth 20000 in
theorem gX4_stopAndSlide_X4_overlapsInXThen : GoodIn wsX4_stopAndSlide (wsV RX4 261 RX4 yX4_overlapsInXThen wsX4_overlapsInXThen) := goodIn_app (goodIn_of _ (by decide +kernel)) ggX4_stopAndSlide_X4_overlapsInXThen
set_option maxRecDepth 20000 in
theorem ggX4_stopAndSlide_X3_shareOf : GoodIn wsX4_stopAndSlide wsX3_shareOf := goodIn_r _ [20, 21, 22, 38, 39, 40, 41, 42, 43] (by decide +kernel) (by decide +kernel)
set_option maxRecDepth 20000 in
theorem gX4_stopAndSlide_X3_shareOf : GoodIn wsX4_stopAndSlide (wsV RX4 265 RX3 yX3_shareOf wsX3_shareOf) := goodIn_app (goodIn_of _ (by decide +kernel)) ggX4_stopAndSlide_X3_shareOf
set_option maxRecDepth 20000 in
theorem ggX4_stopAndSlide_X0_shift : GoodIn wsX4_stopAndSlide wsX0_shift := goodIn_r _ [27, 28, 29, 30, 31, 54, 55, 56, 57, 58, 59] (by decide +kernel) (by decide +kernel)
set_option maxRecDepth 20000 in
theorem gX4_stopAndSlide_X0_shift : GoodIn wsX4_stopAndSlide (wsV RX4 248 RX0 yX0_shift wsX0_shift) := goodIn_app (goodIn_of _ (by decide +kernel)) ggX4_stopAndSlide_X0_shift
set_option maxRecDepth 20000 in
theorem ggX4_stopAndSlide_X0_head : GoodIn wsX4_stopAndSlide wsX0_head := goodIn_r _ [35, 36, 37, 54, 55, 56, 57, 58, 59] (by decide +kernel) (by decide +kernel)
set_option maxRecDepth 20000 in
theorem gX4_stopAndSlide_X0_head : GoodIn wsX4_stopAndSlide (wsV RX4 117 RX0 yX0_head wsX0_head) := goodIn_app (goodIn_of _ (by decide +kernel)) ggX4_stopAndSlide_X0_head
theorem dX4_stopAndSlide_0 : decode cX4_stopAndSlide 0 = .ok (.aload_n 1, 1) := by decide +kernel
theorem dX4_stopAndSlide_1 : decode cX4_stopAndSlide 1 = .ok (.aload_n 0, 1) := by decide +kernel
theorem dX4_stopAndSlide_2 : decode cX4_stopAndSlide 2 = .ok (.aload_n 1, 1) := by decide +kernel
theorem dX4_stopAndSlide_3 : decode cX4_stopAndSlide 3 = .ok (.invokevirtual 261, 3) := by decide +kernel
theorem dX4_stopAndSlide_6 : decode cX4_stopAndSlide 6 = .ok (.ifCond .eq 7, 3) := by decide +kernel
theorem dX4_stopAndSlide_9 : decode cX4_stopAndSlide 9 = .ok (.iconst 1, 1) := by decide +kernel
theorem dX4_stopAndSlide_10 : decode cX4_stopAndSlide 10 = .ok (.goto 4, 3) := by decide +kernel
theorem dX4_stopAndSlide_13 : decode cX4_stopAndSlide 13 = .ok (.iconst 0, 1) := by decide +kernel
theorem dX4_stopAndSlide_14 : decode cX4_stopAndSlide 14 = .ok (.putfield 190, 3) := by decide +kernel
theorem dX4_stopAndSlide_17 : decode cX4_stopAndSlide 17 = .ok (.aload_n 1, 1) := by decide +kernel
theorem dX4_stopAndSlide_18 : decode cX4_stopAndSlide 18 = .ok (.aload_n 0, 1) := by decide +kernel
theorem dX4_stopAndSlide_19 : decode cX4_stopAndSlide 19 = .ok (.getfield 26, 3) := by decide +kernel
theorem dX4_stopAndSlide_22 : decode cX4_stopAndSlide 22 = .ok (.getfield 110, 3) := by decide +kernel
theorem dX4_stopAndSlide_25 : decode cX4_stopAndSlide 25 = .ok (.invokevirtual 265, 3) := by decide +kernel
theorem dX4_stopAndSlide_28 : decode cX4_stopAndSlide 28 = .ok (.lstore_n 2, 1) := by decide +kernel
theorem dX4_stopAndSlide_29 : decode cX4_stopAndSlide 29 = .ok (.aload_n 1, 1) := by decide +kernel
theorem dX4_stopAndSlide_30 : decode cX4_stopAndSlide 30 = .ok (.aload_n 0, 1) := by decide +kernel
theorem dX4_stopAndSlide_31 : decode cX4_stopAndSlide 31 = .ok (.getfield 26, 3) := by decide +kernel
theorem dX4_stopAndSlide_34 : decode cX4_stopAndSlide 34 = .ok (.getfield 114, 3) := by decide +kernel
theorem dX4_stopAndSlide_37 : decode cX4_stopAndSlide 37 = .ok (.invokevirtual 265, 3) := by decide +kernel
theorem dX4_stopAndSlide_40 : decode cX4_stopAndSlide 40 = .ok (.lstore 4, 2) := by decide +kernel
theorem dX4_stopAndSlide_42 : decode cX4_stopAndSlide 42 = .ok (.aload_n 1, 1) := by decide +kernel
theorem dX4_stopAndSlide_43 : decode cX4_stopAndSlide 43 = .ok (.getfield 190, 3) := by decide +kernel
theorem dX4_stopAndSlide_46 : decode cX4_stopAndSlide 46 = .ok (.ifCond .ne 7, 3) := by decide +kernel
theorem dX4_stopAndSlide_49 : decode cX4_stopAndSlide 49 = .ok (.lconst 0, 1) := by decide +kernel
theorem dX4_stopAndSlide_50 : decode cX4_stopAndSlide 50 = .ok (.goto 12, 3) := by decide +kernel
theorem dX4_stopAndSlide_53 : decode cX4_stopAndSlide 53 = .ok (.aload_n 0, 1) := by decide +kernel
theorem dX4_stopAndSlide_54 : decode cX4_stopAndSlide 54 = .ok (.getfield 26, 3) := by decide +kernel
theorem dX4_stopAndSlide_57 : decode cX4_stopAndSlide 57 = .ok (.getfield 110, 3) := by decide +kernel
theorem dX4_stopAndSlide_60 : decode cX4_stopAndSlide 60 = .ok (.lload_n 2, 1) := by decide +kernel
theorem dX4_stopAndSlide_61 : decode cX4_stopAndSlide 61 = .ok (.lsub, 1) := by decide +kernel
theorem dX4_stopAndSlide_62 : decode cX4_stopAndSlide 62 = .ok (.lstore 6, 2) := by decide +kernel
theorem dX4_stopAndSlide_64 : decode cX4_stopAndSlide 64 = .ok (.aload_n 1, 1) := by decide +kernel
theorem dX4_stopAndSlide_65 : decode cX4_stopAndSlide 65 = .ok (.getfield 190, 3) := by decide +kernel
theorem dX4_stopAndSlide_68 : decode cX4_stopAndSlide 68 = .ok (.iconst 1, 1) := by decide +kernel
theorem dX4_stopAndSlide_69 : decode cX4_stopAndSlide 69 = .ok (.if_icmp .ne 7, 3) := by decide +kernel
theorem dX4_stopAndSlide_72 : decode cX4_stopAndSlide 72 = .ok (.lconst 0, 1) := by decide +kernel
theorem dX4_stopAndSlide_73 : decode cX4_stopAndSlide 73 = .ok (.goto 13, 3) := by decide +kernel
theorem dX4_stopAndSlide_76 : decode cX4_stopAndSlide 76 = .ok (.aload_n 0, 1) := by decide +kernel
theorem dX4_stopAndSlide_77 : decode cX4_stopAndSlide 77 = .ok (.getfield 26, 3) := by decide +kernel
theorem dX4_stopAndSlide_80 : decode cX4_stopAndSlide 80 = .ok (.getfield 114, 3) := by decide +kernel
theorem dX4_stopAndSlide_83 : decode cX4_stopAndSlide 83 = .ok (.lload 4, 2) := by decide +kernel
theorem dX4_stopAndSlide_85 : decode cX4_stopAndSlide 85 = .ok (.lsub, 1) := by decide +kernel
theorem dX4_stopAndSlide_86 : decode cX4_stopAndSlide 86 = .ok (.lstore 8, 2) := by decide +kernel
theorem dX4_stopAndSlide_88 : decode cX4_stopAndSlide 88 = .ok (.aload_n 0, 1) := by decide +kernel
theorem dX4_stopAndSlide_89 : decode cX4_stopAndSlide 89 = .ok (.getfield 26, 3) := by decide +kernel
theorem dX4_stopAndSlide_92 : decode cX4_stopAndSlide 92 = .ok (.lload_n 2, 1) := by decide +kernel
theorem dX4_stopAndSlide_93 : decode cX4_stopAndSlide 93 = .ok (.lload 4, 2) := by decide +kernel
theorem dX4_stopAndSlide_95 : decode cX4_stopAndSlide 95 = .ok (.invokevirtual 248, 3) := by decide +kernel
theorem dX4_stopAndSlide_98 : decode cX4_stopAndSlide 98 = .ok (.aload_n 0, 1) := by decide +kernel
theorem dX4_stopAndSlide_99 : decode cX4_stopAndSlide 99 = .ok (.getfield 26, 3) := by decide +kernel
theorem dX4_stopAndSlide_102 : decode cX4_stopAndSlide 102 = .ok (.lload 6, 2) := by decide +kernel
theorem dX4_stopAndSlide_104 : decode cX4_stopAndSlide 104 = .ok (.lload 8, 2) := by decide +kernel
theorem dX4_stopAndSlide_106 : decode cX4_stopAndSlide 106 = .ok (.invokevirtual 117, 3) := by decide +kernel
theorem dX4_stopAndSlide_109 : decode cX4_stopAndSlide 109 = .ok (.return_, 1) := by decide +kernel
theorem dX4_overlapsInXThen_0 : decode cX4_overlapsInXThen 0 = .ok (.aload_n 1, 1) := by decide +kernel
theorem dX4_overlapsInXThen_1 : decode cX4_overlapsInXThen 1 = .ok (.getfield 193, 3) := by decide +kernel
theorem dX4_overlapsInXThen_4 : decode cX4_overlapsInXThen 4 = .ok (.bipush 24, 2) := by decide +kernel
theorem dX4_overlapsInXThen_6 : decode cX4_overlapsInXThen 6 = .ok (.irem, 1) := by decide +kernel
theorem dX4_overlapsInXThen_7 : decode cX4_overlapsInXThen 7 = .ok (.i2l, 1) := by decide +kernel
theorem dX4_overlapsInXThen_8 : decode cX4_overlapsInXThen 8 = .ok (.ldc2_w 216, 3) := by decide +kernel
theorem dX4_overlapsInXThen_11 : decode cX4_overlapsInXThen 11 = .ok (.lmul, 1) := by decide +kernel
theorem dX4_overlapsInXThen_12 : decode cX4_overlapsInXThen 12 = .ok (.lstore_n 2, 1) := by decide +kernel
theorem dX4_overlapsInXThen_13 : decode cX4_overlapsInXThen 13 = .ok (.aload_n 0, 1) := by decide +kernel
theorem dX4_overlapsInXThen_14 : decode cX4_overlapsInXThen 14 = .ok (.getfield 26, 3) := by decide +kernel
theorem dX4_overlapsInXThen_17 : decode cX4_overlapsInXThen 17 = .ok (.getfield 110, 3) := by decide +kernel
theorem dX4_overlapsInXThen_20 : decode cX4_overlapsInXThen 20 = .ok (.aload_n 1, 1) := by decide +kernel
theorem dX4_overlapsInXThen_21 : decode cX4_overlapsInXThen 21 = .ok (.getfield 196, 3) := by decide +kernel
theorem dX4_overlapsInXThen_24 : decode cX4_overlapsInXThen 24 = .ok (.lmul, 1) := by decide +kernel
theorem dX4_overlapsInXThen_25 : decode cX4_overlapsInXThen 25 = .ok (.lstore 4, 2) := by decide +kernel
theorem dX4_overlapsInXThen_27 : decode cX4_overlapsInXThen 27 = .ok (.aload_n 0, 1) := by decide +kernel
theorem dX4_overlapsInXThen_28 : decode cX4_overlapsInXThen 28 = .ok (.getfield 26, 3) := by decide +kernel
theorem dX4_overlapsInXThen_31 : decode cX4_overlapsInXThen 31 = .ok (.getfield 158, 3) := by decide +kernel
theorem dX4_overlapsInXThen_34 : decode cX4_overlapsInXThen 34 = .ok (.aload_n 1, 1) := by decide +kernel
theorem dX4_overlapsInXThen_35 : decode cX4_overlapsInXThen 35 = .ok (.getfield 197, 3) := by decide +kernel
theorem dX4_overlapsInXThen_38 : decode cX4_overlapsInXThen 38 = .ok (.lmul, 1) := by decide +kernel
theorem dX4_overlapsInXThen_39 : decode cX4_overlapsInXThen 39 = .ok (.lload 4, 2) := by decide +kernel
theorem dX4_overlapsInXThen_41 : decode cX4_overlapsInXThen 41 = .ok (.ladd, 1) := by decide +kernel
theorem dX4_overlapsInXThen_42 : decode cX4_overlapsInXThen 42 = .ok (.lstore 6, 2) := by decide +kernel
theorem dX4_overlapsInXThen_44 : decode cX4_overlapsInXThen 44 = .ok (.aload_n 0, 1) := by decide +kernel
theorem dX4_overlapsInXThen_45 : decode cX4_overlapsInXThen 45 = .ok (.getfield 26, 3) := by decide +kernel
theorem dX4_overlapsInXThen_48 : decode cX4_overlapsInXThen 48 = .ok (.getfield 173, 3) := by decide +kernel
theorem dX4_overlapsInXThen_51 : decode cX4_overlapsInXThen 51 = .ok (.aload_n 1, 1) := by decide +kernel
theorem dX4_overlapsInXThen_52 : decode cX4_overlapsInXThen 52 = .ok (.getfield 197, 3) := by decide +kernel
theorem dX4_overlapsInXThen_55 : decode cX4_overlapsInXThen 55 = .ok (.lmul, 1) := by decide +kernel
theorem dX4_overlapsInXThen_56 : decode cX4_overlapsInXThen 56 = .ok (.lload 4, 2) := by decide +kernel
theorem dX4_overlapsInXThen_58 : decode cX4_overlapsInXThen 58 = .ok (.ladd, 1) := by decide +kernel
theorem dX4_overlapsInXThen_59 : decode cX4_overlapsInXThen 59 = .ok (.lstore 8, 2) := by decide +kernel
theorem dX4_overlapsInXThen_61 : decode cX4_overlapsInXThen 61 = .ok (.lload 6, 2) := by decide +kernel
theorem dX4_overlapsInXThen_63 : decode cX4_overlapsInXThen 63 = .ok (.lload_n 2, 1) := by decide +kernel
theorem dX4_overlapsInXThen_64 : decode cX4_overlapsInXThen 64 = .ok (.ldc2_w 216, 3) := by decide +kernel
theorem dX4_overlapsInXThen_67 : decode cX4_overlapsInXThen 67 = .ok (.ladd, 1) := by decide +kernel
theorem dX4_overlapsInXThen_68 : decode cX4_overlapsInXThen 68 = .ok (.aload_n 1, 1) := by decide +kernel
theorem dX4_overlapsInXThen_69 : decode cX4_overlapsInXThen 69 = .ok (.getfield 197, 3) := by decide +kernel
theorem dX4_overlapsInXThen_72 : decode cX4_overlapsInXThen 72 = .ok (.lmul, 1) := by decide +kernel
theorem dX4_overlapsInXThen_73 : decode cX4_overlapsInXThen 73 = .ok (.lcmp, 1) := by decide +kernel
theorem dX4_overlapsInXThen_74 : decode cX4_overlapsInXThen 74 = .ok (.ifCond .ge 19, 3) := by decide +kernel
theorem dX4_overlapsInXThen_77 : decode cX4_overlapsInXThen 77 = .ok (.lload 8, 2) := by decide +kernel
theorem dX4_overlapsInXThen_79 : decode cX4_overlapsInXThen 79 = .ok (.lload_n 2, 1) := by decide +kernel
theorem dX4_overlapsInXThen_80 : decode cX4_overlapsInXThen 80 = .ok (.aload_n 1, 1) := by decide +kernel
theorem dX4_overlapsInXThen_81 : decode cX4_overlapsInXThen 81 = .ok (.getfield 197, 3) := by decide +kernel
theorem dX4_overlapsInXThen_84 : decode cX4_overlapsInXThen 84 = .ok (.lmul, 1) := by decide +kernel
theorem dX4_overlapsInXThen_85 : decode cX4_overlapsInXThen 85 = .ok (.lcmp, 1) := by decide +kernel
theorem dX4_overlapsInXThen_86 : decode cX4_overlapsInXThen 86 = .ok (.ifCond .le 7, 3) := by decide +kernel
theorem dX4_overlapsInXThen_89 : decode cX4_overlapsInXThen 89 = .ok (.iconst 1, 1) := by decide +kernel
theorem dX4_overlapsInXThen_90 : decode cX4_overlapsInXThen 90 = .ok (.goto 4, 3) := by decide +kernel
theorem dX4_overlapsInXThen_93 : decode cX4_overlapsInXThen 93 = .ok (.iconst 0, 1) := by decide +kernel
theorem dX4_overlapsInXThen_94 : decode cX4_overlapsInXThen 94 = .ok (.ireturn, 1) := by decide +kernel
