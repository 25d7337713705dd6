def wsL_shape : List Cond := .codeWith yL_shape cL_shape 3 (some .int) [(0, 8, 11, 13)] :: ([.classLink RL 13 "java/lang/IllegalStateException", .methodLink RL 7 yX4_shape, .instanceMethod yX4_shape, .selects RX4 yX4_shape yX4_shape, .initialized RX4, .code yX4_shape cX4_shape 1 (some .int), .classLink RX4 55 "java/lang/IllegalStateException", .initialized "java/lang/IllegalStateException", .fieldLink RX4 51 "SweptBoxes" "hullCount" "I", .fieldLink RX4 11 "SweptBoxes" "hulls" "[LSweptBoxes$Hull;", .methodLink RX4 62 yX1_empty, .instanceMethod yX1_empty, .selects RX1 yX1_empty yX1_empty, .initialized RX1, .code yX1_empty cX1_empty 1 none, .fieldLink RX1 24 "SweptBoxes$Hull" "pointCount" "I", .fieldLink RX1 28 "SweptBoxes$Hull" "outerCount" "I", .fieldLink RX1 31 "SweptBoxes$Hull" "size" "I"] ++ wsX40 ++ wsX10 ++ (vx_atS RX4 59 "java/lang/IllegalStateException" ["java/lang/RuntimeException", "java/lang/Exception"]).filter goodWord)
set_option maxRecDepth 20000 in
theorem ggL_shape_X4_shape : GoodIn wsL_shape wsX4_shape := goodIn_ca (goodIn_r _ [6, 7, 8, 9, 10, 11, 12, 13, 14, 15, 16, 17, 18, 19, 20, 21, 22, 23, 24, 25, 26, 27, 28, 29, 30, 31, 32, 33, 34, 35] (by decide +kernel) (by decide +kernel)) (goodIn_sub (fun _ h => List.mem_cons_of_mem _ (List.mem_append_right _ h)) (by decide +kernel))
set_option maxRecDepth 20000 in
theorem gL_shape_X4_shape : GoodIn wsL_shape (wsV RL 7 RX4 yX4_shape wsX4_shape) := goodIn_app (goodIn_of _ (by decide +kernel)) ggL_shape_X4_shape
theorem dL_shape_0 : decode cL_shape 0 = .ok (.aload_n 1, 1) := by decide +kernel
theorem dL_shape_1 : decode cL_shape 1 = .ok (.iconst 0, 1) := by decide +kernel
theorem dL_shape_2 : decode cL_shape 2 = .ok (.aload_n 0, 1) := by decide +kernel
theorem dL_shape_3 : decode cL_shape 3 = .ok (.invokevirtual 7, 3) := by decide +kernel
theorem dL_shape_6 : decode cL_shape 6 = .ok (.i2l, 1) := by decide +kernel
theorem dL_shape_7 : decode cL_shape 7 = .ok (.lastore, 1) := by decide +kernel
theorem dL_shape_8 : decode cL_shape 8 = .ok (.goto 6, 3) := by decide +kernel
theorem dL_shape_11 : decode cL_shape 11 = .ok (.astore_n 2, 1) := by decide +kernel
theorem dL_shape_12 : decode cL_shape 12 = .ok (.iconst 1, 1) := by decide +kernel
theorem dL_shape_13 : decode cL_shape 13 = .ok (.ireturn, 1) := by decide +kernel
theorem dL_shape_14 : decode cL_shape 14 = .ok (.iconst 0, 1) := by decide +kernel
theorem dL_shape_15 : decode cL_shape 15 = .ok (.ireturn, 1) := by decide +kernel
def wsL_point_r1 : List Cond := [Cond.classLink RL 19 "java/lang/IndexOutOfBoundsException", Cond.classLink RL 13 "java/lang/IllegalStateException", Cond.classLink RL 21 "java/lang/IllegalArgumentException", Cond.methodLink RL 15 yX4_point, Cond.instanceMethod yX4_point, Cond.selects RX4 yX4_point yX4_point, Cond.initialized RX4, Cond.code yX4_point cX4_point 7 (some .boolean), Cond.classLink RX4 55 "java/lang/IllegalStateException", Cond.initialized "java/lang/IllegalStateException", Cond.fieldLink RX4 51 "SweptBoxes" "hullCount" "I", Cond.fieldLink RX4 11 "SweptBoxes" "hulls" "[LSweptBoxes$Hull;", Cond.fieldLink RX4 69 "SweptBoxes$Hull" "pointCount" "I", Cond.methodLink RX4 65 yX4_needIndex, Cond.static yX4_needIndex, Cond.code yX4_needIndex cX4_needIndex 2 none, Cond.classLink RX4 179 "java/lang/IndexOutOfBoundsException", Cond.initialized "java/lang/IndexOutOfBoundsException", Cond.methodLink RX4 74 yX4_needInRange, Cond.static yX4_needInRange, Cond.code yX4_needInRange cX4_needInRange 4 none, Cond.classLink RX4 101 "java/lang/IllegalArgumentException", Cond.initialized "java/lang/IllegalArgumentException", Cond.constantLong RX4 210 (-10000)]
def wsL_point_r2 : List Cond := [Cond.constantLong RX4 212 (10000), Cond.methodLink RX4 78 yX1_take, Cond.instanceMethod yX1_take, Cond.selects RX1 yX1_take yX1_take, Cond.initialized RX1, Cond.code yX1_take cX1_take 5 (some .boolean), Cond.fieldLink RX1 24 "SweptBoxes$Hull" "pointCount" "I", Cond.methodLink RX1 34 yX1_holds, Cond.instanceMethod yX1_holds, Cond.selects RX1 yX1_holds yX1_holds, Cond.code yX1_holds cX1_holds 7 (some .boolean), Cond.fieldLink RX1 31 "SweptBoxes$Hull" "size" "I", Cond.fieldLink RX1 18 "SweptBoxes$Hull" "xs" "[J", Cond.fieldLink RX1 21 "SweptBoxes$Hull" "ys" "[J", Cond.methodLink RX1 53 yX1_isInRange, Cond.instanceMethod yX1_isInRange, Cond.selects RX1 yX1_isInRange yX1_isInRange, Cond.code yX1_isInRange cX1_isInRange 5 (some .boolean), Cond.constantLong RX1 68 (-1), Cond.methodLink RX1 64 yX1_isBeyondAll, Cond.instanceMethod yX1_isBeyondAll, Cond.selects RX1 yX1_isBeyondAll yX1_isBeyondAll, Cond.code yX1_isBeyondAll cX1_isBeyondAll 9 (some .boolean), Cond.methodLink RX1 70 yX1_farthest]
def wsL_point_r3 : List Cond := [Cond.instanceMethod yX1_farthest, Cond.selects RX1 yX1_farthest yX1_farthest, Cond.code yX1_farthest cX1_farthest 8 (some .long), Cond.methodLink RX1 78 Lib.MathLoose.max_long.x, Cond.static Lib.MathLoose.max_long.x, Cond.initialized "java/lang/Math", Cond.code Lib.MathLoose.max_long.x Lib.MathLoose.max_long.code 4 (some .long), Cond.methodLink RX1 56 yX1_after, Cond.instanceMethod yX1_after, Cond.selects RX1 yX1_after yX1_after, Cond.code yX1_after cX1_after 2 (some .int), Cond.methodLink RX1 60 yX1_turn, Cond.static yX1_turn, Cond.code yX1_turn cX1_turn 8 (some .long), Cond.methodLink RX1 38 yX1_insertOuter, Cond.instanceMethod yX1_insertOuter, Cond.selects RX1 yX1_insertOuter yX1_insertOuter, Cond.code yX1_insertOuter cX1_insertOuter 6 none, Cond.fieldLink RX1 28 "SweptBoxes$Hull" "outerCount" "I", Cond.fieldLink RX1 9 "SweptBoxes$Hull" "outerXs" "[J", Cond.fieldLink RX1 15 "SweptBoxes$Hull" "outerYs" "[J", Cond.methodLink RX1 42 yX1_findCorners, Cond.instanceMethod yX1_findCorners, Cond.selects RX1 yX1_findCorners yX1_findCorners]
def wsL_point_r4 : List Cond := [Cond.code yX1_findCorners cX1_findCorners 3 none, Cond.methodLink RX1 74 yX1_append, Cond.instanceMethod yX1_append, Cond.selects RX1 yX1_append yX1_append, Cond.code yX1_append cX1_append 6 none]
def wsL_point : List Cond := .codeWith yL_point cL_point 8 (some .int) [(0, 20, 23, 19), (0, 20, 27, 13), (0, 20, 31, 21)] :: ((wsL_point_r1 ++ (wsL_point_r2 ++ (wsL_point_r3 ++ wsL_point_r4))) ++ wsX40 ++ wsX10 ++ (vx_atS RX4 59 "java/lang/IllegalStateException" ["java/lang/RuntimeException", "java/lang/Exception"]).filter goodWord ++ (vx_atS RX4 183 "java/lang/IndexOutOfBoundsException" ["java/lang/RuntimeException", "java/lang/Exception"]).filter goodWord ++ (vx_atS RX4 105 "java/lang/IllegalArgumentException" ["java/lang/RuntimeException", "java/lang/Exception"]).filter goodWord)
set_option maxRecDepth 20000 in
theorem ggL_point_X4_point : GoodIn wsL_point wsX4_point := goodIn_ca (goodIn_ca (goodIn_ca (goodIn_r _ [8, 9, 10, 11, 12, 13, 14, 15, 7, 16, 17, 18, 19, 20, 21, 22, 23, 24, 25, 26, 27, 28, 29, 30, 31, 32, 33, 34, 35, 36, 37, 38, 39, 40, 41, 42, 43, 44, 45, 46, 47, 48, 49, 50, 51, 52, 53, 54, 55, 56, 57, 58, 59, 60, 61, 62, 63, 64, 65, 66, 67, 68, 69, 70, 71, 72, 73, 74, 75, 76, 77, 78, 79, 80, 81, 82, 83, 84, 85, 86, 87, 88, 89, 90, 91, 92, 93, 94] (by decide +kernel) (by decide +kernel)) (goodIn_sub (fun _ h => List.mem_cons_of_mem _ (List.mem_append_left _ (List.mem_append_left _ (List.mem_append_right _ h)))) (by decide +kernel))) (goodIn_sub (fun _ h => List.mem_cons_of_mem _ (List.mem_append_left _ (List.mem_append_right _ h))) (by decide +kernel))) (goodIn_sub (fun _ h => List.mem_cons_of_mem _ (List.mem_append_right _ h)) (by decide +kernel))
set_option maxRecDepth 20000 in
theorem gL_point_X4_point : GoodIn wsL_point (wsV RL 15 RX4 yX4_point wsX4_point) := goodIn_app (goodIn_of _ (by decide +kernel)) ggL_point_X4_point
theorem dL_point_0 : decode cL_point 0 = .ok (.aload 6, 2) := by decide +kernel
theorem dL_point_2 : decode cL_point 2 = .ok (.iconst 0, 1) := by decide +kernel
theorem dL_point_3 : decode cL_point 3 = .ok (.aload_n 0, 1) := by decide +kernel
theorem dL_point_4 : decode cL_point 4 = .ok (.iload_n 1, 1) := by decide +kernel
theorem dL_point_5 : decode cL_point 5 = .ok (.lload_n 2, 1) := by decide +kernel
theorem dL_point_6 : decode cL_point 6 = .ok (.lload 4, 2) := by decide +kernel
theorem dL_point_8 : decode cL_point 8 = .ok (.invokevirtual 15, 3) := by decide +kernel
theorem dL_point_11 : decode cL_point 11 = .ok (.ifCond .eq 7, 3) := by decide +kernel
theorem dL_point_14 : decode cL_point 14 = .ok (.lconst 1, 1) := by decide +kernel
theorem dL_point_15 : decode cL_point 15 = .ok (.goto 4, 3) := by decide +kernel
theorem dL_point_18 : decode cL_point 18 = .ok (.lconst 0, 1) := by decide +kernel
theorem dL_point_19 : decode cL_point 19 = .ok (.lastore, 1) := by decide +kernel
theorem dL_point_20 : decode cL_point 20 = .ok (.goto 15, 3) := by decide +kernel
theorem dL_point_23 : decode cL_point 23 = .ok (.astore 7, 2) := by decide +kernel
theorem dL_point_25 : decode cL_point 25 = .ok (.iconst 1, 1) := by decide +kernel
theorem dL_point_26 : decode cL_point 26 = .ok (.ireturn, 1) := by decide +kernel
theorem dL_point_27 : decode cL_point 27 = .ok (.astore 7, 2) := by decide +kernel
theorem dL_point_29 : decode cL_point 29 = .ok (.iconst 2, 1) := by decide +kernel
theorem dL_point_30 : decode cL_point 30 = .ok (.ireturn, 1) := by decide +kernel
theorem dL_point_31 : decode cL_point 31 = .ok (.astore 7, 2) := by decide +kernel
theorem dL_point_33 : decode cL_point 33 = .ok (.iconst 3, 1) := by decide +kernel
theorem dL_point_34 : decode cL_point 34 = .ok (.ireturn, 1) := by decide +kernel
theorem dL_point_35 : decode cL_point 35 = .ok (.iconst 0, 1) := by decide +kernel
theorem dL_point_36 : decode cL_point 36 = .ok (.ireturn, 1) := by decide +kernel
def wsL_corners : List Cond := .codeWith yL_corners cL_corners 4 (some .int) [(0, 9, 12, 19)] :: ([.classLink RL 19 "java/lang/IndexOutOfBoundsException", .methodLink RL 23 yX4_corners, .instanceMethod yX4_corners, .selects RX4 yX4_corners yX4_corners, .initialized RX4, .code yX4_corners cX4_corners 2 (some .int), .fieldLink RX4 51 "SweptBoxes" "hullCount" "I", .fieldLink RX4 11 "SweptBoxes" "hulls" "[LSweptBoxes$Hull;", .fieldLink RX4 82 "SweptBoxes$Hull" "size" "I", .methodLink RX4 65 yX4_needIndex, .static yX4_needIndex, .code yX4_needIndex cX4_needIndex 2 none, .classLink RX4 179 "java/lang/IndexOutOfBoundsException", .initialized "java/lang/IndexOutOfBoundsException"] ++ wsX40 ++ wsX10 ++ (vx_atS RX4 183 "java/lang/IndexOutOfBoundsException" ["java/lang/RuntimeException", "java/lang/Exception"]).filter goodWord)
set_option maxRecDepth 20000 in
theorem ggL_corners_X4_corners : GoodIn wsL_corners wsX4_corners := goodIn_ca (goodIn_r _ [6, 7, 8, 9, 10, 11, 5, 12, 13, 14, 15, 16, 17, 18, 19, 20, 21, 22, 23, 24, 25, 26, 27, 28, 29, 30, 31] (by decide +kernel) (by decide +kernel)) (goodIn_sub (fun _ h => List.mem_cons_of_mem _ (List.mem_append_right _ h)) (by decide +kernel))
set_option maxRecDepth 20000 in
theorem gL_corners_X4_corners : GoodIn wsL_corners (wsV RL 23 RX4 yX4_corners wsX4_corners) := goodIn_app (goodIn_of _ (by decide +kernel)) ggL_corners_X4_corners
theorem dL_corners_0 : decode cL_corners 0 = .ok (.aload_n 2, 1) := by decide +kernel
theorem dL_corners_1 : decode cL_corners 1 = .ok (.iconst 0, 1) := by decide +kernel
theorem dL_corners_2 : decode cL_corners 2 = .ok (.aload_n 0, 1) := by decide +kernel
theorem dL_corners_3 : decode cL_corners 3 = .ok (.iload_n 1, 1) := by decide +kernel
theorem dL_corners_4 : decode cL_corners 4 = .ok (.invokevirtual 23, 3) := by decide +kernel
theorem dL_corners_7 : decode cL_corners 7 = .ok (.i2l, 1) := by decide +kernel
theorem dL_corners_8 : decode cL_corners 8 = .ok (.lastore, 1) := by decide +kernel
theorem dL_corners_9 : decode cL_corners 9 = .ok (.goto 6, 3) := by decide +kernel
theorem dL_corners_12 : decode cL_corners 12 = .ok (.astore_n 3, 1) := by decide +kernel
theorem dL_corners_13 : decode cL_corners 13 = .ok (.iconst 1, 1) := by decide +kernel
theorem dL_corners_14 : decode cL_corners 14 = .ok (.ireturn, 1) := by decide +kernel
theorem dL_corners_15 : decode cL_corners 15 = .ok (.iconst 0, 1) := by decide +kernel
theorem dL_corners_16 : decode cL_corners 16 = .ok (.ireturn, 1) := by decide +kernel
def wsL_corner : List Cond := .codeWith yL_corner cL_corner 6 (some .int) [(0, 11, 14, 19)] :: ([.classLink RL 19 "java/lang/IndexOutOfBoundsException", .methodLink RL 27 yX4_corner, .instanceMethod yX4_corner, .selects RX4 yX4_corner yX4_corner, .initialized RX4, .code yX4_corner cX4_corner 5 (some .long), .fieldLink RX4 51 "SweptBoxes" "hullCount" "I", .fieldLink RX4 11 "SweptBoxes" "hulls" "[LSweptBoxes$Hull;", .fieldLink RX4 82 "SweptBoxes$Hull" "size" "I", .fieldLink RX4 85 "SweptBoxes$Hull" "xs" "[J", .fieldLink RX4 89 "SweptBoxes$Hull" "ys" "[J", .methodLink RX4 65 yX4_needIndex, .static yX4_needIndex, .code yX4_needIndex cX4_needIndex 2 none, .classLink RX4 179 "java/lang/IndexOutOfBoundsException", .initialized "java/lang/IndexOutOfBoundsException"] ++ wsX40 ++ wsX10 ++ (vx_atS RX4 183 "java/lang/IndexOutOfBoundsException" ["java/lang/RuntimeException", "java/lang/Exception"]).filter goodWord)
set_option maxRecDepth 20000 in
theorem ggL_corner_X4_corner : GoodIn wsL_corner wsX4_corner := goodIn_ca (goodIn_r _ [6, 7, 8, 9, 10, 11, 12, 13, 5, 14, 15, 16, 17, 18, 19, 20, 21, 22, 23, 24, 25, 26, 27, 28, 29, 30, 31, 32, 33] (by decide +kernel) (by decide +kernel)) (goodIn_sub (fun _ h => List.mem_cons_of_mem _ (List.mem_append_right _ h)) (by decide +kernel))
set_option maxRecDepth 20000 in
theorem gL_corner_X4_corner : GoodIn wsL_corner (wsV RL 27 RX4 yX4_corner wsX4_corner) := goodIn_app (goodIn_of _ (by decide +kernel)) ggL_corner_X4_corner
theorem dL_corner_0 : decode cL_corner 0 = .ok (.aload 4, 2) := by decide +kernel
theorem dL_corner_2 : decode cL_corner 2 = .ok (.iconst 0, 1) := by decide +kernel
theorem dL_corner_3 : decode cL_corner 3 = .ok (.aload_n 0, 1) := by decide +kernel
theorem dL_corner_4 : decode cL_corner 4 = .ok (.iload_n 1, 1) := by decide +kernel
theorem dL_corner_5 : decode cL_corner 5 = .ok (.iload_n 2, 1) := by decide +kernel
theorem dL_corner_6 : decode cL_corner 6 = .ok (.iload_n 3, 1) := by decide +kernel
theorem dL_corner_7 : decode cL_corner 7 = .ok (.invokevirtual 27, 3) := by decide +kernel
theorem dL_corner_10 : decode cL_corner 10 = .ok (.lastore, 1) := by decide +kernel
theorem dL_corner_11 : decode cL_corner 11 = .ok (.goto 7, 3) := by decide +kernel
theorem dL_corner_14 : decode cL_corner 14 = .ok (.astore 5, 2) := by decide +kernel
theorem dL_corner_16 : decode cL_corner 16 = .ok (.iconst 1, 1) := by decide +kernel
theorem dL_corner_17 : decode cL_corner 17 = .ok (.ireturn, 1) := by decide +kernel
theorem dL_corner_18 : decode cL_corner 18 = .ok (.iconst 0, 1) := by decide +kernel
theorem dL_corner_19 : decode cL_corner 19 = .ok (.ireturn, 1) := by decide +kernel
def wsL_apart_r1 : List Cond := [Cond.classLink RL 19 "java/lang/IndexOutOfBoundsException", Cond.methodLink RL 31 yX4_apart, Cond.instanceMethod yX4_apart, Cond.selects RX4 yX4_apart yX4_apart, Cond.initialized RX4, Cond.code yX4_apart cX4_apart 3 (some .boolean), Cond.fieldLink RX4 51 "SweptBoxes" "hullCount" "I", Cond.fieldLink RX4 11 "SweptBoxes" "hulls" "[LSweptBoxes$Hull;", Cond.methodLink RX4 65 yX4_needIndex, Cond.static yX4_needIndex, Cond.code yX4_needIndex cX4_needIndex 2 none, Cond.classLink RX4 179 "java/lang/IndexOutOfBoundsException", Cond.initialized "java/lang/IndexOutOfBoundsException", Cond.methodLink RX4 92 yX1_isApartFrom, Cond.instanceMethod yX1_isApartFrom, Cond.selects RX1 yX1_isApartFrom yX1_isApartFrom, Cond.initialized RX1, Cond.code yX1_isApartFrom cX1_isApartFrom 2 (some .boolean), Cond.fieldLink RX1 31 "SweptBoxes$Hull" "size" "I", Cond.methodLink RX1 45 yX1_hasGap, Cond.instanceMethod yX1_hasGap, Cond.selects RX1 yX1_hasGap yX1_hasGap, Cond.code yX1_hasGap cX1_hasGap 6 (some .boolean), Cond.methodLink RX1 70 yX1_farthest]
def wsL_apart_r2 : List Cond := [Cond.instanceMethod yX1_farthest, Cond.selects RX1 yX1_farthest yX1_farthest, Cond.code yX1_farthest cX1_farthest 8 (some .long), Cond.fieldLink RX1 18 "SweptBoxes$Hull" "xs" "[J", Cond.fieldLink RX1 21 "SweptBoxes$Hull" "ys" "[J", Cond.methodLink RX1 78 Lib.MathLoose.max_long.x, Cond.static Lib.MathLoose.max_long.x, Cond.initialized "java/lang/Math", Cond.code Lib.MathLoose.max_long.x Lib.MathLoose.max_long.code 4 (some .long), Cond.methodLink RX1 49 yX1_hasGapAcrossEdge, Cond.instanceMethod yX1_hasGapAcrossEdge, Cond.selects RX1 yX1_hasGapAcrossEdge yX1_hasGapAcrossEdge, Cond.code yX1_hasGapAcrossEdge cX1_hasGapAcrossEdge 7 (some .boolean), Cond.methodLink RX1 56 yX1_after, Cond.instanceMethod yX1_after, Cond.selects RX1 yX1_after yX1_after, Cond.code yX1_after cX1_after 2 (some .int)]
def wsL_apart : List Cond := .codeWith yL_apart cL_apart 5 (some .int) [(0, 17, 20, 19)] :: ((wsL_apart_r1 ++ wsL_apart_r2) ++ wsX40 ++ wsX10 ++ (vx_atS RX4 183 "java/lang/IndexOutOfBoundsException" ["java/lang/RuntimeException", "java/lang/Exception"]).filter goodWord)
set_option maxRecDepth 20000 in
theorem ggL_apart_X4_apart : GoodIn wsL_apart wsX4_apart := goodIn_ca (goodIn_r _ [6, 7, 8, 9, 10, 5, 11, 12, 13, 14, 15, 16, 17, 18, 19, 20, 21, 22, 23, 24, 25, 26, 27, 28, 29, 30, 31, 32, 33, 34, 35, 36, 37, 38, 39, 40, 41, 42, 43, 44, 45, 46, 47, 48, 49, 50, 51, 52, 53, 54, 55, 56, 57, 58] (by decide +kernel) (by decide +kernel)) (goodIn_sub (fun _ h => List.mem_cons_of_mem _ (List.mem_append_right _ h)) (by decide +kernel))
set_option maxRecDepth 20000 in
theorem gL_apart_X4_apart : GoodIn wsL_apart (wsV RL 31 RX4 yX4_apart wsX4_apart) := goodIn_app (goodIn_of _ (by decide +kernel)) ggL_apart_X4_apart
theorem dL_apart_0 : decode cL_apart 0 = .ok (.aload_n 3, 1) := by decide +kernel
theorem dL_apart_1 : decode cL_apart 1 = .ok (.iconst 0, 1) := by decide +kernel
theorem dL_apart_2 : decode cL_apart 2 = .ok (.aload_n 0, 1) := by decide +kernel
theorem dL_apart_3 : decode cL_apart 3 = .ok (.iload_n 1, 1) := by decide +kernel
theorem dL_apart_4 : decode cL_apart 4 = .ok (.iload_n 2, 1) := by decide +kernel
theorem dL_apart_5 : decode cL_apart 5 = .ok (.invokevirtual 31, 3) := by decide +kernel
theorem dL_apart_8 : decode cL_apart 8 = .ok (.ifCond .eq 7, 3) := by decide +kernel
theorem dL_apart_11 : decode cL_apart 11 = .ok (.lconst 1, 1) := by decide +kernel
theorem dL_apart_12 : decode cL_apart 12 = .ok (.goto 4, 3) := by decide +kernel
theorem dL_apart_15 : decode cL_apart 15 = .ok (.lconst 0, 1) := by decide +kernel
theorem dL_apart_16 : decode cL_apart 16 = .ok (.lastore, 1) := by decide +kernel
theorem dL_apart_17 : decode cL_apart 17 = .ok (.goto 7, 3) := by decide +kernel
theorem dL_apart_20 : decode cL_apart 20 = .ok (.astore 4, 2) := by decide +kernel
theorem dL_apart_22 : decode cL_apart 22 = .ok (.iconst 1, 1) := by decide +kernel
theorem dL_apart_23 : decode cL_apart 23 = .ok (.ireturn, 1) := by decide +kernel
theorem dL_apart_24 : decode cL_apart 24 = .ok (.iconst 0, 1) := by decide +kernel
theorem dL_apart_25 : decode cL_apart 25 = .ok (.ireturn, 1) := by decide +kernel
def wsL_box_r1 : List Cond := [Cond.classLink RL 13 "java/lang/IllegalStateException", Cond.classLink RL 21 "java/lang/IllegalArgumentException", Cond.methodLink RL 35 yX4_box, Cond.instanceMethod yX4_box, Cond.selects RX4 yX4_box yX4_box, Cond.initialized RX4, Cond.code yX4_box cX4_box 9 (some .int), Cond.classLink RX4 55 "java/lang/IllegalStateException", Cond.initialized "java/lang/IllegalStateException", Cond.classLink RX4 101 "java/lang/IllegalArgumentException", Cond.initialized "java/lang/IllegalArgumentException", Cond.fieldLink RX4 96 "SweptBoxes" "blockCount" "I", Cond.fieldLink RX4 17 "SweptBoxes" "blocks" "[LSweptBoxes$Block;", Cond.methodLink RX4 74 yX4_needInRange, Cond.static yX4_needInRange, Cond.code yX4_needInRange cX4_needInRange 4 none, Cond.constantLong RX4 210 (-10000), Cond.constantLong RX4 212 (10000), Cond.methodLink RX4 106 yX0_put, Cond.instanceMethod yX0_put, Cond.selects RX0 yX0_put yX0_put, Cond.initialized RX0, Cond.code yX0_put cX0_put 9 none, Cond.fieldLink RX0 9 "SweptBoxes$Block" "x0" "J"]
def wsL_box_r2 : List Cond := [Cond.fieldLink RX0 15 "SweptBoxes$Block" "y0" "J", Cond.fieldLink RX0 18 "SweptBoxes$Block" "x1" "J", Cond.fieldLink RX0 21 "SweptBoxes$Block" "y1" "J", Cond.methodLink RX0 24 yX0_head, Cond.instanceMethod yX0_head, Cond.selects RX0 yX0_head yX0_head, Cond.code yX0_head cX0_head 5 none, Cond.fieldLink RX0 34 "SweptBoxes$Block" "dx" "J", Cond.fieldLink RX0 37 "SweptBoxes$Block" "dy" "J"]
def wsL_box : List Cond := .codeWith yL_box cL_box 11 (some .int) [(0, 15, 18, 13), (0, 15, 22, 21)] :: ((wsL_box_r1 ++ wsL_box_r2) ++ wsX40 ++ wsX00 ++ (vx_atS RX4 59 "java/lang/IllegalStateException" ["java/lang/RuntimeException", "java/lang/Exception"]).filter goodWord ++ (vx_atS RX4 105 "java/lang/IllegalArgumentException" ["java/lang/RuntimeException", "java/lang/Exception"]).filter goodWord)
set_option maxRecDepth 20000 in
theorem ggL_box_X4_box : GoodIn wsL_box wsX4_box := goodIn_ca (goodIn_ca (goodIn_r _ [7, 8, 9, 10, 11, 12, 13, 14, 15, 6, 16, 17, 18, 19, 20, 21, 22, 23, 24, 25, 26, 27, 28, 29, 30, 31, 32, 33, 34, 35, 36, 37, 38, 39, 40, 41, 42, 43, 44, 45, 46, 47, 48, 49] (by decide +kernel) (by decide +kernel)) (goodIn_sub (fun _ h => List.mem_cons_of_mem _ (List.mem_append_left _ (List.mem_append_right _ h))) (by decide +kernel))) (goodIn_sub (fun _ h => List.mem_cons_of_mem _ (List.mem_append_right _ h)) (by decide +kernel))
set_option maxRecDepth 20000 in
theorem gL_box_X4_box : GoodIn wsL_box (wsV RL 35 RX4 yX4_box wsX4_box) := goodIn_app (goodIn_of _ (by decide +kernel)) ggL_box_X4_box
theorem dL_box_0 : decode cL_box 0 = .ok (.aload 9, 2) := by decide +kernel
theorem dL_box_2 : decode cL_box 2 = .ok (.iconst 0, 1) := by decide +kernel
theorem dL_box_3 : decode cL_box 3 = .ok (.aload_n 0, 1) := by decide +kernel
theorem dL_box_4 : decode cL_box 4 = .ok (.lload_n 1, 1) := by decide +kernel
theorem dL_box_5 : decode cL_box 5 = .ok (.lload_n 3, 1) := by decide +kernel
theorem dL_box_6 : decode cL_box 6 = .ok (.lload 5, 2) := by decide +kernel
theorem dL_box_8 : decode cL_box 8 = .ok (.lload 7, 2) := by decide +kernel
theorem dL_box_10 : decode cL_box 10 = .ok (.invokevirtual 35, 3) := by decide +kernel
theorem dL_box_13 : decode cL_box 13 = .ok (.i2l, 1) := by decide +kernel
theorem dL_box_14 : decode cL_box 14 = .ok (.lastore, 1) := by decide +kernel
theorem dL_box_15 : decode cL_box 15 = .ok (.goto 11, 3) := by decide +kernel
theorem dL_box_18 : decode cL_box 18 = .ok (.astore 10, 2) := by decide +kernel
theorem dL_box_20 : decode cL_box 20 = .ok (.iconst 1, 1) := by decide +kernel
theorem dL_box_21 : decode cL_box 21 = .ok (.ireturn, 1) := by decide +kernel
theorem dL_box_22 : decode cL_box 22 = .ok (.astore 10, 2) := by decide +kernel
theorem dL_box_24 : decode cL_box 24 = .ok (.iconst 2, 1) := by decide +kernel
theorem dL_box_25 : decode cL_box 25 = .ok (.ireturn, 1) := by decide +kernel
theorem dL_box_26 : decode cL_box 26 = .ok (.iconst 0, 1) := by decide +kernel
theorem dL_box_27 : decode cL_box 27 = .ok (.ireturn, 1) := by decide +kernel
def wsL_move_r1 : List Cond := [Cond.classLink RL 19 "java/lang/IndexOutOfBoundsException", Cond.classLink RL 21 "java/lang/IllegalArgumentException", Cond.methodLink RL 39 yX4_move, Cond.instanceMethod yX4_move, Cond.selects RX4 yX4_move yX4_move, Cond.initialized RX4, Cond.code yX4_move cX4_move 8 (some .boolean), Cond.fieldLink RX4 96 "SweptBoxes" "blockCount" "I", Cond.fieldLink RX4 17 "SweptBoxes" "blocks" "[LSweptBoxes$Block;", Cond.fieldLink RX4 110 "SweptBoxes$Block" "dx" "J", Cond.fieldLink RX4 114 "SweptBoxes$Block" "dy" "J", Cond.methodLink RX4 65 yX4_needIndex, Cond.static yX4_needIndex, Cond.code yX4_needIndex cX4_needIndex 2 none, Cond.classLink RX4 179 "java/lang/IndexOutOfBoundsException", Cond.initialized "java/lang/IndexOutOfBoundsException", Cond.methodLink RX4 74 yX4_needInRange, Cond.static yX4_needInRange, Cond.code yX4_needInRange cX4_needInRange 4 none, Cond.classLink RX4 101 "java/lang/IllegalArgumentException", Cond.initialized "java/lang/IllegalArgumentException", Cond.constantLong RX4 210 (-10000), Cond.constantLong RX4 212 (10000), Cond.methodLink RX4 117 yX0_head]
def wsL_move_r2 : List Cond := [Cond.instanceMethod yX0_head, Cond.selects RX0 yX0_head yX0_head, Cond.initialized RX0, Cond.code yX0_head cX0_head 5 none, Cond.fieldLink RX0 34 "SweptBoxes$Block" "dx" "J", Cond.fieldLink RX0 37 "SweptBoxes$Block" "dy" "J"]
def wsL_move : List Cond := .codeWith yL_move cL_move 8 (some .int) [(0, 20, 23, 19), (0, 20, 27, 21)] :: ((wsL_move_r1 ++ wsL_move_r2) ++ wsX40 ++ wsX00 ++ (vx_atS RX4 183 "java/lang/IndexOutOfBoundsException" ["java/lang/RuntimeException", "java/lang/Exception"]).filter goodWord ++ (vx_atS RX4 105 "java/lang/IllegalArgumentException" ["java/lang/RuntimeException", "java/lang/Exception"]).filter goodWord)
set_option maxRecDepth 20000 in
theorem ggL_move_X4_move : GoodIn wsL_move wsX4_move := goodIn_ca (goodIn_ca (goodIn_r _ [7, 8, 9, 10, 11, 12, 13, 6, 14, 15, 16, 17, 18, 19, 20, 21, 22, 23, 24, 25, 26, 27, 28, 29, 30, 31, 32, 33, 34, 35, 36, 37, 38, 39, 40, 41, 42, 43, 44, 45, 46] (by decide +kernel) (by decide +kernel)) (goodIn_sub (fun _ h => List.mem_cons_of_mem _ (List.mem_append_left _ (List.mem_append_right _ h))) (by decide +kernel))) (goodIn_sub (fun _ h => List.mem_cons_of_mem _ (List.mem_append_right _ h)) (by decide +kernel))
set_option maxRecDepth 20000 in
theorem gL_move_X4_move : GoodIn wsL_move (wsV RL 39 RX4 yX4_move wsX4_move) := goodIn_app (goodIn_of _ (by decide +kernel)) ggL_move_X4_move
theorem dL_move_0 : decode cL_move 0 = .ok (.aload 6, 2) := by decide +kernel
theorem dL_move_2 : decode cL_move 2 = .ok (.iconst 0, 1) := by decide +kernel
theorem dL_move_3 : decode cL_move 3 = .ok (.aload_n 0, 1) := by decide +kernel
theorem dL_move_4 : decode cL_move 4 = .ok (.iload_n 1, 1) := by decide +kernel
theorem dL_move_5 : decode cL_move 5 = .ok (.lload_n 2, 1) := by decide +kernel
theorem dL_move_6 : decode cL_move 6 = .ok (.lload 4, 2) := by decide +kernel
theorem dL_move_8 : decode cL_move 8 = .ok (.invokevirtual 39, 3) := by decide +kernel
theorem dL_move_11 : decode cL_move 11 = .ok (.ifCond .eq 7, 3) := by decide +kernel
theorem dL_move_14 : decode cL_move 14 = .ok (.lconst 1, 1) := by decide +kernel
theorem dL_move_15 : decode cL_move 15 = .ok (.goto 4, 3) := by decide +kernel
theorem dL_move_18 : decode cL_move 18 = .ok (.lconst 0, 1) := by decide +kernel
theorem dL_move_19 : decode cL_move 19 = .ok (.lastore, 1) := by decide +kernel
theorem dL_move_20 : decode cL_move 20 = .ok (.goto 11, 3) := by decide +kernel
theorem dL_move_23 : decode cL_move 23 = .ok (.astore 7, 2) := by decide +kernel
theorem dL_move_25 : decode cL_move 25 = .ok (.iconst 1, 1) := by decide +kernel
theorem dL_move_26 : decode cL_move 26 = .ok (.ireturn, 1) := by decide +kernel
theorem dL_move_27 : decode cL_move 27 = .ok (.astore 7, 2) := by decide +kernel
theorem dL_move_29 : decode cL_move 29 = .ok (.iconst 2, 1) := by decide +kernel
theorem dL_move_30 : decode cL_move 30 = .ok (.ireturn, 1) := by decide +kernel
theorem dL_move_31 : decode cL_move 31 = .ok (.iconst 0, 1) := by decide +kernel
theorem dL_move_32 : decode cL_move 32 = .ok (.ireturn, 1) := by decide +kernel
def wsL_touch_r1 : List Cond := [Cond.classLink RL 19 "java/lang/IndexOutOfBoundsException", Cond.methodLink RL 42 yX4_touch, Cond.instanceMethod yX4_touch, Cond.selects RX4 yX4_touch yX4_touch, Cond.initialized RX4, Cond.code yX4_touch cX4_touch 4 (some .long), Cond.fieldLink RX4 42 "SweptBoxes" "meeting" "LSweptBoxes$Meeting;", Cond.fieldLink RX4 17 "SweptBoxes" "blocks" "[LSweptBoxes$Block;", Cond.fieldLink RX4 128 "SweptBoxes$Meeting" "upper" "J", Cond.fieldLink RX4 131 "SweptBoxes$Meeting" "lower" "J", Cond.methodLink RX4 120 yX4_needMeeting, Cond.instanceMethod yX4_needMeeting, Cond.selects RX4 yX4_needMeeting yX4_needMeeting, Cond.code yX4_needMeeting cX4_needMeeting 4 none, Cond.fieldLink RX4 96 "SweptBoxes" "blockCount" "I", Cond.methodLink RX4 65 yX4_needIndex, Cond.static yX4_needIndex, Cond.code yX4_needIndex cX4_needIndex 2 none, Cond.classLink RX4 179 "java/lang/IndexOutOfBoundsException", Cond.initialized "java/lang/IndexOutOfBoundsException", Cond.methodLink RX4 124 yX2_seekTouch, Cond.instanceMethod yX2_seekTouch, Cond.selects RX2 yX2_seekTouch yX2_seekTouch, Cond.initialized RX2]
def wsL_touch_r2 : List Cond := [Cond.code yX2_seekTouch cX2_seekTouch 3 (some .boolean), Cond.fieldLink RX2 15 "SweptBoxes$Meeting" "barred" "Z", Cond.fieldLink RX2 19 "SweptBoxes$Meeting" "upper" "J", Cond.fieldLink RX2 23 "SweptBoxes$Meeting" "endLower" "J", Cond.fieldLink RX2 26 "SweptBoxes$Meeting" "endUpper" "J", Cond.fieldLink RX2 29 "SweptBoxes$Meeting" "lower" "J", Cond.methodLink RX2 9 yX2_narrowBoth, Cond.instanceMethod yX2_narrowBoth, Cond.selects RX2 yX2_narrowBoth yX2_narrowBoth, Cond.code yX2_narrowBoth cX2_narrowBoth 4 none, Cond.fieldLink RX2 42 "SweptBoxes$Block" "x0" "J", Cond.fieldLink RX2 45 "SweptBoxes$Block" "x1" "J", Cond.fieldLink RX2 48 "SweptBoxes$Block" "dx" "J", Cond.fieldLink RX2 55 "SweptBoxes$Block" "y0" "J", Cond.fieldLink RX2 58 "SweptBoxes$Block" "y1" "J", Cond.fieldLink RX2 61 "SweptBoxes$Block" "dy" "J", Cond.methodLink RX2 51 yX2_narrow, Cond.instanceMethod yX2_narrow, Cond.selects RX2 yX2_narrow yX2_narrow, Cond.code yX2_narrow cX2_narrow 14 none, Cond.methodLink RX2 64 Lib.MathLoose.abs_long.x, Cond.static Lib.MathLoose.abs_long.x, Cond.initialized "java/lang/Math", Cond.code Lib.MathLoose.abs_long.x Lib.MathLoose.abs_long.code 2 (some .long)]
def wsL_touch_r3 : List Cond := [Cond.methodLink RX2 32 yX2_settle, Cond.instanceMethod yX2_settle, Cond.selects RX2 yX2_settle yX2_settle, Cond.code yX2_settle cX2_settle 4 (some .boolean), Cond.constantLong RX2 74 (-1), Cond.methodLink RX2 70 yX2_commonDivisor, Cond.static yX2_commonDivisor, Cond.code yX2_commonDivisor cX2_commonDivisor 11 (some .long), Cond.methodLink RX2 76 Lib.MathLoose.max_long.x, Cond.static Lib.MathLoose.max_long.x, Cond.code Lib.MathLoose.max_long.x Lib.MathLoose.max_long.code 4 (some .long)]
def wsL_touch : List Cond := .codeWith yL_touch cL_touch 6 (some .int) [(0, 11, 14, 19)] :: ((wsL_touch_r1 ++ (wsL_touch_r2 ++ wsL_touch_r3)) ++ wsX40 ++ wsX20 ++ wsX00 ++ (vx_atS RX4 183 "java/lang/IndexOutOfBoundsException" ["java/lang/RuntimeException", "java/lang/Exception"]).filter goodWord)
set_option maxRecDepth 20000 in
theorem ggL_touch_X4_touch : GoodIn wsL_touch wsX4_touch := goodIn_ca (goodIn_r _ [6, 7, 8, 9, 10, 11, 12, 13, 5, 14, 15, 16, 17, 18, 19, 20, 21, 22, 23, 24, 25, 26, 27, 28, 29, 30, 31, 32, 33, 34, 35, 36, 37, 38, 39, 40, 41, 42, 43, 44, 45, 46, 47, 48, 49, 50, 51, 52, 53, 54, 55, 56, 57, 58, 59, 60, 61, 62, 63, 64, 65, 66, 67, 68, 69, 70, 71, 72, 73, 74, 75, 76, 77, 78, 79, 80] (by decide +kernel) (by decide +kernel)) (goodIn_sub (fun _ h => List.mem_cons_of_mem _ (List.mem_append_right _ h)) (by decide +kernel))
set_option maxRecDepth 20000 in
theorem gL_touch_X4_touch : GoodIn wsL_touch (wsV RL 42 RX4 yX4_touch wsX4_touch) := goodIn_app (goodIn_of _ (by decide +kernel)) ggL_touch_X4_touch
theorem dL_touch_0 : decode cL_touch 0 = .ok (.aload 4, 2) := by decide +kernel
theorem dL_touch_2 : decode cL_touch 2 = .ok (.iconst 0, 1) := by decide +kernel
theorem dL_touch_3 : decode cL_touch 3 = .ok (.aload_n 0, 1) := by decide +kernel
theorem dL_touch_4 : decode cL_touch 4 = .ok (.iload_n 1, 1) := by decide +kernel
theorem dL_touch_5 : decode cL_touch 5 = .ok (.iload_n 2, 1) := by decide +kernel
theorem dL_touch_6 : decode cL_touch 6 = .ok (.iload_n 3, 1) := by decide +kernel
theorem dL_touch_7 : decode cL_touch 7 = .ok (.invokevirtual 42, 3) := by decide +kernel
theorem dL_touch_10 : decode cL_touch 10 = .ok (.lastore, 1) := by decide +kernel
theorem dL_touch_11 : decode cL_touch 11 = .ok (.goto 7, 3) := by decide +kernel
theorem dL_touch_14 : decode cL_touch 14 = .ok (.astore 5, 2) := by decide +kernel
theorem dL_touch_16 : decode cL_touch 16 = .ok (.iconst 1, 1) := by decide +kernel
theorem dL_touch_17 : decode cL_touch 17 = .ok (.ireturn, 1) := by decide +kernel
theorem dL_touch_18 : decode cL_touch 18 = .ok (.iconst 0, 1) := by decide +kernel
theorem dL_touch_19 : decode cL_touch 19 = .ok (.ireturn, 1) := by decide +kernel
def wsL_overlap_r1 : List Cond := [Cond.classLink RL 19 "java/lang/IndexOutOfBoundsException", Cond.methodLink RL 45 yX4_overlap, Cond.instanceMethod yX4_overlap, Cond.selects RX4 yX4_overlap yX4_overlap, Cond.initialized RX4, Cond.code yX4_overlap cX4_overlap 4 (some .long), Cond.fieldLink RX4 42 "SweptBoxes" "meeting" "LSweptBoxes$Meeting;", Cond.fieldLink RX4 17 "SweptBoxes" "blocks" "[LSweptBoxes$Block;", Cond.fieldLink RX4 128 "SweptBoxes$Meeting" "upper" "J", Cond.fieldLink RX4 131 "SweptBoxes$Meeting" "lower" "J", Cond.methodLink RX4 120 yX4_needMeeting, Cond.instanceMethod yX4_needMeeting, Cond.selects RX4 yX4_needMeeting yX4_needMeeting, Cond.code yX4_needMeeting cX4_needMeeting 4 none, Cond.fieldLink RX4 96 "SweptBoxes" "blockCount" "I", Cond.methodLink RX4 65 yX4_needIndex, Cond.static yX4_needIndex, Cond.code yX4_needIndex cX4_needIndex 2 none, Cond.classLink RX4 179 "java/lang/IndexOutOfBoundsException", Cond.initialized "java/lang/IndexOutOfBoundsException", Cond.methodLink RX4 134 yX2_seekOverlap, Cond.instanceMethod yX2_seekOverlap, Cond.selects RX2 yX2_seekOverlap yX2_seekOverlap, Cond.initialized RX2]
def wsL_overlap_r2 : List Cond := [Cond.code yX2_seekOverlap cX2_seekOverlap 3 (some .boolean), Cond.fieldLink RX2 15 "SweptBoxes$Meeting" "barred" "Z", Cond.fieldLink RX2 19 "SweptBoxes$Meeting" "upper" "J", Cond.fieldLink RX2 23 "SweptBoxes$Meeting" "endLower" "J", Cond.fieldLink RX2 26 "SweptBoxes$Meeting" "endUpper" "J", Cond.fieldLink RX2 29 "SweptBoxes$Meeting" "lower" "J", Cond.methodLink RX2 9 yX2_narrowBoth, Cond.instanceMethod yX2_narrowBoth, Cond.selects RX2 yX2_narrowBoth yX2_narrowBoth, Cond.code yX2_narrowBoth cX2_narrowBoth 4 none, Cond.fieldLink RX2 42 "SweptBoxes$Block" "x0" "J", Cond.fieldLink RX2 45 "SweptBoxes$Block" "x1" "J", Cond.fieldLink RX2 48 "SweptBoxes$Block" "dx" "J", Cond.fieldLink RX2 55 "SweptBoxes$Block" "y0" "J", Cond.fieldLink RX2 58 "SweptBoxes$Block" "y1" "J", Cond.fieldLink RX2 61 "SweptBoxes$Block" "dy" "J", Cond.methodLink RX2 51 yX2_narrow, Cond.instanceMethod yX2_narrow, Cond.selects RX2 yX2_narrow yX2_narrow, Cond.code yX2_narrow cX2_narrow 14 none, Cond.methodLink RX2 64 Lib.MathLoose.abs_long.x, Cond.static Lib.MathLoose.abs_long.x, Cond.initialized "java/lang/Math", Cond.code Lib.MathLoose.abs_long.x Lib.MathLoose.abs_long.code 2 (some .long)]
def wsL_overlap_r3 : List Cond := [Cond.methodLink RX2 36 yX0_hasMidst, Cond.instanceMethod yX0_hasMidst, Cond.selects RX0 yX0_hasMidst yX0_hasMidst, Cond.initialized RX0, Cond.code yX0_hasMidst cX0_hasMidst 1 (some .boolean), Cond.fieldLink RX0 9 "SweptBoxes$Block" "x0" "J", Cond.fieldLink RX0 18 "SweptBoxes$Block" "x1" "J", Cond.fieldLink RX0 15 "SweptBoxes$Block" "y0" "J", Cond.fieldLink RX0 21 "SweptBoxes$Block" "y1" "J", Cond.methodLink RX2 32 yX2_settle, Cond.instanceMethod yX2_settle, Cond.selects RX2 yX2_settle yX2_settle, Cond.code yX2_settle cX2_settle 4 (some .boolean), Cond.constantLong RX2 74 (-1), Cond.methodLink RX2 70 yX2_commonDivisor, Cond.static yX2_commonDivisor, Cond.code yX2_commonDivisor cX2_commonDivisor 11 (some .long), Cond.methodLink RX2 76 Lib.MathLoose.max_long.x, Cond.static Lib.MathLoose.max_long.x, Cond.code Lib.MathLoose.max_long.x Lib.MathLoose.max_long.code 4 (some .long)]
def wsL_overlap : List Cond := .codeWith yL_overlap cL_overlap 6 (some .int) [(0, 11, 14, 19)] :: ((wsL_overlap_r1 ++ (wsL_overlap_r2 ++ wsL_overlap_r3)) ++ wsX40 ++ wsX20 ++ wsX00 ++ (vx_atS RX4 183 "java/lang/IndexOutOfBoundsException" ["java/lang/RuntimeException", "java/lang/Exception"]).filter goodWord)
set_option maxRecDepth 20000 in
theorem ggL_overlap_X4_overlap : GoodIn wsL_overlap wsX4_overlap := goodIn_ca (goodIn_r _ [6, 7, 8, 9, 10, 11, 12, 13, 5, 14, 15, 16, 17, 18, 19, 20, 21, 22, 23, 24, 25, 26, 27, 28, 29, 30, 31, 32, 33, 34, 35, 36, 37, 38, 39, 40, 41, 42, 43, 44, 45, 46, 47, 48, 49, 50, 51, 52, 53, 54, 55, 56, 57, 58, 59, 60, 61, 62, 63, 64, 65, 66, 67, 68, 69, 70, 71, 72, 73, 74, 75, 76, 77, 78, 79, 80, 81, 82, 83, 84, 85, 86, 87, 88, 89] (by decide +kernel) (by decide +kernel)) (goodIn_sub (fun _ h => List.mem_cons_of_mem _ (List.mem_append_right _ h)) (by decide +kernel))
set_option maxRecDepth 20000 in
theorem gL_overlap_X4_overlap : GoodIn wsL_overlap (wsV RL 45 RX4 yX4_overlap wsX4_overlap) := goodIn_app (goodIn_of _ (by decide +kernel)) ggL_overlap_X4_overlap
theorem dL_overlap_0 : decode cL_overlap 0 = .ok (.aload 4, 2) := by decide +kernel
theorem dL_overlap_2 : decode cL_overlap 2 = .ok (.iconst 0, 1) := by decide +kernel
theorem dL_overlap_3 : decode cL_overlap 3 = .ok (.aload_n 0, 1) := by decide +kernel
theorem dL_overlap_4 : decode cL_overlap 4 = .ok (.iload_n 1, 1) := by decide +kernel
theorem dL_overlap_5 : decode cL_overlap 5 = .ok (.iload_n 2, 1) := by decide +kernel
theorem dL_overlap_6 : decode cL_overlap 6 = .ok (.iload_n 3, 1) := by decide +kernel
theorem dL_overlap_7 : decode cL_overlap 7 = .ok (.invokevirtual 45, 3) := by decide +kernel
theorem dL_overlap_10 : decode cL_overlap 10 = .ok (.lastore, 1) := by decide +kernel
theorem dL_overlap_11 : decode cL_overlap 11 = .ok (.goto 7, 3) := by decide +kernel
theorem dL_overlap_14 : decode cL_overlap 14 = .ok (.astore 5, 2) := by decide +kernel
theorem dL_overlap_16 : decode cL_overlap 16 = .ok (.iconst 1, 1) := by decide +kernel
theorem dL_overlap_17 : decode cL_overlap 17 = .ok (.ireturn, 1) := by decide +kernel
theorem dL_overlap_18 : decode cL_overlap 18 = .ok (.iconst 0, 1) := by decide +kernel
theorem dL_overlap_19 : decode cL_overlap 19 = .ok (.ireturn, 1) := by decide +kernel
def wsL_tile_r1 : List Cond := [Cond.classLink RL 19 "java/lang/IndexOutOfBoundsException", Cond.classLink RL 13 "java/lang/IllegalStateException", Cond.methodLink RL 48 yX4_tile, Cond.instanceMethod yX4_tile, Cond.selects RX4 yX4_tile yX4_tile, Cond.initialized RX4, Cond.code yX4_tile cX4_tile 5 (some .boolean), Cond.classLink RX4 55 "java/lang/IllegalStateException", Cond.initialized "java/lang/IllegalStateException", Cond.fieldLink RX4 36 "SweptBoxes" "tileBlock" "LSweptBoxes$Block;", Cond.fieldLink RX4 26 "SweptBoxes" "playerBox" "LSweptBoxes$Block;", Cond.fieldLink RX4 21 "SweptBoxes" "solidRows" "[I", Cond.methodLink RX4 65 yX4_needIndex, Cond.static yX4_needIndex, Cond.code yX4_needIndex cX4_needIndex 2 none, Cond.classLink RX4 179 "java/lang/IndexOutOfBoundsException", Cond.initialized "java/lang/IndexOutOfBoundsException", Cond.methodLink RX4 137 yX0_putTile, Cond.instanceMethod yX0_putTile, Cond.selects RX0 yX0_putTile yX0_putTile, Cond.initialized RX0, Cond.code yX0_putTile cX0_putTile 3 none, Cond.constantLong RX0 28 (16), Cond.methodLink RX0 30 yX0_put]
def wsL_tile_r2 : List Cond := [Cond.instanceMethod yX0_put, Cond.selects RX0 yX0_put yX0_put, Cond.code yX0_put cX0_put 9 none, Cond.fieldLink RX0 9 "SweptBoxes$Block" "x0" "J", Cond.fieldLink RX0 15 "SweptBoxes$Block" "y0" "J", Cond.fieldLink RX0 18 "SweptBoxes$Block" "x1" "J", Cond.fieldLink RX0 21 "SweptBoxes$Block" "y1" "J", Cond.methodLink RX0 24 yX0_head, Cond.instanceMethod yX0_head, Cond.selects RX0 yX0_head yX0_head, Cond.code yX0_head cX0_head 5 none, Cond.fieldLink RX0 34 "SweptBoxes$Block" "dx" "J", Cond.fieldLink RX0 37 "SweptBoxes$Block" "dy" "J", Cond.methodLink RX4 140 yX0_liesOver, Cond.instanceMethod yX0_liesOver, Cond.selects RX0 yX0_liesOver yX0_liesOver, Cond.code yX0_liesOver cX0_liesOver 2 (some .boolean), Cond.methodLink RX0 40 yX0_liesOverRange, Cond.instanceMethod yX0_liesOverRange, Cond.selects RX0 yX0_liesOverRange yX0_liesOverRange, Cond.code yX0_liesOverRange cX0_liesOverRange 9 (some .boolean), Cond.methodLink RX4 146 yX4_isSolid, Cond.instanceMethod yX4_isSolid, Cond.selects RX4 yX4_isSolid yX4_isSolid]
def wsL_tile_r3 : List Cond := [Cond.code yX4_isSolid cX4_isSolid 3 (some .boolean)]
def wsL_tile : List Cond := .codeWith yL_tile cL_tile 6 (some .int) [(0, 19, 22, 19), (0, 19, 26, 13)] :: ((wsL_tile_r1 ++ (wsL_tile_r2 ++ wsL_tile_r3)) ++ wsX40 ++ wsX00 ++ (vx_atS RX4 59 "java/lang/IllegalStateException" ["java/lang/RuntimeException", "java/lang/Exception"]).filter goodWord ++ (vx_atS RX4 183 "java/lang/IndexOutOfBoundsException" ["java/lang/RuntimeException", "java/lang/Exception"]).filter goodWord)
set_option maxRecDepth 20000 in
theorem ggL_tile_X4_tile : GoodIn wsL_tile wsX4_tile := goodIn_ca (goodIn_ca (goodIn_r _ [7, 8, 9, 10, 11, 12, 13, 14, 6, 15, 16, 17, 18, 19, 20, 21, 22, 23, 24, 25, 26, 27, 28, 29, 30, 31, 32, 33, 34, 35, 36, 37, 38, 39, 40, 41, 42, 43, 44, 45, 46, 47, 48, 49, 50, 51, 52, 53, 54, 55, 56, 57, 58, 59, 60, 61, 62, 63, 64, 65] (by decide +kernel) (by decide +kernel)) (goodIn_sub (fun _ h => List.mem_cons_of_mem _ (List.mem_append_left _ (List.mem_append_right _ h))) (by decide +kernel))) (goodIn_sub (fun _ h => List.mem_cons_of_mem _ (List.mem_append_right _ h)) (by decide +kernel))
set_option maxRecDepth 20000 in
theorem gL_tile_X4_tile : GoodIn wsL_tile (wsV RL 48 RX4 yX4_tile wsX4_tile) := goodIn_app (goodIn_of _ (by decide +kernel)) ggL_tile_X4_tile
theorem dL_tile_0 : decode cL_tile 0 = .ok (.aload 4, 2) := by decide +kernel
theorem dL_tile_2 : decode cL_tile 2 = .ok (.iconst 0, 1) := by decide +kernel
theorem dL_tile_3 : decode cL_tile 3 = .ok (.aload_n 0, 1) := by decide +kernel
theorem dL_tile_4 : decode cL_tile 4 = .ok (.iload_n 1, 1) := by decide +kernel
theorem dL_tile_5 : decode cL_tile 5 = .ok (.iload_n 2, 1) := by decide +kernel
theorem dL_tile_6 : decode cL_tile 6 = .ok (.iload_n 3, 1) := by decide +kernel
theorem dL_tile_7 : decode cL_tile 7 = .ok (.invokevirtual 48, 3) := by decide +kernel
theorem dL_tile_10 : decode cL_tile 10 = .ok (.ifCond .eq 7, 3) := by decide +kernel
theorem dL_tile_13 : decode cL_tile 13 = .ok (.lconst 1, 1) := by decide +kernel
theorem dL_tile_14 : decode cL_tile 14 = .ok (.goto 4, 3) := by decide +kernel
theorem dL_tile_17 : decode cL_tile 17 = .ok (.lconst 0, 1) := by decide +kernel
theorem dL_tile_18 : decode cL_tile 18 = .ok (.lastore, 1) := by decide +kernel
theorem dL_tile_19 : decode cL_tile 19 = .ok (.goto 11, 3) := by decide +kernel
theorem dL_tile_22 : decode cL_tile 22 = .ok (.astore 5, 2) := by decide +kernel
theorem dL_tile_24 : decode cL_tile 24 = .ok (.iconst 1, 1) := by decide +kernel
theorem dL_tile_25 : decode cL_tile 25 = .ok (.ireturn, 1) := by decide +kernel
theorem dL_tile_26 : decode cL_tile 26 = .ok (.astore 5, 2) := by decide +kernel
theorem dL_tile_28 : decode cL_tile 28 = .ok (.iconst 2, 1) := by decide +kernel
theorem dL_tile_29 : decode cL_tile 29 = .ok (.ireturn, 1) := by decide +kernel
theorem dL_tile_30 : decode cL_tile 30 = .ok (.iconst 0, 1) := by decide +kernel
theorem dL_tile_31 : decode cL_tile 31 = .ok (.ireturn, 1) := by decide +kernel
def wsL_player_r1 : List Cond := [Cond.classLink RL 21 "java/lang/IllegalArgumentException", Cond.methodLink RL 52 yX4_player, Cond.instanceMethod yX4_player, Cond.selects RX4 yX4_player yX4_player, Cond.initialized RX4, Cond.code yX4_player cX4_player 9 (some .boolean), Cond.classLink RX4 101 "java/lang/IllegalArgumentException", Cond.initialized "java/lang/IllegalArgumentException", Cond.constantLong RX4 150 (64), Cond.fieldLink RX4 26 "SweptBoxes" "playerBox" "LSweptBoxes$Block;", Cond.methodLink RX4 74 yX4_needInRange, Cond.static yX4_needInRange, Cond.code yX4_needInRange cX4_needInRange 4 none, Cond.constantLong RX4 210 (-10000), Cond.constantLong RX4 212 (10000), Cond.methodLink RX4 154 yX4_isBlocked, Cond.instanceMethod yX4_isBlocked, Cond.selects RX4 yX4_isBlocked yX4_isBlocked, Cond.code yX4_isBlocked cX4_isBlocked 14 (some .boolean), Cond.fieldLink RX4 36 "SweptBoxes" "tileBlock" "LSweptBoxes$Block;", Cond.methodLink RX4 232 yX4_lastTileTo, Cond.static yX4_lastTileTo, Cond.code yX4_lastTileTo cX4_lastTileTo 2 (some .int), Cond.constantLong RX4 227 (23)]
def wsL_player_r2 : List Cond := [Cond.constantLong RX4 216 (16), Cond.methodLink RX4 229 Lib.MathLoose.min_long.x, Cond.static Lib.MathLoose.min_long.x, Cond.initialized "java/lang/Math", Cond.code Lib.MathLoose.min_long.x Lib.MathLoose.min_long.code 4 (some .long), Cond.methodLink RX4 218 yJ9_floorDiv_f86c9, Cond.static yJ9_floorDiv_f86c9, Cond.initialized RJ9, Cond.code yJ9_floorDiv_f86c9 cJ9_floorDiv_f86c9 6 (some .long), Cond.methodLink RX4 236 yX4_firstTileFrom, Cond.static yX4_firstTileFrom, Cond.code yX4_firstTileFrom cX4_firstTileFrom 2 (some .int), Cond.methodLink RX4 224 Lib.MathLoose.max_long.x, Cond.static Lib.MathLoose.max_long.x, Cond.code Lib.MathLoose.max_long.x Lib.MathLoose.max_long.code 4 (some .long), Cond.methodLink RX4 137 yX0_putTile, Cond.instanceMethod yX0_putTile, Cond.selects RX0 yX0_putTile yX0_putTile, Cond.initialized RX0, Cond.code yX0_putTile cX0_putTile 3 none, Cond.constantLong RX0 28 (16), Cond.methodLink RX0 30 yX0_put, Cond.instanceMethod yX0_put, Cond.selects RX0 yX0_put yX0_put]
def wsL_player_r3 : List Cond := [Cond.code yX0_put cX0_put 9 none, Cond.fieldLink RX0 9 "SweptBoxes$Block" "x0" "J", Cond.fieldLink RX0 15 "SweptBoxes$Block" "y0" "J", Cond.fieldLink RX0 18 "SweptBoxes$Block" "x1" "J", Cond.fieldLink RX0 21 "SweptBoxes$Block" "y1" "J", Cond.methodLink RX0 24 yX0_head, Cond.instanceMethod yX0_head, Cond.selects RX0 yX0_head yX0_head, Cond.code yX0_head cX0_head 5 none, Cond.fieldLink RX0 34 "SweptBoxes$Block" "dx" "J", Cond.fieldLink RX0 37 "SweptBoxes$Block" "dy" "J", Cond.methodLink RX4 146 yX4_isSolid, Cond.instanceMethod yX4_isSolid, Cond.selects RX4 yX4_isSolid yX4_isSolid, Cond.code yX4_isSolid cX4_isSolid 3 (some .boolean), Cond.fieldLink RX4 21 "SweptBoxes" "solidRows" "[I", Cond.methodLink RX4 239 yX0_liesOverRange, Cond.instanceMethod yX0_liesOverRange, Cond.selects RX0 yX0_liesOverRange yX0_liesOverRange, Cond.code yX0_liesOverRange cX0_liesOverRange 9 (some .boolean), Cond.methodLink RX4 106 yX0_put]
def wsL_player : List Cond := .codeWith yL_player cL_player 11 (some .int) [(0, 22, 25, 21)] :: ((wsL_player_r1 ++ (wsL_player_r2 ++ wsL_player_r3)) ++ wsX40 ++ wsX00 ++ (vx_atS RX4 105 "java/lang/IllegalArgumentException" ["java/lang/RuntimeException", "java/lang/Exception"]).filter goodWord)
set_option maxRecDepth 20000 in
theorem ggL_player_X4_player : GoodIn wsL_player wsX4_player := goodIn_ca (goodIn_r _ [6, 7, 8, 9, 10, 11, 12, 5, 13, 14, 15, 16, 17, 18, 19, 20, 21, 22, 23, 24, 25, 26, 27, 28, 29, 30, 31, 32, 33, 34, 35, 36, 37, 38, 39, 40, 41, 42, 43, 44, 45, 46, 47, 48, 49, 50, 51, 52, 53, 54, 55, 56, 57, 58, 59, 60, 61, 62, 63, 64, 65, 66, 67, 68, 69, 70, 71, 72, 73, 74, 75, 76, 77, 78, 79, 80, 81, 82, 83, 84, 85] (by decide +kernel) (by decide +kernel)) (goodIn_sub (fun _ h => List.mem_cons_of_mem _ (List.mem_append_right _ h)) (by decide +kernel))
set_option maxRecDepth 20000 in
theorem gL_player_X4_player : GoodIn wsL_player (wsV RL 52 RX4 yX4_player wsX4_player) := goodIn_app (goodIn_of _ (by decide +kernel)) ggL_player_X4_player
theorem dL_player_0 : decode cL_player 0 = .ok (.aload 9, 2) := by decide +kernel
theorem dL_player_2 : decode cL_player 2 = .ok (.iconst 0, 1) := by decide +kernel
theorem dL_player_3 : decode cL_player 3 = .ok (.aload_n 0, 1) := by decide +kernel
theorem dL_player_4 : decode cL_player 4 = .ok (.lload_n 1, 1) := by decide +kernel
theorem dL_player_5 : decode cL_player 5 = .ok (.lload_n 3, 1) := by decide +kernel
theorem dL_player_6 : decode cL_player 6 = .ok (.lload 5, 2) := by decide +kernel
theorem dL_player_8 : decode cL_player 8 = .ok (.lload 7, 2) := by decide +kernel
theorem dL_player_10 : decode cL_player 10 = .ok (.invokevirtual 52, 3) := by decide +kernel
theorem dL_player_13 : decode cL_player 13 = .ok (.ifCond .eq 7, 3) := by decide +kernel
theorem dL_player_16 : decode cL_player 16 = .ok (.lconst 1, 1) := by decide +kernel
theorem dL_player_17 : decode cL_player 17 = .ok (.goto 4, 3) := by decide +kernel
theorem dL_player_20 : decode cL_player 20 = .ok (.lconst 0, 1) := by decide +kernel
theorem dL_player_21 : decode cL_player 21 = .ok (.lastore, 1) := by decide +kernel
theorem dL_player_22 : decode cL_player 22 = .ok (.goto 7, 3) := by decide +kernel
theorem dL_player_25 : decode cL_player 25 = .ok (.astore 10, 2) := by decide +kernel
theorem dL_player_27 : decode cL_player 27 = .ok (.iconst 1, 1) := by decide +kernel
theorem dL_player_28 : decode cL_player 28 = .ok (.ireturn, 1) := by decide +kernel
theorem dL_player_29 : decode cL_player 29 = .ok (.iconst 0, 1) := by decide +kernel
theorem dL_player_30 : decode cL_player 30 = .ok (.ireturn, 1) := by decide +kernel
def wsL_step_r1 : List Cond := [Cond.classLink RL 21 "java/lang/IllegalArgumentException", Cond.methodLink RL 56 yX4_step, Cond.instanceMethod yX4_step, Cond.selects RX4 yX4_step yX4_step, Cond.initialized RX4, Cond.code yX4_step cX4_step 6 (some .int), Cond.classLink RX4 101 "java/lang/IllegalArgumentException", Cond.initialized "java/lang/IllegalArgumentException", Cond.fieldLink RX4 26 "SweptBoxes" "playerBox" "LSweptBoxes$Block;", Cond.fieldLink RX4 158 "SweptBoxes$Block" "x0" "J", Cond.fieldLink RX4 161 "SweptBoxes$Block" "y0" "J", Cond.fieldLink RX4 166 "SweptBoxes" "traceCount" "I", Cond.fieldLink RX4 110 "SweptBoxes$Block" "dx" "J", Cond.fieldLink RX4 114 "SweptBoxes$Block" "dy" "J", Cond.fieldLink RX4 32 "SweptBoxes" "traces" "[LSweptBoxes$Trace;", Cond.methodLink RX4 74 yX4_needInRange, Cond.static yX4_needInRange, Cond.code yX4_needInRange cX4_needInRange 4 none, Cond.constantLong RX4 210 (-10000), Cond.constantLong RX4 212 (10000), Cond.methodLink RX4 117 yX0_head, Cond.instanceMethod yX0_head, Cond.selects RX0 yX0_head yX0_head, Cond.initialized RX0]
def wsL_step_r2 : List Cond := [Cond.code yX0_head cX0_head 5 none, Cond.fieldLink RX0 34 "SweptBoxes$Block" "dx" "J", Cond.fieldLink RX0 37 "SweptBoxes$Block" "dy" "J", Cond.methodLink RX4 169 yX4_runSweep, Cond.instanceMethod yX4_runSweep, Cond.selects RX4 yX4_runSweep yX4_runSweep, Cond.code yX4_runSweep cX4_runSweep 2 none, Cond.fieldLink RX4 193 "SweptBoxes$Trace" "tileMet" "I", Cond.fieldLink RX4 184 "SweptBoxes$Trace" "x" "J", Cond.fieldLink RX4 187 "SweptBoxes$Trace" "y" "J", Cond.methodLink RX4 242 yX3_meetNothing, Cond.instanceMethod yX3_meetNothing, Cond.selects RX3 yX3_meetNothing yX3_meetNothing, Cond.initialized RX3, Cond.code yX3_meetNothing cX3_meetNothing 1 none, Cond.fieldLink RX3 9 "SweptBoxes$Trace" "axis" "I", Cond.fieldLink RX3 15 "SweptBoxes$Trace" "tileMet" "I", Cond.fieldLink RX3 18 "SweptBoxes$Trace" "upper" "J", Cond.fieldLink RX3 22 "SweptBoxes$Trace" "lower" "J", Cond.methodLink RX4 245 yX4_seekFirstTile, Cond.instanceMethod yX4_seekFirstTile, Cond.selects RX4 yX4_seekFirstTile yX4_seekFirstTile, Cond.code yX4_seekFirstTile cX4_seekFirstTile 7 none, Cond.fieldLink RX4 176 "SweptBoxes$Block" "y1" "J"]
def wsL_step_r3 : List Cond := [Cond.methodLink RX4 224 Lib.MathLoose.max_long.x, Cond.static Lib.MathLoose.max_long.x, Cond.initialized "java/lang/Math", Cond.code Lib.MathLoose.max_long.x Lib.MathLoose.max_long.code 4 (some .long), Cond.methodLink RX4 229 Lib.MathLoose.min_long.x, Cond.static Lib.MathLoose.min_long.x, Cond.code Lib.MathLoose.min_long.x Lib.MathLoose.min_long.code 4 (some .long), Cond.fieldLink RX4 173 "SweptBoxes$Block" "x1" "J", Cond.methodLink RX4 232 yX4_lastTileTo, Cond.static yX4_lastTileTo, Cond.code yX4_lastTileTo cX4_lastTileTo 2 (some .int), Cond.constantLong RX4 227 (23), Cond.constantLong RX4 216 (16), Cond.methodLink RX4 218 yJ9_floorDiv_f86c9, Cond.static yJ9_floorDiv_f86c9, Cond.initialized RJ9, Cond.code yJ9_floorDiv_f86c9 cJ9_floorDiv_f86c9 6 (some .long), Cond.methodLink RX4 236 yX4_firstTileFrom, Cond.static yX4_firstTileFrom, Cond.code yX4_firstTileFrom cX4_firstTileFrom 2 (some .int), Cond.methodLink RX4 146 yX4_isSolid, Cond.instanceMethod yX4_isSolid, Cond.selects RX4 yX4_isSolid yX4_isSolid, Cond.code yX4_isSolid cX4_isSolid 3 (some .boolean)]
def wsL_step_r4 : List Cond := [Cond.fieldLink RX4 21 "SweptBoxes" "solidRows" "[I", Cond.methodLink RX4 254 yX4_tryTile, Cond.instanceMethod yX4_tryTile, Cond.selects RX4 yX4_tryTile yX4_tryTile, Cond.code yX4_tryTile cX4_tryTile 5 none, Cond.fieldLink RX4 36 "SweptBoxes" "tileBlock" "LSweptBoxes$Block;", Cond.fieldLink RX4 42 "SweptBoxes" "meeting" "LSweptBoxes$Meeting;", Cond.fieldLink RX4 196 "SweptBoxes$Trace" "upper" "J", Cond.fieldLink RX4 197 "SweptBoxes$Trace" "lower" "J", Cond.fieldLink RX4 128 "SweptBoxes$Meeting" "upper" "J", Cond.fieldLink RX4 131 "SweptBoxes$Meeting" "lower" "J", Cond.methodLink RX4 137 yX0_putTile, Cond.instanceMethod yX0_putTile, Cond.selects RX0 yX0_putTile yX0_putTile, Cond.code yX0_putTile cX0_putTile 3 none, Cond.constantLong RX0 28 (16), Cond.methodLink RX0 30 yX0_put, Cond.instanceMethod yX0_put, Cond.selects RX0 yX0_put yX0_put, Cond.code yX0_put cX0_put 9 none, Cond.fieldLink RX0 9 "SweptBoxes$Block" "x0" "J", Cond.fieldLink RX0 15 "SweptBoxes$Block" "y0" "J", Cond.fieldLink RX0 18 "SweptBoxes$Block" "x1" "J", Cond.fieldLink RX0 21 "SweptBoxes$Block" "y1" "J"]
def wsL_step_r5 : List Cond := [Cond.methodLink RX0 24 yX0_head, Cond.methodLink RX4 134 yX2_seekOverlap, Cond.instanceMethod yX2_seekOverlap, Cond.selects RX2 yX2_seekOverlap yX2_seekOverlap, Cond.initialized RX2, Cond.code yX2_seekOverlap cX2_seekOverlap 3 (some .boolean), Cond.fieldLink RX2 15 "SweptBoxes$Meeting" "barred" "Z", Cond.fieldLink RX2 19 "SweptBoxes$Meeting" "upper" "J", Cond.fieldLink RX2 23 "SweptBoxes$Meeting" "endLower" "J", Cond.fieldLink RX2 26 "SweptBoxes$Meeting" "endUpper" "J", Cond.fieldLink RX2 29 "SweptBoxes$Meeting" "lower" "J", Cond.methodLink RX2 9 yX2_narrowBoth, Cond.instanceMethod yX2_narrowBoth, Cond.selects RX2 yX2_narrowBoth yX2_narrowBoth, Cond.code yX2_narrowBoth cX2_narrowBoth 4 none, Cond.fieldLink RX2 42 "SweptBoxes$Block" "x0" "J", Cond.fieldLink RX2 45 "SweptBoxes$Block" "x1" "J", Cond.fieldLink RX2 48 "SweptBoxes$Block" "dx" "J", Cond.fieldLink RX2 55 "SweptBoxes$Block" "y0" "J", Cond.fieldLink RX2 58 "SweptBoxes$Block" "y1" "J", Cond.fieldLink RX2 61 "SweptBoxes$Block" "dy" "J", Cond.methodLink RX2 51 yX2_narrow, Cond.instanceMethod yX2_narrow, Cond.selects RX2 yX2_narrow yX2_narrow]
def wsL_step_r6 : List Cond := [Cond.code yX2_narrow cX2_narrow 14 none, Cond.methodLink RX2 64 Lib.MathLoose.abs_long.x, Cond.static Lib.MathLoose.abs_long.x, Cond.code Lib.MathLoose.abs_long.x Lib.MathLoose.abs_long.code 2 (some .long), Cond.methodLink RX2 36 yX0_hasMidst, Cond.instanceMethod yX0_hasMidst, Cond.selects RX0 yX0_hasMidst yX0_hasMidst, Cond.code yX0_hasMidst cX0_hasMidst 1 (some .boolean), Cond.methodLink RX2 32 yX2_settle, Cond.instanceMethod yX2_settle, Cond.selects RX2 yX2_settle yX2_settle, Cond.code yX2_settle cX2_settle 4 (some .boolean), Cond.constantLong RX2 74 (-1), Cond.methodLink RX2 70 yX2_commonDivisor, Cond.static yX2_commonDivisor, Cond.code yX2_commonDivisor cX2_commonDivisor 11 (some .long), Cond.methodLink RX2 76 Lib.MathLoose.max_long.x, Cond.methodLink RX4 258 yX2_isBefore, Cond.instanceMethod yX2_isBefore, Cond.selects RX2 yX2_isBefore yX2_isBefore, Cond.code yX2_isBefore cX2_isBefore 5 (some .boolean), Cond.methodLink RX4 248 yX0_shift, Cond.instanceMethod yX0_shift, Cond.selects RX0 yX0_shift yX0_shift]
def wsL_step_r7 : List Cond := [Cond.code yX0_shift cX0_shift 5 none, Cond.methodLink RX4 251 yX4_stopAndSlide, Cond.instanceMethod yX4_stopAndSlide, Cond.selects RX4 yX4_stopAndSlide yX4_stopAndSlide, Cond.code yX4_stopAndSlide cX4_stopAndSlide 10 none, Cond.fieldLink RX4 190 "SweptBoxes$Trace" "axis" "I", Cond.methodLink RX4 261 yX4_overlapsInXThen, Cond.instanceMethod yX4_overlapsInXThen, Cond.selects RX4 yX4_overlapsInXThen yX4_overlapsInXThen, Cond.code yX4_overlapsInXThen cX4_overlapsInXThen 10 (some .boolean), Cond.methodLink RX4 265 yX3_shareOf, Cond.instanceMethod yX3_shareOf, Cond.selects RX3 yX3_shareOf yX3_shareOf, Cond.code yX3_shareOf cX3_shareOf 3 (some .long)]
def wsL_step : List Cond := .codeWith yL_step cL_step 8 (some .int) [(0, 13, 16, 21)] :: ((wsL_step_r1 ++ (wsL_step_r2 ++ (wsL_step_r3 ++ (wsL_step_r4 ++ (wsL_step_r5 ++ (wsL_step_r6 ++ wsL_step_r7)))))) ++ wsX40 ++ wsX00 ++ wsX30 ++ wsX20 ++ (vx_atS RX4 105 "java/lang/IllegalArgumentException" ["java/lang/RuntimeException", "java/lang/Exception"]).filter goodWord)
set_option maxRecDepth 20000 in
theorem ggL_step_X4_step : GoodIn wsL_step wsX4_step := goodIn_ca (goodIn_r _ [6, 7, 8, 9, 10, 11, 12, 13, 14, 15, 16, 17, 5, 18, 19, 20, 21, 22, 23, 24, 25, 26, 27, 28, 29, 30, 31, 32, 33, 34, 35, 36, 37, 38, 39, 40, 41, 42, 43, 44, 45, 46, 47, 48, 49, 50, 51, 52, 53, 54, 55, 56, 57, 58, 59, 60, 61, 62, 63, 64, 65, 66, 67, 68, 69, 70, 71, 72, 73, 74, 75, 76, 77, 78, 79, 80, 81, 82, 83, 84, 85, 86, 87, 88, 89, 90, 91, 92, 93, 94, 95, 96, 97, 98, 99, 100, 101, 102, 103, 104, 105, 106, 107, 108, 109, 110, 111, 112, 113, 114, 115, 116, 117, 118, 119, 120, 121, 122, 123, 124, 125, 126, 127, 128, 129, 130, 131, 132, 133, 134, 135, 136, 137, 138, 139, 140, 141, 142, 143, 144, 145, 146, 147, 148, 149, 150, 151, 152, 153, 154, 155, 156, 157, 158, 159, 160, 161, 162, 163, 164, 165, 166, 167, 168, 169, 170, 171, 172, 173, 174, 175, 176, 177, 178, 179, 180, 181, 182, 183, 184, 185] (by decide +kernel) (by decide +kernel)) (goodIn_sub (fun _ h => List.mem_cons_of_mem _ (List.mem_append_right _ h)) (by decide +kernel))
set_option maxRecDepth 20000 in
theorem gL_step_X4_step : GoodIn wsL_step (wsV RL 56 RX4 yX4_step wsX4_step) := goodIn_app (goodIn_of _ (by decide +kernel)) ggL_step_X4_step
theorem dL_step_0 : decode cL_step 0 = .ok (.aload 6, 2) := by decide +kernel
theorem dL_step_2 : decode cL_step 2 = .ok (.iconst 0, 1) := by decide +kernel
theorem dL_step_3 : decode cL_step 3 = .ok (.aload_n 0, 1) := by decide +kernel
theorem dL_step_4 : decode cL_step 4 = .ok (.lload_n 1, 1) := by decide +kernel
theorem dL_step_5 : decode cL_step 5 = .ok (.lload_n 3, 1) := by decide +kernel
theorem dL_step_6 : decode cL_step 6 = .ok (.iload 5, 2) := by decide +kernel
theorem dL_step_8 : decode cL_step 8 = .ok (.invokevirtual 56, 3) := by decide +kernel
theorem dL_step_11 : decode cL_step 11 = .ok (.i2l, 1) := by decide +kernel
theorem dL_step_12 : decode cL_step 12 = .ok (.lastore, 1) := by decide +kernel
theorem dL_step_13 : decode cL_step 13 = .ok (.goto 7, 3) := by decide +kernel
theorem dL_step_16 : decode cL_step 16 = .ok (.astore 7, 2) := by decide +kernel
theorem dL_step_18 : decode cL_step 18 = .ok (.iconst 1, 1) := by decide +kernel
theorem dL_step_19 : decode cL_step 19 = .ok (.ireturn, 1) := by decide +kernel
theorem dL_step_20 : decode cL_step 20 = .ok (.iconst 0, 1) := by decide +kernel
theorem dL_step_21 : decode cL_step 21 = .ok (.ireturn, 1) := by decide +kernel
def wsL_at : List Cond := .codeWith yL_at cL_at 4 (some .int) [(0, 8, 11, 19)] :: ([.classLink RL 19 "java/lang/IndexOutOfBoundsException", .methodLink RL 60 yX4_at, .instanceMethod yX4_at, .selects RX4 yX4_at yX4_at, .initialized RX4, .code yX4_at cX4_at 2 (some .long), .classLink RX4 179 "java/lang/IndexOutOfBoundsException", .initialized "java/lang/IndexOutOfBoundsException", .fieldLink RX4 26 "SweptBoxes" "playerBox" "LSweptBoxes$Block;", .fieldLink RX4 158 "SweptBoxes$Block" "x0" "J", .fieldLink RX4 161 "SweptBoxes$Block" "y0" "J", .fieldLink RX4 173 "SweptBoxes$Block" "x1" "J", .fieldLink RX4 176 "SweptBoxes$Block" "y1" "J"] ++ wsX40 ++ wsX00 ++ (vx_atS RX4 183 "java/lang/IndexOutOfBoundsException" ["java/lang/RuntimeException", "java/lang/Exception"]).filter goodWord)
set_option maxRecDepth 20000 in
theorem ggL_at_X4_at : GoodIn wsL_at wsX4_at := goodIn_ca (goodIn_r _ [6, 7, 8, 9, 10, 11, 12, 13, 14, 15, 16, 17, 18, 19, 20, 21, 22, 23, 24, 25, 26, 27, 28, 29] (by decide +kernel) (by decide +kernel)) (goodIn_sub (fun _ h => List.mem_cons_of_mem _ (List.mem_append_right _ h)) (by decide +kernel))
set_option maxRecDepth 20000 in
theorem gL_at_X4_at : GoodIn wsL_at (wsV RL 60 RX4 yX4_at wsX4_at) := goodIn_app (goodIn_of _ (by decide +kernel)) ggL_at_X4_at
theorem dL_at_0 : decode cL_at 0 = .ok (.aload_n 2, 1) := by decide +kernel
theorem dL_at_1 : decode cL_at 1 = .ok (.iconst 0, 1) := by decide +kernel
theorem dL_at_2 : decode cL_at 2 = .ok (.aload_n 0, 1) := by decide +kernel
theorem dL_at_3 : decode cL_at 3 = .ok (.iload_n 1, 1) := by decide +kernel
theorem dL_at_4 : decode cL_at 4 = .ok (.invokevirtual 60, 3) := by decide +kernel
theorem dL_at_7 : decode cL_at 7 = .ok (.lastore, 1) := by decide +kernel
theorem dL_at_8 : decode cL_at 8 = .ok (.goto 6, 3) := by decide +kernel
theorem dL_at_11 : decode cL_at 11 = .ok (.astore_n 3, 1) := by decide +kernel
theorem dL_at_12 : decode cL_at 12 = .ok (.iconst 1, 1) := by decide +kernel
theorem dL_at_13 : decode cL_at 13 = .ok (.ireturn, 1) := by decide +kernel
theorem dL_at_14 : decode cL_at 14 = .ok (.iconst 0, 1) := by decide +kernel
theorem dL_at_15 : decode cL_at 15 = .ok (.ireturn, 1) := by decide +kernel
def wsL_sweep : List Cond := .codeWith yL_sweep cL_sweep 5 (some .int) [(0, 9, 12, 19)] :: ([.classLink RL 19 "java/lang/IndexOutOfBoundsException", .methodLink RL 64 yX4_sweep, .instanceMethod yX4_sweep, .selects RX4 yX4_sweep yX4_sweep, .initialized RX4, .code yX4_sweep cX4_sweep 4 (some .long), .classLink RX4 179 "java/lang/IndexOutOfBoundsException", .initialized "java/lang/IndexOutOfBoundsException", .fieldLink RX4 166 "SweptBoxes" "traceCount" "I", .fieldLink RX4 32 "SweptBoxes" "traces" "[LSweptBoxes$Trace;", .fieldLink RX4 184 "SweptBoxes$Trace" "x" "J", .fieldLink RX4 187 "SweptBoxes$Trace" "y" "J", .fieldLink RX4 190 "SweptBoxes$Trace" "axis" "I", .fieldLink RX4 193 "SweptBoxes$Trace" "tileMet" "I", .fieldLink RX4 196 "SweptBoxes$Trace" "upper" "J", .fieldLink RX4 197 "SweptBoxes$Trace" "lower" "J", .methodLink RX4 65 yX4_needIndex, .static yX4_needIndex, .code yX4_needIndex cX4_needIndex 2 none] ++ wsX40 ++ wsX30 ++ (vx_atS RX4 183 "java/lang/IndexOutOfBoundsException" ["java/lang/RuntimeException", "java/lang/Exception"]).filter goodWord)
set_option maxRecDepth 20000 in
theorem ggL_sweep_X4_sweep : GoodIn wsL_sweep wsX4_sweep := goodIn_ca (goodIn_r _ [6, 7, 8, 9, 10, 11, 12, 13, 14, 15, 16, 17, 18, 5, 19, 20, 21, 22, 23, 24, 25, 26, 27, 28, 29, 30, 31, 32, 33, 34, 35] (by decide +kernel) (by decide +kernel)) (goodIn_sub (fun _ h => List.mem_cons_of_mem _ (List.mem_append_right _ h)) (by decide +kernel))
set_option maxRecDepth 20000 in
theorem gL_sweep_X4_sweep : GoodIn wsL_sweep (wsV RL 64 RX4 yX4_sweep wsX4_sweep) := goodIn_app (goodIn_of _ (by decide +kernel)) ggL_sweep_X4_sweep
theorem dL_sweep_0 : decode cL_sweep 0 = .ok (.aload_n 3, 1) := by decide +kernel
theorem dL_sweep_1 : decode cL_sweep 1 = .ok (.iconst 0, 1) := by decide +kernel
theorem dL_sweep_2 : decode cL_sweep 2 = .ok (.aload_n 0, 1) := by decide +kernel
theorem dL_sweep_3 : decode cL_sweep 3 = .ok (.iload_n 1, 1) := by decide +kernel
theorem dL_sweep_4 : decode cL_sweep 4 = .ok (.iload_n 2, 1) := by decide +kernel
theorem dL_sweep_5 : decode cL_sweep 5 = .ok (.invokevirtual 64, 3) := by decide +kernel
theorem dL_sweep_8 : decode cL_sweep 8 = .ok (.lastore, 1) := by decide +kernel
theorem dL_sweep_9 : decode cL_sweep 9 = .ok (.goto 7, 3) := by decide +kernel
theorem dL_sweep_12 : decode cL_sweep 12 = .ok (.astore 4, 2) := by decide +kernel
theorem dL_sweep_14 : decode cL_sweep 14 = .ok (.iconst 1, 1) := by decide +kernel
theorem dL_sweep_15 : decode cL_sweep 15 = .ok (.ireturn, 1) := by decide +kernel
theorem dL_sweep_16 : decode cL_sweep 16 = .ok (.iconst 0, 1) := by decide +kernel
theorem dL_sweep_17 : decode cL_sweep 17 = .ok (.ireturn, 1) := by decide +kernel
