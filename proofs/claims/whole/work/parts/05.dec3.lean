theorem dX12_chance_26 : decode cX12_chance 26 = .ok (.iconst 1, 1) := by decide +kernel
theorem dX12_chance_27 : decode cX12_chance 27 = .ok (.invokestatic 140, 3) := by decide +kernel
theorem dX12_chance_30 : decode cX12_chance 30 = .ok (.ifCond .ne 10, 3) := by decide +kernel
theorem dX12_chance_33 : decode cX12_chance 33 = .ok (.aload_n 0, 1) := by decide +kernel
theorem dX12_chance_34 : decode cX12_chance 34 = .ok (.bipush (-2), 2) := by decide +kernel
theorem dX12_chance_36 : decode cX12_chance 36 = .ok (.invokevirtual 239, 3) := by decide +kernel
theorem dX12_chance_39 : decode cX12_chance 39 = .ok (.lreturn, 1) := by decide +kernel
theorem dX12_chance_40 : decode cX12_chance 40 = .ok (.aload_n 0, 1) := by decide +kernel
theorem dX12_chance_41 : decode cX12_chance 41 = .ok (.invokevirtual 183, 3) := by decide +kernel
theorem dX12_chance_44 : decode cX12_chance 44 = .ok (.ifCond .ne 10, 3) := by decide +kernel
theorem dX12_chance_47 : decode cX12_chance 47 = .ok (.aload_n 0, 1) := by decide +kernel
theorem dX12_chance_48 : decode cX12_chance 48 = .ok (.bipush (-3), 2) := by decide +kernel
theorem dX12_chance_50 : decode cX12_chance 50 = .ok (.invokevirtual 239, 3) := by decide +kernel
theorem dX12_chance_53 : decode cX12_chance 53 = .ok (.lreturn, 1) := by decide +kernel
theorem dX12_chance_54 : decode cX12_chance 54 = .ok (.aload_n 0, 1) := by decide +kernel
theorem dX12_chance_55 : decode cX12_chance 55 = .ok (.invokevirtual 233, 3) := by decide +kernel
theorem dX12_chance_58 : decode cX12_chance 58 = .ok (.aload_n 0, 1) := by decide +kernel
theorem dX12_chance_59 : decode cX12_chance 59 = .ok (.getfield 75, 3) := by decide +kernel
theorem dX12_chance_62 : decode cX12_chance 62 = .ok (.bipush 10, 2) := by decide +kernel
theorem dX12_chance_64 : decode cX12_chance 64 = .ok (.iload_n 1, 1) := by decide +kernel
theorem dX12_chance_65 : decode cX12_chance 65 = .ok (.imul, 1) := by decide +kernel
theorem dX12_chance_66 : decode cX12_chance 66 = .ok (.iload_n 2, 1) := by decide +kernel
theorem dX12_chance_67 : decode cX12_chance 67 = .ok (.iadd, 1) := by decide +kernel
theorem dX12_chance_68 : decode cX12_chance 68 = .ok (.laload, 1) := by decide +kernel
theorem dX12_chance_69 : decode cX12_chance 69 = .ok (.aload_n 0, 1) := by decide +kernel
theorem dX12_chance_70 : decode cX12_chance 70 = .ok (.getfield 71, 3) := by decide +kernel
theorem dX12_chance_73 : decode cX12_chance 73 = .ok (.iload_n 1, 1) := by decide +kernel
theorem dX12_chance_74 : decode cX12_chance 74 = .ok (.laload, 1) := by decide +kernel
theorem dX12_chance_75 : decode cX12_chance 75 = .ok (.iload_n 3, 1) := by decide +kernel
theorem dX12_chance_76 : decode cX12_chance 76 = .ok (.invokestatic 243, 3) := by decide +kernel
theorem dX12_chance_79 : decode cX12_chance 79 = .ok (.lreturn, 1) := by decide +kernel
set_option maxRecDepth 20000 in
theorem ggX12_guess_X12_isPlayer : GoodIn wsX12_guess wsX12_isPlayer := goodIn_r _ [6, 7, 51, 52, 53, 54, 55, 56, 57, 58, 59, 60, 61, 62, 63, 64, 65, 66, 67, 68, 69, 70, 71, 72, 73, 74, 75, 76, 77, 78, 79, 80, 81, 82, 83, 84, 85, 86, 87, 88, 89, 90, 91, 92, 93, 94, 95, 96, 97, 98, 99, 100, 101, 102] (by decide +kernel) (by decide +kernel)
set_option maxRecDepth 20000 in
theorem gX12_guess_X12_isPlayer : GoodIn wsX12_guess (wsV RX12 180 RX12 yX12_isPlayer wsX12_isPlayer) := goodIn_app (goodIn_of _ (by decide +kernel)) ggX12_guess_X12_isPlayer
set_option maxRecDepth 20000 in
theorem ggX12_guess_X12_isWord : GoodIn wsX12_guess wsX12_isWord := goodIn_r _ [11, 12, 51, 52, 53, 54, 55, 56, 57, 58, 59, 60, 61, 62, 63, 64, 65, 66, 67, 68, 69, 70, 71, 72, 73, 74, 75, 76, 77, 78, 79, 80, 81, 82, 83, 84, 85, 86, 87, 88, 89, 90, 91, 92, 93, 94, 95, 96, 97, 98, 99, 100, 101, 102] (by decide +kernel) (by decide +kernel)
set_option maxRecDepth 20000 in
theorem gX12_guess_X12_isWord : GoodIn wsX12_guess (wsV RX12 166 RX12 yX12_isWord wsX12_isWord) := goodIn_app (goodIn_of _ (by decide +kernel)) ggX12_guess_X12_isWord
set_option maxRecDepth 20000 in
theorem ggX12_guess_X12_no : GoodIn wsX12_guess wsX12_no := goodIn_r _ [16, 17, 51, 52, 53, 54, 55, 56, 57, 58, 59, 60, 61, 62, 63, 64, 65, 66, 67, 68, 69, 70, 71, 72, 73, 74, 75, 76, 77, 78, 79, 80, 81, 82, 83, 84, 85, 86, 87, 88, 89, 90, 91, 92, 93, 94, 95, 96, 97, 98, 99, 100, 101, 102] (by decide +kernel) (by decide +kernel)
set_option maxRecDepth 20000 in
theorem gX12_guess_X12_no : GoodIn wsX12_guess (wsV RX12 128 RX12 yX12_no wsX12_no) := goodIn_app (goodIn_of _ (by decide +kernel)) ggX12_guess_X12_no
set_option maxRecDepth 20000 in
theorem ggX12_guess_X12_isWhole : GoodIn wsX12_guess wsX12_isWhole := goodIn_r _ [21, 12, 22, 23, 24, 25, 5, 26, 27, 51, 52, 53, 54, 55, 56, 57, 58, 59, 60, 61, 62, 63, 64, 65, 66, 67, 68, 69, 70, 71, 72, 73, 74, 75, 76, 77, 78, 79, 80, 81, 82, 83, 84, 85, 86, 87, 88, 89, 90, 91, 92, 93, 94, 95, 96, 97, 98, 99, 100, 101, 102] (by decide +kernel) (by decide +kernel)
set_option maxRecDepth 20000 in
theorem gX12_guess_X12_isWhole : GoodIn wsX12_guess (wsV RX12 183 RX12 yX12_isWhole wsX12_isWhole) := goodIn_app (goodIn_of _ (by decide +kernel)) ggX12_guess_X12_isWhole
set_option maxRecDepth 20000 in
theorem ggX12_guess_X12_findShares : GoodIn wsX12_guess wsX12_findShares := goodIn_r _ [31, 32, 12, 22, 33, 27, 34, 35, 36, 37, 38, 5, 39, 40, 41, 42, 43, 44, 45, 46, 51, 52, 53, 54, 55, 56, 57, 58, 59, 60, 61, 62, 63, 64, 65, 66, 67, 68, 69, 70, 71, 72, 73, 74, 75, 76, 77, 78, 79, 80, 81, 82, 83, 84, 85, 86, 87, 88, 89, 90, 91, 92, 93, 94, 95, 96, 97, 98, 99, 100, 101, 102] (by decide +kernel) (by decide +kernel)
set_option maxRecDepth 20000 in
theorem gX12_guess_X12_findShares : GoodIn wsX12_guess (wsV RX12 233 RX12 yX12_findShares wsX12_findShares) := goodIn_app (goodIn_of _ (by decide +kernel)) ggX12_guess_X12_findShares
set_option maxRecDepth 20000 in
theorem ggX12_guess_X12_guessOf : GoodIn wsX12_guess wsX12_guessOf := goodIn_r _ [50, 35, 51, 52, 53, 54, 55, 56, 57, 58, 59, 60, 61, 62, 63, 64, 65, 66, 67, 68, 69, 70, 71, 72, 73, 74, 75, 76, 77, 78, 79, 80, 81, 82, 83, 84, 85, 86, 87, 88, 89, 90, 91, 92, 93, 94, 95, 96, 97, 98, 99, 100, 101, 102] (by decide +kernel) (by decide +kernel)
set_option maxRecDepth 20000 in
theorem gX12_guess_X12_guessOf : GoodIn wsX12_guess (wsV RX12 219 RX12 yX12_guessOf wsX12_guessOf) := goodIn_app (goodIn_of _ (by decide +kernel)) ggX12_guess_X12_guessOf
theorem dX12_guess_0 : decode cX12_guess 0 = .ok (.aload_n 0, 1) := by decide +kernel
theorem dX12_guess_1 : decode cX12_guess 1 = .ok (.iload_n 1, 1) := by decide +kernel
theorem dX12_guess_2 : decode cX12_guess 2 = .ok (.invokevirtual 180, 3) := by decide +kernel
theorem dX12_guess_5 : decode cX12_guess 5 = .ok (.ifCond .eq 11, 3) := by decide +kernel
theorem dX12_guess_8 : decode cX12_guess 8 = .ok (.aload_n 0, 1) := by decide +kernel
theorem dX12_guess_9 : decode cX12_guess 9 = .ok (.iload_n 2, 1) := by decide +kernel
theorem dX12_guess_10 : decode cX12_guess 10 = .ok (.invokevirtual 166, 3) := by decide +kernel
theorem dX12_guess_13 : decode cX12_guess 13 = .ok (.ifCond .ne 9, 3) := by decide +kernel
theorem dX12_guess_16 : decode cX12_guess 16 = .ok (.aload_n 0, 1) := by decide +kernel
theorem dX12_guess_17 : decode cX12_guess 17 = .ok (.iconst (-1), 1) := by decide +kernel
theorem dX12_guess_18 : decode cX12_guess 18 = .ok (.invokevirtual 128, 3) := by decide +kernel
theorem dX12_guess_21 : decode cX12_guess 21 = .ok (.ireturn, 1) := by decide +kernel
theorem dX12_guess_22 : decode cX12_guess 22 = .ok (.aload_n 0, 1) := by decide +kernel
theorem dX12_guess_23 : decode cX12_guess 23 = .ok (.invokevirtual 183, 3) := by decide +kernel
theorem dX12_guess_26 : decode cX12_guess 26 = .ok (.ifCond .ne 10, 3) := by decide +kernel
theorem dX12_guess_29 : decode cX12_guess 29 = .ok (.aload_n 0, 1) := by decide +kernel
theorem dX12_guess_30 : decode cX12_guess 30 = .ok (.bipush (-3), 2) := by decide +kernel
theorem dX12_guess_32 : decode cX12_guess 32 = .ok (.invokevirtual 128, 3) := by decide +kernel
theorem dX12_guess_35 : decode cX12_guess 35 = .ok (.ireturn, 1) := by decide +kernel
theorem dX12_guess_36 : decode cX12_guess 36 = .ok (.aload_n 0, 1) := by decide +kernel
theorem dX12_guess_37 : decode cX12_guess 37 = .ok (.invokevirtual 233, 3) := by decide +kernel
theorem dX12_guess_40 : decode cX12_guess 40 = .ok (.aload_n 0, 1) := by decide +kernel
theorem dX12_guess_41 : decode cX12_guess 41 = .ok (.aload_n 0, 1) := by decide +kernel
theorem dX12_guess_42 : decode cX12_guess 42 = .ok (.getfield 28, 3) := by decide +kernel
theorem dX12_guess_45 : decode cX12_guess 45 = .ok (.iload_n 1, 1) := by decide +kernel
theorem dX12_guess_46 : decode cX12_guess 46 = .ok (.iaload, 1) := by decide +kernel
theorem dX12_guess_47 : decode cX12_guess 47 = .ok (.iload_n 2, 1) := by decide +kernel
theorem dX12_guess_48 : decode cX12_guess 48 = .ok (.invokevirtual 219, 3) := by decide +kernel
theorem dX12_guess_51 : decode cX12_guess 51 = .ok (.ireturn, 1) := by decide +kernel
set_option maxRecDepth 20000 in
theorem ggX12_points_X12_isIn : GoodIn wsX12_points wsX12_isIn := goodIn_r _ [6] (by decide +kernel) (by decide +kernel)
set_option maxRecDepth 20000 in
theorem gX12_points_X12_isIn : GoodIn wsX12_points (va_wsS RX12 140 yX12_isIn wsX12_isIn) := goodIn_app (goodIn_of _ (by decide +kernel)) ggX12_points_X12_isIn
set_option maxRecDepth 20000 in
theorem ggX12_points_X12_no : GoodIn wsX12_points wsX12_no := goodIn_r _ [10, 11, 15, 16, 17, 18, 19, 20, 21, 22, 23, 24, 25, 26, 27, 28, 29, 30, 31, 32, 33, 34, 35, 36, 37, 38, 39, 40, 41, 42, 43, 44, 45, 46, 47, 48, 49, 50, 51, 52, 53, 54, 55, 56, 57, 58, 59, 60, 61, 62, 63, 64, 65, 66] (by decide +kernel) (by decide +kernel)
set_option maxRecDepth 20000 in
theorem gX12_points_X12_no : GoodIn wsX12_points (wsV RX12 128 RX12 yX12_no wsX12_no) := goodIn_app (goodIn_of _ (by decide +kernel)) ggX12_points_X12_no
set_option maxRecDepth 20000 in
theorem ggX12_points_X12_bound : GoodIn wsX12_points wsX12_bound := goodIn_r _ [14] (by decide +kernel) (by decide +kernel)
set_option maxRecDepth 20000 in
theorem gX12_points_X12_bound : GoodIn wsX12_points (va_wsS RX12 121 yX12_bound wsX12_bound) := goodIn_app (goodIn_of _ (by decide +kernel)) ggX12_points_X12_bound
theorem dX12_points_0 : decode cX12_points 0 = .ok (.iload_n 1, 1) := by decide +kernel
theorem dX12_points_1 : decode cX12_points 1 = .ok (.iconst 0, 1) := by decide +kernel
theorem dX12_points_2 : decode cX12_points 2 = .ok (.iconst 3, 1) := by decide +kernel
theorem dX12_points_3 : decode cX12_points 3 = .ok (.invokestatic 140, 3) := by decide +kernel
theorem dX12_points_6 : decode cX12_points 6 = .ok (.ifCond .ne 10, 3) := by decide +kernel
theorem dX12_points_9 : decode cX12_points 9 = .ok (.aload_n 0, 1) := by decide +kernel
theorem dX12_points_10 : decode cX12_points 10 = .ok (.bipush (-2), 2) := by decide +kernel
theorem dX12_points_12 : decode cX12_points 12 = .ok (.invokevirtual 128, 3) := by decide +kernel
theorem dX12_points_15 : decode cX12_points 15 = .ok (.ireturn, 1) := by decide +kernel
theorem dX12_points_16 : decode cX12_points 16 = .ok (.iload_n 2, 1) := by decide +kernel
theorem dX12_points_17 : decode cX12_points 17 = .ok (.iconst 0, 1) := by decide +kernel
theorem dX12_points_18 : decode cX12_points 18 = .ok (.aload_n 0, 1) := by decide +kernel
theorem dX12_points_19 : decode cX12_points 19 = .ok (.getfield 43, 3) := by decide +kernel
theorem dX12_points_22 : decode cX12_points 22 = .ok (.iload_n 1, 1) := by decide +kernel
theorem dX12_points_23 : decode cX12_points 23 = .ok (.iaload, 1) := by decide +kernel
theorem dX12_points_24 : decode cX12_points 24 = .ok (.invokestatic 121, 3) := by decide +kernel
theorem dX12_points_27 : decode cX12_points 27 = .ok (.istore_n 3, 1) := by decide +kernel
theorem dX12_points_28 : decode cX12_points 28 = .ok (.iload_n 3, 1) := by decide +kernel
theorem dX12_points_29 : decode cX12_points 29 = .ok (.ifCond .eq 9, 3) := by decide +kernel
theorem dX12_points_32 : decode cX12_points 32 = .ok (.aload_n 0, 1) := by decide +kernel
theorem dX12_points_33 : decode cX12_points 33 = .ok (.iload_n 3, 1) := by decide +kernel
theorem dX12_points_34 : decode cX12_points 34 = .ok (.invokevirtual 128, 3) := by decide +kernel
theorem dX12_points_37 : decode cX12_points 37 = .ok (.ireturn, 1) := by decide +kernel
theorem dX12_points_38 : decode cX12_points 38 = .ok (.aload_n 0, 1) := by decide +kernel
theorem dX12_points_39 : decode cX12_points 39 = .ok (.getfield 40, 3) := by decide +kernel
theorem dX12_points_42 : decode cX12_points 42 = .ok (.iload_n 1, 1) := by decide +kernel
theorem dX12_points_43 : decode cX12_points 43 = .ok (.iaload, 1) := by decide +kernel
theorem dX12_points_44 : decode cX12_points 44 = .ok (.istore 4, 2) := by decide +kernel
theorem dX12_points_46 : decode cX12_points 46 = .ok (.aload_n 0, 1) := by decide +kernel
theorem dX12_points_47 : decode cX12_points 47 = .ok (.getfield 40, 3) := by decide +kernel
theorem dX12_points_50 : decode cX12_points 50 = .ok (.iload_n 1, 1) := by decide +kernel
theorem dX12_points_51 : decode cX12_points 51 = .ok (.iload_n 2, 1) := by decide +kernel
theorem dX12_points_52 : decode cX12_points 52 = .ok (.iastore, 1) := by decide +kernel
theorem dX12_points_53 : decode cX12_points 53 = .ok (.iload 4, 2) := by decide +kernel
theorem dX12_points_55 : decode cX12_points 55 = .ok (.ireturn, 1) := by decide +kernel
set_option maxRecDepth 20000 in
theorem ggX12_setOf_X12_isPlayer : GoodIn wsX12_setOf wsX12_isPlayer := goodIn_r _ [8, 9, 15, 16, 17, 18, 19, 20, 21, 22, 23, 24, 25, 26, 27, 28, 29, 30, 31, 32, 33, 34, 35, 36, 37, 38, 39, 40, 41, 42, 43, 44, 45, 46, 47, 48, 49, 50, 51, 52, 53, 54, 55, 56, 57, 58, 59, 60, 61, 62, 63, 64, 65, 66] (by decide +kernel) (by decide +kernel)
set_option maxRecDepth 20000 in
theorem gX12_setOf_X12_isPlayer : GoodIn wsX12_setOf (wsV RX12 180 RX12 yX12_isPlayer wsX12_isPlayer) := goodIn_app (goodIn_of _ (by decide +kernel)) ggX12_setOf_X12_isPlayer
set_option maxRecDepth 20000 in
theorem ggX12_setOf_X12_no : GoodIn wsX12_setOf wsX12_no := goodIn_r _ [13, 14, 15, 16, 17, 18, 19, 20, 21, 22, 23, 24, 25, 26, 27, 28, 29, 30, 31, 32, 33, 34, 35, 36, 37, 38, 39, 40, 41, 42, 43, 44, 45, 46, 47, 48, 49, 50, 51, 52, 53, 54, 55, 56, 57, 58, 59, 60, 61, 62, 63, 64, 65, 66] (by decide +kernel) (by decide +kernel)
set_option maxRecDepth 20000 in
theorem gX12_setOf_X12_no : GoodIn wsX12_setOf (wsV RX12 128 RX12 yX12_no wsX12_no) := goodIn_app (goodIn_of _ (by decide +kernel)) ggX12_setOf_X12_no
theorem dX12_setOf_0 : decode cX12_setOf 0 = .ok (.aload_n 0, 1) := by decide +kernel
theorem dX12_setOf_1 : decode cX12_setOf 1 = .ok (.iload_n 1, 1) := by decide +kernel
theorem dX12_setOf_2 : decode cX12_setOf 2 = .ok (.invokevirtual 180, 3) := by decide +kernel
theorem dX12_setOf_5 : decode cX12_setOf 5 = .ok (.ifCond .eq 16, 3) := by decide +kernel
theorem dX12_setOf_8 : decode cX12_setOf 8 = .ok (.iload_n 2, 1) := by decide +kernel
theorem dX12_setOf_9 : decode cX12_setOf 9 = .ok (.ifCond .lt 12, 3) := by decide +kernel
theorem dX12_setOf_12 : decode cX12_setOf 12 = .ok (.iload_n 2, 1) := by decide +kernel
theorem dX12_setOf_13 : decode cX12_setOf 13 = .ok (.aload_n 0, 1) := by decide +kernel
theorem dX12_setOf_14 : decode cX12_setOf 14 = .ok (.getfield 46, 3) := by decide +kernel
theorem dX12_setOf_17 : decode cX12_setOf 17 = .ok (.ishr, 1) := by decide +kernel
theorem dX12_setOf_18 : decode cX12_setOf 18 = .ok (.ifCond .eq 9, 3) := by decide +kernel
theorem dX12_setOf_21 : decode cX12_setOf 21 = .ok (.aload_n 0, 1) := by decide +kernel
theorem dX12_setOf_22 : decode cX12_setOf 22 = .ok (.iconst (-1), 1) := by decide +kernel
theorem dX12_setOf_23 : decode cX12_setOf 23 = .ok (.invokevirtual 128, 3) := by decide +kernel
theorem dX12_setOf_26 : decode cX12_setOf 26 = .ok (.ireturn, 1) := by decide +kernel
theorem dX12_setOf_27 : decode cX12_setOf 27 = .ok (.aload_n 0, 1) := by decide +kernel
theorem dX12_setOf_28 : decode cX12_setOf 28 = .ok (.getfield 25, 3) := by decide +kernel
theorem dX12_setOf_31 : decode cX12_setOf 31 = .ok (.iload_n 1, 1) := by decide +kernel
theorem dX12_setOf_32 : decode cX12_setOf 32 = .ok (.iaload, 1) := by decide +kernel
theorem dX12_setOf_33 : decode cX12_setOf 33 = .ok (.iconst 4, 1) := by decide +kernel
theorem dX12_setOf_34 : decode cX12_setOf 34 = .ok (.if_icmp .eq 10, 3) := by decide +kernel
theorem dX12_setOf_37 : decode cX12_setOf 37 = .ok (.aload_n 0, 1) := by decide +kernel
theorem dX12_setOf_38 : decode cX12_setOf 38 = .ok (.bipush (-2), 2) := by decide +kernel
theorem dX12_setOf_40 : decode cX12_setOf 40 = .ok (.invokevirtual 128, 3) := by decide +kernel
theorem dX12_setOf_43 : decode cX12_setOf 43 = .ok (.ireturn, 1) := by decide +kernel
theorem dX12_setOf_44 : decode cX12_setOf 44 = .ok (.aload_n 0, 1) := by decide +kernel
theorem dX12_setOf_45 : decode cX12_setOf 45 = .ok (.getfield 37, 3) := by decide +kernel
theorem dX12_setOf_48 : decode cX12_setOf 48 = .ok (.iload_n 1, 1) := by decide +kernel
theorem dX12_setOf_49 : decode cX12_setOf 49 = .ok (.iaload, 1) := by decide +kernel
theorem dX12_setOf_50 : decode cX12_setOf 50 = .ok (.istore_n 3, 1) := by decide +kernel
theorem dX12_setOf_51 : decode cX12_setOf 51 = .ok (.aload_n 0, 1) := by decide +kernel
theorem dX12_setOf_52 : decode cX12_setOf 52 = .ok (.getfield 37, 3) := by decide +kernel
theorem dX12_setOf_55 : decode cX12_setOf 55 = .ok (.iload_n 1, 1) := by decide +kernel
theorem dX12_setOf_56 : decode cX12_setOf 56 = .ok (.iload_n 2, 1) := by decide +kernel
theorem dX12_setOf_57 : decode cX12_setOf 57 = .ok (.iastore, 1) := by decide +kernel
theorem dX12_setOf_58 : decode cX12_setOf 58 = .ok (.iload_n 3, 1) := by decide +kernel
theorem dX12_setOf_59 : decode cX12_setOf 59 = .ok (.ireturn, 1) := by decide +kernel
set_option maxRecDepth 20000 in
theorem ggX12_presses_X12_isPlayer : GoodIn wsX12_presses wsX12_isPlayer := goodIn_r _ [6, 7, 98, 99, 100, 101, 102, 103, 104, 105, 106, 107, 108, 109, 110, 111, 112, 113, 114, 115, 116, 117, 118, 119, 120, 121, 122, 123, 124, 125, 126, 127, 128, 129, 130, 131, 132, 133, 134, 135, 136, 137, 138, 139, 140, 141, 142, 143, 144, 145, 146, 147, 148, 149] (by decide +kernel) (by decide +kernel)
set_option maxRecDepth 20000 in
theorem gX12_presses_X12_isPlayer : GoodIn wsX12_presses (wsV RX12 180 RX12 yX12_isPlayer wsX12_isPlayer) := goodIn_app (goodIn_of _ (by decide +kernel)) ggX12_presses_X12_isPlayer
set_option maxRecDepth 20000 in
theorem ggX12_presses_X12_isWord : GoodIn wsX12_presses wsX12_isWord := goodIn_r _ [11, 12, 98, 99, 100, 101, 102, 103, 104, 105, 106, 107, 108, 109, 110, 111, 112, 113, 114, 115, 116, 117, 118, 119, 120, 121, 122, 123, 124, 125, 126, 127, 128, 129, 130, 131, 132, 133, 134, 135, 136, 137, 138, 139, 140, 141, 142, 143, 144, 145, 146, 147, 148, 149] (by decide +kernel) (by decide +kernel)
set_option maxRecDepth 20000 in
theorem gX12_presses_X12_isWord : GoodIn wsX12_presses (wsV RX12 166 RX12 yX12_isWord wsX12_isWord) := goodIn_app (goodIn_of _ (by decide +kernel)) ggX12_presses_X12_isWord
set_option maxRecDepth 20000 in
theorem ggX12_presses_X12_no : GoodIn wsX12_presses wsX12_no := goodIn_r _ [16, 17, 98, 99, 100, 101, 102, 103, 104, 105, 106, 107, 108, 109, 110, 111, 112, 113, 114, 115, 116, 117, 118, 119, 120, 121, 122, 123, 124, 125, 126, 127, 128, 129, 130, 131, 132, 133, 134, 135, 136, 137, 138, 139, 140, 141, 142, 143, 144, 145, 146, 147, 148, 149] (by decide +kernel) (by decide +kernel)
set_option maxRecDepth 20000 in
theorem gX12_presses_X12_no : GoodIn wsX12_presses (wsV RX12 128 RX12 yX12_no wsX12_no) := goodIn_app (goodIn_of _ (by decide +kernel)) ggX12_presses_X12_no
set_option maxRecDepth 20000 in
theorem ggX12_presses_X12_isWhole : GoodIn wsX12_presses wsX12_isWhole := goodIn_r _ [21, 12, 22, 23, 24, 25, 5, 26, 27, 98, 99, 100, 101, 102, 103, 104, 105, 106, 107, 108, 109, 110, 111, 112, 113, 114, 115, 116, 117, 118, 119, 120, 121, 122, 123, 124, 125, 126, 127, 128, 129, 130, 131, 132, 133, 134, 135, 136, 137, 138, 139, 140, 141, 142, 143, 144, 145, 146, 147, 148, 149] (by decide +kernel) (by decide +kernel)
set_option maxRecDepth 20000 in
theorem gX12_presses_X12_isWhole : GoodIn wsX12_presses (wsV RX12 183 RX12 yX12_isWhole wsX12_isWhole) := goodIn_app (goodIn_of _ (by decide +kernel)) ggX12_presses_X12_isWhole
set_option maxRecDepth 20000 in
theorem ggX12_presses_X12_finds : GoodIn wsX12_presses wsX12_finds := goodIn_r _ [31, 32, 33, 34, 5, 35, 36, 12, 22, 37, 27, 38, 39, 40, 41, 42, 43, 44, 45, 46, 47, 48, 49, 50, 51, 52, 53, 54, 7, 55, 56, 57, 1, 58, 59, 60, 61, 62, 63, 64, 65, 66, 67, 68, 69, 70, 71, 72, 73, 74, 75, 76, 77, 78, 79, 80, 81, 82, 83, 84, 85, 86, 87, 88, 89, 90, 91, 92, 93, 94, 95, 96, 97, 98, 99, 100, 101, 102, 103, 104, 105, 106, 107, 108, 109, 110, 111, 112, 113, 114, 115, 116, 117, 118, 119, 120, 121, 122, 123, 124, 125, 126, 127, 128, 129, 130, 131, 132, 133, 134, 135, 136, 137, 138, 139, 140, 141, 142, 143, 144, 145, 146, 147, 148, 149] (by decide +kernel) (by decide +kernel)
set_option maxRecDepth 20000 in
theorem gX12_presses_X12_finds : GoodIn wsX12_presses (wsV RX12 247 RX12 yX12_finds wsX12_finds) := goodIn_app (goodIn_of _ (by decide +kernel)) ggX12_presses_X12_finds
theorem dX12_presses_0 : decode cX12_presses 0 = .ok (.aload_n 0, 1) := by decide +kernel
theorem dX12_presses_1 : decode cX12_presses 1 = .ok (.iload_n 1, 1) := by decide +kernel
theorem dX12_presses_2 : decode cX12_presses 2 = .ok (.invokevirtual 180, 3) := by decide +kernel
theorem dX12_presses_5 : decode cX12_presses 5 = .ok (.ifCond .eq 11, 3) := by decide +kernel
theorem dX12_presses_8 : decode cX12_presses 8 = .ok (.aload_n 0, 1) := by decide +kernel
theorem dX12_presses_9 : decode cX12_presses 9 = .ok (.iload_n 2, 1) := by decide +kernel
theorem dX12_presses_10 : decode cX12_presses 10 = .ok (.invokevirtual 166, 3) := by decide +kernel
theorem dX12_presses_13 : decode cX12_presses 13 = .ok (.ifCond .ne 9, 3) := by decide +kernel
theorem dX12_presses_16 : decode cX12_presses 16 = .ok (.aload_n 0, 1) := by decide +kernel
theorem dX12_presses_17 : decode cX12_presses 17 = .ok (.iconst (-1), 1) := by decide +kernel
theorem dX12_presses_18 : decode cX12_presses 18 = .ok (.invokevirtual 128, 3) := by decide +kernel
theorem dX12_presses_21 : decode cX12_presses 21 = .ok (.ireturn, 1) := by decide +kernel
theorem dX12_presses_22 : decode cX12_presses 22 = .ok (.aload_n 0, 1) := by decide +kernel
theorem dX12_presses_23 : decode cX12_presses 23 = .ok (.invokevirtual 183, 3) := by decide +kernel
theorem dX12_presses_26 : decode cX12_presses 26 = .ok (.ifCond .ne 10, 3) := by decide +kernel
theorem dX12_presses_29 : decode cX12_presses 29 = .ok (.aload_n 0, 1) := by decide +kernel
theorem dX12_presses_30 : decode cX12_presses 30 = .ok (.bipush (-3), 2) := by decide +kernel
theorem dX12_presses_32 : decode cX12_presses 32 = .ok (.invokevirtual 128, 3) := by decide +kernel
theorem dX12_presses_35 : decode cX12_presses 35 = .ok (.ireturn, 1) := by decide +kernel
theorem dX12_presses_36 : decode cX12_presses 36 = .ok (.aload_n 0, 1) := by decide +kernel
theorem dX12_presses_37 : decode cX12_presses 37 = .ok (.invokevirtual 247, 3) := by decide +kernel
theorem dX12_presses_40 : decode cX12_presses 40 = .ok (.aload_n 0, 1) := by decide +kernel
theorem dX12_presses_41 : decode cX12_presses 41 = .ok (.getfield 81, 3) := by decide +kernel
theorem dX12_presses_44 : decode cX12_presses 44 = .ok (.iload_n 1, 1) := by decide +kernel
theorem dX12_presses_45 : decode cX12_presses 45 = .ok (.iaload, 1) := by decide +kernel
theorem dX12_presses_46 : decode cX12_presses 46 = .ok (.iload_n 2, 1) := by decide +kernel
theorem dX12_presses_47 : decode cX12_presses 47 = .ok (.ishr, 1) := by decide +kernel
theorem dX12_presses_48 : decode cX12_presses 48 = .ok (.iconst 1, 1) := by decide +kernel
theorem dX12_presses_49 : decode cX12_presses 49 = .ok (.iand, 1) := by decide +kernel
theorem dX12_presses_50 : decode cX12_presses 50 = .ok (.ireturn, 1) := by decide +kernel
theorem dX12_answers_0 : decode cX12_answers 0 = .ok (.iconst (-1), 1) := by decide +kernel
theorem dX12_answers_1 : decode cX12_answers 1 = .ok (.istore_n 2, 1) := by decide +kernel
theorem dX12_answers_2 : decode cX12_answers 2 = .ok (.iconst 0, 1) := by decide +kernel
theorem dX12_answers_3 : decode cX12_answers 3 = .ok (.istore_n 3, 1) := by decide +kernel
theorem dX12_answers_4 : decode cX12_answers 4 = .ok (.iload_n 3, 1) := by decide +kernel
theorem dX12_answers_5 : decode cX12_answers 5 = .ok (.aload_n 0, 1) := by decide +kernel
theorem dX12_answers_6 : decode cX12_answers 6 = .ok (.getfield 114, 3) := by decide +kernel
theorem dX12_answers_9 : decode cX12_answers 9 = .ok (.if_icmp .ge 75, 3) := by decide +kernel
theorem dX12_answers_12 : decode cX12_answers 12 = .ok (.aload_n 0, 1) := by decide +kernel
theorem dX12_answers_13 : decode cX12_answers 13 = .ok (.getfield 250, 3) := by decide +kernel
theorem dX12_answers_16 : decode cX12_answers 16 = .ok (.ifCond .le 12, 3) := by decide +kernel
theorem dX12_answers_19 : decode cX12_answers 19 = .ok (.aload_n 0, 1) := by decide +kernel
theorem dX12_answers_20 : decode cX12_answers 20 = .ok (.getfield 84, 3) := by decide +kernel
theorem dX12_answers_23 : decode cX12_answers 23 = .ok (.iload_n 3, 1) := by decide +kernel
theorem dX12_answers_24 : decode cX12_answers 24 = .ok (.iaload, 1) := by decide +kernel
theorem dX12_answers_25 : decode cX12_answers 25 = .ok (.goto 9, 3) := by decide +kernel
theorem dX12_answers_28 : decode cX12_answers 28 = .ok (.aload_n 0, 1) := by decide +kernel
theorem dX12_answers_29 : decode cX12_answers 29 = .ok (.getfield 81, 3) := by decide +kernel
theorem dX12_answers_32 : decode cX12_answers 32 = .ok (.iload_n 3, 1) := by decide +kernel
theorem dX12_answers_33 : decode cX12_answers 33 = .ok (.iaload, 1) := by decide +kernel
theorem dX12_answers_34 : decode cX12_answers 34 = .ok (.istore 4, 2) := by decide +kernel
theorem dX12_answers_36 : decode cX12_answers 36 = .ok (.aload_n 0, 1) := by decide +kernel
theorem dX12_answers_37 : decode cX12_answers 37 = .ok (.getfield 253, 3) := by decide +kernel
theorem dX12_answers_40 : decode cX12_answers 40 = .ok (.iload_n 3, 1) := by decide +kernel
theorem dX12_answers_41 : decode cX12_answers 41 = .ok (.ishr, 1) := by decide +kernel
theorem dX12_answers_42 : decode cX12_answers 42 = .ok (.iconst 1, 1) := by decide +kernel
theorem dX12_answers_43 : decode cX12_answers 43 = .ok (.iand, 1) := by decide +kernel
theorem dX12_answers_44 : decode cX12_answers 44 = .ok (.ifCond .ne 34, 3) := by decide +kernel
theorem dX12_answers_47 : decode cX12_answers 47 = .ok (.iload 4, 2) := by decide +kernel
theorem dX12_answers_49 : decode cX12_answers 49 = .ok (.iload_n 1, 1) := by decide +kernel
theorem dX12_answers_50 : decode cX12_answers 50 = .ok (.ishr, 1) := by decide +kernel
theorem dX12_answers_51 : decode cX12_answers 51 = .ok (.iconst 1, 1) := by decide +kernel
theorem dX12_answers_52 : decode cX12_answers 52 = .ok (.iand, 1) := by decide +kernel
theorem dX12_answers_53 : decode cX12_answers 53 = .ok (.iconst 1, 1) := by decide +kernel
theorem dX12_answers_54 : decode cX12_answers 54 = .ok (.if_icmp .ne 24, 3) := by decide +kernel
theorem dX12_answers_57 : decode cX12_answers 57 = .ok (.iload_n 2, 1) := by decide +kernel
theorem dX12_answers_58 : decode cX12_answers 58 = .ok (.ifCond .lt 18, 3) := by decide +kernel
theorem dX12_answers_61 : decode cX12_answers 61 = .ok (.aload_n 0, 1) := by decide +kernel
theorem dX12_answers_62 : decode cX12_answers 62 = .ok (.getfield 31, 3) := by decide +kernel
theorem dX12_answers_65 : decode cX12_answers 65 = .ok (.iload_n 3, 1) := by decide +kernel
theorem dX12_answers_66 : decode cX12_answers 66 = .ok (.iaload, 1) := by decide +kernel
theorem dX12_answers_67 : decode cX12_answers 67 = .ok (.aload_n 0, 1) := by decide +kernel
theorem dX12_answers_68 : decode cX12_answers 68 = .ok (.getfield 31, 3) := by decide +kernel
theorem dX12_answers_71 : decode cX12_answers 71 = .ok (.iload_n 2, 1) := by decide +kernel
theorem dX12_answers_72 : decode cX12_answers 72 = .ok (.iaload, 1) := by decide +kernel
theorem dX12_answers_73 : decode cX12_answers 73 = .ok (.if_icmp .ge 5, 3) := by decide +kernel
theorem dX12_answers_76 : decode cX12_answers 76 = .ok (.iload_n 3, 1) := by decide +kernel
theorem dX12_answers_77 : decode cX12_answers 77 = .ok (.istore_n 2, 1) := by decide +kernel
theorem dX12_answers_78 : decode cX12_answers 78 = .ok (.iinc 3 1, 3) := by decide +kernel
theorem dX12_answers_81 : decode cX12_answers 81 = .ok (.goto (-77), 3) := by decide +kernel
theorem dX12_answers_84 : decode cX12_answers 84 = .ok (.iload_n 2, 1) := by decide +kernel
theorem dX12_answers_85 : decode cX12_answers 85 = .ok (.ireturn, 1) := by decide +kernel
theorem dX12_isOver_0 : decode cX12_isOver 0 = .ok (.aload_n 0, 1) := by decide +kernel
theorem dX12_isOver_1 : decode cX12_isOver 1 = .ok (.getfield 256, 3) := by decide +kernel
theorem dX12_isOver_4 : decode cX12_isOver 4 = .ok (.ifCond .ge 13, 3) := by decide +kernel
theorem dX12_isOver_7 : decode cX12_isOver 7 = .ok (.aload_n 0, 1) := by decide +kernel
theorem dX12_isOver_8 : decode cX12_isOver 8 = .ok (.iload_n 1, 1) := by decide +kernel
theorem dX12_isOver_9 : decode cX12_isOver 9 = .ok (.putfield 256, 3) := by decide +kernel
theorem dX12_isOver_12 : decode cX12_isOver 12 = .ok (.aload_n 0, 1) := by decide +kernel
theorem dX12_isOver_13 : decode cX12_isOver 13 = .ok (.iload_n 2, 1) := by decide +kernel
theorem dX12_isOver_14 : decode cX12_isOver 14 = .ok (.putfield 259, 3) := by decide +kernel
theorem dX12_isOver_17 : decode cX12_isOver 17 = .ok (.aload_n 0, 1) := by decide +kernel
theorem dX12_isOver_18 : decode cX12_isOver 18 = .ok (.getfield 78, 3) := by decide +kernel
theorem dX12_isOver_21 : decode cX12_isOver 21 = .ok (.bipush 24, 2) := by decide +kernel
theorem dX12_isOver_23 : decode cX12_isOver 23 = .ok (.iload_n 1, 1) := by decide +kernel
theorem dX12_isOver_24 : decode cX12_isOver 24 = .ok (.imul, 1) := by decide +kernel
theorem dX12_isOver_25 : decode cX12_isOver 25 = .ok (.iload_n 2, 1) := by decide +kernel
theorem dX12_isOver_26 : decode cX12_isOver 26 = .ok (.iadd, 1) := by decide +kernel
theorem dX12_isOver_27 : decode cX12_isOver 27 = .ok (.iaload, 1) := by decide +kernel
theorem dX12_isOver_28 : decode cX12_isOver 28 = .ok (.aload_n 0, 1) := by decide +kernel
theorem dX12_isOver_29 : decode cX12_isOver 29 = .ok (.getfield 19, 3) := by decide +kernel
theorem dX12_isOver_32 : decode cX12_isOver 32 = .ok (.iload_n 3, 1) := by decide +kernel
theorem dX12_isOver_33 : decode cX12_isOver 33 = .ok (.iaload, 1) := by decide +kernel
theorem dX12_isOver_34 : decode cX12_isOver 34 = .ok (.if_icmp .ne 46, 3) := by decide +kernel
theorem dX12_isOver_37 : decode cX12_isOver 37 = .ok (.aload_n 0, 1) := by decide +kernel
theorem dX12_isOver_38 : decode cX12_isOver 38 = .ok (.iload_n 1, 1) := by decide +kernel
theorem dX12_isOver_39 : decode cX12_isOver 39 = .ok (.putfield 262, 3) := by decide +kernel
theorem dX12_isOver_42 : decode cX12_isOver 42 = .ok (.aload_n 0, 1) := by decide +kernel
theorem dX12_isOver_43 : decode cX12_isOver 43 = .ok (.getfield 93, 3) := by decide +kernel
theorem dX12_isOver_46 : decode cX12_isOver 46 = .ok (.iload_n 1, 1) := by decide +kernel
theorem dX12_isOver_47 : decode cX12_isOver 47 = .ok (.dup2, 1) := by decide +kernel
theorem dX12_isOver_48 : decode cX12_isOver 48 = .ok (.iaload, 1) := by decide +kernel
theorem dX12_isOver_49 : decode cX12_isOver 49 = .ok (.aload_n 0, 1) := by decide +kernel
theorem dX12_isOver_50 : decode cX12_isOver 50 = .ok (.getfield 40, 3) := by decide +kernel
theorem dX12_isOver_53 : decode cX12_isOver 53 = .ok (.iconst 0, 1) := by decide +kernel
theorem dX12_isOver_54 : decode cX12_isOver 54 = .ok (.iaload, 1) := by decide +kernel
theorem dX12_isOver_55 : decode cX12_isOver 55 = .ok (.aload_n 0, 1) := by decide +kernel
theorem dX12_isOver_56 : decode cX12_isOver 56 = .ok (.getfield 40, 3) := by decide +kernel
theorem dX12_isOver_59 : decode cX12_isOver 59 = .ok (.iconst 2, 1) := by decide +kernel
theorem dX12_isOver_60 : decode cX12_isOver 60 = .ok (.iaload, 1) := by decide +kernel
theorem dX12_isOver_61 : decode cX12_isOver 61 = .ok (.aload_n 0, 1) := by decide +kernel
theorem dX12_isOver_62 : decode cX12_isOver 62 = .ok (.getfield 22, 3) := by decide +kernel
theorem dX12_isOver_65 : decode cX12_isOver 65 = .ok (.iload_n 3, 1) := by decide +kernel
theorem dX12_isOver_66 : decode cX12_isOver 66 = .ok (.iaload, 1) := by decide +kernel
theorem dX12_isOver_67 : decode cX12_isOver 67 = .ok (.aload_n 0, 1) := by decide +kernel
theorem dX12_isOver_68 : decode cX12_isOver 68 = .ok (.getfield 22, 3) := by decide +kernel
theorem dX12_isOver_71 : decode cX12_isOver 71 = .ok (.iload_n 2, 1) := by decide +kernel
theorem dX12_isOver_72 : decode cX12_isOver 72 = .ok (.iaload, 1) := by decide +kernel
theorem dX12_isOver_73 : decode cX12_isOver 73 = .ok (.isub, 1) := by decide +kernel
theorem dX12_isOver_74 : decode cX12_isOver 74 = .ok (.imul, 1) := by decide +kernel
theorem dX12_isOver_75 : decode cX12_isOver 75 = .ok (.iadd, 1) := by decide +kernel
theorem dX12_isOver_76 : decode cX12_isOver 76 = .ok (.iadd, 1) := by decide +kernel
theorem dX12_isOver_77 : decode cX12_isOver 77 = .ok (.iastore, 1) := by decide +kernel
theorem dX12_isOver_78 : decode cX12_isOver 78 = .ok (.iconst 1, 1) := by decide +kernel
theorem dX12_isOver_79 : decode cX12_isOver 79 = .ok (.ireturn, 1) := by decide +kernel
theorem dX12_isOver_80 : decode cX12_isOver 80 = .ok (.aload_n 0, 1) := by decide +kernel
theorem dX12_isOver_81 : decode cX12_isOver 81 = .ok (.getfield 93, 3) := by decide +kernel
theorem dX12_isOver_84 : decode cX12_isOver 84 = .ok (.iload_n 1, 1) := by decide +kernel
theorem dX12_isOver_85 : decode cX12_isOver 85 = .ok (.dup2, 1) := by decide +kernel
theorem dX12_isOver_86 : decode cX12_isOver 86 = .ok (.iaload, 1) := by decide +kernel
theorem dX12_isOver_87 : decode cX12_isOver 87 = .ok (.aload_n 0, 1) := by decide +kernel
theorem dX12_isOver_88 : decode cX12_isOver 88 = .ok (.getfield 40, 3) := by decide +kernel
theorem dX12_isOver_91 : decode cX12_isOver 91 = .ok (.iconst 1, 1) := by decide +kernel
theorem dX12_isOver_92 : decode cX12_isOver 92 = .ok (.iaload, 1) := by decide +kernel
theorem dX12_isOver_93 : decode cX12_isOver 93 = .ok (.isub, 1) := by decide +kernel
theorem dX12_isOver_94 : decode cX12_isOver 94 = .ok (.iastore, 1) := by decide +kernel
theorem dX12_isOver_95 : decode cX12_isOver 95 = .ok (.aload_n 0, 1) := by decide +kernel
theorem dX12_isOver_96 : decode cX12_isOver 96 = .ok (.dup, 1) := by decide +kernel
theorem dX12_isOver_97 : decode cX12_isOver 97 = .ok (.getfield 253, 3) := by decide +kernel
theorem dX12_isOver_100 : decode cX12_isOver 100 = .ok (.iconst 1, 1) := by decide +kernel
theorem dX12_isOver_101 : decode cX12_isOver 101 = .ok (.iload_n 1, 1) := by decide +kernel
theorem dX12_isOver_102 : decode cX12_isOver 102 = .ok (.ishl, 1) := by decide +kernel
theorem dX12_isOver_103 : decode cX12_isOver 103 = .ok (.ior, 1) := by decide +kernel
theorem dX12_isOver_104 : decode cX12_isOver 104 = .ok (.putfield 253, 3) := by decide +kernel
theorem dX12_isOver_107 : decode cX12_isOver 107 = .ok (.aload_n 0, 1) := by decide +kernel
theorem dX12_isOver_108 : decode cX12_isOver 108 = .ok (.dup, 1) := by decide +kernel
theorem dX12_isOver_109 : decode cX12_isOver 109 = .ok (.getfield 250, 3) := by decide +kernel
theorem dX12_isOver_112 : decode cX12_isOver 112 = .ok (.iconst 1, 1) := by decide +kernel
theorem dX12_isOver_113 : decode cX12_isOver 113 = .ok (.iadd, 1) := by decide +kernel
theorem dX12_isOver_114 : decode cX12_isOver 114 = .ok (.putfield 250, 3) := by decide +kernel
theorem dX12_isOver_117 : decode cX12_isOver 117 = .ok (.aload_n 0, 1) := by decide +kernel
theorem dX12_isOver_118 : decode cX12_isOver 118 = .ok (.getfield 40, 3) := by decide +kernel
theorem dX12_isOver_121 : decode cX12_isOver 121 = .ok (.iconst 3, 1) := by decide +kernel
theorem dX12_isOver_122 : decode cX12_isOver 122 = .ok (.iaload, 1) := by decide +kernel
theorem dX12_isOver_123 : decode cX12_isOver 123 = .ok (.ifCond .ne 7, 3) := by decide +kernel
theorem dX12_isOver_126 : decode cX12_isOver 126 = .ok (.iconst 1, 1) := by decide +kernel
theorem dX12_isOver_127 : decode cX12_isOver 127 = .ok (.goto 4, 3) := by decide +kernel
theorem dX12_isOver_130 : decode cX12_isOver 130 = .ok (.iconst 0, 1) := by decide +kernel
theorem dX12_isOver_131 : decode cX12_isOver 131 = .ok (.ireturn, 1) := by decide +kernel
set_option maxRecDepth 20000 in
theorem ggX12_runs_X12_answers : GoodIn wsX12_runs wsX12_answers := goodIn_r _ [14, 15, 4, 16, 17, 5, 18, 26, 27, 28, 29, 30, 31, 32, 33, 34, 35, 36, 37, 38, 39, 40, 41, 42, 43, 44, 45, 46, 47, 48, 49, 50, 51, 52, 53, 54, 55, 56, 57, 58, 59, 60, 61, 62, 63, 64, 65, 66, 67, 68, 69, 70, 71, 72, 73, 74, 75, 76, 77] (by decide +kernel) (by decide +kernel)
set_option maxRecDepth 20000 in
theorem gX12_runs_X12_answers : GoodIn wsX12_runs (wsV RX12 265 RX12 yX12_answers wsX12_answers) := goodIn_app (goodIn_of _ (by decide +kernel)) ggX12_runs_X12_answers
set_option maxRecDepth 20000 in
theorem ggX12_runs_X12_isOver : GoodIn wsX12_runs wsX12_isOver := goodIn_r _ [22, 3, 2, 23, 24, 1, 6, 25, 8, 5, 4, 26, 27, 28, 29, 30, 31, 32, 33, 34, 35, 36, 37, 38, 39, 40, 41, 42, 43, 44, 45, 46, 47, 48, 49, 50, 51, 52, 53, 54, 55, 56, 57, 58, 59, 60, 61, 62, 63, 64, 65, 66, 67, 68, 69, 70, 71, 72, 73, 74, 75, 76, 77] (by decide +kernel) (by decide +kernel)
set_option maxRecDepth 20000 in
theorem gX12_runs_X12_isOver : GoodIn wsX12_runs (wsV RX12 268 RX12 yX12_isOver wsX12_isOver) := goodIn_app (goodIn_of _ (by decide +kernel)) ggX12_runs_X12_isOver
theorem dX12_runs_0 : decode cX12_runs 0 = .ok (.aload_n 0, 1) := by decide +kernel
theorem dX12_runs_1 : decode cX12_runs 1 = .ok (.bipush (-9), 2) := by decide +kernel
theorem dX12_runs_3 : decode cX12_runs 3 = .ok (.putfield 262, 3) := by decide +kernel
theorem dX12_runs_6 : decode cX12_runs 6 = .ok (.aload_n 0, 1) := by decide +kernel
theorem dX12_runs_7 : decode cX12_runs 7 = .ok (.bipush (-9), 2) := by decide +kernel
theorem dX12_runs_9 : decode cX12_runs 9 = .ok (.putfield 259, 3) := by decide +kernel
theorem dX12_runs_12 : decode cX12_runs 12 = .ok (.aload_n 0, 1) := by decide +kernel
theorem dX12_runs_13 : decode cX12_runs 13 = .ok (.iconst (-1), 1) := by decide +kernel
theorem dX12_runs_14 : decode cX12_runs 14 = .ok (.putfield 256, 3) := by decide +kernel
theorem dX12_runs_17 : decode cX12_runs 17 = .ok (.aload_n 0, 1) := by decide +kernel
theorem dX12_runs_18 : decode cX12_runs 18 = .ok (.iconst 0, 1) := by decide +kernel
theorem dX12_runs_19 : decode cX12_runs 19 = .ok (.putfield 250, 3) := by decide +kernel
theorem dX12_runs_22 : decode cX12_runs 22 = .ok (.aload_n 0, 1) := by decide +kernel
theorem dX12_runs_23 : decode cX12_runs 23 = .ok (.iconst 0, 1) := by decide +kernel
theorem dX12_runs_24 : decode cX12_runs 24 = .ok (.putfield 253, 3) := by decide +kernel
theorem dX12_runs_27 : decode cX12_runs 27 = .ok (.iconst 0, 1) := by decide +kernel
theorem dX12_runs_28 : decode cX12_runs 28 = .ok (.istore_n 2, 1) := by decide +kernel
theorem dX12_runs_29 : decode cX12_runs 29 = .ok (.iload_n 2, 1) := by decide +kernel
theorem dX12_runs_30 : decode cX12_runs 30 = .ok (.iconst 4, 1) := by decide +kernel
theorem dX12_runs_31 : decode cX12_runs 31 = .ok (.if_icmp .ge 16, 3) := by decide +kernel
theorem dX12_runs_34 : decode cX12_runs 34 = .ok (.aload_n 0, 1) := by decide +kernel
theorem dX12_runs_35 : decode cX12_runs 35 = .ok (.getfield 93, 3) := by decide +kernel
theorem dX12_runs_38 : decode cX12_runs 38 = .ok (.iload_n 2, 1) := by decide +kernel
theorem dX12_runs_39 : decode cX12_runs 39 = .ok (.iconst 0, 1) := by decide +kernel
theorem dX12_runs_40 : decode cX12_runs 40 = .ok (.iastore, 1) := by decide +kernel
theorem dX12_runs_41 : decode cX12_runs 41 = .ok (.iinc 2 1, 3) := by decide +kernel
theorem dX12_runs_44 : decode cX12_runs 44 = .ok (.goto (-15), 3) := by decide +kernel
theorem dX12_runs_47 : decode cX12_runs 47 = .ok (.iload_n 1, 1) := by decide +kernel
theorem dX12_runs_48 : decode cX12_runs 48 = .ok (.istore_n 2, 1) := by decide +kernel
theorem dX12_runs_49 : decode cX12_runs 49 = .ok (.iload_n 2, 1) := by decide +kernel
theorem dX12_runs_50 : decode cX12_runs 50 = .ok (.ifCond .le 25, 3) := by decide +kernel
theorem dX12_runs_53 : decode cX12_runs 53 = .ok (.aload_n 0, 1) := by decide +kernel
theorem dX12_runs_54 : decode cX12_runs 54 = .ok (.getfield 90, 3) := by decide +kernel
theorem dX12_runs_57 : decode cX12_runs 57 = .ok (.aload_n 0, 1) := by decide +kernel
theorem dX12_runs_58 : decode cX12_runs 58 = .ok (.getfield 22, 3) := by decide +kernel
theorem dX12_runs_61 : decode cX12_runs 61 = .ok (.iload_n 2, 1) := by decide +kernel
theorem dX12_runs_62 : decode cX12_runs 62 = .ok (.iaload, 1) := by decide +kernel
theorem dX12_runs_63 : decode cX12_runs 63 = .ok (.iload_n 2, 1) := by decide +kernel
theorem dX12_runs_64 : decode cX12_runs 64 = .ok (.iastore, 1) := by decide +kernel
theorem dX12_runs_65 : decode cX12_runs 65 = .ok (.aload_n 0, 1) := by decide +kernel
theorem dX12_runs_66 : decode cX12_runs 66 = .ok (.getfield 13, 3) := by decide +kernel
theorem dX12_runs_69 : decode cX12_runs 69 = .ok (.iload_n 2, 1) := by decide +kernel
theorem dX12_runs_70 : decode cX12_runs 70 = .ok (.iaload, 1) := by decide +kernel
theorem dX12_runs_71 : decode cX12_runs 71 = .ok (.istore_n 2, 1) := by decide +kernel
theorem dX12_runs_72 : decode cX12_runs 72 = .ok (.goto (-23), 3) := by decide +kernel
theorem dX12_runs_75 : decode cX12_runs 75 = .ok (.iconst 1, 1) := by decide +kernel
theorem dX12_runs_76 : decode cX12_runs 76 = .ok (.istore_n 3, 1) := by decide +kernel
theorem dX12_runs_77 : decode cX12_runs 77 = .ok (.iload_n 3, 1) := by decide +kernel
theorem dX12_runs_78 : decode cX12_runs 78 = .ok (.aload_n 0, 1) := by decide +kernel
theorem dX12_runs_79 : decode cX12_runs 79 = .ok (.getfield 22, 3) := by decide +kernel
theorem dX12_runs_82 : decode cX12_runs 82 = .ok (.iload_n 1, 1) := by decide +kernel
theorem dX12_runs_83 : decode cX12_runs 83 = .ok (.iaload, 1) := by decide +kernel
theorem dX12_runs_84 : decode cX12_runs 84 = .ok (.if_icmp .gt 43, 3) := by decide +kernel
theorem dX12_runs_87 : decode cX12_runs 87 = .ok (.aload_n 0, 1) := by decide +kernel
theorem dX12_runs_88 : decode cX12_runs 88 = .ok (.aload_n 0, 1) := by decide +kernel
theorem dX12_runs_89 : decode cX12_runs 89 = .ok (.getfield 90, 3) := by decide +kernel
theorem dX12_runs_92 : decode cX12_runs 92 = .ok (.iload_n 3, 1) := by decide +kernel
theorem dX12_runs_93 : decode cX12_runs 93 = .ok (.iaload, 1) := by decide +kernel
theorem dX12_runs_94 : decode cX12_runs 94 = .ok (.invokevirtual 265, 3) := by decide +kernel
theorem dX12_runs_97 : decode cX12_runs 97 = .ok (.istore 4, 2) := by decide +kernel
theorem dX12_runs_99 : decode cX12_runs 99 = .ok (.iload 4, 2) := by decide +kernel
theorem dX12_runs_101 : decode cX12_runs 101 = .ok (.ifCond .lt 20, 3) := by decide +kernel
theorem dX12_runs_104 : decode cX12_runs 104 = .ok (.aload_n 0, 1) := by decide +kernel
theorem dX12_runs_105 : decode cX12_runs 105 = .ok (.iload 4, 2) := by decide +kernel
theorem dX12_runs_107 : decode cX12_runs 107 = .ok (.aload_n 0, 1) := by decide +kernel
theorem dX12_runs_108 : decode cX12_runs 108 = .ok (.getfield 90, 3) := by decide +kernel
theorem dX12_runs_111 : decode cX12_runs 111 = .ok (.iload_n 3, 1) := by decide +kernel
theorem dX12_runs_112 : decode cX12_runs 112 = .ok (.iaload, 1) := by decide +kernel
theorem dX12_runs_113 : decode cX12_runs 113 = .ok (.iload_n 1, 1) := by decide +kernel
theorem dX12_runs_114 : decode cX12_runs 114 = .ok (.invokevirtual 268, 3) := by decide +kernel
theorem dX12_runs_117 : decode cX12_runs 117 = .ok (.ifCond .eq 4, 3) := by decide +kernel
theorem dX12_runs_120 : decode cX12_runs 120 = .ok (.return_, 1) := by decide +kernel
theorem dX12_runs_121 : decode cX12_runs 121 = .ok (.iinc 3 1, 3) := by decide +kernel
theorem dX12_runs_124 : decode cX12_runs 124 = .ok (.goto (-47), 3) := by decide +kernel
theorem dX12_runs_127 : decode cX12_runs 127 = .ok (.aload_n 0, 1) := by decide +kernel
theorem dX12_runs_128 : decode cX12_runs 128 = .ok (.iload_n 1, 1) := by decide +kernel
theorem dX12_runs_129 : decode cX12_runs 129 = .ok (.invokevirtual 265, 3) := by decide +kernel
theorem dX12_runs_132 : decode cX12_runs 132 = .ok (.istore_n 3, 1) := by decide +kernel
theorem dX12_runs_133 : decode cX12_runs 133 = .ok (.iload_n 3, 1) := by decide +kernel
theorem dX12_runs_134 : decode cX12_runs 134 = .ok (.ifCond .lt 23, 3) := by decide +kernel
theorem dX12_runs_137 : decode cX12_runs 137 = .ok (.aload_n 0, 1) := by decide +kernel
theorem dX12_runs_138 : decode cX12_runs 138 = .ok (.iload_n 3, 1) := by decide +kernel
theorem dX12_runs_139 : decode cX12_runs 139 = .ok (.iload_n 1, 1) := by decide +kernel
theorem dX12_runs_140 : decode cX12_runs 140 = .ok (.iload_n 1, 1) := by decide +kernel
theorem dX12_runs_141 : decode cX12_runs 141 = .ok (.invokevirtual 268, 3) := by decide +kernel
theorem dX12_runs_144 : decode cX12_runs 144 = .ok (.ifCond .eq 4, 3) := by decide +kernel
theorem dX12_runs_147 : decode cX12_runs 147 = .ok (.return_, 1) := by decide +kernel
theorem dX12_runs_148 : decode cX12_runs 148 = .ok (.aload_n 0, 1) := by decide +kernel
theorem dX12_runs_149 : decode cX12_runs 149 = .ok (.iload_n 1, 1) := by decide +kernel
theorem dX12_runs_150 : decode cX12_runs 150 = .ok (.invokevirtual 265, 3) := by decide +kernel
theorem dX12_runs_153 : decode cX12_runs 153 = .ok (.istore_n 3, 1) := by decide +kernel
theorem dX12_runs_154 : decode cX12_runs 154 = .ok (.goto (-21), 3) := by decide +kernel
theorem dX12_runs_157 : decode cX12_runs 157 = .ok (.return_, 1) := by decide +kernel
set_option maxRecDepth 20000 in
theorem ggX12_run_X12_isWord : GoodIn wsX12_run wsX12_isWord := goodIn_r _ [9, 10, 117, 118, 119, 120, 121, 122, 123, 124, 125, 126, 127, 128, 129, 130, 131, 132, 133, 134, 135, 136, 137, 138, 139, 140, 141, 142, 143, 144, 145, 146, 147, 148, 149, 150, 151, 152, 153, 154, 155, 156, 157, 158, 159, 160, 161, 162, 163, 164, 165, 166, 167, 168] (by decide +kernel) (by decide +kernel)
set_option maxRecDepth 20000 in
theorem gX12_run_X12_isWord : GoodIn wsX12_run (wsV RX12 166 RX12 yX12_isWord wsX12_isWord) := goodIn_app (goodIn_of _ (by decide +kernel)) ggX12_run_X12_isWord
set_option maxRecDepth 20000 in
theorem ggX12_run_X12_no : GoodIn wsX12_run wsX12_no := goodIn_r _ [14, 15, 117, 118, 119, 120, 121, 122, 123, 124, 125, 126, 127, 128, 129, 130, 131, 132, 133, 134, 135, 136, 137, 138, 139, 140, 141, 142, 143, 144, 145, 146, 147, 148, 149, 150, 151, 152, 153, 154, 155, 156, 157, 158, 159, 160, 161, 162, 163, 164, 165, 166, 167, 168] (by decide +kernel) (by decide +kernel)
set_option maxRecDepth 20000 in
theorem gX12_run_X12_no : GoodIn wsX12_run (wsV RX12 128 RX12 yX12_no wsX12_no) := goodIn_app (goodIn_of _ (by decide +kernel)) ggX12_run_X12_no
set_option maxRecDepth 20000 in
theorem ggX12_run_X12_isIn : GoodIn wsX12_run wsX12_isIn := goodIn_r _ [18] (by decide +kernel) (by decide +kernel)
set_option maxRecDepth 20000 in
theorem gX12_run_X12_isIn : GoodIn wsX12_run (va_wsS RX12 140 yX12_isIn wsX12_isIn) := goodIn_app (goodIn_of _ (by decide +kernel)) ggX12_run_X12_isIn
set_option maxRecDepth 20000 in
theorem ggX12_run_X12_isWhole : GoodIn wsX12_run wsX12_isWhole := goodIn_r _ [22, 10, 1, 23, 24, 25, 8, 26, 27, 117, 118, 119, 120, 121, 122, 123, 124, 125, 126, 127, 128, 129, 130, 131, 132, 133, 134, 135, 136, 137, 138, 139, 140, 141, 142, 143, 144, 145, 146, 147, 148, 149, 150, 151, 152, 153, 154, 155, 156, 157, 158, 159, 160, 161, 162, 163, 164, 165, 166, 167, 168] (by decide +kernel) (by decide +kernel)
set_option maxRecDepth 20000 in
theorem gX12_run_X12_isWhole : GoodIn wsX12_run (wsV RX12 183 RX12 yX12_isWhole wsX12_isWhole) := goodIn_app (goodIn_of _ (by decide +kernel)) ggX12_run_X12_isWhole
set_option maxRecDepth 20000 in
theorem ggX12_run_X12_finds : GoodIn wsX12_run wsX12_finds := goodIn_r _ [31, 32, 33, 34, 8, 35, 36, 10, 1, 37, 27, 38, 39, 40, 41, 42, 43, 44, 45, 46, 47, 48, 49, 50, 51, 52, 53, 54, 55, 56, 57, 58, 59, 60, 61, 62, 63, 64, 65, 66, 67, 68, 69, 70, 71, 72, 73, 74, 75, 76, 77, 78, 79, 80, 81, 82, 83, 84, 85, 86, 87, 88, 89, 90, 91, 92, 93, 94, 95, 96, 97, 98, 99, 117, 118, 119, 120, 121, 122, 123, 124, 125, 126, 127, 128, 129, 130, 131, 132, 133, 134, 135, 136, 137, 138, 139, 140, 141, 142, 143, 144, 145, 146, 147, 148, 149, 150, 151, 152, 153, 154, 155, 156, 157, 158, 159, 160, 161, 162, 163, 164, 165, 166, 167, 168] (by decide +kernel) (by decide +kernel)
set_option maxRecDepth 20000 in
theorem gX12_run_X12_finds : GoodIn wsX12_run (wsV RX12 247 RX12 yX12_finds wsX12_finds) := goodIn_app (goodIn_of _ (by decide +kernel)) ggX12_run_X12_finds
set_option maxRecDepth 20000 in
theorem ggX12_run_X12_runs : GoodIn wsX12_run wsX12_runs := goodIn_r _ [103, 2, 3, 104, 4, 105, 106, 107, 77, 27, 108, 109, 110, 8, 111, 55, 61, 59, 112, 113, 114, 115, 116, 56, 1, 76, 117, 118, 119, 120, 121, 122, 123, 124, 125, 126, 127, 128, 129, 130, 131, 132, 133, 134, 135, 136, 137, 138, 139, 140, 141, 142, 143, 144, 145, 146, 147, 148, 149, 150, 151, 152, 153, 154, 155, 156, 157, 158, 159, 160, 161, 162, 163, 164, 165, 166, 167, 168] (by decide +kernel) (by decide +kernel)
set_option maxRecDepth 20000 in
theorem gX12_run_X12_runs : GoodIn wsX12_run (wsV RX12 271 RX12 yX12_runs wsX12_runs) := goodIn_app (goodIn_of _ (by decide +kernel)) ggX12_run_X12_runs
theorem dX12_run_0 : decode cX12_run 0 = .ok (.aload_n 0, 1) := by decide +kernel
theorem dX12_run_1 : decode cX12_run 1 = .ok (.iload_n 1, 1) := by decide +kernel
theorem dX12_run_2 : decode cX12_run 2 = .ok (.invokevirtual 166, 3) := by decide +kernel
theorem dX12_run_5 : decode cX12_run 5 = .ok (.ifCond .eq 12, 3) := by decide +kernel
theorem dX12_run_8 : decode cX12_run 8 = .ok (.aload_n 0, 1) := by decide +kernel
theorem dX12_run_9 : decode cX12_run 9 = .ok (.getfield 19, 3) := by decide +kernel
theorem dX12_run_12 : decode cX12_run 12 = .ok (.iload_n 1, 1) := by decide +kernel
theorem dX12_run_13 : decode cX12_run 13 = .ok (.iaload, 1) := by decide +kernel
theorem dX12_run_14 : decode cX12_run 14 = .ok (.ifCond .ne 9, 3) := by decide +kernel
theorem dX12_run_17 : decode cX12_run 17 = .ok (.aload_n 0, 1) := by decide +kernel
theorem dX12_run_18 : decode cX12_run 18 = .ok (.iconst (-1), 1) := by decide +kernel
theorem dX12_run_19 : decode cX12_run 19 = .ok (.invokevirtual 128, 3) := by decide +kernel
theorem dX12_run_22 : decode cX12_run 22 = .ok (.ireturn, 1) := by decide +kernel
theorem dX12_run_23 : decode cX12_run 23 = .ok (.iload_n 2, 1) := by decide +kernel
theorem dX12_run_24 : decode cX12_run 24 = .ok (.iconst 0, 1) := by decide +kernel
theorem dX12_run_25 : decode cX12_run 25 = .ok (.iconst 2, 1) := by decide +kernel
theorem dX12_run_26 : decode cX12_run 26 = .ok (.invokestatic 140, 3) := by decide +kernel
theorem dX12_run_29 : decode cX12_run 29 = .ok (.ifCond .ne 10, 3) := by decide +kernel
theorem dX12_run_32 : decode cX12_run 32 = .ok (.aload_n 0, 1) := by decide +kernel
theorem dX12_run_33 : decode cX12_run 33 = .ok (.bipush (-2), 2) := by decide +kernel
theorem dX12_run_35 : decode cX12_run 35 = .ok (.invokevirtual 128, 3) := by decide +kernel
theorem dX12_run_38 : decode cX12_run 38 = .ok (.ireturn, 1) := by decide +kernel
theorem dX12_run_39 : decode cX12_run 39 = .ok (.aload_n 0, 1) := by decide +kernel
theorem dX12_run_40 : decode cX12_run 40 = .ok (.invokevirtual 183, 3) := by decide +kernel
theorem dX12_run_43 : decode cX12_run 43 = .ok (.ifCond .ne 10, 3) := by decide +kernel
theorem dX12_run_46 : decode cX12_run 46 = .ok (.aload_n 0, 1) := by decide +kernel
theorem dX12_run_47 : decode cX12_run 47 = .ok (.bipush (-3), 2) := by decide +kernel
theorem dX12_run_49 : decode cX12_run 49 = .ok (.invokevirtual 128, 3) := by decide +kernel
theorem dX12_run_52 : decode cX12_run 52 = .ok (.ireturn, 1) := by decide +kernel
theorem dX12_run_53 : decode cX12_run 53 = .ok (.aload_n 0, 1) := by decide +kernel
theorem dX12_run_54 : decode cX12_run 54 = .ok (.invokevirtual 247, 3) := by decide +kernel
theorem dX12_run_57 : decode cX12_run 57 = .ok (.aload_n 0, 1) := by decide +kernel
theorem dX12_run_58 : decode cX12_run 58 = .ok (.iload_n 1, 1) := by decide +kernel
theorem dX12_run_59 : decode cX12_run 59 = .ok (.invokevirtual 271, 3) := by decide +kernel
theorem dX12_run_62 : decode cX12_run 62 = .ok (.iload_n 2, 1) := by decide +kernel
theorem dX12_run_63 : decode cX12_run 63 = .ok (.ifCond .ne 10, 3) := by decide +kernel
theorem dX12_run_66 : decode cX12_run 66 = .ok (.aload_n 0, 1) := by decide +kernel
theorem dX12_run_67 : decode cX12_run 67 = .ok (.getfield 262, 3) := by decide +kernel
theorem dX12_run_70 : decode cX12_run 70 = .ok (.goto 19, 3) := by decide +kernel
theorem dX12_run_73 : decode cX12_run 73 = .ok (.iload_n 2, 1) := by decide +kernel
theorem dX12_run_74 : decode cX12_run 74 = .ok (.iconst 1, 1) := by decide +kernel
theorem dX12_run_75 : decode cX12_run 75 = .ok (.if_icmp .ne 10, 3) := by decide +kernel
theorem dX12_run_78 : decode cX12_run 78 = .ok (.aload_n 0, 1) := by decide +kernel
theorem dX12_run_79 : decode cX12_run 79 = .ok (.getfield 259, 3) := by decide +kernel
theorem dX12_run_82 : decode cX12_run 82 = .ok (.goto 7, 3) := by decide +kernel
theorem dX12_run_85 : decode cX12_run 85 = .ok (.aload_n 0, 1) := by decide +kernel
theorem dX12_run_86 : decode cX12_run 86 = .ok (.getfield 250, 3) := by decide +kernel
theorem dX12_run_89 : decode cX12_run 89 = .ok (.ireturn, 1) := by decide +kernel
set_option maxRecDepth 20000 in
theorem ggX12_sumOver_X12_runs : GoodIn wsX12_sumOver wsX12_runs := goodIn_r _ [11, 3, 6, 12, 13, 14, 5, 15, 16, 17, 18, 19, 20, 10, 21, 22, 23, 24, 25, 26, 27, 28, 29, 30, 2, 31, 32, 33, 34, 35, 36, 37, 38, 39, 40, 41, 42, 43, 44, 45, 46, 47, 48, 49, 50, 51, 52, 53, 54, 55, 56, 57, 58, 59, 60, 61, 62, 63, 64, 65, 66, 67, 68, 69, 70, 71, 72, 73, 74, 75, 76, 77, 78, 79, 80, 81, 82, 83] (by decide +kernel) (by decide +kernel)
set_option maxRecDepth 20000 in
theorem gX12_sumOver_X12_runs : GoodIn wsX12_sumOver (wsV RX12 271 RX12 yX12_runs wsX12_runs) := goodIn_app (goodIn_of _ (by decide +kernel)) ggX12_sumOver_X12_runs
theorem dX12_sumOver_0 : decode cX12_sumOver 0 = .ok (.lconst 0, 1) := by decide +kernel
theorem dX12_sumOver_1 : decode cX12_sumOver 1 = .ok (.lstore_n 3, 1) := by decide +kernel
theorem dX12_sumOver_2 : decode cX12_sumOver 2 = .ok (.iconst 1, 1) := by decide +kernel
theorem dX12_sumOver_3 : decode cX12_sumOver 3 = .ok (.istore 5, 2) := by decide +kernel
theorem dX12_sumOver_5 : decode cX12_sumOver 5 = .ok (.iload 5, 2) := by decide +kernel
theorem dX12_sumOver_7 : decode cX12_sumOver 7 = .ok (.aload_n 0, 1) := by decide +kernel
theorem dX12_sumOver_8 : decode cX12_sumOver 8 = .ok (.getfield 46, 3) := by decide +kernel
theorem dX12_sumOver_11 : decode cX12_sumOver 11 = .ok (.if_icmp .ge 138, 3) := by decide +kernel
theorem dX12_sumOver_14 : decode cX12_sumOver 14 = .ok (.aload_n 0, 1) := by decide +kernel
theorem dX12_sumOver_15 : decode cX12_sumOver 15 = .ok (.getfield 19, 3) := by decide +kernel
theorem dX12_sumOver_18 : decode cX12_sumOver 18 = .ok (.iload 5, 2) := by decide +kernel
theorem dX12_sumOver_20 : decode cX12_sumOver 20 = .ok (.iaload, 1) := by decide +kernel
theorem dX12_sumOver_21 : decode cX12_sumOver 21 = .ok (.ifCond .ne 6, 3) := by decide +kernel
theorem dX12_sumOver_24 : decode cX12_sumOver 24 = .ok (.goto 119, 3) := by decide +kernel
theorem dX12_sumOver_27 : decode cX12_sumOver 27 = .ok (.aload_n 0, 1) := by decide +kernel
theorem dX12_sumOver_28 : decode cX12_sumOver 28 = .ok (.iload 5, 2) := by decide +kernel
theorem dX12_sumOver_30 : decode cX12_sumOver 30 = .ok (.invokevirtual 271, 3) := by decide +kernel
theorem dX12_sumOver_33 : decode cX12_sumOver 33 = .ok (.iload_n 1, 1) := by decide +kernel
theorem dX12_sumOver_34 : decode cX12_sumOver 34 = .ok (.ifCond .ne 25, 3) := by decide +kernel
theorem dX12_sumOver_37 : decode cX12_sumOver 37 = .ok (.lload_n 3, 1) := by decide +kernel
theorem dX12_sumOver_38 : decode cX12_sumOver 38 = .ok (.aload_n 0, 1) := by decide +kernel
theorem dX12_sumOver_39 : decode cX12_sumOver 39 = .ok (.getfield 262, 3) := by decide +kernel
theorem dX12_sumOver_42 : decode cX12_sumOver 42 = .ok (.iload_n 2, 1) := by decide +kernel
theorem dX12_sumOver_43 : decode cX12_sumOver 43 = .ok (.if_icmp .ne 13, 3) := by decide +kernel
theorem dX12_sumOver_46 : decode cX12_sumOver 46 = .ok (.aload_n 0, 1) := by decide +kernel
theorem dX12_sumOver_47 : decode cX12_sumOver 47 = .ok (.getfield 71, 3) := by decide +kernel
theorem dX12_sumOver_50 : decode cX12_sumOver 50 = .ok (.iload 5, 2) := by decide +kernel
theorem dX12_sumOver_52 : decode cX12_sumOver 52 = .ok (.laload, 1) := by decide +kernel
theorem dX12_sumOver_53 : decode cX12_sumOver 53 = .ok (.goto 4, 3) := by decide +kernel
theorem dX12_sumOver_56 : decode cX12_sumOver 56 = .ok (.lconst 0, 1) := by decide +kernel
theorem dX12_sumOver_57 : decode cX12_sumOver 57 = .ok (.ladd, 1) := by decide +kernel
theorem dX12_sumOver_58 : decode cX12_sumOver 58 = .ok (.lstore_n 3, 1) := by decide +kernel
theorem dX12_sumOver_59 : decode cX12_sumOver 59 = .ok (.iload_n 1, 1) := by decide +kernel
theorem dX12_sumOver_60 : decode cX12_sumOver 60 = .ok (.iconst 1, 1) := by decide +kernel
theorem dX12_sumOver_61 : decode cX12_sumOver 61 = .ok (.if_icmp .ne 21, 3) := by decide +kernel
theorem dX12_sumOver_64 : decode cX12_sumOver 64 = .ok (.lload_n 3, 1) := by decide +kernel
theorem dX12_sumOver_65 : decode cX12_sumOver 65 = .ok (.aload_n 0, 1) := by decide +kernel
theorem dX12_sumOver_66 : decode cX12_sumOver 66 = .ok (.getfield 71, 3) := by decide +kernel
theorem dX12_sumOver_69 : decode cX12_sumOver 69 = .ok (.iload 5, 2) := by decide +kernel
theorem dX12_sumOver_71 : decode cX12_sumOver 71 = .ok (.laload, 1) := by decide +kernel
theorem dX12_sumOver_72 : decode cX12_sumOver 72 = .ok (.aload_n 0, 1) := by decide +kernel
theorem dX12_sumOver_73 : decode cX12_sumOver 73 = .ok (.getfield 93, 3) := by decide +kernel
theorem dX12_sumOver_76 : decode cX12_sumOver 76 = .ok (.iload_n 2, 1) := by decide +kernel
theorem dX12_sumOver_77 : decode cX12_sumOver 77 = .ok (.iaload, 1) := by decide +kernel
theorem dX12_sumOver_78 : decode cX12_sumOver 78 = .ok (.i2l, 1) := by decide +kernel
theorem dX12_sumOver_79 : decode cX12_sumOver 79 = .ok (.lmul, 1) := by decide +kernel
theorem dX12_sumOver_80 : decode cX12_sumOver 80 = .ok (.ladd, 1) := by decide +kernel
theorem dX12_sumOver_81 : decode cX12_sumOver 81 = .ok (.lstore_n 3, 1) := by decide +kernel
theorem dX12_sumOver_82 : decode cX12_sumOver 82 = .ok (.iload_n 1, 1) := by decide +kernel
theorem dX12_sumOver_83 : decode cX12_sumOver 83 = .ok (.iconst 2, 1) := by decide +kernel
theorem dX12_sumOver_84 : decode cX12_sumOver 84 = .ok (.if_icmp .ne 24, 3) := by decide +kernel
theorem dX12_sumOver_87 : decode cX12_sumOver 87 = .ok (.lload_n 3, 1) := by decide +kernel
theorem dX12_sumOver_88 : decode cX12_sumOver 88 = .ok (.aload_n 0, 1) := by decide +kernel
theorem dX12_sumOver_89 : decode cX12_sumOver 89 = .ok (.getfield 262, 3) := by decide +kernel
theorem dX12_sumOver_92 : decode cX12_sumOver 92 = .ok (.ifCond .ge 13, 3) := by decide +kernel
theorem dX12_sumOver_95 : decode cX12_sumOver 95 = .ok (.aload_n 0, 1) := by decide +kernel
theorem dX12_sumOver_96 : decode cX12_sumOver 96 = .ok (.getfield 71, 3) := by decide +kernel
theorem dX12_sumOver_99 : decode cX12_sumOver 99 = .ok (.iload 5, 2) := by decide +kernel
theorem dX12_sumOver_101 : decode cX12_sumOver 101 = .ok (.laload, 1) := by decide +kernel
theorem dX12_sumOver_102 : decode cX12_sumOver 102 = .ok (.goto 4, 3) := by decide +kernel
theorem dX12_sumOver_105 : decode cX12_sumOver 105 = .ok (.lconst 0, 1) := by decide +kernel
theorem dX12_sumOver_106 : decode cX12_sumOver 106 = .ok (.ladd, 1) := by decide +kernel
theorem dX12_sumOver_107 : decode cX12_sumOver 107 = .ok (.lstore_n 3, 1) := by decide +kernel
theorem dX12_sumOver_108 : decode cX12_sumOver 108 = .ok (.iload_n 1, 1) := by decide +kernel
theorem dX12_sumOver_109 : decode cX12_sumOver 109 = .ok (.iconst 3, 1) := by decide +kernel
theorem dX12_sumOver_110 : decode cX12_sumOver 110 = .ok (.if_icmp .ne 33, 3) := by decide +kernel
theorem dX12_sumOver_113 : decode cX12_sumOver 113 = .ok (.lload_n 3, 1) := by decide +kernel
theorem dX12_sumOver_114 : decode cX12_sumOver 114 = .ok (.aload_n 0, 1) := by decide +kernel
theorem dX12_sumOver_115 : decode cX12_sumOver 115 = .ok (.getfield 259, 3) := by decide +kernel
theorem dX12_sumOver_118 : decode cX12_sumOver 118 = .ok (.ifCond .lt 12, 3) := by decide +kernel
theorem dX12_sumOver_121 : decode cX12_sumOver 121 = .ok (.aload_n 0, 1) := by decide +kernel
theorem dX12_sumOver_122 : decode cX12_sumOver 122 = .ok (.getfield 259, 3) := by decide +kernel
theorem dX12_sumOver_125 : decode cX12_sumOver 125 = .ok (.iload 5, 2) := by decide +kernel
theorem dX12_sumOver_127 : decode cX12_sumOver 127 = .ok (.if_icmp .ne 13, 3) := by decide +kernel
theorem dX12_sumOver_130 : decode cX12_sumOver 130 = .ok (.aload_n 0, 1) := by decide +kernel
theorem dX12_sumOver_131 : decode cX12_sumOver 131 = .ok (.getfield 71, 3) := by decide +kernel
theorem dX12_sumOver_134 : decode cX12_sumOver 134 = .ok (.iload 5, 2) := by decide +kernel
theorem dX12_sumOver_136 : decode cX12_sumOver 136 = .ok (.laload, 1) := by decide +kernel
theorem dX12_sumOver_137 : decode cX12_sumOver 137 = .ok (.goto 4, 3) := by decide +kernel
theorem dX12_sumOver_140 : decode cX12_sumOver 140 = .ok (.lconst 0, 1) := by decide +kernel
theorem dX12_sumOver_141 : decode cX12_sumOver 141 = .ok (.ladd, 1) := by decide +kernel
theorem dX12_sumOver_142 : decode cX12_sumOver 142 = .ok (.lstore_n 3, 1) := by decide +kernel
theorem dX12_sumOver_143 : decode cX12_sumOver 143 = .ok (.iinc 5 1, 3) := by decide +kernel
theorem dX12_sumOver_146 : decode cX12_sumOver 146 = .ok (.goto (-141), 3) := by decide +kernel
theorem dX12_sumOver_149 : decode cX12_sumOver 149 = .ok (.lload_n 3, 1) := by decide +kernel
theorem dX12_sumOver_150 : decode cX12_sumOver 150 = .ok (.lreturn, 1) := by decide +kernel
set_option maxRecDepth 20000 in
theorem ggX12_inAll_X12_isPlayer : GoodIn wsX12_inAll wsX12_isPlayer := goodIn_r _ [6, 7, 125, 126, 127, 128, 129, 130, 131, 132, 133, 134, 135, 136, 137, 138, 139, 140, 141, 142, 143, 144, 145, 146, 147, 148, 149, 150, 151, 152, 153, 154, 155, 156, 157, 158, 159, 160, 161, 162, 163, 164, 165, 166, 167, 168, 169, 170, 171, 172, 173, 174, 175, 176] (by decide +kernel) (by decide +kernel)
set_option maxRecDepth 20000 in
theorem gX12_inAll_X12_isPlayer : GoodIn wsX12_inAll (wsV RX12 180 RX12 yX12_isPlayer wsX12_isPlayer) := goodIn_app (goodIn_of _ (by decide +kernel)) ggX12_inAll_X12_isPlayer
set_option maxRecDepth 20000 in
theorem ggX12_inAll_X12_noLong : GoodIn wsX12_inAll wsX12_noLong := goodIn_r _ [11, 12, 13, 125, 126, 127, 128, 129, 130, 131, 132, 133, 134, 135, 136, 137, 138, 139, 140, 141, 142, 143, 144, 145, 146, 147, 148, 149, 150, 151, 152, 153, 154, 155, 156, 157, 158, 159, 160, 161, 162, 163, 164, 165, 166, 167, 168, 169, 170, 171, 172, 173, 174, 175, 176] (by decide +kernel) (by decide +kernel)
set_option maxRecDepth 20000 in
theorem gX12_inAll_X12_noLong : GoodIn wsX12_inAll (wsV RX12 239 RX12 yX12_noLong wsX12_noLong) := goodIn_app (goodIn_of _ (by decide +kernel)) ggX12_inAll_X12_noLong
set_option maxRecDepth 20000 in
theorem ggX12_inAll_X12_isIn : GoodIn wsX12_inAll wsX12_isIn := goodIn_r _ [16] (by decide +kernel) (by decide +kernel)
set_option maxRecDepth 20000 in
theorem gX12_inAll_X12_isIn : GoodIn wsX12_inAll (va_wsS RX12 140 yX12_isIn wsX12_isIn) := goodIn_app (goodIn_of _ (by decide +kernel)) ggX12_inAll_X12_isIn
set_option maxRecDepth 20000 in
theorem ggX12_inAll_X12_isWhole : GoodIn wsX12_inAll wsX12_isWhole := goodIn_r _ [20, 21, 22, 23, 24, 25, 5, 26, 27, 125, 126, 127, 128, 129, 130, 131, 132, 133, 134, 135, 136, 137, 138, 139, 140, 141, 142, 143, 144, 145, 146, 147, 148, 149, 150, 151, 152, 153, 154, 155, 156, 157, 158, 159, 160, 161, 162, 163, 164, 165, 166, 167, 168, 169, 170, 171, 172, 173, 174, 175, 176] (by decide +kernel) (by decide +kernel)
set_option maxRecDepth 20000 in
theorem gX12_inAll_X12_isWhole : GoodIn wsX12_inAll (wsV RX12 183 RX12 yX12_isWhole wsX12_isWhole) := goodIn_app (goodIn_of _ (by decide +kernel)) ggX12_inAll_X12_isWhole
set_option maxRecDepth 20000 in
theorem ggX12_inAll_X12_finds : GoodIn wsX12_inAll wsX12_finds := goodIn_r _ [31, 32, 33, 34, 5, 35, 1, 21, 22, 36, 27, 37, 38, 39, 40, 41, 42, 43, 44, 45, 46, 47, 48, 49, 50, 51, 52, 53, 7, 54, 55, 56, 57, 58, 59, 60, 61, 62, 63, 64, 65, 66, 67, 68, 69, 70, 71, 72, 73, 74, 75, 76, 77, 78, 79, 80, 81, 82, 83, 84, 85, 86, 87, 88, 89, 90, 91, 92, 93, 94, 95, 96, 97, 125, 126, 127, 128, 129, 130, 131, 132, 133, 134, 135, 136, 137, 138, 139, 140, 141, 142, 143, 144, 145, 146, 147, 148, 149, 150, 151, 152, 153, 154, 155, 156, 157, 158, 159, 160, 161, 162, 163, 164, 165, 166, 167, 168, 169, 170, 171, 172, 173, 174, 175, 176] (by decide +kernel) (by decide +kernel)
set_option maxRecDepth 20000 in
theorem gX12_inAll_X12_finds : GoodIn wsX12_inAll (wsV RX12 247 RX12 yX12_finds wsX12_finds) := goodIn_app (goodIn_of _ (by decide +kernel)) ggX12_inAll_X12_finds
set_option maxRecDepth 20000 in
theorem ggX12_inAll_X12_sumOver : GoodIn wsX12_inAll wsX12_sumOver := goodIn_r _ [101, 21, 22, 102, 36, 103, 104, 105, 106, 107, 5, 108, 109, 110, 111, 112, 75, 27, 113, 114, 115, 116, 7, 59, 57, 117, 118, 119, 120, 121, 54, 74, 125, 126, 127, 128, 129, 130, 131, 132, 133, 134, 135, 136, 137, 138, 139, 140, 141, 142, 143, 144, 145, 146, 147, 148, 149, 150, 151, 152, 153, 154, 155, 156, 157, 158, 159, 160, 161, 162, 163, 164, 165, 166, 167, 168, 169, 170, 171, 172, 173, 174, 175, 176] (by decide +kernel) (by decide +kernel)
set_option maxRecDepth 20000 in
theorem gX12_inAll_X12_sumOver : GoodIn wsX12_inAll (wsV RX12 274 RX12 yX12_sumOver wsX12_sumOver) := goodIn_app (goodIn_of _ (by decide +kernel)) ggX12_inAll_X12_sumOver
set_option maxRecDepth 20000 in
theorem ggX12_inAll_X12_inLeast : GoodIn wsX12_inAll wsX12_inLeast := goodIn_r _ [124, 47, 48, 5, 49] (by decide +kernel) (by decide +kernel)
set_option maxRecDepth 20000 in
theorem gX12_inAll_X12_inLeast : GoodIn wsX12_inAll (va_wsS RX12 243 yX12_inLeast wsX12_inLeast) := goodIn_app (goodIn_of _ (by decide +kernel)) ggX12_inAll_X12_inLeast
theorem dX12_inAll_0 : decode cX12_inAll 0 = .ok (.iload_n 1, 1) := by decide +kernel
theorem dX12_inAll_1 : decode cX12_inAll 1 = .ok (.iconst 2, 1) := by decide +kernel
theorem dX12_inAll_2 : decode cX12_inAll 2 = .ok (.if_icmp .ge 17, 3) := by decide +kernel
theorem dX12_inAll_5 : decode cX12_inAll 5 = .ok (.aload_n 0, 1) := by decide +kernel
theorem dX12_inAll_6 : decode cX12_inAll 6 = .ok (.iload_n 2, 1) := by decide +kernel
theorem dX12_inAll_7 : decode cX12_inAll 7 = .ok (.invokevirtual 180, 3) := by decide +kernel
theorem dX12_inAll_10 : decode cX12_inAll 10 = .ok (.ifCond .ne 9, 3) := by decide +kernel
theorem dX12_inAll_13 : decode cX12_inAll 13 = .ok (.aload_n 0, 1) := by decide +kernel
theorem dX12_inAll_14 : decode cX12_inAll 14 = .ok (.iconst (-1), 1) := by decide +kernel
theorem dX12_inAll_15 : decode cX12_inAll 15 = .ok (.invokevirtual 239, 3) := by decide +kernel
theorem dX12_inAll_18 : decode cX12_inAll 18 = .ok (.lreturn, 1) := by decide +kernel
theorem dX12_inAll_19 : decode cX12_inAll 19 = .ok (.iload_n 3, 1) := by decide +kernel
theorem dX12_inAll_20 : decode cX12_inAll 20 = .ok (.iconst 0, 1) := by decide +kernel
theorem dX12_inAll_21 : decode cX12_inAll 21 = .ok (.iconst 1, 1) := by decide +kernel
theorem dX12_inAll_22 : decode cX12_inAll 22 = .ok (.invokestatic 140, 3) := by decide +kernel
theorem dX12_inAll_25 : decode cX12_inAll 25 = .ok (.ifCond .ne 10, 3) := by decide +kernel
theorem dX12_inAll_28 : decode cX12_inAll 28 = .ok (.aload_n 0, 1) := by decide +kernel
theorem dX12_inAll_29 : decode cX12_inAll 29 = .ok (.bipush (-2), 2) := by decide +kernel
theorem dX12_inAll_31 : decode cX12_inAll 31 = .ok (.invokevirtual 239, 3) := by decide +kernel
theorem dX12_inAll_34 : decode cX12_inAll 34 = .ok (.lreturn, 1) := by decide +kernel
theorem dX12_inAll_35 : decode cX12_inAll 35 = .ok (.aload_n 0, 1) := by decide +kernel
theorem dX12_inAll_36 : decode cX12_inAll 36 = .ok (.invokevirtual 183, 3) := by decide +kernel
theorem dX12_inAll_39 : decode cX12_inAll 39 = .ok (.ifCond .ne 10, 3) := by decide +kernel
theorem dX12_inAll_42 : decode cX12_inAll 42 = .ok (.aload_n 0, 1) := by decide +kernel
theorem dX12_inAll_43 : decode cX12_inAll 43 = .ok (.bipush (-3), 2) := by decide +kernel
theorem dX12_inAll_45 : decode cX12_inAll 45 = .ok (.invokevirtual 239, 3) := by decide +kernel
theorem dX12_inAll_48 : decode cX12_inAll 48 = .ok (.lreturn, 1) := by decide +kernel
theorem dX12_inAll_49 : decode cX12_inAll 49 = .ok (.aload_n 0, 1) := by decide +kernel
theorem dX12_inAll_50 : decode cX12_inAll 50 = .ok (.invokevirtual 247, 3) := by decide +kernel
theorem dX12_inAll_53 : decode cX12_inAll 53 = .ok (.aload_n 0, 1) := by decide +kernel
theorem dX12_inAll_54 : decode cX12_inAll 54 = .ok (.iload_n 1, 1) := by decide +kernel
theorem dX12_inAll_55 : decode cX12_inAll 55 = .ok (.iload_n 2, 1) := by decide +kernel
theorem dX12_inAll_56 : decode cX12_inAll 56 = .ok (.invokevirtual 274, 3) := by decide +kernel
theorem dX12_inAll_59 : decode cX12_inAll 59 = .ok (.aload_n 0, 1) := by decide +kernel
theorem dX12_inAll_60 : decode cX12_inAll 60 = .ok (.getfield 194, 3) := by decide +kernel
theorem dX12_inAll_63 : decode cX12_inAll 63 = .ok (.iload_n 3, 1) := by decide +kernel
theorem dX12_inAll_64 : decode cX12_inAll 64 = .ok (.invokestatic 243, 3) := by decide +kernel
theorem dX12_inAll_67 : decode cX12_inAll 67 = .ok (.lreturn, 1) := by decide +kernel
set_option maxRecDepth 20000 in
theorem ggX12_wins_X12_inAll : GoodIn wsX12_wins wsX12_inAll := goodIn_r _ [5, 6, 7, 8, 9, 4, 10, 11, 12, 13, 14, 15, 16, 17, 18, 19, 20, 21, 22, 23, 24, 25, 26, 27, 28, 29, 30, 31, 32, 33, 34, 35, 36, 37, 38, 39, 40, 41, 42, 43, 44, 45, 46, 47, 48, 49, 50, 51, 52, 53, 54, 55, 56, 57, 58, 59, 60, 61, 62, 63, 64, 65, 66, 67, 68, 69, 70, 71, 72, 73, 74, 75, 76, 77, 78, 79, 80, 81, 82, 83, 84, 85, 86, 87, 88, 89, 90, 91, 92, 93, 94, 95, 96, 97, 98, 99, 100, 101, 102, 103, 104, 105, 106, 107, 108, 109, 110, 111, 112, 113, 114, 115, 116, 117, 118, 119, 120, 121, 122, 123, 124, 125, 126, 127, 128, 129, 130, 131, 132, 133, 134, 135, 136, 137, 138, 139, 140, 141, 142, 143, 144, 145, 146, 147, 148, 149, 150, 151, 152, 153, 154, 155, 156, 157, 158, 159, 160, 161, 162, 163, 164, 165, 166, 167, 168, 169, 170, 171, 172, 173, 174, 175, 176, 177, 178, 179, 180] (by decide +kernel) (by decide +kernel)
set_option maxRecDepth 20000 in
theorem gX12_wins_X12_inAll : GoodIn wsX12_wins (wsV RX12 277 RX12 yX12_inAll wsX12_inAll) := goodIn_app (goodIn_of _ (by decide +kernel)) ggX12_wins_X12_inAll
theorem dX12_wins_0 : decode cX12_wins 0 = .ok (.aload_n 0, 1) := by decide +kernel
theorem dX12_wins_1 : decode cX12_wins 1 = .ok (.iconst 0, 1) := by decide +kernel
theorem dX12_wins_2 : decode cX12_wins 2 = .ok (.iload_n 1, 1) := by decide +kernel
theorem dX12_wins_3 : decode cX12_wins 3 = .ok (.iload_n 2, 1) := by decide +kernel
theorem dX12_wins_4 : decode cX12_wins 4 = .ok (.invokevirtual 277, 3) := by decide +kernel
theorem dX12_wins_7 : decode cX12_wins 7 = .ok (.lreturn, 1) := by decide +kernel
set_option maxRecDepth 20000 in
theorem ggX12_worth_X12_inAll : GoodIn wsX12_worth wsX12_inAll := goodIn_r _ [5, 6, 7, 8, 9, 4, 10, 11, 12, 13, 14, 15, 16, 17, 18, 19, 20, 21, 22, 23, 24, 25, 26, 27, 28, 29, 30, 31, 32, 33, 34, 35, 36, 37, 38, 39, 40, 41, 42, 43, 44, 45, 46, 47, 48, 49, 50, 51, 52, 53, 54, 55, 56, 57, 58, 59, 60, 61, 62, 63, 64, 65, 66, 67, 68, 69, 70, 71, 72, 73, 74, 75, 76, 77, 78, 79, 80, 81, 82, 83, 84, 85, 86, 87, 88, 89, 90, 91, 92, 93, 94, 95, 96, 97, 98, 99, 100, 101, 102, 103, 104, 105, 106, 107, 108, 109, 110, 111, 112, 113, 114, 115, 116, 117, 118, 119, 120, 121, 122, 123, 124, 125, 126, 127, 128, 129, 130, 131, 132, 133, 134, 135, 136, 137, 138, 139, 140, 141, 142, 143, 144, 145, 146, 147, 148, 149, 150, 151, 152, 153, 154, 155, 156, 157, 158, 159, 160, 161, 162, 163, 164, 165, 166, 167, 168, 169, 170, 171, 172, 173, 174, 175, 176, 177, 178, 179, 180] (by decide +kernel) (by decide +kernel)
set_option maxRecDepth 20000 in
theorem gX12_worth_X12_inAll : GoodIn wsX12_worth (wsV RX12 277 RX12 yX12_inAll wsX12_inAll) := goodIn_app (goodIn_of _ (by decide +kernel)) ggX12_worth_X12_inAll
theorem dX12_worth_0 : decode cX12_worth 0 = .ok (.aload_n 0, 1) := by decide +kernel
theorem dX12_worth_1 : decode cX12_worth 1 = .ok (.iconst 1, 1) := by decide +kernel
theorem dX12_worth_2 : decode cX12_worth 2 = .ok (.iload_n 1, 1) := by decide +kernel
theorem dX12_worth_3 : decode cX12_worth 3 = .ok (.iload_n 2, 1) := by decide +kernel
theorem dX12_worth_4 : decode cX12_worth 4 = .ok (.invokevirtual 277, 3) := by decide +kernel
theorem dX12_worth_7 : decode cX12_worth 7 = .ok (.lreturn, 1) := by decide +kernel
set_option maxRecDepth 20000 in
theorem ggX12_nobody_X12_inAll : GoodIn wsX12_nobody wsX12_inAll := goodIn_r _ [5, 6, 7, 8, 9, 4, 10, 11, 12, 13, 14, 15, 16, 17, 18, 19, 20, 21, 22, 23, 24, 25, 26, 27, 28, 29, 30, 31, 32, 33, 34, 35, 36, 37, 38, 39, 40, 41, 42, 43, 44, 45, 46, 47, 48, 49, 50, 51, 52, 53, 54, 55, 56, 57, 58, 59, 60, 61, 62, 63, 64, 65, 66, 67, 68, 69, 70, 71, 72, 73, 74, 75, 76, 77, 78, 79, 80, 81, 82, 83, 84, 85, 86, 87, 88, 89, 90, 91, 92, 93, 94, 95, 96, 97, 98, 99, 100, 101, 102, 103, 104, 105, 106, 107, 108, 109, 110, 111, 112, 113, 114, 115, 116, 117, 118, 119, 120, 121, 122, 123, 124, 125, 126, 127, 128, 129, 130, 131, 132, 133, 134, 135, 136, 137, 138, 139, 140, 141, 142, 143, 144, 145, 146, 147, 148, 149, 150, 151, 152, 153, 154, 155, 156, 157, 158, 159, 160, 161, 162, 163, 164, 165, 166, 167, 168, 169, 170, 171, 172, 173, 174, 175, 176, 177, 178, 179, 180] (by decide +kernel) (by decide +kernel)
set_option maxRecDepth 20000 in
theorem gX12_nobody_X12_inAll : GoodIn wsX12_nobody (wsV RX12 277 RX12 yX12_inAll wsX12_inAll) := goodIn_app (goodIn_of _ (by decide +kernel)) ggX12_nobody_X12_inAll
theorem dX12_nobody_0 : decode cX12_nobody 0 = .ok (.aload_n 0, 1) := by decide +kernel
theorem dX12_nobody_1 : decode cX12_nobody 1 = .ok (.iconst 2, 1) := by decide +kernel
theorem dX12_nobody_2 : decode cX12_nobody 2 = .ok (.iconst 0, 1) := by decide +kernel
theorem dX12_nobody_3 : decode cX12_nobody 3 = .ok (.iload_n 1, 1) := by decide +kernel
theorem dX12_nobody_4 : decode cX12_nobody 4 = .ok (.invokevirtual 277, 3) := by decide +kernel
theorem dX12_nobody_7 : decode cX12_nobody 7 = .ok (.lreturn, 1) := by decide +kernel
set_option maxRecDepth 20000 in
theorem ggX12_dull_X12_inAll : GoodIn wsX12_dull wsX12_inAll := goodIn_r _ [5, 6, 7, 8, 9, 4, 10, 11, 12, 13, 14, 15, 16, 17, 18, 19, 20, 21, 22, 23, 24, 25, 26, 27, 28, 29, 30, 31, 32, 33, 34, 35, 36, 37, 38, 39, 40, 41, 42, 43, 44, 45, 46, 47, 48, 49, 50, 51, 52, 53, 54, 55, 56, 57, 58, 59, 60, 61, 62, 63, 64, 65, 66, 67, 68, 69, 70, 71, 72, 73, 74, 75, 76, 77, 78, 79, 80, 81, 82, 83, 84, 85, 86, 87, 88, 89, 90, 91, 92, 93, 94, 95, 96, 97, 98, 99, 100, 101, 102, 103, 104, 105, 106, 107, 108, 109, 110, 111, 112, 113, 114, 115, 116, 117, 118, 119, 120, 121, 122, 123, 124, 125, 126, 127, 128, 129, 130, 131, 132, 133, 134, 135, 136, 137, 138, 139, 140, 141, 142, 143, 144, 145, 146, 147, 148, 149, 150, 151, 152, 153, 154, 155, 156, 157, 158, 159, 160, 161, 162, 163, 164, 165, 166, 167, 168, 169, 170, 171, 172, 173, 174, 175, 176, 177, 178, 179, 180] (by decide +kernel) (by decide +kernel)
set_option maxRecDepth 20000 in
theorem gX12_dull_X12_inAll : GoodIn wsX12_dull (wsV RX12 277 RX12 yX12_inAll wsX12_inAll) := goodIn_app (goodIn_of _ (by decide +kernel)) ggX12_dull_X12_inAll
theorem dX12_dull_0 : decode cX12_dull 0 = .ok (.aload_n 0, 1) := by decide +kernel
theorem dX12_dull_1 : decode cX12_dull 1 = .ok (.iconst 3, 1) := by decide +kernel
theorem dX12_dull_2 : decode cX12_dull 2 = .ok (.iconst 0, 1) := by decide +kernel
theorem dX12_dull_3 : decode cX12_dull 3 = .ok (.iload_n 1, 1) := by decide +kernel
theorem dX12_dull_4 : decode cX12_dull 4 = .ok (.invokevirtual 277, 3) := by decide +kernel
theorem dX12_dull_7 : decode cX12_dull 7 = .ok (.lreturn, 1) := by decide +kernel
set_option maxRecDepth 20000 in
theorem ggX12_value_X12_isPlayer : GoodIn wsX12_value wsX12_isPlayer := goodIn_r _ [7, 8, 105, 106, 107, 108, 109, 110, 111, 112, 113, 114, 115, 116, 117, 118, 119, 120, 121, 122, 123, 124, 125, 126, 127, 128, 129, 130, 131, 132, 133, 134, 135, 136, 137, 138, 139, 140, 141, 142, 143, 144, 145, 146, 147, 148, 149, 150, 151, 152, 153, 154, 155, 156] (by decide +kernel) (by decide +kernel)
set_option maxRecDepth 20000 in
theorem gX12_value_X12_isPlayer : GoodIn wsX12_value (wsV RX12 180 RX12 yX12_isPlayer wsX12_isPlayer) := goodIn_app (goodIn_of _ (by decide +kernel)) ggX12_value_X12_isPlayer
set_option maxRecDepth 20000 in
theorem ggX12_value_X12_isWord : GoodIn wsX12_value wsX12_isWord := goodIn_r _ [12, 13, 105, 106, 107, 108, 109, 110, 111, 112, 113, 114, 115, 116, 117, 118, 119, 120, 121, 122, 123, 124, 125, 126, 127, 128, 129, 130, 131, 132, 133, 134, 135, 136, 137, 138, 139, 140, 141, 142, 143, 144, 145, 146, 147, 148, 149, 150, 151, 152, 153, 154, 155, 156] (by decide +kernel) (by decide +kernel)
set_option maxRecDepth 20000 in
theorem gX12_value_X12_isWord : GoodIn wsX12_value (wsV RX12 166 RX12 yX12_isWord wsX12_isWord) := goodIn_app (goodIn_of _ (by decide +kernel)) ggX12_value_X12_isWord
set_option maxRecDepth 20000 in
theorem ggX12_value_X12_noLong : GoodIn wsX12_value wsX12_noLong := goodIn_r _ [17, 18, 19, 105, 106, 107, 108, 109, 110, 111, 112, 113, 114, 115, 116, 117, 118, 119, 120, 121, 122, 123, 124, 125, 126, 127, 128, 129, 130, 131, 132, 133, 134, 135, 136, 137, 138, 139, 140, 141, 142, 143, 144, 145, 146, 147, 148, 149, 150, 151, 152, 153, 154, 155, 156] (by decide +kernel) (by decide +kernel)
set_option maxRecDepth 20000 in
theorem gX12_value_X12_noLong : GoodIn wsX12_value (wsV RX12 239 RX12 yX12_noLong wsX12_noLong) := goodIn_app (goodIn_of _ (by decide +kernel)) ggX12_value_X12_noLong
set_option maxRecDepth 20000 in
theorem ggX12_value_X12_isIn : GoodIn wsX12_value wsX12_isIn := goodIn_r _ [22] (by decide +kernel) (by decide +kernel)
set_option maxRecDepth 20000 in
theorem gX12_value_X12_isIn : GoodIn wsX12_value (va_wsS RX12 140 yX12_isIn wsX12_isIn) := goodIn_app (goodIn_of _ (by decide +kernel)) ggX12_value_X12_isIn
set_option maxRecDepth 20000 in
theorem ggX12_value_X12_isWhole : GoodIn wsX12_value wsX12_isWhole := goodIn_r _ [26, 13, 27, 28, 29, 30, 6, 31, 32, 105, 106, 107, 108, 109, 110, 111, 112, 113, 114, 115, 116, 117, 118, 119, 120, 121, 122, 123, 124, 125, 126, 127, 128, 129, 130, 131, 132, 133, 134, 135, 136, 137, 138, 139, 140, 141, 142, 143, 144, 145, 146, 147, 148, 149, 150, 151, 152, 153, 154, 155, 156] (by decide +kernel) (by decide +kernel)
set_option maxRecDepth 20000 in
theorem gX12_value_X12_isWhole : GoodIn wsX12_value (wsV RX12 183 RX12 yX12_isWhole wsX12_isWhole) := goodIn_app (goodIn_of _ (by decide +kernel)) ggX12_value_X12_isWhole
set_option maxRecDepth 20000 in
theorem ggX12_value_X12_finds : GoodIn wsX12_value wsX12_finds := goodIn_r _ [36, 37, 38, 39, 6, 40, 41, 13, 27, 2, 32, 42, 43, 44, 45, 46, 47, 48, 49, 50, 51, 52, 53, 54, 55, 56, 57, 58, 8, 59, 60, 61, 62, 63, 64, 65, 66, 67, 68, 69, 70, 71, 72, 73, 1, 74, 75, 76, 77, 78, 79, 80, 81, 82, 83, 84, 85, 86, 87, 88, 89, 90, 91, 92, 93, 94, 95, 96, 97, 98, 99, 100, 101, 105, 106, 107, 108, 109, 110, 111, 112, 113, 114, 115, 116, 117, 118, 119, 120, 121, 122, 123, 124, 125, 126, 127, 128, 129, 130, 131, 132, 133, 134, 135, 136, 137, 138, 139, 140, 141, 142, 143, 144, 145, 146, 147, 148, 149, 150, 151, 152, 153, 154, 155, 156] (by decide +kernel) (by decide +kernel)
set_option maxRecDepth 20000 in
theorem gX12_value_X12_finds : GoodIn wsX12_value (wsV RX12 247 RX12 yX12_finds wsX12_finds) := goodIn_app (goodIn_of _ (by decide +kernel)) ggX12_value_X12_finds
set_option maxRecDepth 20000 in
theorem ggX12_value_X12_findAlone : GoodIn wsX12_value wsX12_findAlone := goodIn_r _ [73, 63, 13, 1, 59, 32, 74, 75, 76, 6, 77, 27, 2, 78, 79, 80, 81, 82, 83, 105, 106, 107, 108, 109, 110, 111, 112, 113, 114, 115, 116, 117, 118, 119, 120, 121, 122, 123, 124, 125, 126, 127, 128, 129, 130, 131, 132, 133, 134, 135, 136, 137, 138, 139, 140, 141, 142, 143, 144, 145, 146, 147, 148, 149, 150, 151, 152, 153, 154, 155, 156] (by decide +kernel) (by decide +kernel)
set_option maxRecDepth 20000 in
theorem gX12_value_X12_findAlone : GoodIn wsX12_value (wsV RX12 223 RX12 yX12_findAlone wsX12_findAlone) := goodIn_app (goodIn_of _ (by decide +kernel)) ggX12_value_X12_findAlone
set_option maxRecDepth 20000 in
theorem ggX12_value_X12_inLeast : GoodIn wsX12_value wsX12_inLeast := goodIn_r _ [104, 52, 53, 6, 54] (by decide +kernel) (by decide +kernel)
set_option maxRecDepth 20000 in
theorem gX12_value_X12_inLeast : GoodIn wsX12_value (va_wsS RX12 243 yX12_inLeast wsX12_inLeast) := goodIn_app (goodIn_of _ (by decide +kernel)) ggX12_value_X12_inLeast
theorem dX12_value_0 : decode cX12_value 0 = .ok (.aload_n 0, 1) := by decide +kernel
theorem dX12_value_1 : decode cX12_value 1 = .ok (.iload_n 1, 1) := by decide +kernel
theorem dX12_value_2 : decode cX12_value 2 = .ok (.invokevirtual 180, 3) := by decide +kernel
theorem dX12_value_5 : decode cX12_value 5 = .ok (.ifCond .eq 11, 3) := by decide +kernel
theorem dX12_value_8 : decode cX12_value 8 = .ok (.aload_n 0, 1) := by decide +kernel
theorem dX12_value_9 : decode cX12_value 9 = .ok (.iload_n 2, 1) := by decide +kernel
theorem dX12_value_10 : decode cX12_value 10 = .ok (.invokevirtual 166, 3) := by decide +kernel
theorem dX12_value_13 : decode cX12_value 13 = .ok (.ifCond .ne 9, 3) := by decide +kernel
theorem dX12_value_16 : decode cX12_value 16 = .ok (.aload_n 0, 1) := by decide +kernel
theorem dX12_value_17 : decode cX12_value 17 = .ok (.iconst (-1), 1) := by decide +kernel
theorem dX12_value_18 : decode cX12_value 18 = .ok (.invokevirtual 239, 3) := by decide +kernel
theorem dX12_value_21 : decode cX12_value 21 = .ok (.lreturn, 1) := by decide +kernel
theorem dX12_value_22 : decode cX12_value 22 = .ok (.iload_n 3, 1) := by decide +kernel
theorem dX12_value_23 : decode cX12_value 23 = .ok (.iconst 0, 1) := by decide +kernel
theorem dX12_value_24 : decode cX12_value 24 = .ok (.iconst 1, 1) := by decide +kernel
theorem dX12_value_25 : decode cX12_value 25 = .ok (.invokestatic 140, 3) := by decide +kernel
theorem dX12_value_28 : decode cX12_value 28 = .ok (.ifCond .ne 10, 3) := by decide +kernel
theorem dX12_value_31 : decode cX12_value 31 = .ok (.aload_n 0, 1) := by decide +kernel
theorem dX12_value_32 : decode cX12_value 32 = .ok (.bipush (-2), 2) := by decide +kernel
theorem dX12_value_34 : decode cX12_value 34 = .ok (.invokevirtual 239, 3) := by decide +kernel
theorem dX12_value_37 : decode cX12_value 37 = .ok (.lreturn, 1) := by decide +kernel
theorem dX12_value_38 : decode cX12_value 38 = .ok (.aload_n 0, 1) := by decide +kernel
theorem dX12_value_39 : decode cX12_value 39 = .ok (.invokevirtual 183, 3) := by decide +kernel
theorem dX12_value_42 : decode cX12_value 42 = .ok (.ifCond .ne 10, 3) := by decide +kernel
theorem dX12_value_45 : decode cX12_value 45 = .ok (.aload_n 0, 1) := by decide +kernel
theorem dX12_value_46 : decode cX12_value 46 = .ok (.bipush (-3), 2) := by decide +kernel
theorem dX12_value_48 : decode cX12_value 48 = .ok (.invokevirtual 239, 3) := by decide +kernel
theorem dX12_value_51 : decode cX12_value 51 = .ok (.lreturn, 1) := by decide +kernel
theorem dX12_value_52 : decode cX12_value 52 = .ok (.aload_n 0, 1) := by decide +kernel
theorem dX12_value_53 : decode cX12_value 53 = .ok (.invokevirtual 247, 3) := by decide +kernel
theorem dX12_value_56 : decode cX12_value 56 = .ok (.aload_n 0, 1) := by decide +kernel
theorem dX12_value_57 : decode cX12_value 57 = .ok (.iload_n 1, 1) := by decide +kernel
theorem dX12_value_58 : decode cX12_value 58 = .ok (.invokevirtual 223, 3) := by decide +kernel
theorem dX12_value_61 : decode cX12_value 61 = .ok (.aload_n 0, 1) := by decide +kernel
theorem dX12_value_62 : decode cX12_value 62 = .ok (.getfield 87, 3) := by decide +kernel
theorem dX12_value_65 : decode cX12_value 65 = .ok (.iload_n 2, 1) := by decide +kernel
theorem dX12_value_66 : decode cX12_value 66 = .ok (.laload, 1) := by decide +kernel
theorem dX12_value_67 : decode cX12_value 67 = .ok (.aload_n 0, 1) := by decide +kernel
theorem dX12_value_68 : decode cX12_value 68 = .ok (.getfield 71, 3) := by decide +kernel
theorem dX12_value_71 : decode cX12_value 71 = .ok (.iload_n 2, 1) := by decide +kernel
theorem dX12_value_72 : decode cX12_value 72 = .ok (.laload, 1) := by decide +kernel
theorem dX12_value_73 : decode cX12_value 73 = .ok (.iload_n 3, 1) := by decide +kernel
theorem dX12_value_74 : decode cX12_value 74 = .ok (.invokestatic 243, 3) := by decide +kernel
theorem dX12_value_77 : decode cX12_value 77 = .ok (.lreturn, 1) := by decide +kernel
set_option maxRecDepth 20000 in
theorem ggX12_alone_X12_isPlayer : GoodIn wsX12_alone wsX12_isPlayer := goodIn_r _ [6, 7, 94, 95, 96, 97, 98, 99, 100, 101, 102, 103, 104, 105, 106, 107, 108, 109, 110, 111, 112, 113, 114, 115, 116, 117, 118, 119, 120, 121, 122, 123, 124, 125, 126, 127, 128, 129, 130, 131, 132, 133, 134, 135, 136, 137, 138, 139, 140, 141, 142, 143, 144, 145] (by decide +kernel) (by decide +kernel)
set_option maxRecDepth 20000 in
theorem gX12_alone_X12_isPlayer : GoodIn wsX12_alone (wsV RX12 180 RX12 yX12_isPlayer wsX12_isPlayer) := goodIn_app (goodIn_of _ (by decide +kernel)) ggX12_alone_X12_isPlayer
set_option maxRecDepth 20000 in
theorem ggX12_alone_X12_no : GoodIn wsX12_alone wsX12_no := goodIn_r _ [11, 12, 94, 95, 96, 97, 98, 99, 100, 101, 102, 103, 104, 105, 106, 107, 108, 109, 110, 111, 112, 113, 114, 115, 116, 117, 118, 119, 120, 121, 122, 123, 124, 125, 126, 127, 128, 129, 130, 131, 132, 133, 134, 135, 136, 137, 138, 139, 140, 141, 142, 143, 144, 145] (by decide +kernel) (by decide +kernel)
set_option maxRecDepth 20000 in
theorem gX12_alone_X12_no : GoodIn wsX12_alone (wsV RX12 128 RX12 yX12_no wsX12_no) := goodIn_app (goodIn_of _ (by decide +kernel)) ggX12_alone_X12_no
set_option maxRecDepth 20000 in
theorem ggX12_alone_X12_isWhole : GoodIn wsX12_alone wsX12_isWhole := goodIn_r _ [16, 17, 18, 19, 20, 21, 5, 22, 23, 94, 95, 96, 97, 98, 99, 100, 101, 102, 103, 104, 105, 106, 107, 108, 109, 110, 111, 112, 113, 114, 115, 116, 117, 118, 119, 120, 121, 122, 123, 124, 125, 126, 127, 128, 129, 130, 131, 132, 133, 134, 135, 136, 137, 138, 139, 140, 141, 142, 143, 144, 145] (by decide +kernel) (by decide +kernel)
set_option maxRecDepth 20000 in
theorem gX12_alone_X12_isWhole : GoodIn wsX12_alone (wsV RX12 183 RX12 yX12_isWhole wsX12_isWhole) := goodIn_app (goodIn_of _ (by decide +kernel)) ggX12_alone_X12_isWhole
set_option maxRecDepth 20000 in
theorem ggX12_alone_X12_finds : GoodIn wsX12_alone wsX12_finds := goodIn_r _ [27, 28, 29, 30, 5, 31, 32, 17, 18, 33, 23, 34, 35, 36, 37, 38, 39, 40, 41, 42, 43, 44, 45, 46, 47, 48, 49, 50, 7, 51, 52, 53, 54, 1, 55, 56, 57, 58, 59, 60, 61, 62, 63, 64, 65, 66, 67, 68, 69, 70, 71, 72, 73, 74, 75, 76, 77, 78, 79, 80, 81, 82, 83, 84, 85, 86, 87, 88, 89, 90, 91, 92, 93, 94, 95, 96, 97, 98, 99, 100, 101, 102, 103, 104, 105, 106, 107, 108, 109, 110, 111, 112, 113, 114, 115, 116, 117, 118, 119, 120, 121, 122, 123, 124, 125, 126, 127, 128, 129, 130, 131, 132, 133, 134, 135, 136, 137, 138, 139, 140, 141, 142, 143, 144, 145] (by decide +kernel) (by decide +kernel)
set_option maxRecDepth 20000 in
theorem gX12_alone_X12_finds : GoodIn wsX12_alone (wsV RX12 247 RX12 yX12_finds wsX12_finds) := goodIn_app (goodIn_of _ (by decide +kernel)) ggX12_alone_X12_finds
set_option maxRecDepth 20000 in
theorem ggX12_alone_X12_findAlone : GoodIn wsX12_alone wsX12_findAlone := goodIn_r _ [64, 1, 17, 65, 51, 23, 66, 67, 68, 5, 69, 18, 33, 70, 71, 72, 73, 74, 75, 94, 95, 96, 97, 98, 99, 100, 101, 102, 103, 104, 105, 106, 107, 108, 109, 110, 111, 112, 113, 114, 115, 116, 117, 118, 119, 120, 121, 122, 123, 124, 125, 126, 127, 128, 129, 130, 131, 132, 133, 134, 135, 136, 137, 138, 139, 140, 141, 142, 143, 144, 145] (by decide +kernel) (by decide +kernel)
set_option maxRecDepth 20000 in
theorem gX12_alone_X12_findAlone : GoodIn wsX12_alone (wsV RX12 223 RX12 yX12_findAlone wsX12_findAlone) := goodIn_app (goodIn_of _ (by decide +kernel)) ggX12_alone_X12_findAlone
theorem dX12_alone_0 : decode cX12_alone 0 = .ok (.aload_n 0, 1) := by decide +kernel
theorem dX12_alone_1 : decode cX12_alone 1 = .ok (.iload_n 1, 1) := by decide +kernel
theorem dX12_alone_2 : decode cX12_alone 2 = .ok (.invokevirtual 180, 3) := by decide +kernel
theorem dX12_alone_5 : decode cX12_alone 5 = .ok (.ifCond .ne 9, 3) := by decide +kernel
theorem dX12_alone_8 : decode cX12_alone 8 = .ok (.aload_n 0, 1) := by decide +kernel
theorem dX12_alone_9 : decode cX12_alone 9 = .ok (.iconst (-1), 1) := by decide +kernel
theorem dX12_alone_10 : decode cX12_alone 10 = .ok (.invokevirtual 128, 3) := by decide +kernel
theorem dX12_alone_13 : decode cX12_alone 13 = .ok (.ireturn, 1) := by decide +kernel
theorem dX12_alone_14 : decode cX12_alone 14 = .ok (.aload_n 0, 1) := by decide +kernel
theorem dX12_alone_15 : decode cX12_alone 15 = .ok (.invokevirtual 183, 3) := by decide +kernel
theorem dX12_alone_18 : decode cX12_alone 18 = .ok (.ifCond .ne 10, 3) := by decide +kernel
theorem dX12_alone_21 : decode cX12_alone 21 = .ok (.aload_n 0, 1) := by decide +kernel
theorem dX12_alone_22 : decode cX12_alone 22 = .ok (.bipush (-3), 2) := by decide +kernel
theorem dX12_alone_24 : decode cX12_alone 24 = .ok (.invokevirtual 128, 3) := by decide +kernel
theorem dX12_alone_27 : decode cX12_alone 27 = .ok (.ireturn, 1) := by decide +kernel
theorem dX12_alone_28 : decode cX12_alone 28 = .ok (.aload_n 0, 1) := by decide +kernel
theorem dX12_alone_29 : decode cX12_alone 29 = .ok (.invokevirtual 247, 3) := by decide +kernel
theorem dX12_alone_32 : decode cX12_alone 32 = .ok (.aload_n 0, 1) := by decide +kernel
theorem dX12_alone_33 : decode cX12_alone 33 = .ok (.iload_n 1, 1) := by decide +kernel
theorem dX12_alone_34 : decode cX12_alone 34 = .ok (.invokevirtual 223, 3) := by decide +kernel
theorem dX12_alone_37 : decode cX12_alone 37 = .ok (.aload_n 0, 1) := by decide +kernel
theorem dX12_alone_38 : decode cX12_alone 38 = .ok (.getfield 212, 3) := by decide +kernel
theorem dX12_alone_41 : decode cX12_alone 41 = .ok (.ireturn, 1) := by decide +kernel
set_option maxRecDepth 20000 in
theorem ggX12_tries_X12_sumOver : GoodIn wsX12_tries wsX12_sumOver := goodIn_r _ [11, 1, 12, 13, 14, 15, 16, 17, 18, 19, 10, 20, 21, 22, 23, 24, 25, 26, 27, 28, 29, 30, 31, 4, 3, 32, 33, 34, 35, 36, 2, 37, 38, 39, 40, 41, 42, 43, 44, 45, 46, 47, 48, 49, 50, 51, 52, 53, 54, 55, 56, 57, 58, 59, 60, 61, 62, 63, 64, 65, 66, 67, 68, 69, 70, 71, 72, 73, 74, 75, 76, 77, 78, 79, 80, 81, 82, 83, 84, 85, 86, 87, 88, 89] (by decide +kernel) (by decide +kernel)
set_option maxRecDepth 20000 in
theorem gX12_tries_X12_sumOver : GoodIn wsX12_tries (wsV RX12 274 RX12 yX12_sumOver wsX12_sumOver) := goodIn_app (goodIn_of _ (by decide +kernel)) ggX12_tries_X12_sumOver
theorem dX12_tries_0 : decode cX12_tries 0 = .ok (.iconst 0, 1) := by decide +kernel
theorem dX12_tries_1 : decode cX12_tries 1 = .ok (.istore_n 3, 1) := by decide +kernel
theorem dX12_tries_2 : decode cX12_tries 2 = .ok (.iconst 1, 1) := by decide +kernel
theorem dX12_tries_3 : decode cX12_tries 3 = .ok (.istore 4, 2) := by decide +kernel
theorem dX12_tries_5 : decode cX12_tries 5 = .ok (.iload 4, 2) := by decide +kernel
theorem dX12_tries_7 : decode cX12_tries 7 = .ok (.aload_n 0, 1) := by decide +kernel
theorem dX12_tries_8 : decode cX12_tries 8 = .ok (.getfield 46, 3) := by decide +kernel
theorem dX12_tries_11 : decode cX12_tries 11 = .ok (.if_icmp .ge 45, 3) := by decide +kernel
theorem dX12_tries_14 : decode cX12_tries 14 = .ok (.iload_n 3, 1) := by decide +kernel
theorem dX12_tries_15 : decode cX12_tries 15 = .ok (.iload_n 2, 1) := by decide +kernel
theorem dX12_tries_16 : decode cX12_tries 16 = .ok (.iload 4, 2) := by decide +kernel
theorem dX12_tries_18 : decode cX12_tries 18 = .ok (.ishr, 1) := by decide +kernel
theorem dX12_tries_19 : decode cX12_tries 19 = .ok (.iconst 1, 1) := by decide +kernel
theorem dX12_tries_20 : decode cX12_tries 20 = .ok (.iand, 1) := by decide +kernel
theorem dX12_tries_21 : decode cX12_tries 21 = .ok (.iconst 1, 1) := by decide +kernel
theorem dX12_tries_22 : decode cX12_tries 22 = .ok (.if_icmp .ne 25, 3) := by decide +kernel
theorem dX12_tries_25 : decode cX12_tries 25 = .ok (.aload_n 0, 1) := by decide +kernel
theorem dX12_tries_26 : decode cX12_tries 26 = .ok (.getfield 78, 3) := by decide +kernel
theorem dX12_tries_29 : decode cX12_tries 29 = .ok (.bipush 24, 2) := by decide +kernel
theorem dX12_tries_31 : decode cX12_tries 31 = .ok (.iload_n 1, 1) := by decide +kernel
theorem dX12_tries_32 : decode cX12_tries 32 = .ok (.imul, 1) := by decide +kernel
theorem dX12_tries_33 : decode cX12_tries 33 = .ok (.iload 4, 2) := by decide +kernel
theorem dX12_tries_35 : decode cX12_tries 35 = .ok (.iadd, 1) := by decide +kernel
theorem dX12_tries_36 : decode cX12_tries 36 = .ok (.iaload, 1) := by decide +kernel
theorem dX12_tries_37 : decode cX12_tries 37 = .ok (.ifCond .eq 10, 3) := by decide +kernel
theorem dX12_tries_40 : decode cX12_tries 40 = .ok (.iconst 1, 1) := by decide +kernel
theorem dX12_tries_41 : decode cX12_tries 41 = .ok (.iload 4, 2) := by decide +kernel
theorem dX12_tries_43 : decode cX12_tries 43 = .ok (.ishl, 1) := by decide +kernel
theorem dX12_tries_44 : decode cX12_tries 44 = .ok (.goto 4, 3) := by decide +kernel
theorem dX12_tries_47 : decode cX12_tries 47 = .ok (.iconst 0, 1) := by decide +kernel
theorem dX12_tries_48 : decode cX12_tries 48 = .ok (.ior, 1) := by decide +kernel
theorem dX12_tries_49 : decode cX12_tries 49 = .ok (.istore_n 3, 1) := by decide +kernel
theorem dX12_tries_50 : decode cX12_tries 50 = .ok (.iinc 4 1, 3) := by decide +kernel
theorem dX12_tries_53 : decode cX12_tries 53 = .ok (.goto (-48), 3) := by decide +kernel
theorem dX12_tries_56 : decode cX12_tries 56 = .ok (.aload_n 0, 1) := by decide +kernel
theorem dX12_tries_57 : decode cX12_tries 57 = .ok (.getfield 81, 3) := by decide +kernel
theorem dX12_tries_60 : decode cX12_tries 60 = .ok (.iload_n 1, 1) := by decide +kernel
theorem dX12_tries_61 : decode cX12_tries 61 = .ok (.iload_n 3, 1) := by decide +kernel
theorem dX12_tries_62 : decode cX12_tries 62 = .ok (.iastore, 1) := by decide +kernel
theorem dX12_tries_63 : decode cX12_tries 63 = .ok (.aload_n 0, 1) := by decide +kernel
theorem dX12_tries_64 : decode cX12_tries 64 = .ok (.getfield 84, 3) := by decide +kernel
theorem dX12_tries_67 : decode cX12_tries 67 = .ok (.iload_n 1, 1) := by decide +kernel
theorem dX12_tries_68 : decode cX12_tries 68 = .ok (.iload_n 3, 1) := by decide +kernel
theorem dX12_tries_69 : decode cX12_tries 69 = .ok (.iastore, 1) := by decide +kernel
theorem dX12_tries_70 : decode cX12_tries 70 = .ok (.aload_n 0, 1) := by decide +kernel
theorem dX12_tries_71 : decode cX12_tries 71 = .ok (.iconst 1, 1) := by decide +kernel
theorem dX12_tries_72 : decode cX12_tries 72 = .ok (.iload_n 1, 1) := by decide +kernel
theorem dX12_tries_73 : decode cX12_tries 73 = .ok (.invokevirtual 274, 3) := by decide +kernel
theorem dX12_tries_76 : decode cX12_tries 76 = .ok (.lstore 4, 2) := by decide +kernel
theorem dX12_tries_78 : decode cX12_tries 78 = .ok (.aload_n 0, 1) := by decide +kernel
theorem dX12_tries_79 : decode cX12_tries 79 = .ok (.getfield 281, 3) := by decide +kernel
theorem dX12_tries_82 : decode cX12_tries 82 = .ok (.ifCond .lt 14, 3) := by decide +kernel
theorem dX12_tries_85 : decode cX12_tries 85 = .ok (.lload 4, 2) := by decide +kernel
theorem dX12_tries_87 : decode cX12_tries 87 = .ok (.aload_n 0, 1) := by decide +kernel
theorem dX12_tries_88 : decode cX12_tries 88 = .ok (.getfield 284, 3) := by decide +kernel
theorem dX12_tries_91 : decode cX12_tries 91 = .ok (.lcmp, 1) := by decide +kernel
theorem dX12_tries_92 : decode cX12_tries 92 = .ok (.ifCond .gt 4, 3) := by decide +kernel
theorem dX12_tries_95 : decode cX12_tries 95 = .ok (.return_, 1) := by decide +kernel
theorem dX12_tries_96 : decode cX12_tries 96 = .ok (.aload_n 0, 1) := by decide +kernel
theorem dX12_tries_97 : decode cX12_tries 97 = .ok (.lload 4, 2) := by decide +kernel
theorem dX12_tries_99 : decode cX12_tries 99 = .ok (.putfield 284, 3) := by decide +kernel
theorem dX12_tries_102 : decode cX12_tries 102 = .ok (.aload_n 0, 1) := by decide +kernel
theorem dX12_tries_103 : decode cX12_tries 103 = .ok (.iload_n 2, 1) := by decide +kernel
theorem dX12_tries_104 : decode cX12_tries 104 = .ok (.putfield 281, 3) := by decide +kernel
theorem dX12_tries_107 : decode cX12_tries 107 = .ok (.return_, 1) := by decide +kernel
set_option maxRecDepth 20000 in
theorem ggX12_replyOf_X12_tries : GoodIn wsX12_replyOf wsX12_tries := goodIn_r _ [7, 2, 8, 9, 10, 1, 11, 12, 13, 14, 6, 15, 16, 17, 18, 19, 20, 21, 22, 23, 24, 25, 26, 27, 28, 29, 30, 31, 32, 33, 34, 35, 36, 37, 38, 39, 40, 41, 42, 43, 44, 45, 46, 47, 48, 49, 50, 51, 52, 53, 54, 55, 56, 57, 58, 59, 60, 61, 62, 63, 64, 65, 66, 67, 68, 69, 70, 71, 72, 73, 74, 75, 76, 77, 78, 79, 80, 81, 82, 83, 84, 85, 86, 87, 88, 89, 90, 91, 92, 93] (by decide +kernel) (by decide +kernel)
set_option maxRecDepth 20000 in
theorem gX12_replyOf_X12_tries : GoodIn wsX12_replyOf (wsV RX12 287 RX12 yX12_tries wsX12_tries) := goodIn_app (goodIn_of _ (by decide +kernel)) ggX12_replyOf_X12_tries
theorem dX12_replyOf_0 : decode cX12_replyOf 0 = .ok (.aload_n 0, 1) := by decide +kernel
theorem dX12_replyOf_1 : decode cX12_replyOf 1 = .ok (.iconst (-1), 1) := by decide +kernel
theorem dX12_replyOf_2 : decode cX12_replyOf 2 = .ok (.putfield 281, 3) := by decide +kernel
theorem dX12_replyOf_5 : decode cX12_replyOf 5 = .ok (.aload_n 0, 1) := by decide +kernel
theorem dX12_replyOf_6 : decode cX12_replyOf 6 = .ok (.iload_n 1, 1) := by decide +kernel
theorem dX12_replyOf_7 : decode cX12_replyOf 7 = .ok (.iconst 0, 1) := by decide +kernel
theorem dX12_replyOf_8 : decode cX12_replyOf 8 = .ok (.invokevirtual 287, 3) := by decide +kernel
theorem dX12_replyOf_11 : decode cX12_replyOf 11 = .ok (.iconst 0, 1) := by decide +kernel
theorem dX12_replyOf_12 : decode cX12_replyOf 12 = .ok (.istore_n 3, 1) := by decide +kernel
theorem dX12_replyOf_13 : decode cX12_replyOf 13 = .ok (.iload_n 3, 1) := by decide +kernel
theorem dX12_replyOf_14 : decode cX12_replyOf 14 = .ok (.aload_n 0, 1) := by decide +kernel
theorem dX12_replyOf_15 : decode cX12_replyOf 15 = .ok (.getfield 46, 3) := by decide +kernel
theorem dX12_replyOf_18 : decode cX12_replyOf 18 = .ok (.if_icmp .ge 21, 3) := by decide +kernel
theorem dX12_replyOf_21 : decode cX12_replyOf 21 = .ok (.iload_n 2, 1) := by decide +kernel
theorem dX12_replyOf_22 : decode cX12_replyOf 22 = .ok (.ifCond .le 17, 3) := by decide +kernel
theorem dX12_replyOf_25 : decode cX12_replyOf 25 = .ok (.aload_n 0, 1) := by decide +kernel
theorem dX12_replyOf_26 : decode cX12_replyOf 26 = .ok (.iload_n 1, 1) := by decide +kernel
theorem dX12_replyOf_27 : decode cX12_replyOf 27 = .ok (.iconst 1, 1) := by decide +kernel
theorem dX12_replyOf_28 : decode cX12_replyOf 28 = .ok (.iload_n 3, 1) := by decide +kernel
theorem dX12_replyOf_29 : decode cX12_replyOf 29 = .ok (.ishl, 1) := by decide +kernel
theorem dX12_replyOf_30 : decode cX12_replyOf 30 = .ok (.invokevirtual 287, 3) := by decide +kernel
theorem dX12_replyOf_33 : decode cX12_replyOf 33 = .ok (.iinc 3 1, 3) := by decide +kernel
theorem dX12_replyOf_36 : decode cX12_replyOf 36 = .ok (.goto (-23), 3) := by decide +kernel
theorem dX12_replyOf_39 : decode cX12_replyOf 39 = .ok (.iconst 1, 1) := by decide +kernel
theorem dX12_replyOf_40 : decode cX12_replyOf 40 = .ok (.istore_n 3, 1) := by decide +kernel
theorem dX12_replyOf_41 : decode cX12_replyOf 41 = .ok (.iload_n 3, 1) := by decide +kernel
theorem dX12_replyOf_42 : decode cX12_replyOf 42 = .ok (.aload_n 0, 1) := by decide +kernel
theorem dX12_replyOf_43 : decode cX12_replyOf 43 = .ok (.getfield 46, 3) := by decide +kernel
theorem dX12_replyOf_46 : decode cX12_replyOf 46 = .ok (.if_icmp .ge 42, 3) := by decide +kernel
theorem dX12_replyOf_49 : decode cX12_replyOf 49 = .ok (.iload_n 2, 1) := by decide +kernel
theorem dX12_replyOf_50 : decode cX12_replyOf 50 = .ok (.iconst 1, 1) := by decide +kernel
theorem dX12_replyOf_51 : decode cX12_replyOf 51 = .ok (.if_icmp .le 37, 3) := by decide +kernel
theorem dX12_replyOf_54 : decode cX12_replyOf 54 = .ok (.iconst 0, 1) := by decide +kernel
theorem dX12_replyOf_55 : decode cX12_replyOf 55 = .ok (.istore 4, 2) := by decide +kernel
theorem dX12_replyOf_57 : decode cX12_replyOf 57 = .ok (.iload 4, 2) := by decide +kernel
theorem dX12_replyOf_59 : decode cX12_replyOf 59 = .ok (.iload_n 3, 1) := by decide +kernel
theorem dX12_replyOf_60 : decode cX12_replyOf 60 = .ok (.if_icmp .ge 22, 3) := by decide +kernel
theorem dX12_replyOf_63 : decode cX12_replyOf 63 = .ok (.aload_n 0, 1) := by decide +kernel
theorem dX12_replyOf_64 : decode cX12_replyOf 64 = .ok (.iload_n 1, 1) := by decide +kernel
theorem dX12_replyOf_65 : decode cX12_replyOf 65 = .ok (.iconst 1, 1) := by decide +kernel
theorem dX12_replyOf_66 : decode cX12_replyOf 66 = .ok (.iload 4, 2) := by decide +kernel
theorem dX12_replyOf_68 : decode cX12_replyOf 68 = .ok (.ishl, 1) := by decide +kernel
theorem dX12_replyOf_69 : decode cX12_replyOf 69 = .ok (.iconst 1, 1) := by decide +kernel
theorem dX12_replyOf_70 : decode cX12_replyOf 70 = .ok (.iload_n 3, 1) := by decide +kernel
theorem dX12_replyOf_71 : decode cX12_replyOf 71 = .ok (.ishl, 1) := by decide +kernel
theorem dX12_replyOf_72 : decode cX12_replyOf 72 = .ok (.ior, 1) := by decide +kernel
theorem dX12_replyOf_73 : decode cX12_replyOf 73 = .ok (.invokevirtual 287, 3) := by decide +kernel
theorem dX12_replyOf_76 : decode cX12_replyOf 76 = .ok (.iinc 4 1, 3) := by decide +kernel
theorem dX12_replyOf_79 : decode cX12_replyOf 79 = .ok (.goto (-22), 3) := by decide +kernel
theorem dX12_replyOf_82 : decode cX12_replyOf 82 = .ok (.iinc 3 1, 3) := by decide +kernel
theorem dX12_replyOf_85 : decode cX12_replyOf 85 = .ok (.goto (-44), 3) := by decide +kernel
theorem dX12_replyOf_88 : decode cX12_replyOf 88 = .ok (.aload_n 0, 1) := by decide +kernel
theorem dX12_replyOf_89 : decode cX12_replyOf 89 = .ok (.getfield 281, 3) := by decide +kernel
theorem dX12_replyOf_92 : decode cX12_replyOf 92 = .ok (.ireturn, 1) := by decide +kernel
set_option maxRecDepth 20000 in
theorem ggX12_reply_X12_isPlayer : GoodIn wsX12_reply wsX12_isPlayer := goodIn_r _ [5, 6, 131, 132, 133, 134, 135, 136, 137, 138, 139, 140, 141, 142, 143, 144, 145, 146, 147, 148, 149, 150, 151, 152, 153, 154, 155, 156, 157, 158, 159, 160, 161, 162, 163, 164, 165, 166, 167, 168, 169, 170, 171, 172, 173, 174, 175, 176, 177, 178, 179, 180, 181, 182] (by decide +kernel) (by decide +kernel)
set_option maxRecDepth 20000 in
theorem gX12_reply_X12_isPlayer : GoodIn wsX12_reply (wsV RX12 180 RX12 yX12_isPlayer wsX12_isPlayer) := goodIn_app (goodIn_of _ (by decide +kernel)) ggX12_reply_X12_isPlayer
set_option maxRecDepth 20000 in
theorem ggX12_reply_X12_no : GoodIn wsX12_reply wsX12_no := goodIn_r _ [10, 11, 131, 132, 133, 134, 135, 136, 137, 138, 139, 140, 141, 142, 143, 144, 145, 146, 147, 148, 149, 150, 151, 152, 153, 154, 155, 156, 157, 158, 159, 160, 161, 162, 163, 164, 165, 166, 167, 168, 169, 170, 171, 172, 173, 174, 175, 176, 177, 178, 179, 180, 181, 182] (by decide +kernel) (by decide +kernel)
set_option maxRecDepth 20000 in
theorem gX12_reply_X12_no : GoodIn wsX12_reply (wsV RX12 128 RX12 yX12_no wsX12_no) := goodIn_app (goodIn_of _ (by decide +kernel)) ggX12_reply_X12_no
set_option maxRecDepth 20000 in
theorem ggX12_reply_X12_bound : GoodIn wsX12_reply wsX12_bound := goodIn_r _ [14] (by decide +kernel) (by decide +kernel)
set_option maxRecDepth 20000 in
theorem gX12_reply_X12_bound : GoodIn wsX12_reply (va_wsS RX12 121 yX12_bound wsX12_bound) := goodIn_app (goodIn_of _ (by decide +kernel)) ggX12_reply_X12_bound
set_option maxRecDepth 20000 in
theorem ggX12_reply_X12_isWhole : GoodIn wsX12_reply wsX12_isWhole := goodIn_r _ [18, 19, 20, 21, 22, 23, 4, 24, 25, 131, 132, 133, 134, 135, 136, 137, 138, 139, 140, 141, 142, 143, 144, 145, 146, 147, 148, 149, 150, 151, 152, 153, 154, 155, 156, 157, 158, 159, 160, 161, 162, 163, 164, 165, 166, 167, 168, 169, 170, 171, 172, 173, 174, 175, 176, 177, 178, 179, 180, 181, 182] (by decide +kernel) (by decide +kernel)
set_option maxRecDepth 20000 in
theorem gX12_reply_X12_isWhole : GoodIn wsX12_reply (wsV RX12 183 RX12 yX12_isWhole wsX12_isWhole) := goodIn_app (goodIn_of _ (by decide +kernel)) ggX12_reply_X12_isWhole
set_option maxRecDepth 20000 in
theorem ggX12_reply_X12_finds : GoodIn wsX12_reply wsX12_finds := goodIn_r _ [29, 30, 31, 32, 4, 33, 34, 19, 20, 35, 25, 36, 37, 38, 39, 40, 41, 42, 43, 44, 45, 46, 47, 48, 49, 50, 51, 52, 6, 53, 54, 55, 56, 57, 58, 59, 60, 61, 62, 63, 64, 65, 66, 67, 68, 69, 70, 71, 72, 73, 74, 75, 76, 77, 78, 79, 80, 81, 82, 83, 84, 85, 86, 87, 88, 89, 90, 91, 92, 93, 94, 95, 96, 131, 132, 133, 134, 135, 136, 137, 138, 139, 140, 141, 142, 143, 144, 145, 146, 147, 148, 149, 150, 151, 152, 153, 154, 155, 156, 157, 158, 159, 160, 161, 162, 163, 164, 165, 166, 167, 168, 169, 170, 171, 172, 173, 174, 175, 176, 177, 178, 179, 180, 181, 182] (by decide +kernel) (by decide +kernel)
set_option maxRecDepth 20000 in
theorem gX12_reply_X12_finds : GoodIn wsX12_reply (wsV RX12 247 RX12 yX12_finds wsX12_finds) := goodIn_app (goodIn_of _ (by decide +kernel)) ggX12_reply_X12_finds
set_option maxRecDepth 20000 in
theorem ggX12_reply_X12_replyOf : GoodIn wsX12_reply wsX12_replyOf := goodIn_r _ [100, 101, 19, 102, 103, 104, 4, 105, 53, 56, 58, 106, 107, 108, 109, 110, 20, 111, 35, 112, 113, 114, 115, 116, 117, 118, 119, 120, 121, 74, 25, 122, 123, 124, 125, 6, 126, 127, 128, 129, 130, 73, 131, 132, 133, 134, 135, 136, 137, 138, 139, 140, 141, 142, 143, 144, 145, 146, 147, 148, 149, 150, 151, 152, 153, 154, 155, 156, 157, 158, 159, 160, 161, 162, 163, 164, 165, 166, 167, 168, 169, 170, 171, 172, 173, 174, 175, 176, 177, 178, 179, 180, 181, 182] (by decide +kernel) (by decide +kernel)
set_option maxRecDepth 20000 in
theorem gX12_reply_X12_replyOf : GoodIn wsX12_reply (wsV RX12 291 RX12 yX12_replyOf wsX12_replyOf) := goodIn_app (goodIn_of _ (by decide +kernel)) ggX12_reply_X12_replyOf
theorem dX12_reply_0 : decode cX12_reply 0 = .ok (.aload_n 0, 1) := by decide +kernel
theorem dX12_reply_1 : decode cX12_reply 1 = .ok (.iload_n 1, 1) := by decide +kernel
theorem dX12_reply_2 : decode cX12_reply 2 = .ok (.invokevirtual 180, 3) := by decide +kernel
theorem dX12_reply_5 : decode cX12_reply 5 = .ok (.ifCond .ne 9, 3) := by decide +kernel
theorem dX12_reply_8 : decode cX12_reply 8 = .ok (.aload_n 0, 1) := by decide +kernel
theorem dX12_reply_9 : decode cX12_reply 9 = .ok (.iconst (-1), 1) := by decide +kernel
theorem dX12_reply_10 : decode cX12_reply 10 = .ok (.invokevirtual 128, 3) := by decide +kernel
theorem dX12_reply_13 : decode cX12_reply 13 = .ok (.ireturn, 1) := by decide +kernel
theorem dX12_reply_14 : decode cX12_reply 14 = .ok (.iload_n 2, 1) := by decide +kernel
theorem dX12_reply_15 : decode cX12_reply 15 = .ok (.iconst 0, 1) := by decide +kernel
