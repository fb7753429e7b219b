theorem dX6_bestEarly_22 : decode cX6_bestEarly 22 = .ok (.iconst 2, 1) := by decide +kernel
theorem dX6_bestEarly_23 : decode cX6_bestEarly 23 = .ok (.iaload, 1) := by decide +kernel
theorem dX6_bestEarly_24 : decode cX6_bestEarly 24 = .ok (.if_icmp .gt 44, 3) := by decide +kernel
theorem dX6_bestEarly_27 : decode cX6_bestEarly 27 = .ok (.aload_n 0, 1) := by decide +kernel
theorem dX6_bestEarly_28 : decode cX6_bestEarly 28 = .ok (.getfield 21, 3) := by decide +kernel
theorem dX6_bestEarly_31 : decode cX6_bestEarly 31 = .ok (.iconst 2, 1) := by decide +kernel
theorem dX6_bestEarly_32 : decode cX6_bestEarly 32 = .ok (.iload 6, 2) := by decide +kernel
theorem dX6_bestEarly_34 : decode cX6_bestEarly 34 = .ok (.iastore, 1) := by decide +kernel
theorem dX6_bestEarly_35 : decode cX6_bestEarly 35 = .ok (.aload_n 0, 1) := by decide +kernel
theorem dX6_bestEarly_36 : decode cX6_bestEarly 36 = .ok (.invokevirtual 145, 3) := by decide +kernel
theorem dX6_bestEarly_39 : decode cX6_bestEarly 39 = .ok (.aload_n 0, 1) := by decide +kernel
theorem dX6_bestEarly_40 : decode cX6_bestEarly 40 = .ok (.iconst 0, 1) := by decide +kernel
theorem dX6_bestEarly_41 : decode cX6_bestEarly 41 = .ok (.iload_n 1, 1) := by decide +kernel
theorem dX6_bestEarly_42 : decode cX6_bestEarly 42 = .ok (.invokevirtual 154, 3) := by decide +kernel
theorem dX6_bestEarly_45 : decode cX6_bestEarly 45 = .ok (.lstore 7, 2) := by decide +kernel
theorem dX6_bestEarly_47 : decode cX6_bestEarly 47 = .ok (.lload 7, 2) := by decide +kernel
theorem dX6_bestEarly_49 : decode cX6_bestEarly 49 = .ok (.lload 4, 2) := by decide +kernel
theorem dX6_bestEarly_51 : decode cX6_bestEarly 51 = .ok (.lcmp, 1) := by decide +kernel
theorem dX6_bestEarly_52 : decode cX6_bestEarly 52 = .ok (.ifCond .le 10, 3) := by decide +kernel
theorem dX6_bestEarly_55 : decode cX6_bestEarly 55 = .ok (.lload 7, 2) := by decide +kernel
theorem dX6_bestEarly_57 : decode cX6_bestEarly 57 = .ok (.lstore 4, 2) := by decide +kernel
theorem dX6_bestEarly_59 : decode cX6_bestEarly 59 = .ok (.iload 6, 2) := by decide +kernel
theorem dX6_bestEarly_61 : decode cX6_bestEarly 61 = .ok (.istore_n 3, 1) := by decide +kernel
theorem dX6_bestEarly_62 : decode cX6_bestEarly 62 = .ok (.iinc 6 1, 3) := by decide +kernel
theorem dX6_bestEarly_65 : decode cX6_bestEarly 65 = .ok (.goto (-48), 3) := by decide +kernel
theorem dX6_bestEarly_68 : decode cX6_bestEarly 68 = .ok (.aload_n 0, 1) := by decide +kernel
theorem dX6_bestEarly_69 : decode cX6_bestEarly 69 = .ok (.getfield 21, 3) := by decide +kernel
theorem dX6_bestEarly_72 : decode cX6_bestEarly 72 = .ok (.iconst 2, 1) := by decide +kernel
theorem dX6_bestEarly_73 : decode cX6_bestEarly 73 = .ok (.iload_n 2, 1) := by decide +kernel
theorem dX6_bestEarly_74 : decode cX6_bestEarly 74 = .ok (.iastore, 1) := by decide +kernel
theorem dX6_bestEarly_75 : decode cX6_bestEarly 75 = .ok (.iload_n 3, 1) := by decide +kernel
theorem dX6_bestEarly_76 : decode cX6_bestEarly 76 = .ok (.ireturn, 1) := by decide +kernel
set_option maxRecDepth 20000 in
theorem ggX6_drawEnd_X10_nextsOf : GoodIn wsX6_drawEnd wsX10_nextsOf := goodIn_r _ [6, 7, 8, 9, 10, 5, 11, 12, 50, 51, 52, 53, 54, 55, 56, 57, 58, 59, 60, 61, 62, 63, 64, 65] (by decide +kernel) (by decide +kernel)
set_option maxRecDepth 20000 in
theorem gX6_drawEnd_X10_nextsOf : GoodIn wsX6_drawEnd (wsV RX6 172 RX10 yX10_nextsOf wsX10_nextsOf) := goodIn_app (goodIn_of _ (by decide +kernel)) ggX6_drawEnd_X10_nextsOf
set_option maxRecDepth 20000 in
theorem ggX6_drawEnd_X10_nextSumOf : GoodIn wsX6_drawEnd wsX10_nextSumOf := goodIn_r _ [16, 17, 8, 9, 10, 5, 11, 12, 50, 51, 52, 53, 54, 55, 56, 57, 58, 59, 60, 61, 62, 63, 64, 65] (by decide +kernel) (by decide +kernel)
set_option maxRecDepth 20000 in
theorem gX6_drawEnd_X10_nextSumOf : GoodIn wsX6_drawEnd (wsV RX6 175 RX10 yX10_nextSumOf wsX10_nextSumOf) := goodIn_app (goodIn_of _ (by decide +kernel)) ggX6_drawEnd_X10_nextSumOf
set_option maxRecDepth 20000 in
theorem ggX6_drawEnd_X6_draw : GoodIn wsX6_drawEnd wsX6_draw := goodIn_r _ [22, 23, 24, 25, 26, 33, 34, 35, 36, 37, 38, 39, 40, 41, 42, 43, 44, 45, 46, 47, 48, 49] (by decide +kernel) (by decide +kernel)
set_option maxRecDepth 20000 in
theorem gX6_drawEnd_X6_draw : GoodIn wsX6_drawEnd (wsV RX6 178 RX6 yX6_draw wsX6_draw) := goodIn_app (goodIn_of _ (by decide +kernel)) ggX6_drawEnd_X6_draw
set_option maxRecDepth 20000 in
theorem ggX6_drawEnd_X10_nextBy : GoodIn wsX6_drawEnd wsX10_nextBy := goodIn_r _ [30, 12, 31, 32, 50, 51, 52, 53, 54, 55, 56, 57, 58, 59, 60, 61, 62, 63, 64, 65] (by decide +kernel) (by decide +kernel)
set_option maxRecDepth 20000 in
theorem gX6_drawEnd_X10_nextBy : GoodIn wsX6_drawEnd (wsV RX6 181 RX10 yX10_nextBy wsX10_nextBy) := goodIn_app (goodIn_of _ (by decide +kernel)) ggX6_drawEnd_X10_nextBy
theorem dX6_drawEnd_0 : decode cX6_drawEnd 0 = .ok (.iconst 0, 1) := by decide +kernel
theorem dX6_drawEnd_1 : decode cX6_drawEnd 1 = .ok (.istore_n 1, 1) := by decide +kernel
theorem dX6_drawEnd_2 : decode cX6_drawEnd 2 = .ok (.iconst 0, 1) := by decide +kernel
theorem dX6_drawEnd_3 : decode cX6_drawEnd 3 = .ok (.istore_n 2, 1) := by decide +kernel
theorem dX6_drawEnd_4 : decode cX6_drawEnd 4 = .ok (.iload_n 2, 1) := by decide +kernel
theorem dX6_drawEnd_5 : decode cX6_drawEnd 5 = .ok (.bipush 24, 2) := by decide +kernel
theorem dX6_drawEnd_7 : decode cX6_drawEnd 7 = .ok (.if_icmp .ge 41, 3) := by decide +kernel
theorem dX6_drawEnd_10 : decode cX6_drawEnd 10 = .ok (.aload_n 0, 1) := by decide +kernel
theorem dX6_drawEnd_11 : decode cX6_drawEnd 11 = .ok (.getfield 67, 3) := by decide +kernel
theorem dX6_drawEnd_14 : decode cX6_drawEnd 14 = .ok (.iload_n 1, 1) := by decide +kernel
theorem dX6_drawEnd_15 : decode cX6_drawEnd 15 = .ok (.invokevirtual 172, 3) := by decide +kernel
theorem dX6_drawEnd_18 : decode cX6_drawEnd 18 = .ok (.ifCond .le 30, 3) := by decide +kernel
theorem dX6_drawEnd_21 : decode cX6_drawEnd 21 = .ok (.aload_n 0, 1) := by decide +kernel
theorem dX6_drawEnd_22 : decode cX6_drawEnd 22 = .ok (.getfield 67, 3) := by decide +kernel
theorem dX6_drawEnd_25 : decode cX6_drawEnd 25 = .ok (.iload_n 1, 1) := by decide +kernel
theorem dX6_drawEnd_26 : decode cX6_drawEnd 26 = .ok (.aload_n 0, 1) := by decide +kernel
theorem dX6_drawEnd_27 : decode cX6_drawEnd 27 = .ok (.aload_n 0, 1) := by decide +kernel
theorem dX6_drawEnd_28 : decode cX6_drawEnd 28 = .ok (.getfield 67, 3) := by decide +kernel
theorem dX6_drawEnd_31 : decode cX6_drawEnd 31 = .ok (.iload_n 1, 1) := by decide +kernel
theorem dX6_drawEnd_32 : decode cX6_drawEnd 32 = .ok (.invokevirtual 175, 3) := by decide +kernel
theorem dX6_drawEnd_35 : decode cX6_drawEnd 35 = .ok (.invokevirtual 178, 3) := by decide +kernel
theorem dX6_drawEnd_38 : decode cX6_drawEnd 38 = .ok (.invokevirtual 181, 3) := by decide +kernel
theorem dX6_drawEnd_41 : decode cX6_drawEnd 41 = .ok (.istore_n 1, 1) := by decide +kernel
theorem dX6_drawEnd_42 : decode cX6_drawEnd 42 = .ok (.iinc 2 1, 3) := by decide +kernel
theorem dX6_drawEnd_45 : decode cX6_drawEnd 45 = .ok (.goto (-41), 3) := by decide +kernel
theorem dX6_drawEnd_48 : decode cX6_drawEnd 48 = .ok (.iload_n 1, 1) := by decide +kernel
theorem dX6_drawEnd_49 : decode cX6_drawEnd 49 = .ok (.ireturn, 1) := by decide +kernel
theorem dX6_draw_0 : decode cX6_draw 0 = .ok (.aload_n 0, 1) := by decide +kernel
theorem dX6_draw_1 : decode cX6_draw 1 = .ok (.aload_n 0, 1) := by decide +kernel
theorem dX6_draw_2 : decode cX6_draw 2 = .ok (.getfield 64, 3) := by decide +kernel
theorem dX6_draw_5 : decode cX6_draw 5 = .ok (.ldc 184, 2) := by decide +kernel
theorem dX6_draw_7 : decode cX6_draw 7 = .ok (.imul, 1) := by decide +kernel
theorem dX6_draw_8 : decode cX6_draw 8 = .ok (.ldc 185, 2) := by decide +kernel
theorem dX6_draw_10 : decode cX6_draw 10 = .ok (.iadd, 1) := by decide +kernel
theorem dX6_draw_11 : decode cX6_draw 11 = .ok (.putfield 64, 3) := by decide +kernel
theorem dX6_draw_14 : decode cX6_draw 14 = .ok (.iload_n 1, 1) := by decide +kernel
theorem dX6_draw_15 : decode cX6_draw 15 = .ok (.ifCond .gt 7, 3) := by decide +kernel
theorem dX6_draw_18 : decode cX6_draw 18 = .ok (.iconst 0, 1) := by decide +kernel
theorem dX6_draw_19 : decode cX6_draw 19 = .ok (.goto 16, 3) := by decide +kernel
theorem dX6_draw_22 : decode cX6_draw 22 = .ok (.aload_n 0, 1) := by decide +kernel
theorem dX6_draw_23 : decode cX6_draw 23 = .ok (.getfield 64, 3) := by decide +kernel
theorem dX6_draw_26 : decode cX6_draw 26 = .ok (.ldc 186, 2) := by decide +kernel
theorem dX6_draw_28 : decode cX6_draw 28 = .ok (.iand, 1) := by decide +kernel
theorem dX6_draw_29 : decode cX6_draw 29 = .ok (.sipush 256, 3) := by decide +kernel
theorem dX6_draw_32 : decode cX6_draw 32 = .ok (.idiv, 1) := by decide +kernel
theorem dX6_draw_33 : decode cX6_draw 33 = .ok (.iload_n 1, 1) := by decide +kernel
theorem dX6_draw_34 : decode cX6_draw 34 = .ok (.irem, 1) := by decide +kernel
theorem dX6_draw_35 : decode cX6_draw 35 = .ok (.ireturn, 1) := by decide +kernel
set_option maxRecDepth 20000 in
theorem ggX7_init_X5_init : GoodIn wsX7_init wsX5_init := goodIn_r _ [4, 5, 6, 7, 8, 9, 10, 11, 12, 13, 14, 15, 16, 17, 18, 19, 20, 21, 22, 23, 24, 25, 26, 27, 28, 29, 30] (by decide +kernel) (by decide +kernel)
set_option maxRecDepth 20000 in
theorem gX7_init_X5_init : GoodIn wsX7_init (wsX5_init) := ggX7_init_X5_init
theorem dX7_init_0 : decode cX7_init 0 = .ok (.aload_n 0, 1) := by decide +kernel
theorem dX7_init_1 : decode cX7_init 1 = .ok (.iload_n 1, 1) := by decide +kernel
theorem dX7_init_2 : decode cX7_init 2 = .ok (.iload_n 2, 1) := by decide +kernel
theorem dX7_init_3 : decode cX7_init 3 = .ok (.iload_n 3, 1) := by decide +kernel
theorem dX7_init_4 : decode cX7_init 4 = .ok (.invokespecial 3, 3) := by decide +kernel
theorem dX7_init_7 : decode cX7_init 7 = .ok (.return_, 1) := by decide +kernel
theorem dX7_kind_0 : decode cX7_kind 0 = .ok (.iconst 1, 1) := by decide +kernel
theorem dX7_kind_1 : decode cX7_kind 1 = .ok (.ireturn, 1) := by decide +kernel
set_option maxRecDepth 20000 in
theorem ggX7_wishes_X1_hundredths : GoodIn wsX7_wishes wsX1_hundredths := goodIn_r _ [8, 9, 10, 11, 12, 13, 14, 71, 72, 73, 74, 75, 76, 77, 78, 79, 80, 81, 82, 83, 84, 85, 86, 87, 88, 89, 90] (by decide +kernel) (by decide +kernel)
set_option maxRecDepth 20000 in
theorem gX7_wishes_X1_hundredths_u15X1 : GoodIn wsX7_wishes (va_wsO RX7 15 RX1 "BeforeTheEnd$Sure" ⟨"BeforeTheEnd$Sure", "hundredths", "(Z)I"⟩ yX1_hundredths wsX1_hundredths) := goodIn_app (goodIn_of _ (by decide +kernel)) ggX7_wishes_X1_hundredths
set_option maxRecDepth 20000 in
theorem ggX7_wishes_X4_hundredths : GoodIn wsX7_wishes wsX4_hundredths := goodIn_r _ [19, 20, 21, 71, 72, 73, 74, 75, 76, 77, 78, 79, 80, 81, 82, 83, 84, 85, 86, 87, 88, 89, 90] (by decide +kernel) (by decide +kernel)
set_option maxRecDepth 20000 in
theorem gX7_wishes_X4_hundredths_u15X4 : GoodIn wsX7_wishes (va_wsO RX7 15 RX4 "BeforeTheEnd$Sure" ⟨"BeforeTheEnd$Sure", "hundredths", "(Z)I"⟩ yX4_hundredths wsX4_hundredths) := goodIn_app (goodIn_of _ (by decide +kernel)) ggX7_wishes_X4_hundredths
set_option maxRecDepth 20000 in
theorem ggX7_wishes_X7_hundredths : GoodIn wsX7_wishes wsX7_hundredths := goodIn_r _ [15, 26, 27, 71, 72, 73, 74, 75, 76, 77, 78, 79, 80, 81, 82, 83, 84, 85, 86, 87, 88, 89, 90] (by decide +kernel) (by decide +kernel)
set_option maxRecDepth 20000 in
theorem gX7_wishes_X7_hundredths : GoodIn wsX7_wishes (wsV RX7 15 RX7 yX7_hundredths wsX7_hundredths) := goodIn_app (goodIn_of _ (by decide +kernel)) ggX7_wishes_X7_hundredths
set_option maxRecDepth 20000 in
theorem ggX7_wishes_X10_sureBits : GoodIn wsX7_wishes wsX10_sureBits := goodIn_r _ [32, 33, 34, 35, 36, 37, 38, 31, 39, 40, 41, 42, 43, 44, 45, 46, 47, 48, 91, 92, 93, 94, 95, 96, 97, 98, 99, 100, 101, 102, 103, 104, 105, 106] (by decide +kernel) (by decide +kernel)
set_option maxRecDepth 20000 in
theorem gX7_wishes_X10_sureBits : GoodIn wsX7_wishes (wsV RX7 21 RX10 yX10_sureBits wsX10_sureBits) := goodIn_app (goodIn_of _ (by decide +kernel)) ggX7_wishes_X10_sureBits
set_option maxRecDepth 20000 in
theorem ggX7_wishes_X10_endBits : GoodIn wsX7_wishes wsX10_endBits := goodIn_r _ [52, 33, 53, 91, 92, 93, 94, 95, 96, 97, 98, 99, 100, 101, 102, 103, 104, 105, 106] (by decide +kernel) (by decide +kernel)
set_option maxRecDepth 20000 in
theorem gX7_wishes_X10_endBits : GoodIn wsX7_wishes (wsV RX7 27 RX10 yX10_endBits wsX10_endBits) := goodIn_app (goodIn_of _ (by decide +kernel)) ggX7_wishes_X10_endBits
theorem dX7_wishes_0 : decode cX7_wishes 0 = .ok (.aload_n 1, 1) := by decide +kernel
theorem dX7_wishes_1 : decode cX7_wishes 1 = .ok (.getfield 9, 3) := by decide +kernel
theorem dX7_wishes_4 : decode cX7_wishes 4 = .ok (.iload_n 2, 1) := by decide +kernel
theorem dX7_wishes_5 : decode cX7_wishes 5 = .ok (.aload_n 0, 1) := by decide +kernel
theorem dX7_wishes_6 : decode cX7_wishes 6 = .ok (.iload_n 3, 1) := by decide +kernel
theorem dX7_wishes_7 : decode cX7_wishes 7 = .ok (.invokevirtual 15, 3) := by decide +kernel
theorem dX7_wishes_10 : decode cX7_wishes 10 = .ok (.invokevirtual 21, 3) := by decide +kernel
theorem dX7_wishes_13 : decode cX7_wishes 13 = .ok (.aload_n 1, 1) := by decide +kernel
theorem dX7_wishes_14 : decode cX7_wishes 14 = .ok (.getfield 9, 3) := by decide +kernel
theorem dX7_wishes_17 : decode cX7_wishes 17 = .ok (.invokevirtual 27, 3) := by decide +kernel
theorem dX7_wishes_20 : decode cX7_wishes 20 = .ok (.ior, 1) := by decide +kernel
theorem dX7_wishes_21 : decode cX7_wishes 21 = .ok (.ireturn, 1) := by decide +kernel
theorem dX7_hundredths_0 : decode cX7_hundredths 0 = .ok (.aload_n 0, 1) := by decide +kernel
theorem dX7_hundredths_1 : decode cX7_hundredths 1 = .ok (.getfield 31, 3) := by decide +kernel
theorem dX7_hundredths_4 : decode cX7_hundredths 4 = .ok (.ireturn, 1) := by decide +kernel
theorem dX8_init_0 : decode cX8_init 0 = .ok (.aload_n 0, 1) := by decide +kernel
theorem dX8_init_1 : decode cX8_init 1 = .ok (.invokespecial 3, 3) := by decide +kernel
theorem dX8_init_4 : decode cX8_init 4 = .ok (.aload_n 0, 1) := by decide +kernel
theorem dX8_init_5 : decode cX8_init 5 = .ok (.bipush 64, 2) := by decide +kernel
theorem dX8_init_7 : decode cX8_init 7 = .ok (.newarray .int, 2) := by decide +kernel
theorem dX8_init_9 : decode cX8_init 9 = .ok (.putfield 9, 3) := by decide +kernel
theorem dX8_init_12 : decode cX8_init 12 = .ok (.aload_n 0, 1) := by decide +kernel
theorem dX8_init_13 : decode cX8_init 13 = .ok (.iconst 0, 1) := by decide +kernel
theorem dX8_init_14 : decode cX8_init 14 = .ok (.putfield 15, 3) := by decide +kernel
theorem dX8_init_17 : decode cX8_init 17 = .ok (.aload_n 0, 1) := by decide +kernel
theorem dX8_init_18 : decode cX8_init 18 = .ok (.iconst 0, 1) := by decide +kernel
theorem dX8_init_19 : decode cX8_init 19 = .ok (.putfield 19, 3) := by decide +kernel
theorem dX8_init_22 : decode cX8_init 22 = .ok (.aload_n 0, 1) := by decide +kernel
theorem dX8_init_23 : decode cX8_init 23 = .ok (.iconst 0, 1) := by decide +kernel
theorem dX8_init_24 : decode cX8_init 24 = .ok (.putfield 22, 3) := by decide +kernel
theorem dX8_init_27 : decode cX8_init 27 = .ok (.aload_n 0, 1) := by decide +kernel
theorem dX8_init_28 : decode cX8_init 28 = .ok (.iconst 0, 1) := by decide +kernel
theorem dX8_init_29 : decode cX8_init 29 = .ok (.putfield 26, 3) := by decide +kernel
theorem dX8_init_32 : decode cX8_init 32 = .ok (.aload_n 0, 1) := by decide +kernel
theorem dX8_init_33 : decode cX8_init 33 = .ok (.iconst 0, 1) := by decide +kernel
theorem dX8_init_34 : decode cX8_init 34 = .ok (.putfield 29, 3) := by decide +kernel
theorem dX8_init_37 : decode cX8_init 37 = .ok (.aload_n 0, 1) := by decide +kernel
theorem dX8_init_38 : decode cX8_init 38 = .ok (.iconst 0, 1) := by decide +kernel
theorem dX8_init_39 : decode cX8_init 39 = .ok (.putfield 32, 3) := by decide +kernel
theorem dX8_init_42 : decode cX8_init 42 = .ok (.aload_n 0, 1) := by decide +kernel
theorem dX8_init_43 : decode cX8_init 43 = .ok (.iconst 0, 1) := by decide +kernel
theorem dX8_init_44 : decode cX8_init 44 = .ok (.putfield 35, 3) := by decide +kernel
theorem dX8_init_47 : decode cX8_init 47 = .ok (.aload_n 0, 1) := by decide +kernel
theorem dX8_init_48 : decode cX8_init 48 = .ok (.iconst 0, 1) := by decide +kernel
theorem dX8_init_49 : decode cX8_init 49 = .ok (.putfield 38, 3) := by decide +kernel
theorem dX8_init_52 : decode cX8_init 52 = .ok (.aload_n 0, 1) := by decide +kernel
theorem dX8_init_53 : decode cX8_init 53 = .ok (.iconst 0, 1) := by decide +kernel
theorem dX8_init_54 : decode cX8_init 54 = .ok (.putfield 41, 3) := by decide +kernel
theorem dX8_init_57 : decode cX8_init 57 = .ok (.aload_n 0, 1) := by decide +kernel
theorem dX8_init_58 : decode cX8_init 58 = .ok (.iconst 0, 1) := by decide +kernel
theorem dX8_init_59 : decode cX8_init 59 = .ok (.putfield 44, 3) := by decide +kernel
theorem dX8_init_62 : decode cX8_init 62 = .ok (.aload_n 0, 1) := by decide +kernel
theorem dX8_init_63 : decode cX8_init 63 = .ok (.iconst 0, 1) := by decide +kernel
theorem dX8_init_64 : decode cX8_init 64 = .ok (.putfield 47, 3) := by decide +kernel
theorem dX8_init_67 : decode cX8_init 67 = .ok (.return_, 1) := by decide +kernel
theorem dX8_size_0 : decode cX8_size 0 = .ok (.aload_n 0, 1) := by decide +kernel
theorem dX8_size_1 : decode cX8_size 1 = .ok (.getfield 15, 3) := by decide +kernel
theorem dX8_size_4 : decode cX8_size 4 = .ok (.ireturn, 1) := by decide +kernel
theorem dX8_append_0 : decode cX8_append 0 = .ok (.aload_n 0, 1) := by decide +kernel
theorem dX8_append_1 : decode cX8_append 1 = .ok (.getfield 15, 3) := by decide +kernel
theorem dX8_append_4 : decode cX8_append 4 = .ok (.ifCond .lt 12, 3) := by decide +kernel
theorem dX8_append_7 : decode cX8_append 7 = .ok (.aload_n 0, 1) := by decide +kernel
theorem dX8_append_8 : decode cX8_append 8 = .ok (.getfield 15, 3) := by decide +kernel
theorem dX8_append_11 : decode cX8_append 11 = .ok (.bipush 64, 2) := by decide +kernel
theorem dX8_append_13 : decode cX8_append 13 = .ok (.if_icmp .lt 4, 3) := by decide +kernel
theorem dX8_append_16 : decode cX8_append 16 = .ok (.return_, 1) := by decide +kernel
theorem dX8_append_17 : decode cX8_append 17 = .ok (.aload_n 0, 1) := by decide +kernel
theorem dX8_append_18 : decode cX8_append 18 = .ok (.getfield 9, 3) := by decide +kernel
theorem dX8_append_21 : decode cX8_append 21 = .ok (.aload_n 0, 1) := by decide +kernel
theorem dX8_append_22 : decode cX8_append 22 = .ok (.getfield 15, 3) := by decide +kernel
theorem dX8_append_25 : decode cX8_append 25 = .ok (.iload_n 1, 1) := by decide +kernel
theorem dX8_append_26 : decode cX8_append 26 = .ok (.iastore, 1) := by decide +kernel
theorem dX8_append_27 : decode cX8_append 27 = .ok (.aload_n 0, 1) := by decide +kernel
theorem dX8_append_28 : decode cX8_append 28 = .ok (.dup, 1) := by decide +kernel
theorem dX8_append_29 : decode cX8_append 29 = .ok (.getfield 15, 3) := by decide +kernel
theorem dX8_append_32 : decode cX8_append 32 = .ok (.iconst 1, 1) := by decide +kernel
theorem dX8_append_33 : decode cX8_append 33 = .ok (.iadd, 1) := by decide +kernel
theorem dX8_append_34 : decode cX8_append 34 = .ok (.putfield 15, 3) := by decide +kernel
theorem dX8_append_37 : decode cX8_append 37 = .ok (.return_, 1) := by decide +kernel
theorem dX8_clear_0 : decode cX8_clear 0 = .ok (.aload_n 0, 1) := by decide +kernel
theorem dX8_clear_1 : decode cX8_clear 1 = .ok (.iconst 0, 1) := by decide +kernel
theorem dX8_clear_2 : decode cX8_clear 2 = .ok (.putfield 15, 3) := by decide +kernel
theorem dX8_clear_5 : decode cX8_clear 5 = .ok (.return_, 1) := by decide +kernel
set_option maxRecDepth 20000 in
theorem ggX8_takeQuiz_X8_firstBadByte : GoodIn wsX8_takeQuiz wsX8_firstBadByte := goodIn_r _ [7, 1, 2, 8, 9, 10, 6, 11, 12, 13, 14, 15, 16, 17, 18, 19, 20, 21, 22, 23, 24, 25, 26, 27, 28, 29, 30, 31, 32, 33, 34, 35, 36, 37, 38, 39, 40, 41, 42, 43, 44, 45, 46, 47, 48, 49, 50, 51, 52, 53, 54, 55, 56, 57, 58, 59, 60, 61, 62, 63, 64, 65, 66, 67, 68, 69, 70, 71, 72, 73, 74, 75, 76, 77, 78, 79, 80, 81, 82, 83, 84, 85, 86, 87, 88, 89, 90, 91, 92, 93, 94, 95, 96, 97, 98, 99, 100, 101, 102, 103, 104, 105, 106, 107, 108, 109, 110, 111, 112, 113, 114, 115, 116, 117, 118, 119, 120, 121, 122, 123, 124, 125, 126, 127, 128, 129, 130, 131, 132, 133, 134, 135, 136, 137, 138, 238, 239, 240, 241, 242, 243, 244, 245, 246, 247, 248, 249] (by decide +kernel) (by decide +kernel)
set_option maxRecDepth 20000 in
theorem gX8_takeQuiz_X8_firstBadByte : GoodIn wsX8_takeQuiz (wsV RX8 50 RX8 yX8_firstBadByte wsX8_firstBadByte) := goodIn_app (goodIn_of _ (by decide +kernel)) ggX8_takeQuiz_X8_firstBadByte
set_option maxRecDepth 20000 in
theorem ggX8_takeQuiz_X10_size : GoodIn wsX8_takeQuiz wsX10_size := goodIn_r _ [143, 144, 250, 251, 252, 253, 254, 255, 256, 257, 258, 259, 260, 261, 262, 263, 264, 265] (by decide +kernel) (by decide +kernel)
set_option maxRecDepth 20000 in
theorem gX8_takeQuiz_X10_size : GoodIn wsX8_takeQuiz (wsV RX8 54 RX10 yX10_size wsX10_size) := goodIn_app (goodIn_of _ (by decide +kernel)) ggX8_takeQuiz_X10_size
set_option maxRecDepth 20000 in
theorem ggX8_takeQuiz_X6_size : GoodIn wsX8_takeQuiz wsX6_size := goodIn_r _ [149, 150, 266, 267, 268, 269, 270, 271, 272, 273, 274, 275, 276, 277, 278, 279, 280, 281, 282] (by decide +kernel) (by decide +kernel)
set_option maxRecDepth 20000 in
theorem gX8_takeQuiz_X6_size : GoodIn wsX8_takeQuiz (wsV RX8 59 RX6 yX6_size wsX6_size) := goodIn_app (goodIn_of _ (by decide +kernel)) ggX8_takeQuiz_X6_size
set_option maxRecDepth 20000 in
theorem ggX8_takeQuiz_X8_readStatement : GoodIn wsX8_takeQuiz wsX8_readStatement := goodIn_r _ [11, 12, 13, 14, 15, 6, 16, 1, 17, 18, 19, 20, 2, 21, 22, 23, 24, 25, 26, 27, 28, 29, 30, 31, 32, 33, 34, 35, 36, 37, 38, 39, 40, 41, 42, 43, 44, 45, 46, 47, 48, 49, 50, 51, 52, 53, 54, 55, 56, 57, 58, 59, 60, 61, 62, 63, 64, 65, 66, 67, 68, 69, 70, 71, 72, 73, 74, 75, 76, 77, 78, 79, 80, 81, 82, 83, 84, 85, 86, 87, 88, 89, 90, 91, 92, 93, 94, 95, 96, 97, 98, 99, 100, 101, 102, 103, 104, 105, 106, 107, 108, 109, 110, 111, 112, 113, 114, 115, 116, 117, 118, 119, 120, 121, 122, 123, 124, 125, 126, 127, 128, 129, 130, 131, 132, 133, 134, 135, 136, 137, 138, 238, 239, 240, 241, 242, 243, 244, 245, 246, 247, 248, 249] (by decide +kernel) (by decide +kernel)
set_option maxRecDepth 20000 in
theorem gX8_takeQuiz_X8_readStatement : GoodIn wsX8_takeQuiz (wsV RX8 62 RX8 yX8_readStatement wsX8_readStatement) := goodIn_app (goodIn_of _ (by decide +kernel)) ggX8_takeQuiz_X8_readStatement
set_option maxRecDepth 20000 in
theorem ggX8_takeQuiz_X8_takeStatement : GoodIn wsX8_takeQuiz wsX8_takeStatement := goodIn_r _ [154, 12, 26, 27, 28, 138, 37, 38, 39, 137, 155, 156, 157, 142, 158, 144, 159, 160, 161, 162, 163, 164, 165, 166, 167, 168, 169, 170, 171, 172, 148, 173, 150, 174, 175, 176, 177, 178, 179, 180, 181, 182, 183, 184, 185, 186, 187, 188, 189, 190, 191, 192, 193, 194, 195, 196, 197, 198, 199, 200, 201, 202, 203, 204, 205, 206, 207, 208, 209, 210, 211, 212, 213, 214, 215, 216, 217, 218, 219, 220, 221, 222, 223, 224, 225, 226, 227, 228, 229, 238, 239, 240, 241, 242, 243, 244, 245, 246, 247, 248, 249, 250, 251, 252, 253, 254, 255, 256, 257, 258, 259, 260, 261, 262, 263, 264, 265, 266, 267, 268, 269, 270, 271, 272, 273, 274, 275, 276, 277, 278, 279, 280, 281, 282, 283, 284, 285, 286, 287, 288, 289, 290, 291, 292, 293, 294, 295, 296, 297, 298, 299, 300, 301, 302] (by decide +kernel) (by decide +kernel)
set_option maxRecDepth 20000 in
theorem gX8_takeQuiz_X8_takeStatement : GoodIn wsX8_takeQuiz (wsV RX8 66 RX8 yX8_takeStatement wsX8_takeStatement) := goodIn_app (goodIn_of _ (by decide +kernel)) ggX8_takeQuiz_X8_takeStatement
set_option maxRecDepth 20000 in
theorem ggX8_takeQuiz_X10_cutBack : GoodIn wsX8_takeQuiz wsX10_cutBack := goodIn_r _ [233, 144, 250, 251, 252, 253, 254, 255, 256, 257, 258, 259, 260, 261, 262, 263, 264, 265] (by decide +kernel) (by decide +kernel)
set_option maxRecDepth 20000 in
theorem gX8_takeQuiz_X10_cutBack : GoodIn wsX8_takeQuiz (wsV RX8 70 RX10 yX10_cutBack wsX10_cutBack) := goodIn_app (goodIn_of _ (by decide +kernel)) ggX8_takeQuiz_X10_cutBack
set_option maxRecDepth 20000 in
theorem ggX8_takeQuiz_X6_cutBack : GoodIn wsX8_takeQuiz wsX6_cutBack := goodIn_r _ [237, 150, 266, 267, 268, 269, 270, 271, 272, 273, 274, 275, 276, 277, 278, 279, 280, 281, 282] (by decide +kernel) (by decide +kernel)
set_option maxRecDepth 20000 in
theorem gX8_takeQuiz_X6_cutBack : GoodIn wsX8_takeQuiz (wsV RX8 74 RX6 yX6_cutBack wsX6_cutBack) := goodIn_app (goodIn_of _ (by decide +kernel)) ggX8_takeQuiz_X6_cutBack
theorem dX8_takeQuiz_0 : decode cX8_takeQuiz 0 = .ok (.aload_n 0, 1) := by decide +kernel
theorem dX8_takeQuiz_1 : decode cX8_takeQuiz 1 = .ok (.invokevirtual 50, 3) := by decide +kernel
theorem dX8_takeQuiz_4 : decode cX8_takeQuiz 4 = .ok (.istore_n 3, 1) := by decide +kernel
theorem dX8_takeQuiz_5 : decode cX8_takeQuiz 5 = .ok (.iload_n 3, 1) := by decide +kernel
theorem dX8_takeQuiz_6 : decode cX8_takeQuiz 6 = .ok (.ifCond .lt 9, 3) := by decide +kernel
theorem dX8_takeQuiz_9 : decode cX8_takeQuiz 9 = .ok (.sipush (-1000), 3) := by decide +kernel
theorem dX8_takeQuiz_12 : decode cX8_takeQuiz 12 = .ok (.iload_n 3, 1) := by decide +kernel
theorem dX8_takeQuiz_13 : decode cX8_takeQuiz 13 = .ok (.isub, 1) := by decide +kernel
theorem dX8_takeQuiz_14 : decode cX8_takeQuiz 14 = .ok (.ireturn, 1) := by decide +kernel
theorem dX8_takeQuiz_15 : decode cX8_takeQuiz 15 = .ok (.aload_n 1, 1) := by decide +kernel
theorem dX8_takeQuiz_16 : decode cX8_takeQuiz 16 = .ok (.invokevirtual 54, 3) := by decide +kernel
theorem dX8_takeQuiz_19 : decode cX8_takeQuiz 19 = .ok (.istore 4, 2) := by decide +kernel
theorem dX8_takeQuiz_21 : decode cX8_takeQuiz 21 = .ok (.aload_n 2, 1) := by decide +kernel
theorem dX8_takeQuiz_22 : decode cX8_takeQuiz 22 = .ok (.invokevirtual 59, 3) := by decide +kernel
theorem dX8_takeQuiz_25 : decode cX8_takeQuiz 25 = .ok (.istore 5, 2) := by decide +kernel
theorem dX8_takeQuiz_27 : decode cX8_takeQuiz 27 = .ok (.iconst 0, 1) := by decide +kernel
theorem dX8_takeQuiz_28 : decode cX8_takeQuiz 28 = .ok (.istore 6, 2) := by decide +kernel
theorem dX8_takeQuiz_30 : decode cX8_takeQuiz 30 = .ok (.aload_n 0, 1) := by decide +kernel
theorem dX8_takeQuiz_31 : decode cX8_takeQuiz 31 = .ok (.iconst 0, 1) := by decide +kernel
theorem dX8_takeQuiz_32 : decode cX8_takeQuiz 32 = .ok (.putfield 19, 3) := by decide +kernel
theorem dX8_takeQuiz_35 : decode cX8_takeQuiz 35 = .ok (.aload_n 0, 1) := by decide +kernel
theorem dX8_takeQuiz_36 : decode cX8_takeQuiz 36 = .ok (.getfield 19, 3) := by decide +kernel
theorem dX8_takeQuiz_39 : decode cX8_takeQuiz 39 = .ok (.aload_n 0, 1) := by decide +kernel
theorem dX8_takeQuiz_40 : decode cX8_takeQuiz 40 = .ok (.getfield 15, 3) := by decide +kernel
theorem dX8_takeQuiz_43 : decode cX8_takeQuiz 43 = .ok (.if_icmp .ge 55, 3) := by decide +kernel
theorem dX8_takeQuiz_46 : decode cX8_takeQuiz 46 = .ok (.iload 6, 2) := by decide +kernel
theorem dX8_takeQuiz_48 : decode cX8_takeQuiz 48 = .ok (.bipush 64, 2) := by decide +kernel
theorem dX8_takeQuiz_50 : decode cX8_takeQuiz 50 = .ok (.if_icmp .ge 48, 3) := by decide +kernel
theorem dX8_takeQuiz_53 : decode cX8_takeQuiz 53 = .ok (.aload_n 0, 1) := by decide +kernel
theorem dX8_takeQuiz_54 : decode cX8_takeQuiz 54 = .ok (.getfield 19, 3) := by decide +kernel
theorem dX8_takeQuiz_57 : decode cX8_takeQuiz 57 = .ok (.istore 7, 2) := by decide +kernel
theorem dX8_takeQuiz_59 : decode cX8_takeQuiz 59 = .ok (.aload_n 0, 1) := by decide +kernel
theorem dX8_takeQuiz_60 : decode cX8_takeQuiz 60 = .ok (.invokevirtual 62, 3) := by decide +kernel
theorem dX8_takeQuiz_63 : decode cX8_takeQuiz 63 = .ok (.pop, 1) := by decide +kernel
theorem dX8_takeQuiz_64 : decode cX8_takeQuiz 64 = .ok (.aload_n 0, 1) := by decide +kernel
theorem dX8_takeQuiz_65 : decode cX8_takeQuiz 65 = .ok (.aload_n 1, 1) := by decide +kernel
theorem dX8_takeQuiz_66 : decode cX8_takeQuiz 66 = .ok (.aload_n 2, 1) := by decide +kernel
theorem dX8_takeQuiz_67 : decode cX8_takeQuiz 67 = .ok (.invokevirtual 66, 3) := by decide +kernel
theorem dX8_takeQuiz_70 : decode cX8_takeQuiz 70 = .ok (.ifCond .ne 22, 3) := by decide +kernel
theorem dX8_takeQuiz_73 : decode cX8_takeQuiz 73 = .ok (.aload_n 1, 1) := by decide +kernel
theorem dX8_takeQuiz_74 : decode cX8_takeQuiz 74 = .ok (.iload 4, 2) := by decide +kernel
theorem dX8_takeQuiz_76 : decode cX8_takeQuiz 76 = .ok (.invokevirtual 70, 3) := by decide +kernel
theorem dX8_takeQuiz_79 : decode cX8_takeQuiz 79 = .ok (.aload_n 2, 1) := by decide +kernel
theorem dX8_takeQuiz_80 : decode cX8_takeQuiz 80 = .ok (.iload 5, 2) := by decide +kernel
theorem dX8_takeQuiz_82 : decode cX8_takeQuiz 82 = .ok (.invokevirtual 74, 3) := by decide +kernel
theorem dX8_takeQuiz_85 : decode cX8_takeQuiz 85 = .ok (.sipush (-2000), 3) := by decide +kernel
theorem dX8_takeQuiz_88 : decode cX8_takeQuiz 88 = .ok (.iload 7, 2) := by decide +kernel
theorem dX8_takeQuiz_90 : decode cX8_takeQuiz 90 = .ok (.isub, 1) := by decide +kernel
theorem dX8_takeQuiz_91 : decode cX8_takeQuiz 91 = .ok (.ireturn, 1) := by decide +kernel
theorem dX8_takeQuiz_92 : decode cX8_takeQuiz 92 = .ok (.iinc 6 1, 3) := by decide +kernel
theorem dX8_takeQuiz_95 : decode cX8_takeQuiz 95 = .ok (.goto (-60), 3) := by decide +kernel
theorem dX8_takeQuiz_98 : decode cX8_takeQuiz 98 = .ok (.iload 6, 2) := by decide +kernel
theorem dX8_takeQuiz_100 : decode cX8_takeQuiz 100 = .ok (.ireturn, 1) := by decide +kernel
set_option maxRecDepth 20000 in
theorem ggX8_firstBadByte_X8_readStatement : GoodIn wsX8_firstBadByte wsX8_readStatement := goodIn_r _ [7, 8, 9, 10, 11, 6, 12, 1, 13, 14, 15, 16, 2, 17, 18, 19, 20, 21, 22, 23, 24, 25, 26, 27, 28, 29, 30, 31, 32, 33, 34, 35, 36, 37, 38, 39, 40, 41, 42, 43, 44, 45, 46, 47, 48, 49, 50, 51, 52, 53, 54, 55, 56, 57, 58, 59, 60, 61, 62, 63, 64, 65, 66, 67, 68, 69, 70, 71, 72, 73, 74, 75, 76, 77, 78, 79, 80, 81, 82, 83, 84, 85, 86, 87, 88, 89, 90, 91, 92, 93, 94, 95, 96, 97, 98, 99, 100, 101, 102, 103, 104, 105, 106, 107, 108, 109, 110, 111, 112, 113, 114, 115, 116, 117, 118, 119, 120, 121, 122, 123, 124, 125, 126, 127, 128, 129, 130, 131, 132, 133, 134, 135, 136, 137, 138, 139, 140, 141, 142, 143, 144, 145, 146] (by decide +kernel) (by decide +kernel)
set_option maxRecDepth 20000 in
theorem gX8_firstBadByte_X8_readStatement : GoodIn wsX8_firstBadByte (wsV RX8 62 RX8 yX8_readStatement wsX8_readStatement) := goodIn_app (goodIn_of _ (by decide +kernel)) ggX8_firstBadByte_X8_readStatement
theorem dX8_firstBadByte_0 : decode cX8_firstBadByte 0 = .ok (.aload_n 0, 1) := by decide +kernel
theorem dX8_firstBadByte_1 : decode cX8_firstBadByte 1 = .ok (.iconst 0, 1) := by decide +kernel
theorem dX8_firstBadByte_2 : decode cX8_firstBadByte 2 = .ok (.putfield 19, 3) := by decide +kernel
theorem dX8_firstBadByte_5 : decode cX8_firstBadByte 5 = .ok (.iconst 0, 1) := by decide +kernel
theorem dX8_firstBadByte_6 : decode cX8_firstBadByte 6 = .ok (.istore_n 1, 1) := by decide +kernel
theorem dX8_firstBadByte_7 : decode cX8_firstBadByte 7 = .ok (.iload_n 1, 1) := by decide +kernel
theorem dX8_firstBadByte_8 : decode cX8_firstBadByte 8 = .ok (.bipush 64, 2) := by decide +kernel
theorem dX8_firstBadByte_10 : decode cX8_firstBadByte 10 = .ok (.if_icmp .ge 36, 3) := by decide +kernel
theorem dX8_firstBadByte_13 : decode cX8_firstBadByte 13 = .ok (.iload_n 1, 1) := by decide +kernel
theorem dX8_firstBadByte_14 : decode cX8_firstBadByte 14 = .ok (.ifCond .eq 14, 3) := by decide +kernel
theorem dX8_firstBadByte_17 : decode cX8_firstBadByte 17 = .ok (.aload_n 0, 1) := by decide +kernel
theorem dX8_firstBadByte_18 : decode cX8_firstBadByte 18 = .ok (.getfield 19, 3) := by decide +kernel
theorem dX8_firstBadByte_21 : decode cX8_firstBadByte 21 = .ok (.aload_n 0, 1) := by decide +kernel
theorem dX8_firstBadByte_22 : decode cX8_firstBadByte 22 = .ok (.getfield 15, 3) := by decide +kernel
theorem dX8_firstBadByte_25 : decode cX8_firstBadByte 25 = .ok (.if_icmp .ge 21, 3) := by decide +kernel
theorem dX8_firstBadByte_28 : decode cX8_firstBadByte 28 = .ok (.aload_n 0, 1) := by decide +kernel
theorem dX8_firstBadByte_29 : decode cX8_firstBadByte 29 = .ok (.invokevirtual 62, 3) := by decide +kernel
theorem dX8_firstBadByte_32 : decode cX8_firstBadByte 32 = .ok (.ifCond .ne 8, 3) := by decide +kernel
theorem dX8_firstBadByte_35 : decode cX8_firstBadByte 35 = .ok (.aload_n 0, 1) := by decide +kernel
theorem dX8_firstBadByte_36 : decode cX8_firstBadByte 36 = .ok (.getfield 19, 3) := by decide +kernel
theorem dX8_firstBadByte_39 : decode cX8_firstBadByte 39 = .ok (.ireturn, 1) := by decide +kernel
theorem dX8_firstBadByte_40 : decode cX8_firstBadByte 40 = .ok (.iinc 1 1, 3) := by decide +kernel
theorem dX8_firstBadByte_43 : decode cX8_firstBadByte 43 = .ok (.goto (-36), 3) := by decide +kernel
theorem dX8_firstBadByte_46 : decode cX8_firstBadByte 46 = .ok (.iconst (-1), 1) := by decide +kernel
theorem dX8_firstBadByte_47 : decode cX8_firstBadByte 47 = .ok (.ireturn, 1) := by decide +kernel
set_option maxRecDepth 20000 in
theorem ggX8_takeStatement_X10_append : GoodIn wsX8_takeStatement wsX10_append := goodIn_r _ [14, 15, 16, 17, 18, 19, 20, 21, 13, 22, 23, 24, 25, 26, 101, 102, 103, 104, 105, 106, 107, 108, 109, 110, 111, 112, 113, 114, 115, 116] (by decide +kernel) (by decide +kernel)
set_option maxRecDepth 20000 in
theorem gX8_takeStatement_X10_append : GoodIn wsX8_takeStatement (wsV RX8 75 RX10 yX10_append wsX10_append) := goodIn_app (goodIn_of _ (by decide +kernel)) ggX8_takeStatement_X10_append
set_option maxRecDepth 20000 in
theorem ggX8_takeStatement_X6_append : GoodIn wsX8_takeStatement wsX6_append := goodIn_r _ [31, 32, 33, 34, 35, 36, 37, 38, 39, 40, 41, 42, 43, 44, 45, 46, 47, 48, 49, 50, 51, 52, 53, 54, 55, 56, 57, 58, 59, 60, 61, 62, 63, 64, 65, 66, 67, 68, 69, 70, 71, 72, 73, 74, 75, 76, 77, 78, 79, 80, 81, 82, 83, 84, 85, 86, 87, 88, 117, 118, 119, 120, 121, 122, 123, 124, 125, 126, 127, 128, 129, 130, 131, 132, 133, 134, 135, 136, 137, 138, 139, 140, 141, 142, 143, 144, 145, 146, 147, 148, 149, 150, 151, 152, 153] (by decide +kernel) (by decide +kernel)
set_option maxRecDepth 20000 in
theorem gX8_takeStatement_X6_append : GoodIn wsX8_takeStatement (wsV RX8 79 RX6 yX6_append wsX6_append) := goodIn_app (goodIn_of _ (by decide +kernel)) ggX8_takeStatement_X6_append
theorem dX8_takeStatement_0 : decode cX8_takeStatement 0 = .ok (.aload_n 0, 1) := by decide +kernel
theorem dX8_takeStatement_1 : decode cX8_takeStatement 1 = .ok (.getfield 22, 3) := by decide +kernel
theorem dX8_takeStatement_4 : decode cX8_takeStatement 4 = .ok (.ifCond .eq 20, 3) := by decide +kernel
theorem dX8_takeStatement_7 : decode cX8_takeStatement 7 = .ok (.aload_n 1, 1) := by decide +kernel
theorem dX8_takeStatement_8 : decode cX8_takeStatement 8 = .ok (.aload_n 0, 1) := by decide +kernel
theorem dX8_takeStatement_9 : decode cX8_takeStatement 9 = .ok (.getfield 26, 3) := by decide +kernel
theorem dX8_takeStatement_12 : decode cX8_takeStatement 12 = .ok (.aload_n 0, 1) := by decide +kernel
theorem dX8_takeStatement_13 : decode cX8_takeStatement 13 = .ok (.getfield 29, 3) := by decide +kernel
theorem dX8_takeStatement_16 : decode cX8_takeStatement 16 = .ok (.aload_n 0, 1) := by decide +kernel
theorem dX8_takeStatement_17 : decode cX8_takeStatement 17 = .ok (.getfield 32, 3) := by decide +kernel
theorem dX8_takeStatement_20 : decode cX8_takeStatement 20 = .ok (.invokevirtual 75, 3) := by decide +kernel
theorem dX8_takeStatement_23 : decode cX8_takeStatement 23 = .ok (.ireturn, 1) := by decide +kernel
theorem dX8_takeStatement_24 : decode cX8_takeStatement 24 = .ok (.aload_n 0, 1) := by decide +kernel
theorem dX8_takeStatement_25 : decode cX8_takeStatement 25 = .ok (.getfield 47, 3) := by decide +kernel
theorem dX8_takeStatement_28 : decode cX8_takeStatement 28 = .ok (.ifCond .ne 30, 3) := by decide +kernel
theorem dX8_takeStatement_31 : decode cX8_takeStatement 31 = .ok (.aload_n 2, 1) := by decide +kernel
theorem dX8_takeStatement_32 : decode cX8_takeStatement 32 = .ok (.aload_n 0, 1) := by decide +kernel
theorem dX8_takeStatement_33 : decode cX8_takeStatement 33 = .ok (.getfield 35, 3) := by decide +kernel
theorem dX8_takeStatement_36 : decode cX8_takeStatement 36 = .ok (.aload_n 0, 1) := by decide +kernel
theorem dX8_takeStatement_37 : decode cX8_takeStatement 37 = .ok (.getfield 38, 3) := by decide +kernel
theorem dX8_takeStatement_40 : decode cX8_takeStatement 40 = .ok (.aload_n 0, 1) := by decide +kernel
theorem dX8_takeStatement_41 : decode cX8_takeStatement 41 = .ok (.getfield 41, 3) := by decide +kernel
theorem dX8_takeStatement_44 : decode cX8_takeStatement 44 = .ok (.aload_n 0, 1) := by decide +kernel
theorem dX8_takeStatement_45 : decode cX8_takeStatement 45 = .ok (.getfield 44, 3) := by decide +kernel
theorem dX8_takeStatement_48 : decode cX8_takeStatement 48 = .ok (.invokevirtual 79, 3) := by decide +kernel
theorem dX8_takeStatement_51 : decode cX8_takeStatement 51 = .ok (.ifCond .eq 7, 3) := by decide +kernel
theorem dX8_takeStatement_54 : decode cX8_takeStatement 54 = .ok (.iconst 1, 1) := by decide +kernel
theorem dX8_takeStatement_55 : decode cX8_takeStatement 55 = .ok (.goto 4, 3) := by decide +kernel
theorem dX8_takeStatement_58 : decode cX8_takeStatement 58 = .ok (.iconst 0, 1) := by decide +kernel
theorem dX8_takeStatement_59 : decode cX8_takeStatement 59 = .ok (.ireturn, 1) := by decide +kernel
set_option maxRecDepth 20000 in
theorem ggX8_readStatement_X8_accepts : GoodIn wsX8_readStatement wsX8_accepts := goodIn_r _ [6, 7, 8, 9, 10, 5, 11, 12, 13, 131, 132, 133, 134, 135, 136, 137, 138, 139, 140, 141, 142] (by decide +kernel) (by decide +kernel)
set_option maxRecDepth 20000 in
theorem gX8_readStatement_X8_accepts : GoodIn wsX8_readStatement (wsV RX8 82 RX8 yX8_accepts wsX8_accepts) := goodIn_app (goodIn_of _ (by decide +kernel)) ggX8_readStatement_X8_accepts
set_option maxRecDepth 20000 in
theorem ggX8_readStatement_X8_readWord : GoodIn wsX8_readStatement wsX8_readWord := goodIn_r _ [17, 18, 19, 20, 21, 22, 23, 5, 24, 7, 8, 9, 10, 11, 12, 13, 2, 3, 4, 6, 131, 132, 133, 134, 135, 136, 137, 138, 139, 140, 141, 142] (by decide +kernel) (by decide +kernel)
set_option maxRecDepth 20000 in
theorem gX8_readStatement_X8_readWord : GoodIn wsX8_readStatement (wsV RX8 86 RX8 yX8_readWord wsX8_readWord) := goodIn_app (goodIn_of _ (by decide +kernel)) ggX8_readStatement_X8_readWord
set_option maxRecDepth 20000 in
theorem ggX8_readStatement_X8_readPlayer : GoodIn wsX8_readStatement wsX8_readPlayer := goodIn_r _ [28, 29, 30, 31, 32, 33, 34, 5, 35, 7, 8, 9, 10, 11, 12, 13, 36, 37, 38, 39, 40, 41, 42, 43, 44, 45, 46, 47, 48, 49, 50, 51, 52, 53, 54, 55, 56, 57, 58, 59, 60, 61, 62, 63, 64, 65, 66, 67, 68, 69, 70, 71, 72, 73, 74, 75, 76, 77, 78, 79, 80, 81, 82, 83, 84, 85, 86, 87, 88, 89, 90, 91, 92, 93, 94, 95, 96, 97, 98, 99, 100, 101, 102, 103, 104, 105, 106, 107, 108, 109, 110, 111, 112, 113, 114, 115, 116, 117, 118, 119, 120, 121, 122, 123, 124, 21, 22, 23, 24, 2, 3, 4, 6, 125, 126, 127, 128, 129, 130, 131, 132, 133, 134, 135, 136, 137, 138, 139, 140, 141, 142] (by decide +kernel) (by decide +kernel)
set_option maxRecDepth 20000 in
theorem gX8_readStatement_X8_readPlayer : GoodIn wsX8_readStatement (wsV RX8 89 RX8 yX8_readPlayer wsX8_readPlayer) := goodIn_app (goodIn_of _ (by decide +kernel)) ggX8_readStatement_X8_readPlayer
theorem dX8_readStatement_0 : decode cX8_readStatement 0 = .ok (.aload_n 0, 1) := by decide +kernel
theorem dX8_readStatement_1 : decode cX8_readStatement 1 = .ok (.bipush 119, 2) := by decide +kernel
theorem dX8_readStatement_3 : decode cX8_readStatement 3 = .ok (.invokevirtual 82, 3) := by decide +kernel
theorem dX8_readStatement_6 : decode cX8_readStatement 6 = .ok (.ifCond .eq 13, 3) := by decide +kernel
theorem dX8_readStatement_9 : decode cX8_readStatement 9 = .ok (.aload_n 0, 1) := by decide +kernel
theorem dX8_readStatement_10 : decode cX8_readStatement 10 = .ok (.iconst 1, 1) := by decide +kernel
theorem dX8_readStatement_11 : decode cX8_readStatement 11 = .ok (.putfield 22, 3) := by decide +kernel
theorem dX8_readStatement_14 : decode cX8_readStatement 14 = .ok (.aload_n 0, 1) := by decide +kernel
theorem dX8_readStatement_15 : decode cX8_readStatement 15 = .ok (.invokevirtual 86, 3) := by decide +kernel
theorem dX8_readStatement_18 : decode cX8_readStatement 18 = .ok (.ireturn, 1) := by decide +kernel
theorem dX8_readStatement_19 : decode cX8_readStatement 19 = .ok (.aload_n 0, 1) := by decide +kernel
theorem dX8_readStatement_20 : decode cX8_readStatement 20 = .ok (.iconst 0, 1) := by decide +kernel
theorem dX8_readStatement_21 : decode cX8_readStatement 21 = .ok (.putfield 22, 3) := by decide +kernel
theorem dX8_readStatement_24 : decode cX8_readStatement 24 = .ok (.aload_n 0, 1) := by decide +kernel
theorem dX8_readStatement_25 : decode cX8_readStatement 25 = .ok (.bipush 112, 2) := by decide +kernel
theorem dX8_readStatement_27 : decode cX8_readStatement 27 = .ok (.invokevirtual 82, 3) := by decide +kernel
theorem dX8_readStatement_30 : decode cX8_readStatement 30 = .ok (.ifCond .eq 14, 3) := by decide +kernel
theorem dX8_readStatement_33 : decode cX8_readStatement 33 = .ok (.aload_n 0, 1) := by decide +kernel
theorem dX8_readStatement_34 : decode cX8_readStatement 34 = .ok (.invokevirtual 89, 3) := by decide +kernel
theorem dX8_readStatement_37 : decode cX8_readStatement 37 = .ok (.ifCond .eq 7, 3) := by decide +kernel
theorem dX8_readStatement_40 : decode cX8_readStatement 40 = .ok (.iconst 1, 1) := by decide +kernel
theorem dX8_readStatement_41 : decode cX8_readStatement 41 = .ok (.goto 4, 3) := by decide +kernel
theorem dX8_readStatement_44 : decode cX8_readStatement 44 = .ok (.iconst 0, 1) := by decide +kernel
theorem dX8_readStatement_45 : decode cX8_readStatement 45 = .ok (.ireturn, 1) := by decide +kernel
set_option maxRecDepth 20000 in
theorem ggX8_readWord_X8_readNumber : GoodIn wsX8_readWord wsX8_readNumber := goodIn_r _ [8, 9, 10, 11, 12, 7, 13, 14, 15, 20, 21, 22, 23, 24, 25, 26, 27, 28, 29, 30, 31] (by decide +kernel) (by decide +kernel)
set_option maxRecDepth 20000 in
theorem gX8_readWord_X8_readNumber : GoodIn wsX8_readWord (wsV RX8 92 RX8 yX8_readNumber wsX8_readNumber) := goodIn_app (goodIn_of _ (by decide +kernel)) ggX8_readWord_X8_readNumber
set_option maxRecDepth 20000 in
theorem ggX8_readWord_X8_accepts : GoodIn wsX8_readWord wsX8_accepts := goodIn_r _ [19, 9, 10, 11, 12, 7, 13, 14, 15, 20, 21, 22, 23, 24, 25, 26, 27, 28, 29, 30, 31] (by decide +kernel) (by decide +kernel)
set_option maxRecDepth 20000 in
theorem gX8_readWord_X8_accepts : GoodIn wsX8_readWord (wsV RX8 82 RX8 yX8_accepts wsX8_accepts) := goodIn_app (goodIn_of _ (by decide +kernel)) ggX8_readWord_X8_accepts
theorem dX8_readWord_0 : decode cX8_readWord 0 = .ok (.aload_n 0, 1) := by decide +kernel
theorem dX8_readWord_1 : decode cX8_readWord 1 = .ok (.aload_n 0, 1) := by decide +kernel
theorem dX8_readWord_2 : decode cX8_readWord 2 = .ok (.iconst 2, 1) := by decide +kernel
theorem dX8_readWord_3 : decode cX8_readWord 3 = .ok (.invokevirtual 92, 3) := by decide +kernel
theorem dX8_readWord_6 : decode cX8_readWord 6 = .ok (.putfield 26, 3) := by decide +kernel
theorem dX8_readWord_9 : decode cX8_readWord 9 = .ok (.aload_n 0, 1) := by decide +kernel
theorem dX8_readWord_10 : decode cX8_readWord 10 = .ok (.getfield 26, 3) := by decide +kernel
theorem dX8_readWord_13 : decode cX8_readWord 13 = .ok (.ifCond .lt 12, 3) := by decide +kernel
theorem dX8_readWord_16 : decode cX8_readWord 16 = .ok (.aload_n 0, 1) := by decide +kernel
theorem dX8_readWord_17 : decode cX8_readWord 17 = .ok (.bipush 44, 2) := by decide +kernel
theorem dX8_readWord_19 : decode cX8_readWord 19 = .ok (.invokevirtual 82, 3) := by decide +kernel
theorem dX8_readWord_22 : decode cX8_readWord 22 = .ok (.ifCond .ne 5, 3) := by decide +kernel
theorem dX8_readWord_25 : decode cX8_readWord 25 = .ok (.iconst 0, 1) := by decide +kernel
theorem dX8_readWord_26 : decode cX8_readWord 26 = .ok (.ireturn, 1) := by decide +kernel
theorem dX8_readWord_27 : decode cX8_readWord 27 = .ok (.aload_n 0, 1) := by decide +kernel
theorem dX8_readWord_28 : decode cX8_readWord 28 = .ok (.aload_n 0, 1) := by decide +kernel
theorem dX8_readWord_29 : decode cX8_readWord 29 = .ok (.iconst 1, 1) := by decide +kernel
theorem dX8_readWord_30 : decode cX8_readWord 30 = .ok (.invokevirtual 92, 3) := by decide +kernel
theorem dX8_readWord_33 : decode cX8_readWord 33 = .ok (.putfield 29, 3) := by decide +kernel
theorem dX8_readWord_36 : decode cX8_readWord 36 = .ok (.aload_n 0, 1) := by decide +kernel
theorem dX8_readWord_37 : decode cX8_readWord 37 = .ok (.getfield 29, 3) := by decide +kernel
theorem dX8_readWord_40 : decode cX8_readWord 40 = .ok (.ifCond .lt 12, 3) := by decide +kernel
theorem dX8_readWord_43 : decode cX8_readWord 43 = .ok (.aload_n 0, 1) := by decide +kernel
theorem dX8_readWord_44 : decode cX8_readWord 44 = .ok (.bipush 44, 2) := by decide +kernel
theorem dX8_readWord_46 : decode cX8_readWord 46 = .ok (.invokevirtual 82, 3) := by decide +kernel
theorem dX8_readWord_49 : decode cX8_readWord 49 = .ok (.ifCond .ne 5, 3) := by decide +kernel
theorem dX8_readWord_52 : decode cX8_readWord 52 = .ok (.iconst 0, 1) := by decide +kernel
theorem dX8_readWord_53 : decode cX8_readWord 53 = .ok (.ireturn, 1) := by decide +kernel
theorem dX8_readWord_54 : decode cX8_readWord 54 = .ok (.aload_n 0, 1) := by decide +kernel
theorem dX8_readWord_55 : decode cX8_readWord 55 = .ok (.aload_n 0, 1) := by decide +kernel
theorem dX8_readWord_56 : decode cX8_readWord 56 = .ok (.iconst 1, 1) := by decide +kernel
theorem dX8_readWord_57 : decode cX8_readWord 57 = .ok (.invokevirtual 92, 3) := by decide +kernel
theorem dX8_readWord_60 : decode cX8_readWord 60 = .ok (.putfield 32, 3) := by decide +kernel
theorem dX8_readWord_63 : decode cX8_readWord 63 = .ok (.aload_n 0, 1) := by decide +kernel
theorem dX8_readWord_64 : decode cX8_readWord 64 = .ok (.getfield 32, 3) := by decide +kernel
theorem dX8_readWord_67 : decode cX8_readWord 67 = .ok (.ifCond .lt 16, 3) := by decide +kernel
theorem dX8_readWord_70 : decode cX8_readWord 70 = .ok (.aload_n 0, 1) := by decide +kernel
theorem dX8_readWord_71 : decode cX8_readWord 71 = .ok (.bipush 59, 2) := by decide +kernel
theorem dX8_readWord_73 : decode cX8_readWord 73 = .ok (.invokevirtual 82, 3) := by decide +kernel
theorem dX8_readWord_76 : decode cX8_readWord 76 = .ok (.ifCond .eq 7, 3) := by decide +kernel
theorem dX8_readWord_79 : decode cX8_readWord 79 = .ok (.iconst 1, 1) := by decide +kernel
theorem dX8_readWord_80 : decode cX8_readWord 80 = .ok (.goto 4, 3) := by decide +kernel
theorem dX8_readWord_83 : decode cX8_readWord 83 = .ok (.iconst 0, 1) := by decide +kernel
theorem dX8_readWord_84 : decode cX8_readWord 84 = .ok (.ireturn, 1) := by decide +kernel
set_option maxRecDepth 20000 in
theorem ggX8_readPlayer_X8_readKind : GoodIn wsX8_readPlayer wsX8_readKind := goodIn_r _ [8, 9, 10, 11, 12, 7, 13, 14, 15, 16, 17, 18, 19, 20, 21, 22, 23, 24, 25, 26, 27, 28, 29, 30, 31, 32, 33, 34, 35, 36, 37, 38, 39, 40, 41, 42, 43, 44, 45, 46, 47, 48, 49, 50, 51, 52, 53, 54, 55, 56, 57, 58, 59, 60, 61, 62, 63, 64, 65, 66, 67, 68, 69, 70, 71, 72, 73, 74, 75, 76, 77, 78, 79, 80, 81, 82, 83, 84, 85, 86, 87, 88, 89, 90, 91, 92, 93, 94, 95, 96, 97, 98, 99, 100, 101, 102, 103, 104, 119, 120, 121, 122, 123, 124, 125, 126, 127, 128, 129, 130] (by decide +kernel) (by decide +kernel)
set_option maxRecDepth 20000 in
theorem gX8_readPlayer_X8_readKind : GoodIn wsX8_readPlayer (wsV RX8 96 RX8 yX8_readKind wsX8_readKind) := goodIn_app (goodIn_of _ (by decide +kernel)) ggX8_readPlayer_X8_readKind
set_option maxRecDepth 20000 in
theorem ggX8_readPlayer_X8_readNumber : GoodIn wsX8_readPlayer wsX8_readNumber := goodIn_r _ [108, 9, 10, 11, 12, 7, 13, 14, 15, 119, 120, 121, 122, 123, 124, 125, 126, 127, 128, 129, 130] (by decide +kernel) (by decide +kernel)
set_option maxRecDepth 20000 in
theorem gX8_readPlayer_X8_readNumber : GoodIn wsX8_readPlayer (wsV RX8 92 RX8 yX8_readNumber wsX8_readNumber) := goodIn_app (goodIn_of _ (by decide +kernel)) ggX8_readPlayer_X8_readNumber
set_option maxRecDepth 20000 in
theorem ggX8_readPlayer_X8_accepts : GoodIn wsX8_readPlayer wsX8_accepts := goodIn_r _ [112, 9, 10, 11, 12, 7, 13, 14, 15, 119, 120, 121, 122, 123, 124, 125, 126, 127, 128, 129, 130] (by decide +kernel) (by decide +kernel)
set_option maxRecDepth 20000 in
theorem gX8_readPlayer_X8_accepts : GoodIn wsX8_readPlayer (wsV RX8 82 RX8 yX8_accepts wsX8_accepts) := goodIn_app (goodIn_of _ (by decide +kernel)) ggX8_readPlayer_X8_accepts
set_option maxRecDepth 20000 in
theorem ggX8_readPlayer_X8_readAnswers : GoodIn wsX8_readPlayer wsX8_readAnswers := goodIn_r _ [116, 117, 118, 9, 10, 11, 12, 7, 13, 14, 15, 119, 120, 121, 122, 123, 124, 125, 126, 127, 128, 129, 130] (by decide +kernel) (by decide +kernel)
set_option maxRecDepth 20000 in
theorem gX8_readPlayer_X8_readAnswers : GoodIn wsX8_readPlayer (wsV RX8 99 RX8 yX8_readAnswers wsX8_readAnswers) := goodIn_app (goodIn_of _ (by decide +kernel)) ggX8_readPlayer_X8_readAnswers
theorem dX8_readPlayer_0 : decode cX8_readPlayer 0 = .ok (.aload_n 0, 1) := by decide +kernel
theorem dX8_readPlayer_1 : decode cX8_readPlayer 1 = .ok (.aload_n 0, 1) := by decide +kernel
theorem dX8_readPlayer_2 : decode cX8_readPlayer 2 = .ok (.invokevirtual 96, 3) := by decide +kernel
theorem dX8_readPlayer_5 : decode cX8_readPlayer 5 = .ok (.putfield 35, 3) := by decide +kernel
theorem dX8_readPlayer_8 : decode cX8_readPlayer 8 = .ok (.aload_n 0, 1) := by decide +kernel
theorem dX8_readPlayer_9 : decode cX8_readPlayer 9 = .ok (.getfield 35, 3) := by decide +kernel
theorem dX8_readPlayer_12 : decode cX8_readPlayer 12 = .ok (.ifCond .ge 5, 3) := by decide +kernel
theorem dX8_readPlayer_15 : decode cX8_readPlayer 15 = .ok (.iconst 0, 1) := by decide +kernel
theorem dX8_readPlayer_16 : decode cX8_readPlayer 16 = .ok (.ireturn, 1) := by decide +kernel
theorem dX8_readPlayer_17 : decode cX8_readPlayer 17 = .ok (.aload_n 0, 1) := by decide +kernel
theorem dX8_readPlayer_18 : decode cX8_readPlayer 18 = .ok (.aload_n 0, 1) := by decide +kernel
theorem dX8_readPlayer_19 : decode cX8_readPlayer 19 = .ok (.iconst 1, 1) := by decide +kernel
theorem dX8_readPlayer_20 : decode cX8_readPlayer 20 = .ok (.invokevirtual 92, 3) := by decide +kernel
theorem dX8_readPlayer_23 : decode cX8_readPlayer 23 = .ok (.putfield 38, 3) := by decide +kernel
theorem dX8_readPlayer_26 : decode cX8_readPlayer 26 = .ok (.aload_n 0, 1) := by decide +kernel
theorem dX8_readPlayer_27 : decode cX8_readPlayer 27 = .ok (.getfield 38, 3) := by decide +kernel
theorem dX8_readPlayer_30 : decode cX8_readPlayer 30 = .ok (.ifCond .ge 5, 3) := by decide +kernel
theorem dX8_readPlayer_33 : decode cX8_readPlayer 33 = .ok (.iconst 0, 1) := by decide +kernel
theorem dX8_readPlayer_34 : decode cX8_readPlayer 34 = .ok (.ireturn, 1) := by decide +kernel
theorem dX8_readPlayer_35 : decode cX8_readPlayer 35 = .ok (.aload_n 0, 1) := by decide +kernel
theorem dX8_readPlayer_36 : decode cX8_readPlayer 36 = .ok (.aload_n 0, 1) := by decide +kernel
theorem dX8_readPlayer_37 : decode cX8_readPlayer 37 = .ok (.iconst 3, 1) := by decide +kernel
theorem dX8_readPlayer_38 : decode cX8_readPlayer 38 = .ok (.invokevirtual 92, 3) := by decide +kernel
theorem dX8_readPlayer_41 : decode cX8_readPlayer 41 = .ok (.putfield 41, 3) := by decide +kernel
theorem dX8_readPlayer_44 : decode cX8_readPlayer 44 = .ok (.aload_n 0, 1) := by decide +kernel
theorem dX8_readPlayer_45 : decode cX8_readPlayer 45 = .ok (.getfield 41, 3) := by decide +kernel
theorem dX8_readPlayer_48 : decode cX8_readPlayer 48 = .ok (.ifCond .lt 32, 3) := by decide +kernel
theorem dX8_readPlayer_51 : decode cX8_readPlayer 51 = .ok (.aload_n 0, 1) := by decide +kernel
theorem dX8_readPlayer_52 : decode cX8_readPlayer 52 = .ok (.bipush 58, 2) := by decide +kernel
theorem dX8_readPlayer_54 : decode cX8_readPlayer 54 = .ok (.invokevirtual 82, 3) := by decide +kernel
theorem dX8_readPlayer_57 : decode cX8_readPlayer 57 = .ok (.ifCond .eq 23, 3) := by decide +kernel
theorem dX8_readPlayer_60 : decode cX8_readPlayer 60 = .ok (.aload_n 0, 1) := by decide +kernel
theorem dX8_readPlayer_61 : decode cX8_readPlayer 61 = .ok (.invokevirtual 99, 3) := by decide +kernel
theorem dX8_readPlayer_64 : decode cX8_readPlayer 64 = .ok (.ifCond .eq 16, 3) := by decide +kernel
theorem dX8_readPlayer_67 : decode cX8_readPlayer 67 = .ok (.aload_n 0, 1) := by decide +kernel
theorem dX8_readPlayer_68 : decode cX8_readPlayer 68 = .ok (.bipush 59, 2) := by decide +kernel
theorem dX8_readPlayer_70 : decode cX8_readPlayer 70 = .ok (.invokevirtual 82, 3) := by decide +kernel
theorem dX8_readPlayer_73 : decode cX8_readPlayer 73 = .ok (.ifCond .eq 7, 3) := by decide +kernel
theorem dX8_readPlayer_76 : decode cX8_readPlayer 76 = .ok (.iconst 1, 1) := by decide +kernel
theorem dX8_readPlayer_77 : decode cX8_readPlayer 77 = .ok (.goto 4, 3) := by decide +kernel
theorem dX8_readPlayer_80 : decode cX8_readPlayer 80 = .ok (.iconst 0, 1) := by decide +kernel
theorem dX8_readPlayer_81 : decode cX8_readPlayer 81 = .ok (.ireturn, 1) := by decide +kernel
theorem dX8_here_0 : decode cX8_here 0 = .ok (.aload_n 0, 1) := by decide +kernel
theorem dX8_here_1 : decode cX8_here 1 = .ok (.getfield 19, 3) := by decide +kernel
theorem dX8_here_4 : decode cX8_here 4 = .ok (.ifCond .lt 35, 3) := by decide +kernel
theorem dX8_here_7 : decode cX8_here 7 = .ok (.aload_n 0, 1) := by decide +kernel
theorem dX8_here_8 : decode cX8_here 8 = .ok (.getfield 19, 3) := by decide +kernel
theorem dX8_here_11 : decode cX8_here 11 = .ok (.aload_n 0, 1) := by decide +kernel
theorem dX8_here_12 : decode cX8_here 12 = .ok (.getfield 15, 3) := by decide +kernel
theorem dX8_here_15 : decode cX8_here 15 = .ok (.if_icmp .ge 24, 3) := by decide +kernel
theorem dX8_here_18 : decode cX8_here 18 = .ok (.aload_n 0, 1) := by decide +kernel
theorem dX8_here_19 : decode cX8_here 19 = .ok (.getfield 19, 3) := by decide +kernel
theorem dX8_here_22 : decode cX8_here 22 = .ok (.bipush 64, 2) := by decide +kernel
theorem dX8_here_24 : decode cX8_here 24 = .ok (.if_icmp .ge 15, 3) := by decide +kernel
theorem dX8_here_27 : decode cX8_here 27 = .ok (.aload_n 0, 1) := by decide +kernel
theorem dX8_here_28 : decode cX8_here 28 = .ok (.getfield 9, 3) := by decide +kernel
theorem dX8_here_31 : decode cX8_here 31 = .ok (.aload_n 0, 1) := by decide +kernel
theorem dX8_here_32 : decode cX8_here 32 = .ok (.getfield 19, 3) := by decide +kernel
theorem dX8_here_35 : decode cX8_here 35 = .ok (.iaload, 1) := by decide +kernel
theorem dX8_here_36 : decode cX8_here 36 = .ok (.goto 4, 3) := by decide +kernel
theorem dX8_here_39 : decode cX8_here 39 = .ok (.iconst (-1), 1) := by decide +kernel
theorem dX8_here_40 : decode cX8_here 40 = .ok (.ireturn, 1) := by decide +kernel
set_option maxRecDepth 20000 in
theorem ggX8_accepts_X8_here : GoodIn wsX8_accepts wsX8_here := goodIn_r _ [6, 1, 7, 8, 9, 10, 11, 12, 13, 14, 15, 16, 17, 18, 19, 20] (by decide +kernel) (by decide +kernel)
set_option maxRecDepth 20000 in
theorem gX8_accepts_X8_here : GoodIn wsX8_accepts (wsV RX8 102 RX8 yX8_here wsX8_here) := goodIn_app (goodIn_of _ (by decide +kernel)) ggX8_accepts_X8_here
theorem dX8_accepts_0 : decode cX8_accepts 0 = .ok (.aload_n 0, 1) := by decide +kernel
theorem dX8_accepts_1 : decode cX8_accepts 1 = .ok (.invokevirtual 102, 3) := by decide +kernel
theorem dX8_accepts_4 : decode cX8_accepts 4 = .ok (.iload_n 1, 1) := by decide +kernel
theorem dX8_accepts_5 : decode cX8_accepts 5 = .ok (.if_icmp .eq 5, 3) := by decide +kernel
theorem dX8_accepts_8 : decode cX8_accepts 8 = .ok (.iconst 0, 1) := by decide +kernel
theorem dX8_accepts_9 : decode cX8_accepts 9 = .ok (.ireturn, 1) := by decide +kernel
theorem dX8_accepts_10 : decode cX8_accepts 10 = .ok (.aload_n 0, 1) := by decide +kernel
theorem dX8_accepts_11 : decode cX8_accepts 11 = .ok (.dup, 1) := by decide +kernel
theorem dX8_accepts_12 : decode cX8_accepts 12 = .ok (.getfield 19, 3) := by decide +kernel
theorem dX8_accepts_15 : decode cX8_accepts 15 = .ok (.iconst 1, 1) := by decide +kernel
theorem dX8_accepts_16 : decode cX8_accepts 16 = .ok (.iadd, 1) := by decide +kernel
theorem dX8_accepts_17 : decode cX8_accepts 17 = .ok (.putfield 19, 3) := by decide +kernel
theorem dX8_accepts_20 : decode cX8_accepts 20 = .ok (.iconst 1, 1) := by decide +kernel
theorem dX8_accepts_21 : decode cX8_accepts 21 = .ok (.ireturn, 1) := by decide +kernel
set_option maxRecDepth 20000 in
theorem ggX8_readKind_X8_here : GoodIn wsX8_readKind wsX8_here := goodIn_r _ [6, 1, 7, 8, 98, 99, 100, 101, 102, 103, 104, 105, 106, 107, 108, 109] (by decide +kernel) (by decide +kernel)
set_option maxRecDepth 20000 in
theorem gX8_readKind_X8_here : GoodIn wsX8_readKind (wsV RX8 102 RX8 yX8_here wsX8_here) := goodIn_app (goodIn_of _ (by decide +kernel)) ggX8_readKind_X8_here
set_option maxRecDepth 20000 in
theorem ggX8_readKind_J0_indexOf_0f7a4 : GoodIn wsX8_readKind wsJ0_indexOf_0f7a4 := goodIn_r _ [13, 14, 15, 16, 12, 17, 18, 19, 20, 21, 22, 23, 24, 25, 26, 27, 28, 29, 30, 31, 32, 33, 34, 35, 36, 37, 38, 39, 40, 41, 42, 43, 44, 45, 46, 47, 48, 49, 50, 51, 52, 53, 54, 55, 56, 57, 58, 59, 60, 61, 62, 63, 64, 65, 66, 67, 68, 69, 70, 71, 72, 73, 74, 75, 76, 77, 78, 79, 80, 81, 82, 83, 84, 85, 86, 87, 88, 89, 90, 91, 92, 93, 94, 95, 96, 97] (by decide +kernel) (by decide +kernel)
set_option maxRecDepth 20000 in
theorem gX8_readKind_J0_indexOf_0f7a4 : GoodIn wsX8_readKind (wsV RX8 107 RJ0 yJ0_indexOf_0f7a4 wsJ0_indexOf_0f7a4) := goodIn_app (goodIn_of _ (by decide +kernel)) ggX8_readKind_J0_indexOf_0f7a4
theorem dX8_readKind_0 : decode cX8_readKind 0 = .ok (.aload_n 0, 1) := by decide +kernel
theorem dX8_readKind_1 : decode cX8_readKind 1 = .ok (.invokevirtual 102, 3) := by decide +kernel
theorem dX8_readKind_4 : decode cX8_readKind 4 = .ok (.istore_n 1, 1) := by decide +kernel
theorem dX8_readKind_5 : decode cX8_readKind 5 = .ok (.iload_n 1, 1) := by decide +kernel
theorem dX8_readKind_6 : decode cX8_readKind 6 = .ok (.ifCond .ge 7, 3) := by decide +kernel
theorem dX8_readKind_9 : decode cX8_readKind 9 = .ok (.iconst (-1), 1) := by decide +kernel
theorem dX8_readKind_10 : decode cX8_readKind 10 = .ok (.goto 10, 3) := by decide +kernel
theorem dX8_readKind_13 : decode cX8_readKind 13 = .ok (.ldc 105, 2) := by decide +kernel
theorem dX8_readKind_15 : decode cX8_readKind 15 = .ok (.iload_n 1, 1) := by decide +kernel
theorem dX8_readKind_16 : decode cX8_readKind 16 = .ok (.i2c, 1) := by decide +kernel
theorem dX8_readKind_17 : decode cX8_readKind 17 = .ok (.invokevirtual 107, 3) := by decide +kernel
theorem dX8_readKind_20 : decode cX8_readKind 20 = .ok (.istore_n 2, 1) := by decide +kernel
theorem dX8_readKind_21 : decode cX8_readKind 21 = .ok (.iload_n 2, 1) := by decide +kernel
theorem dX8_readKind_22 : decode cX8_readKind 22 = .ok (.ifCond .lt 13, 3) := by decide +kernel
theorem dX8_readKind_25 : decode cX8_readKind 25 = .ok (.aload_n 0, 1) := by decide +kernel
theorem dX8_readKind_26 : decode cX8_readKind 26 = .ok (.dup, 1) := by decide +kernel
theorem dX8_readKind_27 : decode cX8_readKind 27 = .ok (.getfield 19, 3) := by decide +kernel
theorem dX8_readKind_30 : decode cX8_readKind 30 = .ok (.iconst 1, 1) := by decide +kernel
theorem dX8_readKind_31 : decode cX8_readKind 31 = .ok (.iadd, 1) := by decide +kernel
theorem dX8_readKind_32 : decode cX8_readKind 32 = .ok (.putfield 19, 3) := by decide +kernel
theorem dX8_readKind_35 : decode cX8_readKind 35 = .ok (.iload_n 2, 1) := by decide +kernel
theorem dX8_readKind_36 : decode cX8_readKind 36 = .ok (.ireturn, 1) := by decide +kernel
set_option maxRecDepth 20000 in
theorem ggX8_readNumber_X8_here : GoodIn wsX8_readNumber wsX8_here := goodIn_r _ [6, 1, 7, 8, 9, 10, 11, 12, 13, 14, 15, 16, 17, 18, 19, 20] (by decide +kernel) (by decide +kernel)
set_option maxRecDepth 20000 in
theorem gX8_readNumber_X8_here : GoodIn wsX8_readNumber (wsV RX8 102 RX8 yX8_here wsX8_here) := goodIn_app (goodIn_of _ (by decide +kernel)) ggX8_readNumber_X8_here
theorem dX8_readNumber_0 : decode cX8_readNumber 0 = .ok (.iconst (-1), 1) := by decide +kernel
theorem dX8_readNumber_1 : decode cX8_readNumber 1 = .ok (.istore_n 2, 1) := by decide +kernel
theorem dX8_readNumber_2 : decode cX8_readNumber 2 = .ok (.iconst 0, 1) := by decide +kernel
theorem dX8_readNumber_3 : decode cX8_readNumber 3 = .ok (.istore_n 3, 1) := by decide +kernel
theorem dX8_readNumber_4 : decode cX8_readNumber 4 = .ok (.iload_n 3, 1) := by decide +kernel
theorem dX8_readNumber_5 : decode cX8_readNumber 5 = .ok (.iload_n 1, 1) := by decide +kernel
theorem dX8_readNumber_6 : decode cX8_readNumber 6 = .ok (.if_icmp .ge 61, 3) := by decide +kernel
theorem dX8_readNumber_9 : decode cX8_readNumber 9 = .ok (.aload_n 0, 1) := by decide +kernel
theorem dX8_readNumber_10 : decode cX8_readNumber 10 = .ok (.invokevirtual 102, 3) := by decide +kernel
theorem dX8_readNumber_13 : decode cX8_readNumber 13 = .ok (.istore 4, 2) := by decide +kernel
theorem dX8_readNumber_15 : decode cX8_readNumber 15 = .ok (.iload 4, 2) := by decide +kernel
theorem dX8_readNumber_17 : decode cX8_readNumber 17 = .ok (.bipush 48, 2) := by decide +kernel
theorem dX8_readNumber_19 : decode cX8_readNumber 19 = .ok (.if_icmp .lt 48, 3) := by decide +kernel
theorem dX8_readNumber_22 : decode cX8_readNumber 22 = .ok (.iload 4, 2) := by decide +kernel
theorem dX8_readNumber_24 : decode cX8_readNumber 24 = .ok (.bipush 57, 2) := by decide +kernel
theorem dX8_readNumber_26 : decode cX8_readNumber 26 = .ok (.if_icmp .le 6, 3) := by decide +kernel
theorem dX8_readNumber_29 : decode cX8_readNumber 29 = .ok (.goto 38, 3) := by decide +kernel
theorem dX8_readNumber_32 : decode cX8_readNumber 32 = .ok (.iload_n 3, 1) := by decide +kernel
theorem dX8_readNumber_33 : decode cX8_readNumber 33 = .ok (.ifCond .ne 7, 3) := by decide +kernel
theorem dX8_readNumber_36 : decode cX8_readNumber 36 = .ok (.iconst 0, 1) := by decide +kernel
theorem dX8_readNumber_37 : decode cX8_readNumber 37 = .ok (.goto 7, 3) := by decide +kernel
theorem dX8_readNumber_40 : decode cX8_readNumber 40 = .ok (.iload_n 2, 1) := by decide +kernel
theorem dX8_readNumber_41 : decode cX8_readNumber 41 = .ok (.bipush 10, 2) := by decide +kernel
theorem dX8_readNumber_43 : decode cX8_readNumber 43 = .ok (.imul, 1) := by decide +kernel
theorem dX8_readNumber_44 : decode cX8_readNumber 44 = .ok (.iload 4, 2) := by decide +kernel
theorem dX8_readNumber_46 : decode cX8_readNumber 46 = .ok (.iadd, 1) := by decide +kernel
theorem dX8_readNumber_47 : decode cX8_readNumber 47 = .ok (.bipush 48, 2) := by decide +kernel
theorem dX8_readNumber_49 : decode cX8_readNumber 49 = .ok (.isub, 1) := by decide +kernel
theorem dX8_readNumber_50 : decode cX8_readNumber 50 = .ok (.istore_n 2, 1) := by decide +kernel
theorem dX8_readNumber_51 : decode cX8_readNumber 51 = .ok (.aload_n 0, 1) := by decide +kernel
theorem dX8_readNumber_52 : decode cX8_readNumber 52 = .ok (.dup, 1) := by decide +kernel
theorem dX8_readNumber_53 : decode cX8_readNumber 53 = .ok (.getfield 19, 3) := by decide +kernel
theorem dX8_readNumber_56 : decode cX8_readNumber 56 = .ok (.iconst 1, 1) := by decide +kernel
theorem dX8_readNumber_57 : decode cX8_readNumber 57 = .ok (.iadd, 1) := by decide +kernel
theorem dX8_readNumber_58 : decode cX8_readNumber 58 = .ok (.putfield 19, 3) := by decide +kernel
theorem dX8_readNumber_61 : decode cX8_readNumber 61 = .ok (.iinc 3 1, 3) := by decide +kernel
theorem dX8_readNumber_64 : decode cX8_readNumber 64 = .ok (.goto (-60), 3) := by decide +kernel
theorem dX8_readNumber_67 : decode cX8_readNumber 67 = .ok (.iload_n 2, 1) := by decide +kernel
theorem dX8_readNumber_68 : decode cX8_readNumber 68 = .ok (.ireturn, 1) := by decide +kernel
set_option maxRecDepth 20000 in
theorem ggX8_readAnswers_X8_here : GoodIn wsX8_readAnswers wsX8_here := goodIn_r _ [8, 3, 9, 10, 11, 12, 13, 14, 15, 16, 17, 18, 19, 20, 21, 22] (by decide +kernel) (by decide +kernel)
set_option maxRecDepth 20000 in
theorem gX8_readAnswers_X8_here : GoodIn wsX8_readAnswers (wsV RX8 102 RX8 yX8_here wsX8_here) := goodIn_app (goodIn_of _ (by decide +kernel)) ggX8_readAnswers_X8_here
theorem dX8_readAnswers_0 : decode cX8_readAnswers 0 = .ok (.aload_n 0, 1) := by decide +kernel
theorem dX8_readAnswers_1 : decode cX8_readAnswers 1 = .ok (.iconst 0, 1) := by decide +kernel
theorem dX8_readAnswers_2 : decode cX8_readAnswers 2 = .ok (.putfield 44, 3) := by decide +kernel
theorem dX8_readAnswers_5 : decode cX8_readAnswers 5 = .ok (.aload_n 0, 1) := by decide +kernel
theorem dX8_readAnswers_6 : decode cX8_readAnswers 6 = .ok (.iconst 0, 1) := by decide +kernel
theorem dX8_readAnswers_7 : decode cX8_readAnswers 7 = .ok (.putfield 47, 3) := by decide +kernel
theorem dX8_readAnswers_10 : decode cX8_readAnswers 10 = .ok (.iconst 0, 1) := by decide +kernel
theorem dX8_readAnswers_11 : decode cX8_readAnswers 11 = .ok (.istore_n 1, 1) := by decide +kernel
theorem dX8_readAnswers_12 : decode cX8_readAnswers 12 = .ok (.iload_n 1, 1) := by decide +kernel
theorem dX8_readAnswers_13 : decode cX8_readAnswers 13 = .ok (.bipush 9, 2) := by decide +kernel
theorem dX8_readAnswers_15 : decode cX8_readAnswers 15 = .ok (.if_icmp .ge 71, 3) := by decide +kernel
theorem dX8_readAnswers_18 : decode cX8_readAnswers 18 = .ok (.aload_n 0, 1) := by decide +kernel
theorem dX8_readAnswers_19 : decode cX8_readAnswers 19 = .ok (.invokevirtual 102, 3) := by decide +kernel
theorem dX8_readAnswers_22 : decode cX8_readAnswers 22 = .ok (.bipush 49, 2) := by decide +kernel
theorem dX8_readAnswers_24 : decode cX8_readAnswers 24 = .ok (.if_icmp .lt 62, 3) := by decide +kernel
theorem dX8_readAnswers_27 : decode cX8_readAnswers 27 = .ok (.aload_n 0, 1) := by decide +kernel
theorem dX8_readAnswers_28 : decode cX8_readAnswers 28 = .ok (.invokevirtual 102, 3) := by decide +kernel
theorem dX8_readAnswers_31 : decode cX8_readAnswers 31 = .ok (.bipush 57, 2) := by decide +kernel
theorem dX8_readAnswers_33 : decode cX8_readAnswers 33 = .ok (.if_icmp .gt 53, 3) := by decide +kernel
theorem dX8_readAnswers_36 : decode cX8_readAnswers 36 = .ok (.iconst 1, 1) := by decide +kernel
theorem dX8_readAnswers_37 : decode cX8_readAnswers 37 = .ok (.aload_n 0, 1) := by decide +kernel
theorem dX8_readAnswers_38 : decode cX8_readAnswers 38 = .ok (.invokevirtual 102, 3) := by decide +kernel
theorem dX8_readAnswers_41 : decode cX8_readAnswers 41 = .ok (.bipush 48, 2) := by decide +kernel
theorem dX8_readAnswers_43 : decode cX8_readAnswers 43 = .ok (.isub, 1) := by decide +kernel
theorem dX8_readAnswers_44 : decode cX8_readAnswers 44 = .ok (.ishl, 1) := by decide +kernel
theorem dX8_readAnswers_45 : decode cX8_readAnswers 45 = .ok (.istore_n 2, 1) := by decide +kernel
theorem dX8_readAnswers_46 : decode cX8_readAnswers 46 = .ok (.aload_n 0, 1) := by decide +kernel
theorem dX8_readAnswers_47 : decode cX8_readAnswers 47 = .ok (.getfield 44, 3) := by decide +kernel
theorem dX8_readAnswers_50 : decode cX8_readAnswers 50 = .ok (.iload_n 2, 1) := by decide +kernel
theorem dX8_readAnswers_51 : decode cX8_readAnswers 51 = .ok (.iand, 1) := by decide +kernel
theorem dX8_readAnswers_52 : decode cX8_readAnswers 52 = .ok (.ifCond .eq 8, 3) := by decide +kernel
theorem dX8_readAnswers_55 : decode cX8_readAnswers 55 = .ok (.aload_n 0, 1) := by decide +kernel
theorem dX8_readAnswers_56 : decode cX8_readAnswers 56 = .ok (.iconst 1, 1) := by decide +kernel
theorem dX8_readAnswers_57 : decode cX8_readAnswers 57 = .ok (.putfield 47, 3) := by decide +kernel
theorem dX8_readAnswers_60 : decode cX8_readAnswers 60 = .ok (.aload_n 0, 1) := by decide +kernel
theorem dX8_readAnswers_61 : decode cX8_readAnswers 61 = .ok (.dup, 1) := by decide +kernel
theorem dX8_readAnswers_62 : decode cX8_readAnswers 62 = .ok (.getfield 44, 3) := by decide +kernel
theorem dX8_readAnswers_65 : decode cX8_readAnswers 65 = .ok (.iload_n 2, 1) := by decide +kernel
theorem dX8_readAnswers_66 : decode cX8_readAnswers 66 = .ok (.ior, 1) := by decide +kernel
theorem dX8_readAnswers_67 : decode cX8_readAnswers 67 = .ok (.putfield 44, 3) := by decide +kernel
theorem dX8_readAnswers_70 : decode cX8_readAnswers 70 = .ok (.iinc 1 1, 3) := by decide +kernel
theorem dX8_readAnswers_73 : decode cX8_readAnswers 73 = .ok (.aload_n 0, 1) := by decide +kernel
theorem dX8_readAnswers_74 : decode cX8_readAnswers 74 = .ok (.dup, 1) := by decide +kernel
theorem dX8_readAnswers_75 : decode cX8_readAnswers 75 = .ok (.getfield 19, 3) := by decide +kernel
theorem dX8_readAnswers_78 : decode cX8_readAnswers 78 = .ok (.iconst 1, 1) := by decide +kernel
theorem dX8_readAnswers_79 : decode cX8_readAnswers 79 = .ok (.iadd, 1) := by decide +kernel
theorem dX8_readAnswers_80 : decode cX8_readAnswers 80 = .ok (.putfield 19, 3) := by decide +kernel
theorem dX8_readAnswers_83 : decode cX8_readAnswers 83 = .ok (.goto (-71), 3) := by decide +kernel
theorem dX8_readAnswers_86 : decode cX8_readAnswers 86 = .ok (.iload_n 1, 1) := by decide +kernel
theorem dX8_readAnswers_87 : decode cX8_readAnswers 87 = .ok (.ifCond .le 7, 3) := by decide +kernel
theorem dX8_readAnswers_90 : decode cX8_readAnswers 90 = .ok (.iconst 1, 1) := by decide +kernel
theorem dX8_readAnswers_91 : decode cX8_readAnswers 91 = .ok (.goto 4, 3) := by decide +kernel
theorem dX8_readAnswers_94 : decode cX8_readAnswers 94 = .ok (.iconst 0, 1) := by decide +kernel
theorem dX8_readAnswers_95 : decode cX8_readAnswers 95 = .ok (.ireturn, 1) := by decide +kernel
set_option maxRecDepth 20000 in
theorem ggX9_init_X5_init : GoodIn wsX9_init wsX5_init := goodIn_r _ [5, 6, 7, 8, 9, 10, 11, 12, 13, 14, 15, 20, 21, 22, 23, 24, 25, 26, 27, 28, 29, 30, 31, 16, 17, 18, 19] (by decide +kernel) (by decide +kernel)
set_option maxRecDepth 20000 in
theorem gX9_init_X5_init : GoodIn wsX9_init (wsX5_init) := ggX9_init_X5_init
theorem dX9_init_0 : decode cX9_init 0 = .ok (.aload_n 0, 1) := by decide +kernel
theorem dX9_init_1 : decode cX9_init 1 = .ok (.iload_n 1, 1) := by decide +kernel
theorem dX9_init_2 : decode cX9_init 2 = .ok (.iload_n 2, 1) := by decide +kernel
theorem dX9_init_3 : decode cX9_init 3 = .ok (.iload_n 3, 1) := by decide +kernel
theorem dX9_init_4 : decode cX9_init 4 = .ok (.invokespecial 3, 3) := by decide +kernel
theorem dX9_init_7 : decode cX9_init 7 = .ok (.aload_n 0, 1) := by decide +kernel
theorem dX9_init_8 : decode cX9_init 8 = .ok (.iconst 0, 1) := by decide +kernel
theorem dX9_init_9 : decode cX9_init 9 = .ok (.putfield 9, 3) := by decide +kernel
theorem dX9_init_12 : decode cX9_init 12 = .ok (.return_, 1) := by decide +kernel
theorem dX9_kind_0 : decode cX9_kind 0 = .ok (.iconst 4, 1) := by decide +kernel
theorem dX9_kind_1 : decode cX9_kind 1 = .ok (.ireturn, 1) := by decide +kernel
theorem dX9_wishes_0 : decode cX9_wishes 0 = .ok (.aload_n 0, 1) := by decide +kernel
theorem dX9_wishes_1 : decode cX9_wishes 1 = .ok (.getfield 9, 3) := by decide +kernel
theorem dX9_wishes_4 : decode cX9_wishes 4 = .ok (.ireturn, 1) := by decide +kernel
theorem dX9_toldSet_0 : decode cX9_toldSet 0 = .ok (.aload_n 0, 1) := by decide +kernel
theorem dX9_toldSet_1 : decode cX9_toldSet 1 = .ok (.getfield 9, 3) := by decide +kernel
theorem dX9_toldSet_4 : decode cX9_toldSet 4 = .ok (.ireturn, 1) := by decide +kernel
theorem dX9_tell_0 : decode cX9_tell 0 = .ok (.aload_n 0, 1) := by decide +kernel
theorem dX9_tell_1 : decode cX9_tell 1 = .ok (.iload_n 1, 1) := by decide +kernel
theorem dX9_tell_2 : decode cX9_tell 2 = .ok (.putfield 9, 3) := by decide +kernel
theorem dX9_tell_5 : decode cX9_tell 5 = .ok (.return_, 1) := by decide +kernel
theorem dX10_init_0 : decode cX10_init 0 = .ok (.aload_n 0, 1) := by decide +kernel
theorem dX10_init_1 : decode cX10_init 1 = .ok (.invokespecial 3, 3) := by decide +kernel
theorem dX10_init_4 : decode cX10_init 4 = .ok (.aload_n 0, 1) := by decide +kernel
theorem dX10_init_5 : decode cX10_init 5 = .ok (.bipush 24, 2) := by decide +kernel
theorem dX10_init_7 : decode cX10_init 7 = .ok (.newarray .int, 2) := by decide +kernel
theorem dX10_init_9 : decode cX10_init 9 = .ok (.putfield 9, 3) := by decide +kernel
theorem dX10_init_12 : decode cX10_init 12 = .ok (.aload_n 0, 1) := by decide +kernel
theorem dX10_init_13 : decode cX10_init 13 = .ok (.bipush 24, 2) := by decide +kernel
theorem dX10_init_15 : decode cX10_init 15 = .ok (.newarray .int, 2) := by decide +kernel
theorem dX10_init_17 : decode cX10_init 17 = .ok (.putfield 15, 3) := by decide +kernel
theorem dX10_init_20 : decode cX10_init 20 = .ok (.aload_n 0, 1) := by decide +kernel
theorem dX10_init_21 : decode cX10_init 21 = .ok (.bipush 24, 2) := by decide +kernel
theorem dX10_init_23 : decode cX10_init 23 = .ok (.newarray .int, 2) := by decide +kernel
theorem dX10_init_25 : decode cX10_init 25 = .ok (.putfield 18, 3) := by decide +kernel
theorem dX10_init_28 : decode cX10_init 28 = .ok (.aload_n 0, 1) := by decide +kernel
theorem dX10_init_29 : decode cX10_init 29 = .ok (.bipush 24, 2) := by decide +kernel
theorem dX10_init_31 : decode cX10_init 31 = .ok (.newarray .int, 2) := by decide +kernel
theorem dX10_init_33 : decode cX10_init 33 = .ok (.putfield 21, 3) := by decide +kernel
theorem dX10_init_36 : decode cX10_init 36 = .ok (.aload_n 0, 1) := by decide +kernel
theorem dX10_init_37 : decode cX10_init 37 = .ok (.bipush 24, 2) := by decide +kernel
theorem dX10_init_39 : decode cX10_init 39 = .ok (.newarray .int, 2) := by decide +kernel
theorem dX10_init_41 : decode cX10_init 41 = .ok (.putfield 24, 3) := by decide +kernel
theorem dX10_init_44 : decode cX10_init 44 = .ok (.aload_n 0, 1) := by decide +kernel
theorem dX10_init_45 : decode cX10_init 45 = .ok (.bipush 24, 2) := by decide +kernel
theorem dX10_init_47 : decode cX10_init 47 = .ok (.newarray .int, 2) := by decide +kernel
theorem dX10_init_49 : decode cX10_init 49 = .ok (.putfield 27, 3) := by decide +kernel
theorem dX10_init_52 : decode cX10_init 52 = .ok (.aload_n 0, 1) := by decide +kernel
theorem dX10_init_53 : decode cX10_init 53 = .ok (.bipush 24, 2) := by decide +kernel
theorem dX10_init_55 : decode cX10_init 55 = .ok (.newarray .int, 2) := by decide +kernel
theorem dX10_init_57 : decode cX10_init 57 = .ok (.putfield 30, 3) := by decide +kernel
theorem dX10_init_60 : decode cX10_init 60 = .ok (.aload_n 0, 1) := by decide +kernel
theorem dX10_init_61 : decode cX10_init 61 = .ok (.bipush 24, 2) := by decide +kernel
theorem dX10_init_63 : decode cX10_init 63 = .ok (.newarray .int, 2) := by decide +kernel
theorem dX10_init_65 : decode cX10_init 65 = .ok (.putfield 33, 3) := by decide +kernel
theorem dX10_init_68 : decode cX10_init 68 = .ok (.aload_n 0, 1) := by decide +kernel
theorem dX10_init_69 : decode cX10_init 69 = .ok (.bipush 24, 2) := by decide +kernel
theorem dX10_init_71 : decode cX10_init 71 = .ok (.newarray .long, 2) := by decide +kernel
theorem dX10_init_73 : decode cX10_init 73 = .ok (.putfield 36, 3) := by decide +kernel
theorem dX10_init_76 : decode cX10_init 76 = .ok (.aload_n 0, 1) := by decide +kernel
theorem dX10_init_77 : decode cX10_init 77 = .ok (.bipush 24, 2) := by decide +kernel
theorem dX10_init_79 : decode cX10_init 79 = .ok (.newarray .long, 2) := by decide +kernel
theorem dX10_init_81 : decode cX10_init 81 = .ok (.putfield 40, 3) := by decide +kernel
theorem dX10_init_84 : decode cX10_init 84 = .ok (.aload_n 0, 1) := by decide +kernel
theorem dX10_init_85 : decode cX10_init 85 = .ok (.bipush 24, 2) := by decide +kernel
theorem dX10_init_87 : decode cX10_init 87 = .ok (.newarray .long, 2) := by decide +kernel
theorem dX10_init_89 : decode cX10_init 89 = .ok (.putfield 43, 3) := by decide +kernel
theorem dX10_init_92 : decode cX10_init 92 = .ok (.aload_n 0, 1) := by decide +kernel
theorem dX10_init_93 : decode cX10_init 93 = .ok (.bipush 24, 2) := by decide +kernel
theorem dX10_init_95 : decode cX10_init 95 = .ok (.bipush 10, 2) := by decide +kernel
theorem dX10_init_97 : decode cX10_init 97 = .ok (.multianewarray 46 2, 4) := by decide +kernel
theorem dX10_init_101 : decode cX10_init 101 = .ok (.putfield 48, 3) := by decide +kernel
theorem dX10_init_104 : decode cX10_init 104 = .ok (.aload_n 0, 1) := by decide +kernel
theorem dX10_init_105 : decode cX10_init 105 = .ok (.bipush 24, 2) := by decide +kernel
theorem dX10_init_107 : decode cX10_init 107 = .ok (.bipush 10, 2) := by decide +kernel
theorem dX10_init_109 : decode cX10_init 109 = .ok (.multianewarray 46 2, 4) := by decide +kernel
theorem dX10_init_113 : decode cX10_init 113 = .ok (.putfield 51, 3) := by decide +kernel
theorem dX10_init_116 : decode cX10_init 116 = .ok (.aload_n 0, 1) := by decide +kernel
theorem dX10_init_117 : decode cX10_init 117 = .ok (.iconst 1, 1) := by decide +kernel
theorem dX10_init_118 : decode cX10_init 118 = .ok (.putfield 54, 3) := by decide +kernel
theorem dX10_init_121 : decode cX10_init 121 = .ok (.aload_n 0, 1) := by decide +kernel
theorem dX10_init_122 : decode cX10_init 122 = .ok (.iconst 0, 1) := by decide +kernel
theorem dX10_init_123 : decode cX10_init 123 = .ok (.putfield 58, 3) := by decide +kernel
theorem dX10_init_126 : decode cX10_init 126 = .ok (.aload_n 0, 1) := by decide +kernel
theorem dX10_init_127 : decode cX10_init 127 = .ok (.iconst 0, 1) := by decide +kernel
theorem dX10_init_128 : decode cX10_init 128 = .ok (.putfield 61, 3) := by decide +kernel
theorem dX10_init_131 : decode cX10_init 131 = .ok (.aload_n 0, 1) := by decide +kernel
theorem dX10_init_132 : decode cX10_init 132 = .ok (.getfield 36, 3) := by decide +kernel
theorem dX10_init_135 : decode cX10_init 135 = .ok (.iconst 0, 1) := by decide +kernel
theorem dX10_init_136 : decode cX10_init 136 = .ok (.lconst 1, 1) := by decide +kernel
theorem dX10_init_137 : decode cX10_init 137 = .ok (.lastore, 1) := by decide +kernel
theorem dX10_init_138 : decode cX10_init 138 = .ok (.aload_n 0, 1) := by decide +kernel
theorem dX10_init_139 : decode cX10_init 139 = .ok (.getfield 43, 3) := by decide +kernel
theorem dX10_init_142 : decode cX10_init 142 = .ok (.iconst 0, 1) := by decide +kernel
theorem dX10_init_143 : decode cX10_init 143 = .ok (.lconst 1, 1) := by decide +kernel
theorem dX10_init_144 : decode cX10_init 144 = .ok (.lastore, 1) := by decide +kernel
theorem dX10_init_145 : decode cX10_init 145 = .ok (.return_, 1) := by decide +kernel
theorem dX10_size_0 : decode cX10_size 0 = .ok (.aload_n 0, 1) := by decide +kernel
theorem dX10_size_1 : decode cX10_size 1 = .ok (.getfield 54, 3) := by decide +kernel
theorem dX10_size_4 : decode cX10_size 4 = .ok (.ireturn, 1) := by decide +kernel
theorem dX10_endsCount_0 : decode cX10_endsCount 0 = .ok (.aload_n 0, 1) := by decide +kernel
theorem dX10_endsCount_1 : decode cX10_endsCount 1 = .ok (.getfield 58, 3) := by decide +kernel
theorem dX10_endsCount_4 : decode cX10_endsCount 4 = .ok (.ireturn, 1) := by decide +kernel
theorem dX10_isWhole_0 : decode cX10_isWhole 0 = .ok (.aload_n 0, 1) := by decide +kernel
theorem dX10_isWhole_1 : decode cX10_isWhole 1 = .ok (.getfield 61, 3) := by decide +kernel
theorem dX10_isWhole_4 : decode cX10_isWhole 4 = .ok (.ireturn, 1) := by decide +kernel
theorem dX10_has_0 : decode cX10_has 0 = .ok (.iload_n 1, 1) := by decide +kernel
theorem dX10_has_1 : decode cX10_has 1 = .ok (.ifCond .lt 21, 3) := by decide +kernel
theorem dX10_has_4 : decode cX10_has 4 = .ok (.iload_n 1, 1) := by decide +kernel
theorem dX10_has_5 : decode cX10_has 5 = .ok (.bipush 24, 2) := by decide +kernel
theorem dX10_has_7 : decode cX10_has 7 = .ok (.if_icmp .ge 15, 3) := by decide +kernel
theorem dX10_has_10 : decode cX10_has 10 = .ok (.iload_n 1, 1) := by decide +kernel
theorem dX10_has_11 : decode cX10_has 11 = .ok (.aload_n 0, 1) := by decide +kernel
theorem dX10_has_12 : decode cX10_has 12 = .ok (.getfield 54, 3) := by decide +kernel
theorem dX10_has_15 : decode cX10_has 15 = .ok (.if_icmp .ge 7, 3) := by decide +kernel
theorem dX10_has_18 : decode cX10_has 18 = .ok (.iconst 1, 1) := by decide +kernel
theorem dX10_has_19 : decode cX10_has 19 = .ok (.goto 4, 3) := by decide +kernel
theorem dX10_has_22 : decode cX10_has 22 = .ok (.iconst 0, 1) := by decide +kernel
theorem dX10_has_23 : decode cX10_has 23 = .ok (.ireturn, 1) := by decide +kernel
set_option maxRecDepth 20000 in
theorem ggX10_isEnd_X10_has : GoodIn wsX10_isEnd wsX10_has := goodIn_r _ [6, 7, 8, 9, 10, 11, 12, 13, 14, 15, 16, 17, 18, 19, 20, 21, 22, 23] (by decide +kernel) (by decide +kernel)
set_option maxRecDepth 20000 in
theorem gX10_isEnd_X10_has : GoodIn wsX10_isEnd (wsV RX10 65 RX10 yX10_has wsX10_has) := goodIn_app (goodIn_of _ (by decide +kernel)) ggX10_isEnd_X10_has
theorem dX10_isEnd_0 : decode cX10_isEnd 0 = .ok (.aload_n 0, 1) := by decide +kernel
theorem dX10_isEnd_1 : decode cX10_isEnd 1 = .ok (.iload_n 1, 1) := by decide +kernel
theorem dX10_isEnd_2 : decode cX10_isEnd 2 = .ok (.invokevirtual 65, 3) := by decide +kernel
theorem dX10_isEnd_5 : decode cX10_isEnd 5 = .ok (.ifCond .eq 16, 3) := by decide +kernel
theorem dX10_isEnd_8 : decode cX10_isEnd 8 = .ok (.aload_n 0, 1) := by decide +kernel
theorem dX10_isEnd_9 : decode cX10_isEnd 9 = .ok (.getfield 18, 3) := by decide +kernel
theorem dX10_isEnd_12 : decode cX10_isEnd 12 = .ok (.iload_n 1, 1) := by decide +kernel
theorem dX10_isEnd_13 : decode cX10_isEnd 13 = .ok (.iaload, 1) := by decide +kernel
theorem dX10_isEnd_14 : decode cX10_isEnd 14 = .ok (.ifCond .le 7, 3) := by decide +kernel
theorem dX10_isEnd_17 : decode cX10_isEnd 17 = .ok (.iconst 1, 1) := by decide +kernel
theorem dX10_isEnd_18 : decode cX10_isEnd 18 = .ok (.goto 4, 3) := by decide +kernel
theorem dX10_isEnd_21 : decode cX10_isEnd 21 = .ok (.iconst 0, 1) := by decide +kernel
theorem dX10_isEnd_22 : decode cX10_isEnd 22 = .ok (.ireturn, 1) := by decide +kernel
theorem dX10_allWords_0 : decode cX10_allWords 0 = .ok (.iconst 1, 1) := by decide +kernel
theorem dX10_allWords_1 : decode cX10_allWords 1 = .ok (.aload_n 0, 1) := by decide +kernel
theorem dX10_allWords_2 : decode cX10_allWords 2 = .ok (.getfield 54, 3) := by decide +kernel
theorem dX10_allWords_5 : decode cX10_allWords 5 = .ok (.ishl, 1) := by decide +kernel
theorem dX10_allWords_6 : decode cX10_allWords 6 = .ok (.iconst 1, 1) := by decide +kernel
theorem dX10_allWords_7 : decode cX10_allWords 7 = .ok (.isub, 1) := by decide +kernel
theorem dX10_allWords_8 : decode cX10_allWords 8 = .ok (.ireturn, 1) := by decide +kernel
set_option maxRecDepth 20000 in
theorem ggX10_parentOf_X10_has : GoodIn wsX10_parentOf wsX10_has := goodIn_r _ [6, 7, 8, 9, 10, 11, 12, 13, 14, 15, 16, 17, 18, 19, 20, 21, 22, 23] (by decide +kernel) (by decide +kernel)
set_option maxRecDepth 20000 in
theorem gX10_parentOf_X10_has : GoodIn wsX10_parentOf (wsV RX10 65 RX10 yX10_has wsX10_has) := goodIn_app (goodIn_of _ (by decide +kernel)) ggX10_parentOf_X10_has
theorem dX10_parentOf_0 : decode cX10_parentOf 0 = .ok (.aload_n 0, 1) := by decide +kernel
theorem dX10_parentOf_1 : decode cX10_parentOf 1 = .ok (.iload_n 1, 1) := by decide +kernel
theorem dX10_parentOf_2 : decode cX10_parentOf 2 = .ok (.invokevirtual 65, 3) := by decide +kernel
theorem dX10_parentOf_5 : decode cX10_parentOf 5 = .ok (.ifCond .eq 12, 3) := by decide +kernel
theorem dX10_parentOf_8 : decode cX10_parentOf 8 = .ok (.aload_n 0, 1) := by decide +kernel
theorem dX10_parentOf_9 : decode cX10_parentOf 9 = .ok (.getfield 9, 3) := by decide +kernel
theorem dX10_parentOf_12 : decode cX10_parentOf 12 = .ok (.iload_n 1, 1) := by decide +kernel
theorem dX10_parentOf_13 : decode cX10_parentOf 13 = .ok (.iaload, 1) := by decide +kernel
theorem dX10_parentOf_14 : decode cX10_parentOf 14 = .ok (.goto 4, 3) := by decide +kernel
theorem dX10_parentOf_17 : decode cX10_parentOf 17 = .ok (.iconst 0, 1) := by decide +kernel
theorem dX10_parentOf_18 : decode cX10_parentOf 18 = .ok (.ireturn, 1) := by decide +kernel
set_option maxRecDepth 20000 in
theorem ggX10_weightOf_X10_has : GoodIn wsX10_weightOf wsX10_has := goodIn_r _ [6, 7, 8, 9, 10, 11, 12, 13, 14, 15, 16, 17, 18, 19, 20, 21, 22, 23] (by decide +kernel) (by decide +kernel)
set_option maxRecDepth 20000 in
theorem gX10_weightOf_X10_has : GoodIn wsX10_weightOf (wsV RX10 65 RX10 yX10_has wsX10_has) := goodIn_app (goodIn_of _ (by decide +kernel)) ggX10_weightOf_X10_has
theorem dX10_weightOf_0 : decode cX10_weightOf 0 = .ok (.aload_n 0, 1) := by decide +kernel
theorem dX10_weightOf_1 : decode cX10_weightOf 1 = .ok (.iload_n 1, 1) := by decide +kernel
theorem dX10_weightOf_2 : decode cX10_weightOf 2 = .ok (.invokevirtual 65, 3) := by decide +kernel
theorem dX10_weightOf_5 : decode cX10_weightOf 5 = .ok (.ifCond .eq 12, 3) := by decide +kernel
theorem dX10_weightOf_8 : decode cX10_weightOf 8 = .ok (.aload_n 0, 1) := by decide +kernel
theorem dX10_weightOf_9 : decode cX10_weightOf 9 = .ok (.getfield 15, 3) := by decide +kernel
theorem dX10_weightOf_12 : decode cX10_weightOf 12 = .ok (.iload_n 1, 1) := by decide +kernel
theorem dX10_weightOf_13 : decode cX10_weightOf 13 = .ok (.iaload, 1) := by decide +kernel
theorem dX10_weightOf_14 : decode cX10_weightOf 14 = .ok (.goto 4, 3) := by decide +kernel
theorem dX10_weightOf_17 : decode cX10_weightOf 17 = .ok (.iconst 0, 1) := by decide +kernel
theorem dX10_weightOf_18 : decode cX10_weightOf 18 = .ok (.ireturn, 1) := by decide +kernel
set_option maxRecDepth 20000 in
theorem ggX10_answerOf_X10_has : GoodIn wsX10_answerOf wsX10_has := goodIn_r _ [6, 7, 8, 9, 10, 11, 12, 13, 14, 15, 16, 17, 18, 19, 20, 21, 22, 23] (by decide +kernel) (by decide +kernel)
set_option maxRecDepth 20000 in
theorem gX10_answerOf_X10_has : GoodIn wsX10_answerOf (wsV RX10 65 RX10 yX10_has wsX10_has) := goodIn_app (goodIn_of _ (by decide +kernel)) ggX10_answerOf_X10_has
theorem dX10_answerOf_0 : decode cX10_answerOf 0 = .ok (.aload_n 0, 1) := by decide +kernel
theorem dX10_answerOf_1 : decode cX10_answerOf 1 = .ok (.iload_n 1, 1) := by decide +kernel
theorem dX10_answerOf_2 : decode cX10_answerOf 2 = .ok (.invokevirtual 65, 3) := by decide +kernel
theorem dX10_answerOf_5 : decode cX10_answerOf 5 = .ok (.ifCond .eq 12, 3) := by decide +kernel
theorem dX10_answerOf_8 : decode cX10_answerOf 8 = .ok (.aload_n 0, 1) := by decide +kernel
theorem dX10_answerOf_9 : decode cX10_answerOf 9 = .ok (.getfield 18, 3) := by decide +kernel
theorem dX10_answerOf_12 : decode cX10_answerOf 12 = .ok (.iload_n 1, 1) := by decide +kernel
theorem dX10_answerOf_13 : decode cX10_answerOf 13 = .ok (.iaload, 1) := by decide +kernel
theorem dX10_answerOf_14 : decode cX10_answerOf 14 = .ok (.goto 4, 3) := by decide +kernel
theorem dX10_answerOf_17 : decode cX10_answerOf 17 = .ok (.iconst 0, 1) := by decide +kernel
theorem dX10_answerOf_18 : decode cX10_answerOf 18 = .ok (.ireturn, 1) := by decide +kernel
set_option maxRecDepth 20000 in
theorem ggX10_lengthOf_X10_has : GoodIn wsX10_lengthOf wsX10_has := goodIn_r _ [6, 7, 8, 9, 10, 11, 12, 13, 14, 15, 16, 17, 18, 19, 20, 21, 22, 23] (by decide +kernel) (by decide +kernel)
set_option maxRecDepth 20000 in
theorem gX10_lengthOf_X10_has : GoodIn wsX10_lengthOf (wsV RX10 65 RX10 yX10_has wsX10_has) := goodIn_app (goodIn_of _ (by decide +kernel)) ggX10_lengthOf_X10_has
theorem dX10_lengthOf_0 : decode cX10_lengthOf 0 = .ok (.aload_n 0, 1) := by decide +kernel
theorem dX10_lengthOf_1 : decode cX10_lengthOf 1 = .ok (.iload_n 1, 1) := by decide +kernel
theorem dX10_lengthOf_2 : decode cX10_lengthOf 2 = .ok (.invokevirtual 65, 3) := by decide +kernel
theorem dX10_lengthOf_5 : decode cX10_lengthOf 5 = .ok (.ifCond .eq 12, 3) := by decide +kernel
theorem dX10_lengthOf_8 : decode cX10_lengthOf 8 = .ok (.aload_n 0, 1) := by decide +kernel
theorem dX10_lengthOf_9 : decode cX10_lengthOf 9 = .ok (.getfield 21, 3) := by decide +kernel
theorem dX10_lengthOf_12 : decode cX10_lengthOf 12 = .ok (.iload_n 1, 1) := by decide +kernel
theorem dX10_lengthOf_13 : decode cX10_lengthOf 13 = .ok (.iaload, 1) := by decide +kernel
theorem dX10_lengthOf_14 : decode cX10_lengthOf 14 = .ok (.goto 4, 3) := by decide +kernel
theorem dX10_lengthOf_17 : decode cX10_lengthOf 17 = .ok (.iconst 0, 1) := by decide +kernel
theorem dX10_lengthOf_18 : decode cX10_lengthOf 18 = .ok (.ireturn, 1) := by decide +kernel
set_option maxRecDepth 20000 in
theorem ggX10_nextsOf_X10_has : GoodIn wsX10_nextsOf wsX10_has := goodIn_r _ [6, 7, 8, 9, 10, 11, 12, 13, 14, 15, 16, 17, 18, 19, 20, 21, 22, 23] (by decide +kernel) (by decide +kernel)
set_option maxRecDepth 20000 in
theorem gX10_nextsOf_X10_has : GoodIn wsX10_nextsOf (wsV RX10 65 RX10 yX10_has wsX10_has) := goodIn_app (goodIn_of _ (by decide +kernel)) ggX10_nextsOf_X10_has
theorem dX10_nextsOf_0 : decode cX10_nextsOf 0 = .ok (.aload_n 0, 1) := by decide +kernel
theorem dX10_nextsOf_1 : decode cX10_nextsOf 1 = .ok (.iload_n 1, 1) := by decide +kernel
theorem dX10_nextsOf_2 : decode cX10_nextsOf 2 = .ok (.invokevirtual 65, 3) := by decide +kernel
theorem dX10_nextsOf_5 : decode cX10_nextsOf 5 = .ok (.ifCond .eq 12, 3) := by decide +kernel
theorem dX10_nextsOf_8 : decode cX10_nextsOf 8 = .ok (.aload_n 0, 1) := by decide +kernel
theorem dX10_nextsOf_9 : decode cX10_nextsOf 9 = .ok (.getfield 24, 3) := by decide +kernel
theorem dX10_nextsOf_12 : decode cX10_nextsOf 12 = .ok (.iload_n 1, 1) := by decide +kernel
theorem dX10_nextsOf_13 : decode cX10_nextsOf 13 = .ok (.iaload, 1) := by decide +kernel
theorem dX10_nextsOf_14 : decode cX10_nextsOf 14 = .ok (.goto 4, 3) := by decide +kernel
theorem dX10_nextsOf_17 : decode cX10_nextsOf 17 = .ok (.iconst 0, 1) := by decide +kernel
theorem dX10_nextsOf_18 : decode cX10_nextsOf 18 = .ok (.ireturn, 1) := by decide +kernel
set_option maxRecDepth 20000 in
theorem ggX10_nextSumOf_X10_has : GoodIn wsX10_nextSumOf wsX10_has := goodIn_r _ [6, 7, 8, 9, 10, 11, 12, 13, 14, 15, 16, 17, 18, 19, 20, 21, 22, 23] (by decide +kernel) (by decide +kernel)
set_option maxRecDepth 20000 in
theorem gX10_nextSumOf_X10_has : GoodIn wsX10_nextSumOf (wsV RX10 65 RX10 yX10_has wsX10_has) := goodIn_app (goodIn_of _ (by decide +kernel)) ggX10_nextSumOf_X10_has
theorem dX10_nextSumOf_0 : decode cX10_nextSumOf 0 = .ok (.aload_n 0, 1) := by decide +kernel
theorem dX10_nextSumOf_1 : decode cX10_nextSumOf 1 = .ok (.iload_n 1, 1) := by decide +kernel
theorem dX10_nextSumOf_2 : decode cX10_nextSumOf 2 = .ok (.invokevirtual 65, 3) := by decide +kernel
theorem dX10_nextSumOf_5 : decode cX10_nextSumOf 5 = .ok (.ifCond .eq 12, 3) := by decide +kernel
theorem dX10_nextSumOf_8 : decode cX10_nextSumOf 8 = .ok (.aload_n 0, 1) := by decide +kernel
theorem dX10_nextSumOf_9 : decode cX10_nextSumOf 9 = .ok (.getfield 27, 3) := by decide +kernel
theorem dX10_nextSumOf_12 : decode cX10_nextSumOf 12 = .ok (.iload_n 1, 1) := by decide +kernel
theorem dX10_nextSumOf_13 : decode cX10_nextSumOf 13 = .ok (.iaload, 1) := by decide +kernel
theorem dX10_nextSumOf_14 : decode cX10_nextSumOf 14 = .ok (.goto 4, 3) := by decide +kernel
theorem dX10_nextSumOf_17 : decode cX10_nextSumOf 17 = .ok (.iconst 0, 1) := by decide +kernel
theorem dX10_nextSumOf_18 : decode cX10_nextSumOf 18 = .ok (.ireturn, 1) := by decide +kernel
set_option maxRecDepth 20000 in
theorem ggX10_behindOf_X10_has : GoodIn wsX10_behindOf wsX10_has := goodIn_r _ [6, 7, 8, 9, 10, 11, 12, 13, 14, 15, 16, 17, 18, 19, 20, 21, 22, 23] (by decide +kernel) (by decide +kernel)
set_option maxRecDepth 20000 in
theorem gX10_behindOf_X10_has : GoodIn wsX10_behindOf (wsV RX10 65 RX10 yX10_has wsX10_has) := goodIn_app (goodIn_of _ (by decide +kernel)) ggX10_behindOf_X10_has
theorem dX10_behindOf_0 : decode cX10_behindOf 0 = .ok (.aload_n 0, 1) := by decide +kernel
theorem dX10_behindOf_1 : decode cX10_behindOf 1 = .ok (.iload_n 1, 1) := by decide +kernel
theorem dX10_behindOf_2 : decode cX10_behindOf 2 = .ok (.invokevirtual 65, 3) := by decide +kernel
theorem dX10_behindOf_5 : decode cX10_behindOf 5 = .ok (.ifCond .eq 12, 3) := by decide +kernel
theorem dX10_behindOf_8 : decode cX10_behindOf 8 = .ok (.aload_n 0, 1) := by decide +kernel
theorem dX10_behindOf_9 : decode cX10_behindOf 9 = .ok (.getfield 30, 3) := by decide +kernel
theorem dX10_behindOf_12 : decode cX10_behindOf 12 = .ok (.iload_n 1, 1) := by decide +kernel
theorem dX10_behindOf_13 : decode cX10_behindOf 13 = .ok (.iaload, 1) := by decide +kernel
theorem dX10_behindOf_14 : decode cX10_behindOf 14 = .ok (.goto 4, 3) := by decide +kernel
theorem dX10_behindOf_17 : decode cX10_behindOf 17 = .ok (.iconst 0, 1) := by decide +kernel
theorem dX10_behindOf_18 : decode cX10_behindOf 18 = .ok (.ireturn, 1) := by decide +kernel
set_option maxRecDepth 20000 in
theorem ggX10_wayTo_X10_has : GoodIn wsX10_wayTo wsX10_has := goodIn_r _ [6, 7, 8, 9, 10, 11, 12, 13, 14, 15, 16, 17, 18, 19, 20, 21, 22, 23] (by decide +kernel) (by decide +kernel)
set_option maxRecDepth 20000 in
theorem gX10_wayTo_X10_has : GoodIn wsX10_wayTo (wsV RX10 65 RX10 yX10_has wsX10_has) := goodIn_app (goodIn_of _ (by decide +kernel)) ggX10_wayTo_X10_has
theorem dX10_wayTo_0 : decode cX10_wayTo 0 = .ok (.aload_n 0, 1) := by decide +kernel
theorem dX10_wayTo_1 : decode cX10_wayTo 1 = .ok (.iload_n 1, 1) := by decide +kernel
theorem dX10_wayTo_2 : decode cX10_wayTo 2 = .ok (.invokevirtual 65, 3) := by decide +kernel
theorem dX10_wayTo_5 : decode cX10_wayTo 5 = .ok (.ifCond .eq 12, 3) := by decide +kernel
theorem dX10_wayTo_8 : decode cX10_wayTo 8 = .ok (.aload_n 0, 1) := by decide +kernel
theorem dX10_wayTo_9 : decode cX10_wayTo 9 = .ok (.getfield 33, 3) := by decide +kernel
theorem dX10_wayTo_12 : decode cX10_wayTo 12 = .ok (.iload_n 1, 1) := by decide +kernel
theorem dX10_wayTo_13 : decode cX10_wayTo 13 = .ok (.iaload, 1) := by decide +kernel
theorem dX10_wayTo_14 : decode cX10_wayTo 14 = .ok (.goto 4, 3) := by decide +kernel
theorem dX10_wayTo_17 : decode cX10_wayTo 17 = .ok (.iconst 0, 1) := by decide +kernel
theorem dX10_wayTo_18 : decode cX10_wayTo 18 = .ok (.ireturn, 1) := by decide +kernel
set_option maxRecDepth 20000 in
theorem ggX10_belowOf_X10_has : GoodIn wsX10_belowOf wsX10_has := goodIn_r _ [6, 7, 8, 9, 10, 11, 12, 13, 14, 15, 16, 17, 18, 19, 20, 21, 22, 23] (by decide +kernel) (by decide +kernel)
set_option maxRecDepth 20000 in
theorem gX10_belowOf_X10_has : GoodIn wsX10_belowOf (wsV RX10 65 RX10 yX10_has wsX10_has) := goodIn_app (goodIn_of _ (by decide +kernel)) ggX10_belowOf_X10_has
theorem dX10_belowOf_0 : decode cX10_belowOf 0 = .ok (.aload_n 0, 1) := by decide +kernel
theorem dX10_belowOf_1 : decode cX10_belowOf 1 = .ok (.iload_n 1, 1) := by decide +kernel
theorem dX10_belowOf_2 : decode cX10_belowOf 2 = .ok (.invokevirtual 65, 3) := by decide +kernel
theorem dX10_belowOf_5 : decode cX10_belowOf 5 = .ok (.ifCond .eq 12, 3) := by decide +kernel
theorem dX10_belowOf_8 : decode cX10_belowOf 8 = .ok (.aload_n 0, 1) := by decide +kernel
theorem dX10_belowOf_9 : decode cX10_belowOf 9 = .ok (.getfield 36, 3) := by decide +kernel
theorem dX10_belowOf_12 : decode cX10_belowOf 12 = .ok (.iload_n 1, 1) := by decide +kernel
theorem dX10_belowOf_13 : decode cX10_belowOf 13 = .ok (.laload, 1) := by decide +kernel
theorem dX10_belowOf_14 : decode cX10_belowOf 14 = .ok (.goto 4, 3) := by decide +kernel
theorem dX10_belowOf_17 : decode cX10_belowOf 17 = .ok (.lconst 1, 1) := by decide +kernel
theorem dX10_belowOf_18 : decode cX10_belowOf 18 = .ok (.lreturn, 1) := by decide +kernel
set_option maxRecDepth 20000 in
theorem ggX10_timesOf_X10_has : GoodIn wsX10_timesOf wsX10_has := goodIn_r _ [6, 7, 8, 9, 10, 11, 12, 13, 14, 15, 16, 17, 18, 19, 20, 21, 22, 23] (by decide +kernel) (by decide +kernel)
set_option maxRecDepth 20000 in
theorem gX10_timesOf_X10_has : GoodIn wsX10_timesOf (wsV RX10 65 RX10 yX10_has wsX10_has) := goodIn_app (goodIn_of _ (by decide +kernel)) ggX10_timesOf_X10_has
theorem dX10_timesOf_0 : decode cX10_timesOf 0 = .ok (.aload_n 0, 1) := by decide +kernel
theorem dX10_timesOf_1 : decode cX10_timesOf 1 = .ok (.iload_n 1, 1) := by decide +kernel
theorem dX10_timesOf_2 : decode cX10_timesOf 2 = .ok (.invokevirtual 65, 3) := by decide +kernel
theorem dX10_timesOf_5 : decode cX10_timesOf 5 = .ok (.ifCond .eq 12, 3) := by decide +kernel
theorem dX10_timesOf_8 : decode cX10_timesOf 8 = .ok (.aload_n 0, 1) := by decide +kernel
theorem dX10_timesOf_9 : decode cX10_timesOf 9 = .ok (.getfield 43, 3) := by decide +kernel
theorem dX10_timesOf_12 : decode cX10_timesOf 12 = .ok (.iload_n 1, 1) := by decide +kernel
theorem dX10_timesOf_13 : decode cX10_timesOf 13 = .ok (.laload, 1) := by decide +kernel
theorem dX10_timesOf_14 : decode cX10_timesOf 14 = .ok (.goto 4, 3) := by decide +kernel
theorem dX10_timesOf_17 : decode cX10_timesOf 17 = .ok (.lconst 0, 1) := by decide +kernel
theorem dX10_timesOf_18 : decode cX10_timesOf 18 = .ok (.lreturn, 1) := by decide +kernel
set_option maxRecDepth 20000 in
theorem ggX10_shareOf_X10_has : GoodIn wsX10_shareOf wsX10_has := goodIn_r _ [6, 7, 8, 9, 10, 11, 12, 13, 14, 15, 16, 17, 18, 19, 20, 21, 22, 23] (by decide +kernel) (by decide +kernel)
set_option maxRecDepth 20000 in
theorem gX10_shareOf_X10_has : GoodIn wsX10_shareOf (wsV RX10 65 RX10 yX10_has wsX10_has) := goodIn_app (goodIn_of _ (by decide +kernel)) ggX10_shareOf_X10_has
theorem dX10_shareOf_0 : decode cX10_shareOf 0 = .ok (.aload_n 0, 1) := by decide +kernel
theorem dX10_shareOf_1 : decode cX10_shareOf 1 = .ok (.iload_n 1, 1) := by decide +kernel
theorem dX10_shareOf_2 : decode cX10_shareOf 2 = .ok (.invokevirtual 65, 3) := by decide +kernel
theorem dX10_shareOf_5 : decode cX10_shareOf 5 = .ok (.ifCond .eq 24, 3) := by decide +kernel
theorem dX10_shareOf_8 : decode cX10_shareOf 8 = .ok (.iload_n 2, 1) := by decide +kernel
theorem dX10_shareOf_9 : decode cX10_shareOf 9 = .ok (.ifCond .le 20, 3) := by decide +kernel
theorem dX10_shareOf_12 : decode cX10_shareOf 12 = .ok (.iload_n 2, 1) := by decide +kernel
theorem dX10_shareOf_13 : decode cX10_shareOf 13 = .ok (.bipush 10, 2) := by decide +kernel
theorem dX10_shareOf_15 : decode cX10_shareOf 15 = .ok (.if_icmp .ge 14, 3) := by decide +kernel
theorem dX10_shareOf_18 : decode cX10_shareOf 18 = .ok (.aload_n 0, 1) := by decide +kernel
theorem dX10_shareOf_19 : decode cX10_shareOf 19 = .ok (.getfield 48, 3) := by decide +kernel
theorem dX10_shareOf_22 : decode cX10_shareOf 22 = .ok (.iload_n 1, 1) := by decide +kernel
theorem dX10_shareOf_23 : decode cX10_shareOf 23 = .ok (.aaload, 1) := by decide +kernel
theorem dX10_shareOf_24 : decode cX10_shareOf 24 = .ok (.iload_n 2, 1) := by decide +kernel
theorem dX10_shareOf_25 : decode cX10_shareOf 25 = .ok (.laload, 1) := by decide +kernel
theorem dX10_shareOf_26 : decode cX10_shareOf 26 = .ok (.goto 4, 3) := by decide +kernel
theorem dX10_shareOf_29 : decode cX10_shareOf 29 = .ok (.lconst 0, 1) := by decide +kernel
theorem dX10_shareOf_30 : decode cX10_shareOf 30 = .ok (.lreturn, 1) := by decide +kernel
set_option maxRecDepth 20000 in
theorem ggX10_append_X10_has : GoodIn wsX10_append wsX10_has := goodIn_r _ [9, 1, 14, 15, 16, 17, 18, 19, 20, 21, 22, 23, 24, 25, 26, 27, 28, 29] (by decide +kernel) (by decide +kernel)
