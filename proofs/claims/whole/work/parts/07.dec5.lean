theorem dX12_evening_25 : decode cX12_evening 25 = .ok (.ifCond .ne 14, 3) := by decide +kernel
theorem dX12_evening_28 : decode cX12_evening 28 = .ok (.aload_n 0, 1) := by decide +kernel
theorem dX12_evening_29 : decode cX12_evening 29 = .ok (.invokevirtual 183, 3) := by decide +kernel
theorem dX12_evening_32 : decode cX12_evening 32 = .ok (.ifCond .ne 7, 3) := by decide +kernel
theorem dX12_evening_35 : decode cX12_evening 35 = .ok (.bipush (-3), 2) := by decide +kernel
theorem dX12_evening_37 : decode cX12_evening 37 = .ok (.istore 4, 2) := by decide +kernel
theorem dX12_evening_39 : decode cX12_evening 39 = .ok (.iload 4, 2) := by decide +kernel
theorem dX12_evening_41 : decode cX12_evening 41 = .ok (.ifCond .eq 10, 3) := by decide +kernel
theorem dX12_evening_44 : decode cX12_evening 44 = .ok (.aload_n 0, 1) := by decide +kernel
theorem dX12_evening_45 : decode cX12_evening 45 = .ok (.iload 4, 2) := by decide +kernel
theorem dX12_evening_47 : decode cX12_evening 47 = .ok (.invokevirtual 321, 3) := by decide +kernel
theorem dX12_evening_50 : decode cX12_evening 50 = .ok (.ireturn, 1) := by decide +kernel
theorem dX12_evening_51 : decode cX12_evening 51 = .ok (.aload_n 0, 1) := by decide +kernel
theorem dX12_evening_52 : decode cX12_evening 52 = .ok (.invokevirtual 247, 3) := by decide +kernel
theorem dX12_evening_55 : decode cX12_evening 55 = .ok (.aload_n 0, 1) := by decide +kernel
theorem dX12_evening_56 : decode cX12_evening 56 = .ok (.iload_n 2, 1) := by decide +kernel
theorem dX12_evening_57 : decode cX12_evening 57 = .ok (.putfield 315, 3) := by decide +kernel
theorem dX12_evening_60 : decode cX12_evening 60 = .ok (.iconst 0, 1) := by decide +kernel
theorem dX12_evening_61 : decode cX12_evening 61 = .ok (.istore 5, 2) := by decide +kernel
theorem dX12_evening_63 : decode cX12_evening 63 = .ok (.iconst 0, 1) := by decide +kernel
theorem dX12_evening_64 : decode cX12_evening 64 = .ok (.istore 6, 2) := by decide +kernel
theorem dX12_evening_66 : decode cX12_evening 66 = .ok (.iload 6, 2) := by decide +kernel
theorem dX12_evening_68 : decode cX12_evening 68 = .ok (.iload_n 1, 1) := by decide +kernel
theorem dX12_evening_69 : decode cX12_evening 69 = .ok (.if_icmp .ge 28, 3) := by decide +kernel
theorem dX12_evening_72 : decode cX12_evening 72 = .ok (.aload_n 0, 1) := by decide +kernel
theorem dX12_evening_73 : decode cX12_evening 73 = .ok (.aload_n 0, 1) := by decide +kernel
theorem dX12_evening_74 : decode cX12_evening 74 = .ok (.invokevirtual 324, 3) := by decide +kernel
theorem dX12_evening_77 : decode cX12_evening 77 = .ok (.invokevirtual 271, 3) := by decide +kernel
theorem dX12_evening_80 : decode cX12_evening 80 = .ok (.iload 5, 2) := by decide +kernel
theorem dX12_evening_82 : decode cX12_evening 82 = .ok (.aload_n 0, 1) := by decide +kernel
theorem dX12_evening_83 : decode cX12_evening 83 = .ok (.getfield 93, 3) := by decide +kernel
theorem dX12_evening_86 : decode cX12_evening 86 = .ok (.iload_n 3, 1) := by decide +kernel
theorem dX12_evening_87 : decode cX12_evening 87 = .ok (.iaload, 1) := by decide +kernel
theorem dX12_evening_88 : decode cX12_evening 88 = .ok (.iadd, 1) := by decide +kernel
theorem dX12_evening_89 : decode cX12_evening 89 = .ok (.istore 5, 2) := by decide +kernel
theorem dX12_evening_91 : decode cX12_evening 91 = .ok (.iinc 6 1, 3) := by decide +kernel
theorem dX12_evening_94 : decode cX12_evening 94 = .ok (.goto (-28), 3) := by decide +kernel
theorem dX12_evening_97 : decode cX12_evening 97 = .ok (.iload 5, 2) := by decide +kernel
theorem dX12_evening_99 : decode cX12_evening 99 = .ok (.ireturn, 1) := by decide +kernel
set_option maxRecDepth 20000 in
theorem ggX12_row_X12_bound : GoodIn wsX12_row wsX12_bound := goodIn_r _ [6] (by decide +kernel) (by decide +kernel)
set_option maxRecDepth 20000 in
theorem gX12_row_X12_bound : GoodIn wsX12_row (va_wsS RX12 121 yX12_bound wsX12_bound) := goodIn_app (goodIn_of _ (by decide +kernel)) ggX12_row_X12_bound
set_option maxRecDepth 20000 in
theorem ggX12_row_X12_no : GoodIn wsX12_row wsX12_no := goodIn_r _ [10, 11, 12, 13, 14, 15, 16, 17, 18, 19, 20, 21, 22, 23, 24, 25, 26, 27, 28, 29, 30, 31, 32, 33, 34, 35, 36, 37, 38, 39, 40, 41, 42, 43, 44, 45, 46, 47, 48, 49, 50, 51, 52, 53, 54, 55, 56, 57, 58, 59, 60, 61, 62, 63] (by decide +kernel) (by decide +kernel)
set_option maxRecDepth 20000 in
theorem gX12_row_X12_no : GoodIn wsX12_row (wsV RX12 128 RX12 yX12_no wsX12_no) := goodIn_app (goodIn_of _ (by decide +kernel)) ggX12_row_X12_no
theorem dX12_row_0 : decode cX12_row 0 = .ok (.iload_n 1, 1) := by decide +kernel
theorem dX12_row_1 : decode cX12_row 1 = .ok (.iconst 0, 1) := by decide +kernel
theorem dX12_row_2 : decode cX12_row 2 = .ok (.bipush 9, 2) := by decide +kernel
theorem dX12_row_4 : decode cX12_row 4 = .ok (.invokestatic 121, 3) := by decide +kernel
theorem dX12_row_7 : decode cX12_row 7 = .ok (.istore_n 2, 1) := by decide +kernel
theorem dX12_row_8 : decode cX12_row 8 = .ok (.iload_n 2, 1) := by decide +kernel
theorem dX12_row_9 : decode cX12_row 9 = .ok (.ifCond .ne 15, 3) := by decide +kernel
theorem dX12_row_12 : decode cX12_row 12 = .ok (.aload_n 0, 1) := by decide +kernel
theorem dX12_row_13 : decode cX12_row 13 = .ok (.getfield 327, 3) := by decide +kernel
theorem dX12_row_16 : decode cX12_row 16 = .ok (.bipush 20, 2) := by decide +kernel
theorem dX12_row_18 : decode cX12_row 18 = .ok (.if_icmp .ne 6, 3) := by decide +kernel
theorem dX12_row_21 : decode cX12_row 21 = .ok (.bipush (-6), 2) := by decide +kernel
theorem dX12_row_23 : decode cX12_row 23 = .ok (.istore_n 2, 1) := by decide +kernel
theorem dX12_row_24 : decode cX12_row 24 = .ok (.iload_n 2, 1) := by decide +kernel
theorem dX12_row_25 : decode cX12_row 25 = .ok (.ifCond .eq 9, 3) := by decide +kernel
theorem dX12_row_28 : decode cX12_row 28 = .ok (.aload_n 0, 1) := by decide +kernel
theorem dX12_row_29 : decode cX12_row 29 = .ok (.iload_n 2, 1) := by decide +kernel
theorem dX12_row_30 : decode cX12_row 30 = .ok (.invokevirtual 128, 3) := by decide +kernel
theorem dX12_row_33 : decode cX12_row 33 = .ok (.ireturn, 1) := by decide +kernel
theorem dX12_row_34 : decode cX12_row 34 = .ok (.aload_n 0, 1) := by decide +kernel
theorem dX12_row_35 : decode cX12_row 35 = .ok (.getfield 105, 3) := by decide +kernel
theorem dX12_row_38 : decode cX12_row 38 = .ok (.aload_n 0, 1) := by decide +kernel
theorem dX12_row_39 : decode cX12_row 39 = .ok (.getfield 327, 3) := by decide +kernel
theorem dX12_row_42 : decode cX12_row 42 = .ok (.iload_n 1, 1) := by decide +kernel
theorem dX12_row_43 : decode cX12_row 43 = .ok (.iastore, 1) := by decide +kernel
theorem dX12_row_44 : decode cX12_row 44 = .ok (.aload_n 0, 1) := by decide +kernel
theorem dX12_row_45 : decode cX12_row 45 = .ok (.dup, 1) := by decide +kernel
theorem dX12_row_46 : decode cX12_row 46 = .ok (.getfield 327, 3) := by decide +kernel
theorem dX12_row_49 : decode cX12_row 49 = .ok (.iconst 1, 1) := by decide +kernel
theorem dX12_row_50 : decode cX12_row 50 = .ok (.iadd, 1) := by decide +kernel
theorem dX12_row_51 : decode cX12_row 51 = .ok (.putfield 327, 3) := by decide +kernel
theorem dX12_row_54 : decode cX12_row 54 = .ok (.aload_n 0, 1) := by decide +kernel
theorem dX12_row_55 : decode cX12_row 55 = .ok (.getfield 327, 3) := by decide +kernel
theorem dX12_row_58 : decode cX12_row 58 = .ok (.ireturn, 1) := by decide +kernel
set_option maxRecDepth 20000 in
theorem ggX12_judge_X12_isWhole : GoodIn wsX12_judge wsX12_isWhole := goodIn_r _ [9, 10, 11, 12, 13, 14, 8, 15, 16, 120, 121, 122, 123, 124, 125, 126, 127, 128, 129, 130, 131, 132, 133, 134, 135, 136, 137, 138, 139, 140, 141, 142, 143, 144, 145, 146, 147, 148, 149, 150, 151, 152, 153, 154, 155, 156, 157, 158, 159, 160, 161, 162, 163, 164, 165, 166, 167, 168, 169, 170, 171] (by decide +kernel) (by decide +kernel)
set_option maxRecDepth 20000 in
theorem gX12_judge_X12_isWhole : GoodIn wsX12_judge (wsV RX12 183 RX12 yX12_isWhole wsX12_isWhole) := goodIn_app (goodIn_of _ (by decide +kernel)) ggX12_judge_X12_isWhole
set_option maxRecDepth 20000 in
theorem ggX12_judge_X12_no : GoodIn wsX12_judge wsX12_no := goodIn_r _ [20, 21, 120, 121, 122, 123, 124, 125, 126, 127, 128, 129, 130, 131, 132, 133, 134, 135, 136, 137, 138, 139, 140, 141, 142, 143, 144, 145, 146, 147, 148, 149, 150, 151, 152, 153, 154, 155, 156, 157, 158, 159, 160, 161, 162, 163, 164, 165, 166, 167, 168, 169, 170, 171] (by decide +kernel) (by decide +kernel)
set_option maxRecDepth 20000 in
theorem gX12_judge_X12_no : GoodIn wsX12_judge (wsV RX12 128 RX12 yX12_no wsX12_no) := goodIn_app (goodIn_of _ (by decide +kernel)) ggX12_judge_X12_no
set_option maxRecDepth 20000 in
theorem ggX12_judge_X12_finds : GoodIn wsX12_judge wsX12_finds := goodIn_r _ [25, 26, 27, 28, 8, 29, 30, 10, 11, 31, 16, 32, 33, 34, 35, 36, 37, 38, 39, 40, 41, 42, 43, 44, 45, 46, 47, 48, 49, 50, 51, 52, 53, 54, 55, 56, 57, 58, 59, 60, 61, 62, 63, 64, 65, 66, 67, 68, 69, 70, 71, 72, 73, 74, 75, 76, 77, 78, 79, 80, 81, 82, 83, 84, 85, 86, 87, 88, 89, 90, 91, 92, 93, 120, 121, 122, 123, 124, 125, 126, 127, 128, 129, 130, 131, 132, 133, 134, 135, 136, 137, 138, 139, 140, 141, 142, 143, 144, 145, 146, 147, 148, 149, 150, 151, 152, 153, 154, 155, 156, 157, 158, 159, 160, 161, 162, 163, 164, 165, 166, 167, 168, 169, 170, 171] (by decide +kernel) (by decide +kernel)
set_option maxRecDepth 20000 in
theorem gX12_judge_X12_finds : GoodIn wsX12_judge (wsV RX12 247 RX12 yX12_finds wsX12_finds) := goodIn_app (goodIn_of _ (by decide +kernel)) ggX12_judge_X12_finds
set_option maxRecDepth 20000 in
theorem ggX12_judge_X12_drawn : GoodIn wsX12_judge wsX12_drawn := goodIn_r _ [97, 11, 2, 98, 99, 100, 16, 32, 34, 35, 36, 8, 37, 10, 120, 121, 122, 123, 124, 125, 126, 127, 128, 129, 130, 131, 132, 133, 134, 135, 136, 137, 138, 139, 140, 141, 142, 143, 144, 145, 146, 147, 148, 149, 150, 151, 152, 153, 154, 155, 156, 157, 158, 159, 160, 161, 162, 163, 164, 165, 166, 167, 168, 169, 170, 171] (by decide +kernel) (by decide +kernel)
set_option maxRecDepth 20000 in
theorem gX12_judge_X12_drawn : GoodIn wsX12_judge (wsV RX12 324 RX12 yX12_drawn wsX12_drawn) := goodIn_app (goodIn_of _ (by decide +kernel)) ggX12_judge_X12_drawn
set_option maxRecDepth 20000 in
theorem ggX12_judge_X12_runs : GoodIn wsX12_judge wsX12_runs := goodIn_r _ [104, 105, 106, 4, 107, 108, 109, 110, 71, 16, 111, 112, 113, 8, 114, 49, 55, 53, 115, 116, 117, 118, 119, 50, 11, 70, 120, 121, 122, 123, 124, 125, 126, 127, 128, 129, 130, 131, 132, 133, 134, 135, 136, 137, 138, 139, 140, 141, 142, 143, 144, 145, 146, 147, 148, 149, 150, 151, 152, 153, 154, 155, 156, 157, 158, 159, 160, 161, 162, 163, 164, 165, 166, 167, 168, 169, 170, 171] (by decide +kernel) (by decide +kernel)
set_option maxRecDepth 20000 in
theorem gX12_judge_X12_runs : GoodIn wsX12_judge (wsV RX12 271 RX12 yX12_runs wsX12_runs) := goodIn_app (goodIn_of _ (by decide +kernel)) ggX12_judge_X12_runs
theorem dX12_judge_0 : decode cX12_judge 0 = .ok (.aload_n 0, 1) := by decide +kernel
theorem dX12_judge_1 : decode cX12_judge 1 = .ok (.invokevirtual 183, 3) := by decide +kernel
theorem dX12_judge_4 : decode cX12_judge 4 = .ok (.ifCond .ne 10, 3) := by decide +kernel
theorem dX12_judge_7 : decode cX12_judge 7 = .ok (.aload_n 0, 1) := by decide +kernel
theorem dX12_judge_8 : decode cX12_judge 8 = .ok (.bipush (-3), 2) := by decide +kernel
theorem dX12_judge_10 : decode cX12_judge 10 = .ok (.invokevirtual 128, 3) := by decide +kernel
theorem dX12_judge_13 : decode cX12_judge 13 = .ok (.ireturn, 1) := by decide +kernel
theorem dX12_judge_14 : decode cX12_judge 14 = .ok (.aload_n 0, 1) := by decide +kernel
theorem dX12_judge_15 : decode cX12_judge 15 = .ok (.invokevirtual 247, 3) := by decide +kernel
theorem dX12_judge_18 : decode cX12_judge 18 = .ok (.aload_n 0, 1) := by decide +kernel
theorem dX12_judge_19 : decode cX12_judge 19 = .ok (.getfield 327, 3) := by decide +kernel
theorem dX12_judge_22 : decode cX12_judge 22 = .ok (.istore_n 2, 1) := by decide +kernel
theorem dX12_judge_23 : decode cX12_judge 23 = .ok (.aload_n 0, 1) := by decide +kernel
theorem dX12_judge_24 : decode cX12_judge 24 = .ok (.iconst 0, 1) := by decide +kernel
theorem dX12_judge_25 : decode cX12_judge 25 = .ok (.putfield 327, 3) := by decide +kernel
theorem dX12_judge_28 : decode cX12_judge 28 = .ok (.aload_n 0, 1) := by decide +kernel
theorem dX12_judge_29 : decode cX12_judge 29 = .ok (.iload_n 1, 1) := by decide +kernel
theorem dX12_judge_30 : decode cX12_judge 30 = .ok (.putfield 315, 3) := by decide +kernel
theorem dX12_judge_33 : decode cX12_judge 33 = .ok (.iconst 0, 1) := by decide +kernel
theorem dX12_judge_34 : decode cX12_judge 34 = .ok (.istore_n 3, 1) := by decide +kernel
theorem dX12_judge_35 : decode cX12_judge 35 = .ok (.iload_n 3, 1) := by decide +kernel
theorem dX12_judge_36 : decode cX12_judge 36 = .ok (.iload_n 2, 1) := by decide +kernel
theorem dX12_judge_37 : decode cX12_judge 37 = .ok (.if_icmp .ge 44, 3) := by decide +kernel
theorem dX12_judge_40 : decode cX12_judge 40 = .ok (.aload_n 0, 1) := by decide +kernel
theorem dX12_judge_41 : decode cX12_judge 41 = .ok (.aload_n 0, 1) := by decide +kernel
theorem dX12_judge_42 : decode cX12_judge 42 = .ok (.invokevirtual 324, 3) := by decide +kernel
theorem dX12_judge_45 : decode cX12_judge 45 = .ok (.invokevirtual 271, 3) := by decide +kernel
theorem dX12_judge_48 : decode cX12_judge 48 = .ok (.aload_n 0, 1) := by decide +kernel
theorem dX12_judge_49 : decode cX12_judge 49 = .ok (.getfield 105, 3) := by decide +kernel
theorem dX12_judge_52 : decode cX12_judge 52 = .ok (.iload_n 3, 1) := by decide +kernel
theorem dX12_judge_53 : decode cX12_judge 53 = .ok (.iaload, 1) := by decide +kernel
theorem dX12_judge_54 : decode cX12_judge 54 = .ok (.aload_n 0, 1) := by decide +kernel
theorem dX12_judge_55 : decode cX12_judge 55 = .ok (.getfield 256, 3) := by decide +kernel
theorem dX12_judge_58 : decode cX12_judge 58 = .ok (.ifCond .ge 8, 3) := by decide +kernel
theorem dX12_judge_61 : decode cX12_judge 61 = .ok (.bipush 9, 2) := by decide +kernel
theorem dX12_judge_63 : decode cX12_judge 63 = .ok (.goto 7, 3) := by decide +kernel
theorem dX12_judge_66 : decode cX12_judge 66 = .ok (.aload_n 0, 1) := by decide +kernel
theorem dX12_judge_67 : decode cX12_judge 67 = .ok (.getfield 256, 3) := by decide +kernel
theorem dX12_judge_70 : decode cX12_judge 70 = .ok (.if_icmp .eq 5, 3) := by decide +kernel
theorem dX12_judge_73 : decode cX12_judge 73 = .ok (.iload_n 3, 1) := by decide +kernel
theorem dX12_judge_74 : decode cX12_judge 74 = .ok (.ireturn, 1) := by decide +kernel
theorem dX12_judge_75 : decode cX12_judge 75 = .ok (.iinc 3 1, 3) := by decide +kernel
theorem dX12_judge_78 : decode cX12_judge 78 = .ok (.goto (-43), 3) := by decide +kernel
theorem dX12_judge_81 : decode cX12_judge 81 = .ok (.bipush (-9), 2) := by decide +kernel
theorem dX12_judge_83 : decode cX12_judge 83 = .ok (.ireturn, 1) := by decide +kernel
theorem dX12_passes_0 : decode cX12_passes 0 = .ok (.iconst 0, 1) := by decide +kernel
theorem dX12_passes_1 : decode cX12_passes 1 = .ok (.istore_n 2, 1) := by decide +kernel
theorem dX12_passes_2 : decode cX12_passes 2 = .ok (.iload_n 2, 1) := by decide +kernel
theorem dX12_passes_3 : decode cX12_passes 3 = .ok (.aload_n 1, 1) := by decide +kernel
theorem dX12_passes_4 : decode cX12_passes 4 = .ok (.arraylength, 1) := by decide +kernel
theorem dX12_passes_5 : decode cX12_passes 5 = .ok (.if_icmp .ge 53, 3) := by decide +kernel
theorem dX12_passes_8 : decode cX12_passes 8 = .ok (.aload_n 0, 1) := by decide +kernel
theorem dX12_passes_9 : decode cX12_passes 9 = .ok (.getfield 330, 3) := by decide +kernel
theorem dX12_passes_12 : decode cX12_passes 12 = .ok (.ifCond .eq 18, 3) := by decide +kernel
theorem dX12_passes_15 : decode cX12_passes 15 = .ok (.aload_n 0, 1) := by decide +kernel
theorem dX12_passes_16 : decode cX12_passes 16 = .ok (.getfield 108, 3) := by decide +kernel
theorem dX12_passes_19 : decode cX12_passes 19 = .ok (.aload_n 0, 1) := by decide +kernel
theorem dX12_passes_20 : decode cX12_passes 20 = .ok (.getfield 334, 3) := by decide +kernel
theorem dX12_passes_23 : decode cX12_passes 23 = .ok (.aload_n 1, 1) := by decide +kernel
theorem dX12_passes_24 : decode cX12_passes 24 = .ok (.iload_n 2, 1) := by decide +kernel
theorem dX12_passes_25 : decode cX12_passes 25 = .ok (.iaload, 1) := by decide +kernel
theorem dX12_passes_26 : decode cX12_passes 26 = .ok (.iastore, 1) := by decide +kernel
theorem dX12_passes_27 : decode cX12_passes 27 = .ok (.goto 15, 3) := by decide +kernel
theorem dX12_passes_30 : decode cX12_passes 30 = .ok (.aload_n 1, 1) := by decide +kernel
theorem dX12_passes_31 : decode cX12_passes 31 = .ok (.iload_n 2, 1) := by decide +kernel
theorem dX12_passes_32 : decode cX12_passes 32 = .ok (.aload_n 0, 1) := by decide +kernel
theorem dX12_passes_33 : decode cX12_passes 33 = .ok (.getfield 108, 3) := by decide +kernel
theorem dX12_passes_36 : decode cX12_passes 36 = .ok (.aload_n 0, 1) := by decide +kernel
theorem dX12_passes_37 : decode cX12_passes 37 = .ok (.getfield 334, 3) := by decide +kernel
theorem dX12_passes_40 : decode cX12_passes 40 = .ok (.iaload, 1) := by decide +kernel
theorem dX12_passes_41 : decode cX12_passes 41 = .ok (.iastore, 1) := by decide +kernel
theorem dX12_passes_42 : decode cX12_passes 42 = .ok (.aload_n 0, 1) := by decide +kernel
theorem dX12_passes_43 : decode cX12_passes 43 = .ok (.dup, 1) := by decide +kernel
theorem dX12_passes_44 : decode cX12_passes 44 = .ok (.getfield 334, 3) := by decide +kernel
theorem dX12_passes_47 : decode cX12_passes 47 = .ok (.iconst 1, 1) := by decide +kernel
theorem dX12_passes_48 : decode cX12_passes 48 = .ok (.iadd, 1) := by decide +kernel
theorem dX12_passes_49 : decode cX12_passes 49 = .ok (.putfield 334, 3) := by decide +kernel
theorem dX12_passes_52 : decode cX12_passes 52 = .ok (.iinc 2 1, 3) := by decide +kernel
theorem dX12_passes_55 : decode cX12_passes 55 = .ok (.goto (-53), 3) := by decide +kernel
theorem dX12_passes_58 : decode cX12_passes 58 = .ok (.return_, 1) := by decide +kernel
theorem dX12_passOne_0 : decode cX12_passOne 0 = .ok (.aload_n 0, 1) := by decide +kernel
theorem dX12_passOne_1 : decode cX12_passOne 1 = .ok (.getfield 330, 3) := by decide +kernel
theorem dX12_passOne_4 : decode cX12_passOne 4 = .ok (.ifCond .eq 7, 3) := by decide +kernel
theorem dX12_passOne_7 : decode cX12_passOne 7 = .ok (.iload_n 1, 1) := by decide +kernel
theorem dX12_passOne_8 : decode cX12_passOne 8 = .ok (.goto 12, 3) := by decide +kernel
theorem dX12_passOne_11 : decode cX12_passOne 11 = .ok (.aload_n 0, 1) := by decide +kernel
theorem dX12_passOne_12 : decode cX12_passOne 12 = .ok (.getfield 108, 3) := by decide +kernel
theorem dX12_passOne_15 : decode cX12_passOne 15 = .ok (.aload_n 0, 1) := by decide +kernel
theorem dX12_passOne_16 : decode cX12_passOne 16 = .ok (.getfield 334, 3) := by decide +kernel
theorem dX12_passOne_19 : decode cX12_passOne 19 = .ok (.iaload, 1) := by decide +kernel
theorem dX12_passOne_20 : decode cX12_passOne 20 = .ok (.istore_n 2, 1) := by decide +kernel
theorem dX12_passOne_21 : decode cX12_passOne 21 = .ok (.aload_n 0, 1) := by decide +kernel
theorem dX12_passOne_22 : decode cX12_passOne 22 = .ok (.getfield 330, 3) := by decide +kernel
theorem dX12_passOne_25 : decode cX12_passOne 25 = .ok (.ifCond .eq 13, 3) := by decide +kernel
theorem dX12_passOne_28 : decode cX12_passOne 28 = .ok (.aload_n 0, 1) := by decide +kernel
theorem dX12_passOne_29 : decode cX12_passOne 29 = .ok (.getfield 108, 3) := by decide +kernel
theorem dX12_passOne_32 : decode cX12_passOne 32 = .ok (.aload_n 0, 1) := by decide +kernel
theorem dX12_passOne_33 : decode cX12_passOne 33 = .ok (.getfield 334, 3) := by decide +kernel
theorem dX12_passOne_36 : decode cX12_passOne 36 = .ok (.iload_n 1, 1) := by decide +kernel
theorem dX12_passOne_37 : decode cX12_passOne 37 = .ok (.iastore, 1) := by decide +kernel
theorem dX12_passOne_38 : decode cX12_passOne 38 = .ok (.aload_n 0, 1) := by decide +kernel
theorem dX12_passOne_39 : decode cX12_passOne 39 = .ok (.dup, 1) := by decide +kernel
theorem dX12_passOne_40 : decode cX12_passOne 40 = .ok (.getfield 334, 3) := by decide +kernel
theorem dX12_passOne_43 : decode cX12_passOne 43 = .ok (.iconst 1, 1) := by decide +kernel
theorem dX12_passOne_44 : decode cX12_passOne 44 = .ok (.iadd, 1) := by decide +kernel
theorem dX12_passOne_45 : decode cX12_passOne 45 = .ok (.putfield 334, 3) := by decide +kernel
theorem dX12_passOne_48 : decode cX12_passOne 48 = .ok (.iload_n 2, 1) := by decide +kernel
theorem dX12_passOne_49 : decode cX12_passOne 49 = .ok (.ireturn, 1) := by decide +kernel
set_option maxRecDepth 20000 in
theorem ggX12_passesAll_X12_passes : GoodIn wsX12_passesAll wsX12_passes := goodIn_r _ [20, 21, 22, 1, 27, 28, 29, 30, 31, 32, 33, 34, 35, 36, 37, 38, 39, 40, 41, 42, 43, 44, 45, 46, 47, 48, 49, 50, 51, 52, 53, 54, 55, 56, 57, 58, 59, 60, 61, 62, 63, 64, 65, 66, 67, 68, 69, 70, 71, 72, 73, 74, 75, 76, 77, 78] (by decide +kernel) (by decide +kernel)
set_option maxRecDepth 20000 in
theorem gX12_passesAll_X12_passes : GoodIn wsX12_passesAll (wsV RX12 337 RX12 yX12_passes wsX12_passes) := goodIn_app (goodIn_of _ (by decide +kernel)) ggX12_passesAll_X12_passes
set_option maxRecDepth 20000 in
theorem ggX12_passesAll_X12_passOne : GoodIn wsX12_passesAll wsX12_passOne := goodIn_r _ [26, 21, 22, 1, 27, 28, 29, 30, 31, 32, 33, 34, 35, 36, 37, 38, 39, 40, 41, 42, 43, 44, 45, 46, 47, 48, 49, 50, 51, 52, 53, 54, 55, 56, 57, 58, 59, 60, 61, 62, 63, 64, 65, 66, 67, 68, 69, 70, 71, 72, 73, 74, 75, 76, 77, 78] (by decide +kernel) (by decide +kernel)
set_option maxRecDepth 20000 in
theorem gX12_passesAll_X12_passOne : GoodIn wsX12_passesAll (wsV RX12 341 RX12 yX12_passOne wsX12_passOne) := goodIn_app (goodIn_of _ (by decide +kernel)) ggX12_passesAll_X12_passOne
theorem dX12_passesAll_0 : decode cX12_passesAll 0 = .ok (.aload_n 0, 1) := by decide +kernel
theorem dX12_passesAll_1 : decode cX12_passesAll 1 = .ok (.iconst 0, 1) := by decide +kernel
theorem dX12_passesAll_2 : decode cX12_passesAll 2 = .ok (.putfield 334, 3) := by decide +kernel
theorem dX12_passesAll_5 : decode cX12_passesAll 5 = .ok (.aload_n 0, 1) := by decide +kernel
theorem dX12_passesAll_6 : decode cX12_passesAll 6 = .ok (.aload_n 0, 1) := by decide +kernel
theorem dX12_passesAll_7 : decode cX12_passesAll 7 = .ok (.getfield 13, 3) := by decide +kernel
theorem dX12_passesAll_10 : decode cX12_passesAll 10 = .ok (.invokevirtual 337, 3) := by decide +kernel
theorem dX12_passesAll_13 : decode cX12_passesAll 13 = .ok (.aload_n 0, 1) := by decide +kernel
theorem dX12_passesAll_14 : decode cX12_passesAll 14 = .ok (.aload_n 0, 1) := by decide +kernel
theorem dX12_passesAll_15 : decode cX12_passesAll 15 = .ok (.getfield 16, 3) := by decide +kernel
theorem dX12_passesAll_18 : decode cX12_passesAll 18 = .ok (.invokevirtual 337, 3) := by decide +kernel
theorem dX12_passesAll_21 : decode cX12_passesAll 21 = .ok (.aload_n 0, 1) := by decide +kernel
theorem dX12_passesAll_22 : decode cX12_passesAll 22 = .ok (.aload_n 0, 1) := by decide +kernel
theorem dX12_passesAll_23 : decode cX12_passesAll 23 = .ok (.getfield 19, 3) := by decide +kernel
theorem dX12_passesAll_26 : decode cX12_passesAll 26 = .ok (.invokevirtual 337, 3) := by decide +kernel
theorem dX12_passesAll_29 : decode cX12_passesAll 29 = .ok (.aload_n 0, 1) := by decide +kernel
theorem dX12_passesAll_30 : decode cX12_passesAll 30 = .ok (.aload_n 0, 1) := by decide +kernel
theorem dX12_passesAll_31 : decode cX12_passesAll 31 = .ok (.getfield 22, 3) := by decide +kernel
theorem dX12_passesAll_34 : decode cX12_passesAll 34 = .ok (.invokevirtual 337, 3) := by decide +kernel
theorem dX12_passesAll_37 : decode cX12_passesAll 37 = .ok (.aload_n 0, 1) := by decide +kernel
theorem dX12_passesAll_38 : decode cX12_passesAll 38 = .ok (.aload_n 0, 1) := by decide +kernel
theorem dX12_passesAll_39 : decode cX12_passesAll 39 = .ok (.getfield 25, 3) := by decide +kernel
theorem dX12_passesAll_42 : decode cX12_passesAll 42 = .ok (.invokevirtual 337, 3) := by decide +kernel
theorem dX12_passesAll_45 : decode cX12_passesAll 45 = .ok (.aload_n 0, 1) := by decide +kernel
theorem dX12_passesAll_46 : decode cX12_passesAll 46 = .ok (.aload_n 0, 1) := by decide +kernel
theorem dX12_passesAll_47 : decode cX12_passesAll 47 = .ok (.getfield 28, 3) := by decide +kernel
theorem dX12_passesAll_50 : decode cX12_passesAll 50 = .ok (.invokevirtual 337, 3) := by decide +kernel
theorem dX12_passesAll_53 : decode cX12_passesAll 53 = .ok (.aload_n 0, 1) := by decide +kernel
theorem dX12_passesAll_54 : decode cX12_passesAll 54 = .ok (.aload_n 0, 1) := by decide +kernel
theorem dX12_passesAll_55 : decode cX12_passesAll 55 = .ok (.getfield 31, 3) := by decide +kernel
theorem dX12_passesAll_58 : decode cX12_passesAll 58 = .ok (.invokevirtual 337, 3) := by decide +kernel
theorem dX12_passesAll_61 : decode cX12_passesAll 61 = .ok (.aload_n 0, 1) := by decide +kernel
theorem dX12_passesAll_62 : decode cX12_passesAll 62 = .ok (.aload_n 0, 1) := by decide +kernel
theorem dX12_passesAll_63 : decode cX12_passesAll 63 = .ok (.getfield 34, 3) := by decide +kernel
theorem dX12_passesAll_66 : decode cX12_passesAll 66 = .ok (.invokevirtual 337, 3) := by decide +kernel
theorem dX12_passesAll_69 : decode cX12_passesAll 69 = .ok (.aload_n 0, 1) := by decide +kernel
theorem dX12_passesAll_70 : decode cX12_passesAll 70 = .ok (.aload_n 0, 1) := by decide +kernel
theorem dX12_passesAll_71 : decode cX12_passesAll 71 = .ok (.getfield 37, 3) := by decide +kernel
theorem dX12_passesAll_74 : decode cX12_passesAll 74 = .ok (.invokevirtual 337, 3) := by decide +kernel
theorem dX12_passesAll_77 : decode cX12_passesAll 77 = .ok (.aload_n 0, 1) := by decide +kernel
theorem dX12_passesAll_78 : decode cX12_passesAll 78 = .ok (.aload_n 0, 1) := by decide +kernel
theorem dX12_passesAll_79 : decode cX12_passesAll 79 = .ok (.getfield 40, 3) := by decide +kernel
theorem dX12_passesAll_82 : decode cX12_passesAll 82 = .ok (.invokevirtual 337, 3) := by decide +kernel
theorem dX12_passesAll_85 : decode cX12_passesAll 85 = .ok (.aload_n 0, 1) := by decide +kernel
theorem dX12_passesAll_86 : decode cX12_passesAll 86 = .ok (.aload_n 0, 1) := by decide +kernel
theorem dX12_passesAll_87 : decode cX12_passesAll 87 = .ok (.getfield 96, 3) := by decide +kernel
theorem dX12_passesAll_90 : decode cX12_passesAll 90 = .ok (.invokevirtual 337, 3) := by decide +kernel
theorem dX12_passesAll_93 : decode cX12_passesAll 93 = .ok (.aload_n 0, 1) := by decide +kernel
theorem dX12_passesAll_94 : decode cX12_passesAll 94 = .ok (.aload_n 0, 1) := by decide +kernel
theorem dX12_passesAll_95 : decode cX12_passesAll 95 = .ok (.aload_n 0, 1) := by decide +kernel
theorem dX12_passesAll_96 : decode cX12_passesAll 96 = .ok (.getfield 46, 3) := by decide +kernel
theorem dX12_passesAll_99 : decode cX12_passesAll 99 = .ok (.invokevirtual 341, 3) := by decide +kernel
theorem dX12_passesAll_102 : decode cX12_passesAll 102 = .ok (.putfield 46, 3) := by decide +kernel
theorem dX12_passesAll_105 : decode cX12_passesAll 105 = .ok (.aload_n 0, 1) := by decide +kernel
theorem dX12_passesAll_106 : decode cX12_passesAll 106 = .ok (.aload_n 0, 1) := by decide +kernel
theorem dX12_passesAll_107 : decode cX12_passesAll 107 = .ok (.aload_n 0, 1) := by decide +kernel
theorem dX12_passesAll_108 : decode cX12_passesAll 108 = .ok (.getfield 114, 3) := by decide +kernel
theorem dX12_passesAll_111 : decode cX12_passesAll 111 = .ok (.invokevirtual 341, 3) := by decide +kernel
theorem dX12_passesAll_114 : decode cX12_passesAll 114 = .ok (.putfield 114, 3) := by decide +kernel
theorem dX12_passesAll_117 : decode cX12_passesAll 117 = .ok (.aload_n 0, 1) := by decide +kernel
theorem dX12_passesAll_118 : decode cX12_passesAll 118 = .ok (.aload_n 0, 1) := by decide +kernel
theorem dX12_passesAll_119 : decode cX12_passesAll 119 = .ok (.aload_n 0, 1) := by decide +kernel
theorem dX12_passesAll_120 : decode cX12_passesAll 120 = .ok (.getfield 299, 3) := by decide +kernel
theorem dX12_passesAll_123 : decode cX12_passesAll 123 = .ok (.invokevirtual 341, 3) := by decide +kernel
theorem dX12_passesAll_126 : decode cX12_passesAll 126 = .ok (.putfield 299, 3) := by decide +kernel
theorem dX12_passesAll_129 : decode cX12_passesAll 129 = .ok (.return_, 1) := by decide +kernel
set_option maxRecDepth 20000 in
theorem ggX12_image_X12_passesAll : GoodIn wsX12_image wsX12_passesAll := goodIn_r _ [8, 9, 10, 11, 12, 13, 14, 15, 16, 17, 18, 19, 20, 3, 21, 22, 23, 24, 25, 7, 26, 1, 27, 28, 29, 30, 31, 32, 33, 34, 35, 36, 37, 38, 39, 40, 41, 42, 43, 44, 45, 46, 47, 48, 49, 50, 51, 52, 53, 54, 55, 56, 57, 58, 59, 60, 61, 62, 63, 64, 65, 66, 67, 68, 69, 70, 71, 72, 73, 74, 75, 76, 77, 78, 79, 80, 81, 82, 83] (by decide +kernel) (by decide +kernel)
set_option maxRecDepth 20000 in
theorem gX12_image_X12_passesAll : GoodIn wsX12_image (wsV RX12 347 RX12 yX12_passesAll wsX12_passesAll) := goodIn_app (goodIn_of _ (by decide +kernel)) ggX12_image_X12_passesAll
theorem dX12_image_0 : decode cX12_image 0 = .ok (.aload_n 0, 1) := by decide +kernel
theorem dX12_image_1 : decode cX12_image 1 = .ok (.iconst 1, 1) := by decide +kernel
theorem dX12_image_2 : decode cX12_image 2 = .ok (.putfield 330, 3) := by decide +kernel
theorem dX12_image_5 : decode cX12_image 5 = .ok (.aload_n 0, 1) := by decide +kernel
theorem dX12_image_6 : decode cX12_image 6 = .ok (.iconst 1, 1) := by decide +kernel
theorem dX12_image_7 : decode cX12_image 7 = .ok (.putfield 344, 3) := by decide +kernel
theorem dX12_image_10 : decode cX12_image 10 = .ok (.aload_n 0, 1) := by decide +kernel
theorem dX12_image_11 : decode cX12_image 11 = .ok (.invokevirtual 347, 3) := by decide +kernel
theorem dX12_image_14 : decode cX12_image 14 = .ok (.aload_n 0, 1) := by decide +kernel
theorem dX12_image_15 : decode cX12_image 15 = .ok (.getfield 46, 3) := by decide +kernel
theorem dX12_image_18 : decode cX12_image 18 = .ok (.ireturn, 1) := by decide +kernel
set_option maxRecDepth 20000 in
theorem ggX12_on_X12_no : GoodIn wsX12_on wsX12_no := goodIn_r _ [8, 9, 37, 38, 39, 40, 41, 42, 43, 44, 45, 46, 47, 48, 49, 50, 51, 52, 53, 54, 55, 56, 57, 58, 59, 60, 61, 62, 63, 64, 65, 66, 67, 68, 69, 70, 71, 72, 73, 74, 75, 76, 77, 78, 79, 80, 81, 82, 83, 84, 85, 86, 87, 88] (by decide +kernel) (by decide +kernel)
set_option maxRecDepth 20000 in
theorem gX12_on_X12_no : GoodIn wsX12_on (wsV RX12 128 RX12 yX12_no wsX12_no) := goodIn_app (goodIn_of _ (by decide +kernel)) ggX12_on_X12_no
set_option maxRecDepth 20000 in
theorem ggX12_on_X12_passesAll : GoodIn wsX12_on wsX12_passesAll := goodIn_r _ [13, 14, 15, 16, 17, 18, 19, 20, 21, 22, 23, 24, 25, 3, 26, 27, 28, 29, 30, 7, 31, 2, 32, 33, 34, 35, 36, 37, 38, 39, 40, 41, 42, 43, 44, 45, 46, 47, 48, 49, 50, 51, 52, 53, 54, 55, 56, 57, 58, 59, 60, 61, 62, 63, 64, 65, 66, 67, 68, 69, 70, 71, 72, 73, 74, 75, 76, 77, 78, 79, 80, 81, 82, 83, 84, 85, 86, 87, 88] (by decide +kernel) (by decide +kernel)
set_option maxRecDepth 20000 in
theorem gX12_on_X12_passesAll : GoodIn wsX12_on (wsV RX12 347 RX12 yX12_passesAll wsX12_passesAll) := goodIn_app (goodIn_of _ (by decide +kernel)) ggX12_on_X12_passesAll
theorem dX12_on_0 : decode cX12_on 0 = .ok (.aload_n 0, 1) := by decide +kernel
theorem dX12_on_1 : decode cX12_on 1 = .ok (.getfield 344, 3) := by decide +kernel
theorem dX12_on_4 : decode cX12_on 4 = .ok (.ifCond .ne 10, 3) := by decide +kernel
theorem dX12_on_7 : decode cX12_on 7 = .ok (.aload_n 0, 1) := by decide +kernel
theorem dX12_on_8 : decode cX12_on 8 = .ok (.bipush (-3), 2) := by decide +kernel
theorem dX12_on_10 : decode cX12_on 10 = .ok (.invokevirtual 128, 3) := by decide +kernel
theorem dX12_on_13 : decode cX12_on 13 = .ok (.ireturn, 1) := by decide +kernel
theorem dX12_on_14 : decode cX12_on 14 = .ok (.aload_n 0, 1) := by decide +kernel
theorem dX12_on_15 : decode cX12_on 15 = .ok (.iconst 0, 1) := by decide +kernel
theorem dX12_on_16 : decode cX12_on 16 = .ok (.putfield 330, 3) := by decide +kernel
theorem dX12_on_19 : decode cX12_on 19 = .ok (.aload_n 0, 1) := by decide +kernel
theorem dX12_on_20 : decode cX12_on 20 = .ok (.invokevirtual 347, 3) := by decide +kernel
theorem dX12_on_23 : decode cX12_on 23 = .ok (.aload_n 0, 1) := by decide +kernel
theorem dX12_on_24 : decode cX12_on 24 = .ok (.getfield 46, 3) := by decide +kernel
theorem dX12_on_27 : decode cX12_on 27 = .ok (.ireturn, 1) := by decide +kernel
set_option maxRecDepth 20000 in
theorem ggX12_count_X12_isIn : GoodIn wsX12_count wsX12_isIn := goodIn_r _ [11] (by decide +kernel) (by decide +kernel)
set_option maxRecDepth 20000 in
theorem gX12_count_X12_isIn : GoodIn wsX12_count (va_wsS RX12 140 yX12_isIn wsX12_isIn) := goodIn_app (goodIn_of _ (by decide +kernel)) ggX12_count_X12_isIn
theorem dX12_count_0 : decode cX12_count 0 = .ok (.iload_n 1, 1) := by decide +kernel
theorem dX12_count_1 : decode cX12_count 1 = .ok (.bipush 11, 2) := by decide +kernel
theorem dX12_count_3 : decode cX12_count 3 = .ok (.bipush 16, 2) := by decide +kernel
theorem dX12_count_5 : decode cX12_count 5 = .ok (.invokestatic 140, 3) := by decide +kernel
theorem dX12_count_8 : decode cX12_count 8 = .ok (.ifCond .eq 13, 3) := by decide +kernel
theorem dX12_count_11 : decode cX12_count 11 = .ok (.aload_n 0, 1) := by decide +kernel
theorem dX12_count_12 : decode cX12_count 12 = .ok (.getfield 7, 3) := by decide +kernel
theorem dX12_count_15 : decode cX12_count 15 = .ok (.iload_n 1, 1) := by decide +kernel
theorem dX12_count_16 : decode cX12_count 16 = .ok (.bipush 10, 2) := by decide +kernel
theorem dX12_count_18 : decode cX12_count 18 = .ok (.isub, 1) := by decide +kernel
theorem dX12_count_19 : decode cX12_count 19 = .ok (.iaload, 1) := by decide +kernel
theorem dX12_count_20 : decode cX12_count 20 = .ok (.ireturn, 1) := by decide +kernel
theorem dX12_count_21 : decode cX12_count 21 = .ok (.iconst 0, 1) := by decide +kernel
theorem dX12_count_22 : decode cX12_count 22 = .ok (.istore_n 2, 1) := by decide +kernel
theorem dX12_count_23 : decode cX12_count 23 = .ok (.iload_n 1, 1) := by decide +kernel
theorem dX12_count_24 : decode cX12_count 24 = .ok (.tableswitch 100 0 5 #[40, 45, 50, 85, 90, 95], 40) := by decide +kernel
theorem dX12_count_64 : decode cX12_count 64 = .ok (.aload_n 0, 1) := by decide +kernel
theorem dX12_count_65 : decode cX12_count 65 = .ok (.getfield 46, 3) := by decide +kernel
theorem dX12_count_68 : decode cX12_count 68 = .ok (.ireturn, 1) := by decide +kernel
theorem dX12_count_69 : decode cX12_count 69 = .ok (.aload_n 0, 1) := by decide +kernel
theorem dX12_count_70 : decode cX12_count 70 = .ok (.getfield 114, 3) := by decide +kernel
theorem dX12_count_73 : decode cX12_count 73 = .ok (.ireturn, 1) := by decide +kernel
theorem dX12_count_74 : decode cX12_count 74 = .ok (.iconst 0, 1) := by decide +kernel
theorem dX12_count_75 : decode cX12_count 75 = .ok (.istore_n 3, 1) := by decide +kernel
theorem dX12_count_76 : decode cX12_count 76 = .ok (.iload_n 3, 1) := by decide +kernel
theorem dX12_count_77 : decode cX12_count 77 = .ok (.aload_n 0, 1) := by decide +kernel
theorem dX12_count_78 : decode cX12_count 78 = .ok (.getfield 46, 3) := by decide +kernel
theorem dX12_count_81 : decode cX12_count 81 = .ok (.if_icmp .ge 26, 3) := by decide +kernel
theorem dX12_count_84 : decode cX12_count 84 = .ok (.iload_n 2, 1) := by decide +kernel
theorem dX12_count_85 : decode cX12_count 85 = .ok (.aload_n 0, 1) := by decide +kernel
theorem dX12_count_86 : decode cX12_count 86 = .ok (.getfield 19, 3) := by decide +kernel
theorem dX12_count_89 : decode cX12_count 89 = .ok (.iload_n 3, 1) := by decide +kernel
theorem dX12_count_90 : decode cX12_count 90 = .ok (.iaload, 1) := by decide +kernel
theorem dX12_count_91 : decode cX12_count 91 = .ok (.ifCond .eq 7, 3) := by decide +kernel
theorem dX12_count_94 : decode cX12_count 94 = .ok (.iconst 1, 1) := by decide +kernel
theorem dX12_count_95 : decode cX12_count 95 = .ok (.goto 4, 3) := by decide +kernel
theorem dX12_count_98 : decode cX12_count 98 = .ok (.iconst 0, 1) := by decide +kernel
theorem dX12_count_99 : decode cX12_count 99 = .ok (.iadd, 1) := by decide +kernel
theorem dX12_count_100 : decode cX12_count 100 = .ok (.istore_n 2, 1) := by decide +kernel
theorem dX12_count_101 : decode cX12_count 101 = .ok (.iinc 3 1, 3) := by decide +kernel
theorem dX12_count_104 : decode cX12_count 104 = .ok (.goto (-28), 3) := by decide +kernel
theorem dX12_count_107 : decode cX12_count 107 = .ok (.iload_n 2, 1) := by decide +kernel
theorem dX12_count_108 : decode cX12_count 108 = .ok (.ireturn, 1) := by decide +kernel
theorem dX12_count_109 : decode cX12_count 109 = .ok (.aload_n 0, 1) := by decide +kernel
theorem dX12_count_110 : decode cX12_count 110 = .ok (.getfield 299, 3) := by decide +kernel
theorem dX12_count_113 : decode cX12_count 113 = .ok (.ireturn, 1) := by decide +kernel
theorem dX12_count_114 : decode cX12_count 114 = .ok (.aload_n 0, 1) := by decide +kernel
theorem dX12_count_115 : decode cX12_count 115 = .ok (.getfield 327, 3) := by decide +kernel
theorem dX12_count_118 : decode cX12_count 118 = .ok (.ireturn, 1) := by decide +kernel
theorem dX12_count_119 : decode cX12_count 119 = .ok (.aload_n 0, 1) := by decide +kernel
theorem dX12_count_120 : decode cX12_count 120 = .ok (.getfield 125, 3) := by decide +kernel
theorem dX12_count_123 : decode cX12_count 123 = .ok (.ireturn, 1) := by decide +kernel
theorem dX12_count_124 : decode cX12_count 124 = .ok (.bipush (-9), 2) := by decide +kernel
theorem dX12_count_126 : decode cX12_count 126 = .ok (.ireturn, 1) := by decide +kernel
set_option maxRecDepth 20000 in
theorem ggX0_init_X9_init : GoodIn wsX0_init wsX9_init := goodIn_r _ [4, 5, 6, 7, 8, 9, 10, 11, 12, 13, 14, 15, 16, 17, 18, 19, 20, 21, 22, 23, 24, 25, 26, 27, 28, 29, 30, 31, 32, 33, 34, 35] (by decide +kernel) (by decide +kernel)
set_option maxRecDepth 20000 in
theorem gX0_init_X9_init : GoodIn wsX0_init (wsX9_init) := ggX0_init_X9_init
theorem dX0_init_0 : decode cX0_init 0 = .ok (.aload_n 0, 1) := by decide +kernel
theorem dX0_init_1 : decode cX0_init 1 = .ok (.iload_n 1, 1) := by decide +kernel
theorem dX0_init_2 : decode cX0_init 2 = .ok (.iload_n 2, 1) := by decide +kernel
theorem dX0_init_3 : decode cX0_init 3 = .ok (.iload_n 3, 1) := by decide +kernel
theorem dX0_init_4 : decode cX0_init 4 = .ok (.invokespecial 3, 3) := by decide +kernel
theorem dX0_init_7 : decode cX0_init 7 = .ok (.return_, 1) := by decide +kernel
theorem dX0_kind_0 : decode cX0_kind 0 = .ok (.iconst 5, 1) := by decide +kernel
theorem dX0_kind_1 : decode cX0_kind 1 = .ok (.ireturn, 1) := by decide +kernel
set_option maxRecDepth 20000 in
theorem ggX0_wishes_X6_aloneSet : GoodIn wsX0_wishes wsX6_aloneSet := goodIn_r _ [5, 6, 7, 8, 9, 10, 11, 12, 13, 14, 15, 16, 17, 18, 19, 20, 21, 22, 23, 24, 25, 26, 27, 28, 29, 30, 31, 32, 33, 34, 35, 36, 37, 38, 39, 40, 41, 42, 43, 44, 45, 46, 47, 48, 49, 50, 51, 52, 53, 54, 55, 56, 57, 58, 59, 60, 61, 62, 63, 64, 65] (by decide +kernel) (by decide +kernel)
set_option maxRecDepth 20000 in
theorem gX0_wishes_X6_aloneSet : GoodIn wsX0_wishes (wsV RX0 9 RX6 yX6_aloneSet wsX6_aloneSet) := goodIn_app (goodIn_of _ (by decide +kernel)) ggX0_wishes_X6_aloneSet
theorem dX0_wishes_0 : decode cX0_wishes 0 = .ok (.aload_n 1, 1) := by decide +kernel
theorem dX0_wishes_1 : decode cX0_wishes 1 = .ok (.iload_n 2, 1) := by decide +kernel
theorem dX0_wishes_2 : decode cX0_wishes 2 = .ok (.invokevirtual 9, 3) := by decide +kernel
theorem dX0_wishes_5 : decode cX0_wishes 5 = .ok (.ireturn, 1) := by decide +kernel
set_option maxRecDepth 20000 in
theorem ggX1_init_X7_init : GoodIn wsX1_init wsX7_init := goodIn_r _ [4, 5, 6, 7, 8, 9, 10, 11, 12, 13, 14, 15, 16, 17, 18, 19, 20, 21, 22, 23, 24, 25, 26, 27, 28, 29, 30, 31, 32, 33, 34] (by decide +kernel) (by decide +kernel)
set_option maxRecDepth 20000 in
theorem gX1_init_X7_init : GoodIn wsX1_init (wsX7_init) := ggX1_init_X7_init
theorem dX1_init_0 : decode cX1_init 0 = .ok (.aload_n 0, 1) := by decide +kernel
theorem dX1_init_1 : decode cX1_init 1 = .ok (.iload_n 1, 1) := by decide +kernel
theorem dX1_init_2 : decode cX1_init 2 = .ok (.iload_n 2, 1) := by decide +kernel
theorem dX1_init_3 : decode cX1_init 3 = .ok (.iload_n 3, 1) := by decide +kernel
theorem dX1_init_4 : decode cX1_init 4 = .ok (.invokespecial 3, 3) := by decide +kernel
theorem dX1_init_7 : decode cX1_init 7 = .ok (.return_, 1) := by decide +kernel
theorem dX1_kind_0 : decode cX1_kind 0 = .ok (.iconst 2, 1) := by decide +kernel
theorem dX1_kind_1 : decode cX1_kind 1 = .ok (.ireturn, 1) := by decide +kernel
theorem dX1_hundredths_0 : decode cX1_hundredths 0 = .ok (.iconst 0, 1) := by decide +kernel
theorem dX1_hundredths_1 : decode cX1_hundredths 1 = .ok (.aload_n 0, 1) := by decide +kernel
theorem dX1_hundredths_2 : decode cX1_hundredths 2 = .ok (.getfield 9, 3) := by decide +kernel
theorem dX1_hundredths_5 : decode cX1_hundredths 5 = .ok (.bipush 20, 2) := by decide +kernel
theorem dX1_hundredths_7 : decode cX1_hundredths 7 = .ok (.isub, 1) := by decide +kernel
theorem dX1_hundredths_8 : decode cX1_hundredths 8 = .ok (.invokestatic 15, 3) := by decide +kernel
theorem dX1_hundredths_11 : decode cX1_hundredths 11 = .ok (.ireturn, 1) := by decide +kernel
set_option maxRecDepth 20000 in
theorem ggX2_init_X5_init : GoodIn wsX2_init wsX5_init := goodIn_r _ [4, 5, 6, 7, 8, 9, 10, 11, 12, 13, 14, 15, 16, 17, 18, 19, 20, 21, 22, 23, 24, 25, 26, 27, 28, 29, 30] (by decide +kernel) (by decide +kernel)
set_option maxRecDepth 20000 in
theorem gX2_init_X5_init : GoodIn wsX2_init (wsX5_init) := ggX2_init_X5_init
theorem dX2_init_0 : decode cX2_init 0 = .ok (.aload_n 0, 1) := by decide +kernel
theorem dX2_init_1 : decode cX2_init 1 = .ok (.iload_n 1, 1) := by decide +kernel
theorem dX2_init_2 : decode cX2_init 2 = .ok (.iload_n 2, 1) := by decide +kernel
theorem dX2_init_3 : decode cX2_init 3 = .ok (.iload_n 3, 1) := by decide +kernel
theorem dX2_init_4 : decode cX2_init 4 = .ok (.invokespecial 3, 3) := by decide +kernel
theorem dX2_init_7 : decode cX2_init 7 = .ok (.return_, 1) := by decide +kernel
theorem dX2_kind_0 : decode cX2_kind 0 = .ok (.iconst 0, 1) := by decide +kernel
theorem dX2_kind_1 : decode cX2_kind 1 = .ok (.ireturn, 1) := by decide +kernel
set_option maxRecDepth 20000 in
theorem ggX2_wishes_X10_endBits : GoodIn wsX2_wishes wsX10_endBits := goodIn_r _ [6, 7, 8, 26, 27, 28, 29, 30, 31, 32, 33, 34, 35, 36, 37, 38, 39, 40, 41] (by decide +kernel) (by decide +kernel)
set_option maxRecDepth 20000 in
theorem gX2_wishes_X10_endBits : GoodIn wsX2_wishes (wsV RX2 15 RX10 yX10_endBits wsX10_endBits) := goodIn_app (goodIn_of _ (by decide +kernel)) ggX2_wishes_X10_endBits
theorem dX2_wishes_0 : decode cX2_wishes 0 = .ok (.aload_n 1, 1) := by decide +kernel
theorem dX2_wishes_1 : decode cX2_wishes 1 = .ok (.getfield 9, 3) := by decide +kernel
theorem dX2_wishes_4 : decode cX2_wishes 4 = .ok (.invokevirtual 15, 3) := by decide +kernel
theorem dX2_wishes_7 : decode cX2_wishes 7 = .ok (.ireturn, 1) := by decide +kernel
theorem dX3_init_0 : decode cX3_init 0 = .ok (.aload_n 0, 1) := by decide +kernel
theorem dX3_init_1 : decode cX3_init 1 = .ok (.invokespecial 3, 3) := by decide +kernel
theorem dX3_init_4 : decode cX3_init 4 = .ok (.aload_n 0, 1) := by decide +kernel
theorem dX3_init_5 : decode cX3_init 5 = .ok (.iconst 5, 1) := by decide +kernel
theorem dX3_init_6 : decode cX3_init 6 = .ok (.newarray .int, 2) := by decide +kernel
theorem dX3_init_8 : decode cX3_init 8 = .ok (.putfield 9, 3) := by decide +kernel
theorem dX3_init_11 : decode cX3_init 11 = .ok (.aload_n 0, 1) := by decide +kernel
theorem dX3_init_12 : decode cX3_init 12 = .ok (.iconst 0, 1) := by decide +kernel
theorem dX3_init_13 : decode cX3_init 13 = .ok (.putfield 15, 3) := by decide +kernel
theorem dX3_init_16 : decode cX3_init 16 = .ok (.aload_n 0, 1) := by decide +kernel
theorem dX3_init_17 : decode cX3_init 17 = .ok (.iconst 5, 1) := by decide +kernel
theorem dX3_init_18 : decode cX3_init 18 = .ok (.newarray .int, 2) := by decide +kernel
theorem dX3_init_20 : decode cX3_init 20 = .ok (.putfield 19, 3) := by decide +kernel
theorem dX3_init_23 : decode cX3_init 23 = .ok (.aload_n 0, 1) := by decide +kernel
theorem dX3_init_24 : decode cX3_init 24 = .ok (.iconst 5, 1) := by decide +kernel
theorem dX3_init_25 : decode cX3_init 25 = .ok (.newarray .int, 2) := by decide +kernel
theorem dX3_init_27 : decode cX3_init 27 = .ok (.putfield 22, 3) := by decide +kernel
theorem dX3_init_30 : decode cX3_init 30 = .ok (.aload_n 0, 1) := by decide +kernel
theorem dX3_init_31 : decode cX3_init 31 = .ok (.iconst 0, 1) := by decide +kernel
theorem dX3_init_32 : decode cX3_init 32 = .ok (.putfield 25, 3) := by decide +kernel
theorem dX3_init_35 : decode cX3_init 35 = .ok (.return_, 1) := by decide +kernel
theorem dX3_size_0 : decode cX3_size 0 = .ok (.aload_n 0, 1) := by decide +kernel
theorem dX3_size_1 : decode cX3_size 1 = .ok (.getfield 15, 3) := by decide +kernel
theorem dX3_size_4 : decode cX3_size 4 = .ok (.ireturn, 1) := by decide +kernel
theorem dX3_append_0 : decode cX3_append 0 = .ok (.aload_n 0, 1) := by decide +kernel
theorem dX3_append_1 : decode cX3_append 1 = .ok (.getfield 15, 3) := by decide +kernel
theorem dX3_append_4 : decode cX3_append 4 = .ok (.ifCond .lt 11, 3) := by decide +kernel
theorem dX3_append_7 : decode cX3_append 7 = .ok (.aload_n 0, 1) := by decide +kernel
theorem dX3_append_8 : decode cX3_append 8 = .ok (.getfield 15, 3) := by decide +kernel
theorem dX3_append_11 : decode cX3_append 11 = .ok (.iconst 5, 1) := by decide +kernel
theorem dX3_append_12 : decode cX3_append 12 = .ok (.if_icmp .lt 6, 3) := by decide +kernel
theorem dX3_append_15 : decode cX3_append 15 = .ok (.bipush (-9), 2) := by decide +kernel
theorem dX3_append_17 : decode cX3_append 17 = .ok (.ireturn, 1) := by decide +kernel
theorem dX3_append_18 : decode cX3_append 18 = .ok (.aload_n 0, 1) := by decide +kernel
theorem dX3_append_19 : decode cX3_append 19 = .ok (.getfield 9, 3) := by decide +kernel
theorem dX3_append_22 : decode cX3_append 22 = .ok (.aload_n 0, 1) := by decide +kernel
theorem dX3_append_23 : decode cX3_append 23 = .ok (.getfield 15, 3) := by decide +kernel
theorem dX3_append_26 : decode cX3_append 26 = .ok (.iload_n 1, 1) := by decide +kernel
theorem dX3_append_27 : decode cX3_append 27 = .ok (.iastore, 1) := by decide +kernel
theorem dX3_append_28 : decode cX3_append 28 = .ok (.aload_n 0, 1) := by decide +kernel
theorem dX3_append_29 : decode cX3_append 29 = .ok (.dup, 1) := by decide +kernel
theorem dX3_append_30 : decode cX3_append 30 = .ok (.getfield 15, 3) := by decide +kernel
theorem dX3_append_33 : decode cX3_append 33 = .ok (.iconst 1, 1) := by decide +kernel
theorem dX3_append_34 : decode cX3_append 34 = .ok (.iadd, 1) := by decide +kernel
theorem dX3_append_35 : decode cX3_append 35 = .ok (.putfield 15, 3) := by decide +kernel
theorem dX3_append_38 : decode cX3_append 38 = .ok (.aload_n 0, 1) := by decide +kernel
theorem dX3_append_39 : decode cX3_append 39 = .ok (.getfield 15, 3) := by decide +kernel
theorem dX3_append_42 : decode cX3_append 42 = .ok (.iconst 1, 1) := by decide +kernel
theorem dX3_append_43 : decode cX3_append 43 = .ok (.isub, 1) := by decide +kernel
theorem dX3_append_44 : decode cX3_append 44 = .ok (.ireturn, 1) := by decide +kernel
theorem dX3_cutBack_0 : decode cX3_cutBack 0 = .ok (.iload_n 1, 1) := by decide +kernel
theorem dX3_cutBack_1 : decode cX3_cutBack 1 = .ok (.ifCond .lt 16, 3) := by decide +kernel
theorem dX3_cutBack_4 : decode cX3_cutBack 4 = .ok (.iload_n 1, 1) := by decide +kernel
theorem dX3_cutBack_5 : decode cX3_cutBack 5 = .ok (.aload_n 0, 1) := by decide +kernel
theorem dX3_cutBack_6 : decode cX3_cutBack 6 = .ok (.getfield 15, 3) := by decide +kernel
theorem dX3_cutBack_9 : decode cX3_cutBack 9 = .ok (.if_icmp .ge 8, 3) := by decide +kernel
theorem dX3_cutBack_12 : decode cX3_cutBack 12 = .ok (.aload_n 0, 1) := by decide +kernel
theorem dX3_cutBack_13 : decode cX3_cutBack 13 = .ok (.iload_n 1, 1) := by decide +kernel
theorem dX3_cutBack_14 : decode cX3_cutBack 14 = .ok (.putfield 15, 3) := by decide +kernel
theorem dX3_cutBack_17 : decode cX3_cutBack 17 = .ok (.return_, 1) := by decide +kernel
theorem dX3_takeOrder_0 : decode cX3_takeOrder 0 = .ok (.iload_n 2, 1) := by decide +kernel
theorem dX3_takeOrder_1 : decode cX3_takeOrder 1 = .ok (.istore_n 3, 1) := by decide +kernel
theorem dX3_takeOrder_2 : decode cX3_takeOrder 2 = .ok (.iconst 0, 1) := by decide +kernel
theorem dX3_takeOrder_3 : decode cX3_takeOrder 3 = .ok (.istore 4, 2) := by decide +kernel
theorem dX3_takeOrder_5 : decode cX3_takeOrder 5 = .ok (.iconst 0, 1) := by decide +kernel
theorem dX3_takeOrder_6 : decode cX3_takeOrder 6 = .ok (.istore 5, 2) := by decide +kernel
theorem dX3_takeOrder_8 : decode cX3_takeOrder 8 = .ok (.iload 5, 2) := by decide +kernel
theorem dX3_takeOrder_10 : decode cX3_takeOrder 10 = .ok (.iload_n 1, 1) := by decide +kernel
theorem dX3_takeOrder_11 : decode cX3_takeOrder 11 = .ok (.if_icmp .ge 71, 3) := by decide +kernel
theorem dX3_takeOrder_14 : decode cX3_takeOrder 14 = .ok (.iload 5, 2) := by decide +kernel
theorem dX3_takeOrder_16 : decode cX3_takeOrder 16 = .ok (.iconst 5, 1) := by decide +kernel
theorem dX3_takeOrder_17 : decode cX3_takeOrder 17 = .ok (.if_icmp .ge 65, 3) := by decide +kernel
theorem dX3_takeOrder_20 : decode cX3_takeOrder 20 = .ok (.iload_n 3, 1) := by decide +kernel
theorem dX3_takeOrder_21 : decode cX3_takeOrder 21 = .ok (.bipush 10, 2) := by decide +kernel
theorem dX3_takeOrder_23 : decode cX3_takeOrder 23 = .ok (.irem, 1) := by decide +kernel
theorem dX3_takeOrder_24 : decode cX3_takeOrder 24 = .ok (.istore 6, 2) := by decide +kernel
theorem dX3_takeOrder_26 : decode cX3_takeOrder 26 = .ok (.iload_n 3, 1) := by decide +kernel
theorem dX3_takeOrder_27 : decode cX3_takeOrder 27 = .ok (.bipush 10, 2) := by decide +kernel
theorem dX3_takeOrder_29 : decode cX3_takeOrder 29 = .ok (.idiv, 1) := by decide +kernel
theorem dX3_takeOrder_30 : decode cX3_takeOrder 30 = .ok (.istore_n 3, 1) := by decide +kernel
theorem dX3_takeOrder_31 : decode cX3_takeOrder 31 = .ok (.iload 6, 2) := by decide +kernel
theorem dX3_takeOrder_33 : decode cX3_takeOrder 33 = .ok (.ifCond .lt 23, 3) := by decide +kernel
theorem dX3_takeOrder_36 : decode cX3_takeOrder 36 = .ok (.iload 6, 2) := by decide +kernel
theorem dX3_takeOrder_38 : decode cX3_takeOrder 38 = .ok (.aload_n 0, 1) := by decide +kernel
theorem dX3_takeOrder_39 : decode cX3_takeOrder 39 = .ok (.getfield 15, 3) := by decide +kernel
theorem dX3_takeOrder_42 : decode cX3_takeOrder 42 = .ok (.if_icmp .ge 14, 3) := by decide +kernel
theorem dX3_takeOrder_45 : decode cX3_takeOrder 45 = .ok (.iload 4, 2) := by decide +kernel
theorem dX3_takeOrder_47 : decode cX3_takeOrder 47 = .ok (.iload 6, 2) := by decide +kernel
theorem dX3_takeOrder_49 : decode cX3_takeOrder 49 = .ok (.ishr, 1) := by decide +kernel
theorem dX3_takeOrder_50 : decode cX3_takeOrder 50 = .ok (.iconst 1, 1) := by decide +kernel
theorem dX3_takeOrder_51 : decode cX3_takeOrder 51 = .ok (.iand, 1) := by decide +kernel
theorem dX3_takeOrder_52 : decode cX3_takeOrder 52 = .ok (.iconst 1, 1) := by decide +kernel
theorem dX3_takeOrder_53 : decode cX3_takeOrder 53 = .ok (.if_icmp .ne 5, 3) := by decide +kernel
theorem dX3_takeOrder_56 : decode cX3_takeOrder 56 = .ok (.iconst 0, 1) := by decide +kernel
theorem dX3_takeOrder_57 : decode cX3_takeOrder 57 = .ok (.ireturn, 1) := by decide +kernel
theorem dX3_takeOrder_58 : decode cX3_takeOrder 58 = .ok (.iload 4, 2) := by decide +kernel
theorem dX3_takeOrder_60 : decode cX3_takeOrder 60 = .ok (.iconst 1, 1) := by decide +kernel
theorem dX3_takeOrder_61 : decode cX3_takeOrder 61 = .ok (.iload 6, 2) := by decide +kernel
theorem dX3_takeOrder_63 : decode cX3_takeOrder 63 = .ok (.ishl, 1) := by decide +kernel
theorem dX3_takeOrder_64 : decode cX3_takeOrder 64 = .ok (.ior, 1) := by decide +kernel
theorem dX3_takeOrder_65 : decode cX3_takeOrder 65 = .ok (.istore 4, 2) := by decide +kernel
theorem dX3_takeOrder_67 : decode cX3_takeOrder 67 = .ok (.aload_n 0, 1) := by decide +kernel
theorem dX3_takeOrder_68 : decode cX3_takeOrder 68 = .ok (.getfield 19, 3) := by decide +kernel
theorem dX3_takeOrder_71 : decode cX3_takeOrder 71 = .ok (.iload 5, 2) := by decide +kernel
theorem dX3_takeOrder_73 : decode cX3_takeOrder 73 = .ok (.iload 6, 2) := by decide +kernel
theorem dX3_takeOrder_75 : decode cX3_takeOrder 75 = .ok (.iastore, 1) := by decide +kernel
theorem dX3_takeOrder_76 : decode cX3_takeOrder 76 = .ok (.iinc 5 1, 3) := by decide +kernel
theorem dX3_takeOrder_79 : decode cX3_takeOrder 79 = .ok (.goto (-71), 3) := by decide +kernel
theorem dX3_takeOrder_82 : decode cX3_takeOrder 82 = .ok (.iconst 1, 1) := by decide +kernel
theorem dX3_takeOrder_83 : decode cX3_takeOrder 83 = .ok (.ireturn, 1) := by decide +kernel
set_option maxRecDepth 20000 in
theorem ggX3_hadBehind_J6_bitCount_0f7a4 : GoodIn wsX3_hadBehind wsJ6_bitCount_0f7a4 := goodIn_r _ [6, 7, 8, 9] (by decide +kernel) (by decide +kernel)
set_option maxRecDepth 20000 in
theorem gX3_hadBehind_J6_bitCount_0f7a4 : GoodIn wsX3_hadBehind (va_wsS RX3 28 yJ6_bitCount_0f7a4 wsJ6_bitCount_0f7a4) := goodIn_app (goodIn_of _ (by decide +kernel)) ggX3_hadBehind_J6_bitCount_0f7a4
theorem dX3_hadBehind_0 : decode cX3_hadBehind 0 = .ok (.sipush 1022, 3) := by decide +kernel
theorem dX3_hadBehind_3 : decode cX3_hadBehind 3 = .ok (.istore_n 2, 1) := by decide +kernel
theorem dX3_hadBehind_4 : decode cX3_hadBehind 4 = .ok (.iconst 0, 1) := by decide +kernel
theorem dX3_hadBehind_5 : decode cX3_hadBehind 5 = .ok (.istore_n 3, 1) := by decide +kernel
theorem dX3_hadBehind_6 : decode cX3_hadBehind 6 = .ok (.iload_n 3, 1) := by decide +kernel
theorem dX3_hadBehind_7 : decode cX3_hadBehind 7 = .ok (.iload_n 1, 1) := by decide +kernel
theorem dX3_hadBehind_8 : decode cX3_hadBehind 8 = .ok (.if_icmp .ge 55, 3) := by decide +kernel
theorem dX3_hadBehind_11 : decode cX3_hadBehind 11 = .ok (.iload_n 3, 1) := by decide +kernel
theorem dX3_hadBehind_12 : decode cX3_hadBehind 12 = .ok (.iconst 5, 1) := by decide +kernel
theorem dX3_hadBehind_13 : decode cX3_hadBehind 13 = .ok (.if_icmp .ge 50, 3) := by decide +kernel
theorem dX3_hadBehind_16 : decode cX3_hadBehind 16 = .ok (.aload_n 0, 1) := by decide +kernel
theorem dX3_hadBehind_17 : decode cX3_hadBehind 17 = .ok (.getfield 19, 3) := by decide +kernel
theorem dX3_hadBehind_20 : decode cX3_hadBehind 20 = .ok (.iload_n 3, 1) := by decide +kernel
theorem dX3_hadBehind_21 : decode cX3_hadBehind 21 = .ok (.iaload, 1) := by decide +kernel
theorem dX3_hadBehind_22 : decode cX3_hadBehind 22 = .ok (.istore 4, 2) := by decide +kernel
theorem dX3_hadBehind_24 : decode cX3_hadBehind 24 = .ok (.iload 4, 2) := by decide +kernel
theorem dX3_hadBehind_26 : decode cX3_hadBehind 26 = .ok (.ifCond .lt 19, 3) := by decide +kernel
theorem dX3_hadBehind_29 : decode cX3_hadBehind 29 = .ok (.iload 4, 2) := by decide +kernel
theorem dX3_hadBehind_31 : decode cX3_hadBehind 31 = .ok (.iconst 5, 1) := by decide +kernel
theorem dX3_hadBehind_32 : decode cX3_hadBehind 32 = .ok (.if_icmp .ge 13, 3) := by decide +kernel
theorem dX3_hadBehind_35 : decode cX3_hadBehind 35 = .ok (.iload_n 2, 1) := by decide +kernel
theorem dX3_hadBehind_36 : decode cX3_hadBehind 36 = .ok (.aload_n 0, 1) := by decide +kernel
theorem dX3_hadBehind_37 : decode cX3_hadBehind 37 = .ok (.getfield 9, 3) := by decide +kernel
theorem dX3_hadBehind_40 : decode cX3_hadBehind 40 = .ok (.iload 4, 2) := by decide +kernel
theorem dX3_hadBehind_42 : decode cX3_hadBehind 42 = .ok (.iaload, 1) := by decide +kernel
theorem dX3_hadBehind_43 : decode cX3_hadBehind 43 = .ok (.iand, 1) := by decide +kernel
theorem dX3_hadBehind_44 : decode cX3_hadBehind 44 = .ok (.istore_n 2, 1) := by decide +kernel
theorem dX3_hadBehind_45 : decode cX3_hadBehind 45 = .ok (.iload_n 2, 1) := by decide +kernel
theorem dX3_hadBehind_46 : decode cX3_hadBehind 46 = .ok (.invokestatic 28, 3) := by decide +kernel
theorem dX3_hadBehind_49 : decode cX3_hadBehind 49 = .ok (.iconst 1, 1) := by decide +kernel
theorem dX3_hadBehind_50 : decode cX3_hadBehind 50 = .ok (.if_icmp .ne 7, 3) := by decide +kernel
theorem dX3_hadBehind_53 : decode cX3_hadBehind 53 = .ok (.iload_n 3, 1) := by decide +kernel
theorem dX3_hadBehind_54 : decode cX3_hadBehind 54 = .ok (.iconst 1, 1) := by decide +kernel
theorem dX3_hadBehind_55 : decode cX3_hadBehind 55 = .ok (.iadd, 1) := by decide +kernel
theorem dX3_hadBehind_56 : decode cX3_hadBehind 56 = .ok (.ireturn, 1) := by decide +kernel
theorem dX3_hadBehind_57 : decode cX3_hadBehind 57 = .ok (.iinc 3 1, 3) := by decide +kernel
theorem dX3_hadBehind_60 : decode cX3_hadBehind 60 = .ok (.goto (-54), 3) := by decide +kernel
theorem dX3_hadBehind_63 : decode cX3_hadBehind 63 = .ok (.bipush 6, 2) := by decide +kernel
theorem dX3_hadBehind_65 : decode cX3_hadBehind 65 = .ok (.ireturn, 1) := by decide +kernel
set_option maxRecDepth 20000 in
theorem ggX3_findExtreme_X3_hadBehind : GoodIn wsX3_findExtreme wsX3_hadBehind := goodIn_r _ [9, 1, 10, 11, 12, 13, 14, 15, 16, 17, 26, 27, 28, 29, 30] (by decide +kernel) (by decide +kernel)
set_option maxRecDepth 20000 in
theorem gX3_findExtreme_X3_hadBehind : GoodIn wsX3_findExtreme (wsV RX3 34 RX3 yX3_hadBehind wsX3_hadBehind) := goodIn_app (goodIn_of _ (by decide +kernel)) ggX3_findExtreme_X3_hadBehind
set_option maxRecDepth 20000 in
theorem ggX3_findExtreme_X3_nextOrder : GoodIn wsX3_findExtreme wsX3_nextOrder := goodIn_r _ [21, 3, 1, 22, 23, 24, 8, 25, 26, 27, 28, 29, 30] (by decide +kernel) (by decide +kernel)
set_option maxRecDepth 20000 in
theorem gX3_findExtreme_X3_nextOrder : GoodIn wsX3_findExtreme (wsV RX3 37 RX3 yX3_nextOrder wsX3_nextOrder) := goodIn_app (goodIn_of _ (by decide +kernel)) ggX3_findExtreme_X3_nextOrder
theorem dX3_findExtreme_0 : decode cX3_findExtreme 0 = .ok (.iconst 0, 1) := by decide +kernel
theorem dX3_findExtreme_1 : decode cX3_findExtreme 1 = .ok (.istore_n 2, 1) := by decide +kernel
theorem dX3_findExtreme_2 : decode cX3_findExtreme 2 = .ok (.iload_n 2, 1) := by decide +kernel
theorem dX3_findExtreme_3 : decode cX3_findExtreme 3 = .ok (.iconst 5, 1) := by decide +kernel
theorem dX3_findExtreme_4 : decode cX3_findExtreme 4 = .ok (.if_icmp .ge 16, 3) := by decide +kernel
theorem dX3_findExtreme_7 : decode cX3_findExtreme 7 = .ok (.aload_n 0, 1) := by decide +kernel
theorem dX3_findExtreme_8 : decode cX3_findExtreme 8 = .ok (.getfield 19, 3) := by decide +kernel
theorem dX3_findExtreme_11 : decode cX3_findExtreme 11 = .ok (.iload_n 2, 1) := by decide +kernel
theorem dX3_findExtreme_12 : decode cX3_findExtreme 12 = .ok (.iload_n 2, 1) := by decide +kernel
theorem dX3_findExtreme_13 : decode cX3_findExtreme 13 = .ok (.iastore, 1) := by decide +kernel
theorem dX3_findExtreme_14 : decode cX3_findExtreme 14 = .ok (.iinc 2 1, 3) := by decide +kernel
theorem dX3_findExtreme_17 : decode cX3_findExtreme 17 = .ok (.goto (-15), 3) := by decide +kernel
theorem dX3_findExtreme_20 : decode cX3_findExtreme 20 = .ok (.aload_n 0, 1) := by decide +kernel
theorem dX3_findExtreme_21 : decode cX3_findExtreme 21 = .ok (.iconst 0, 1) := by decide +kernel
theorem dX3_findExtreme_22 : decode cX3_findExtreme 22 = .ok (.putfield 25, 3) := by decide +kernel
theorem dX3_findExtreme_25 : decode cX3_findExtreme 25 = .ok (.iconst 1, 1) := by decide +kernel
theorem dX3_findExtreme_26 : decode cX3_findExtreme 26 = .ok (.istore_n 2, 1) := by decide +kernel
theorem dX3_findExtreme_27 : decode cX3_findExtreme 27 = .ok (.iconst 0, 1) := by decide +kernel
theorem dX3_findExtreme_28 : decode cX3_findExtreme 28 = .ok (.istore_n 3, 1) := by decide +kernel
theorem dX3_findExtreme_29 : decode cX3_findExtreme 29 = .ok (.iload_n 3, 1) := by decide +kernel
theorem dX3_findExtreme_30 : decode cX3_findExtreme 30 = .ok (.bipush 120, 2) := by decide +kernel
theorem dX3_findExtreme_32 : decode cX3_findExtreme 32 = .ok (.if_icmp .ge 95, 3) := by decide +kernel
theorem dX3_findExtreme_35 : decode cX3_findExtreme 35 = .ok (.iload_n 2, 1) := by decide +kernel
theorem dX3_findExtreme_36 : decode cX3_findExtreme 36 = .ok (.ifCond .eq 91, 3) := by decide +kernel
theorem dX3_findExtreme_39 : decode cX3_findExtreme 39 = .ok (.aload_n 0, 1) := by decide +kernel
theorem dX3_findExtreme_40 : decode cX3_findExtreme 40 = .ok (.aload_n 0, 1) := by decide +kernel
theorem dX3_findExtreme_41 : decode cX3_findExtreme 41 = .ok (.getfield 15, 3) := by decide +kernel
theorem dX3_findExtreme_44 : decode cX3_findExtreme 44 = .ok (.invokevirtual 34, 3) := by decide +kernel
theorem dX3_findExtreme_47 : decode cX3_findExtreme 47 = .ok (.istore 4, 2) := by decide +kernel
theorem dX3_findExtreme_49 : decode cX3_findExtreme 49 = .ok (.aload_n 0, 1) := by decide +kernel
theorem dX3_findExtreme_50 : decode cX3_findExtreme 50 = .ok (.getfield 25, 3) := by decide +kernel
theorem dX3_findExtreme_53 : decode cX3_findExtreme 53 = .ok (.ifCond .eq 28, 3) := by decide +kernel
theorem dX3_findExtreme_56 : decode cX3_findExtreme 56 = .ok (.iload_n 1, 1) := by decide +kernel
theorem dX3_findExtreme_57 : decode cX3_findExtreme 57 = .ok (.ifCond .eq 15, 3) := by decide +kernel
theorem dX3_findExtreme_60 : decode cX3_findExtreme 60 = .ok (.iload 4, 2) := by decide +kernel
theorem dX3_findExtreme_62 : decode cX3_findExtreme 62 = .ok (.aload_n 0, 1) := by decide +kernel
theorem dX3_findExtreme_63 : decode cX3_findExtreme 63 = .ok (.getfield 25, 3) := by decide +kernel
theorem dX3_findExtreme_66 : decode cX3_findExtreme 66 = .ok (.if_icmp .le 50, 3) := by decide +kernel
theorem dX3_findExtreme_69 : decode cX3_findExtreme 69 = .ok (.goto 12, 3) := by decide +kernel
theorem dX3_findExtreme_72 : decode cX3_findExtreme 72 = .ok (.iload 4, 2) := by decide +kernel
theorem dX3_findExtreme_74 : decode cX3_findExtreme 74 = .ok (.aload_n 0, 1) := by decide +kernel
theorem dX3_findExtreme_75 : decode cX3_findExtreme 75 = .ok (.getfield 25, 3) := by decide +kernel
theorem dX3_findExtreme_78 : decode cX3_findExtreme 78 = .ok (.if_icmp .ge 38, 3) := by decide +kernel
theorem dX3_findExtreme_81 : decode cX3_findExtreme 81 = .ok (.aload_n 0, 1) := by decide +kernel
theorem dX3_findExtreme_82 : decode cX3_findExtreme 82 = .ok (.iload 4, 2) := by decide +kernel
theorem dX3_findExtreme_84 : decode cX3_findExtreme 84 = .ok (.putfield 25, 3) := by decide +kernel
theorem dX3_findExtreme_87 : decode cX3_findExtreme 87 = .ok (.iconst 0, 1) := by decide +kernel
theorem dX3_findExtreme_88 : decode cX3_findExtreme 88 = .ok (.istore 5, 2) := by decide +kernel
theorem dX3_findExtreme_90 : decode cX3_findExtreme 90 = .ok (.iload 5, 2) := by decide +kernel
theorem dX3_findExtreme_92 : decode cX3_findExtreme 92 = .ok (.iconst 5, 1) := by decide +kernel
theorem dX3_findExtreme_93 : decode cX3_findExtreme 93 = .ok (.if_icmp .ge 23, 3) := by decide +kernel
theorem dX3_findExtreme_96 : decode cX3_findExtreme 96 = .ok (.aload_n 0, 1) := by decide +kernel
theorem dX3_findExtreme_97 : decode cX3_findExtreme 97 = .ok (.getfield 22, 3) := by decide +kernel
theorem dX3_findExtreme_100 : decode cX3_findExtreme 100 = .ok (.iload 5, 2) := by decide +kernel
theorem dX3_findExtreme_102 : decode cX3_findExtreme 102 = .ok (.aload_n 0, 1) := by decide +kernel
theorem dX3_findExtreme_103 : decode cX3_findExtreme 103 = .ok (.getfield 19, 3) := by decide +kernel
theorem dX3_findExtreme_106 : decode cX3_findExtreme 106 = .ok (.iload 5, 2) := by decide +kernel
theorem dX3_findExtreme_108 : decode cX3_findExtreme 108 = .ok (.iaload, 1) := by decide +kernel
theorem dX3_findExtreme_109 : decode cX3_findExtreme 109 = .ok (.iastore, 1) := by decide +kernel
theorem dX3_findExtreme_110 : decode cX3_findExtreme 110 = .ok (.iinc 5 1, 3) := by decide +kernel
theorem dX3_findExtreme_113 : decode cX3_findExtreme 113 = .ok (.goto (-23), 3) := by decide +kernel
theorem dX3_findExtreme_116 : decode cX3_findExtreme 116 = .ok (.aload_n 0, 1) := by decide +kernel
theorem dX3_findExtreme_117 : decode cX3_findExtreme 117 = .ok (.invokevirtual 37, 3) := by decide +kernel
theorem dX3_findExtreme_120 : decode cX3_findExtreme 120 = .ok (.istore_n 2, 1) := by decide +kernel
theorem dX3_findExtreme_121 : decode cX3_findExtreme 121 = .ok (.iinc 3 1, 3) := by decide +kernel
theorem dX3_findExtreme_124 : decode cX3_findExtreme 124 = .ok (.goto (-95), 3) := by decide +kernel
theorem dX3_findExtreme_127 : decode cX3_findExtreme 127 = .ok (.return_, 1) := by decide +kernel
theorem dX3_told_0 : decode cX3_told 0 = .ok (.iload_n 1, 1) := by decide +kernel
theorem dX3_told_1 : decode cX3_told 1 = .ok (.iconst (-1), 1) := by decide +kernel
theorem dX3_told_2 : decode cX3_told 2 = .ok (.if_icmp .ne 8, 3) := by decide +kernel
theorem dX3_told_5 : decode cX3_told 5 = .ok (.aload_n 0, 1) := by decide +kernel
theorem dX3_told_6 : decode cX3_told 6 = .ok (.getfield 25, 3) := by decide +kernel
theorem dX3_told_9 : decode cX3_told 9 = .ok (.ireturn, 1) := by decide +kernel
theorem dX3_told_10 : decode cX3_told 10 = .ok (.iload_n 1, 1) := by decide +kernel
theorem dX3_told_11 : decode cX3_told 11 = .ok (.ifCond .lt 25, 3) := by decide +kernel
theorem dX3_told_14 : decode cX3_told 14 = .ok (.iload_n 1, 1) := by decide +kernel
theorem dX3_told_15 : decode cX3_told 15 = .ok (.iconst 5, 1) := by decide +kernel
theorem dX3_told_16 : decode cX3_told 16 = .ok (.if_icmp .ge 20, 3) := by decide +kernel
theorem dX3_told_19 : decode cX3_told 19 = .ok (.iload_n 1, 1) := by decide +kernel
theorem dX3_told_20 : decode cX3_told 20 = .ok (.aload_n 0, 1) := by decide +kernel
theorem dX3_told_21 : decode cX3_told 21 = .ok (.getfield 15, 3) := by decide +kernel
theorem dX3_told_24 : decode cX3_told 24 = .ok (.if_icmp .ge 12, 3) := by decide +kernel
theorem dX3_told_27 : decode cX3_told 27 = .ok (.aload_n 0, 1) := by decide +kernel
theorem dX3_told_28 : decode cX3_told 28 = .ok (.getfield 22, 3) := by decide +kernel
theorem dX3_told_31 : decode cX3_told 31 = .ok (.iload_n 1, 1) := by decide +kernel
theorem dX3_told_32 : decode cX3_told 32 = .ok (.iaload, 1) := by decide +kernel
theorem dX3_told_33 : decode cX3_told 33 = .ok (.goto 5, 3) := by decide +kernel
theorem dX3_told_36 : decode cX3_told 36 = .ok (.bipush (-9), 2) := by decide +kernel
theorem dX3_told_38 : decode cX3_told 38 = .ok (.ireturn, 1) := by decide +kernel
set_option maxRecDepth 20000 in
theorem ggX3_nextOrder_X3_exchange : GoodIn wsX3_nextOrder wsX3_exchange := goodIn_r _ [7, 2, 8, 9, 10, 11, 12] (by decide +kernel) (by decide +kernel)
set_option maxRecDepth 20000 in
theorem gX3_nextOrder_X3_exchange : GoodIn wsX3_nextOrder (wsV RX3 41 RX3 yX3_exchange wsX3_exchange) := goodIn_app (goodIn_of _ (by decide +kernel)) ggX3_nextOrder_X3_exchange
theorem dX3_nextOrder_0 : decode cX3_nextOrder 0 = .ok (.iconst (-1), 1) := by decide +kernel
theorem dX3_nextOrder_1 : decode cX3_nextOrder 1 = .ok (.istore_n 1, 1) := by decide +kernel
theorem dX3_nextOrder_2 : decode cX3_nextOrder 2 = .ok (.iconst 0, 1) := by decide +kernel
theorem dX3_nextOrder_3 : decode cX3_nextOrder 3 = .ok (.istore_n 2, 1) := by decide +kernel
theorem dX3_nextOrder_4 : decode cX3_nextOrder 4 = .ok (.iload_n 2, 1) := by decide +kernel
theorem dX3_nextOrder_5 : decode cX3_nextOrder 5 = .ok (.iconst 1, 1) := by decide +kernel
theorem dX3_nextOrder_6 : decode cX3_nextOrder 6 = .ok (.iadd, 1) := by decide +kernel
theorem dX3_nextOrder_7 : decode cX3_nextOrder 7 = .ok (.iconst 5, 1) := by decide +kernel
theorem dX3_nextOrder_8 : decode cX3_nextOrder 8 = .ok (.if_icmp .ge 38, 3) := by decide +kernel
theorem dX3_nextOrder_11 : decode cX3_nextOrder 11 = .ok (.iload_n 2, 1) := by decide +kernel
theorem dX3_nextOrder_12 : decode cX3_nextOrder 12 = .ok (.iconst 1, 1) := by decide +kernel
theorem dX3_nextOrder_13 : decode cX3_nextOrder 13 = .ok (.iadd, 1) := by decide +kernel
theorem dX3_nextOrder_14 : decode cX3_nextOrder 14 = .ok (.aload_n 0, 1) := by decide +kernel
theorem dX3_nextOrder_15 : decode cX3_nextOrder 15 = .ok (.getfield 15, 3) := by decide +kernel
theorem dX3_nextOrder_18 : decode cX3_nextOrder 18 = .ok (.if_icmp .ge 28, 3) := by decide +kernel
theorem dX3_nextOrder_21 : decode cX3_nextOrder 21 = .ok (.aload_n 0, 1) := by decide +kernel
theorem dX3_nextOrder_22 : decode cX3_nextOrder 22 = .ok (.getfield 19, 3) := by decide +kernel
theorem dX3_nextOrder_25 : decode cX3_nextOrder 25 = .ok (.iload_n 2, 1) := by decide +kernel
theorem dX3_nextOrder_26 : decode cX3_nextOrder 26 = .ok (.iaload, 1) := by decide +kernel
theorem dX3_nextOrder_27 : decode cX3_nextOrder 27 = .ok (.aload_n 0, 1) := by decide +kernel
theorem dX3_nextOrder_28 : decode cX3_nextOrder 28 = .ok (.getfield 19, 3) := by decide +kernel
theorem dX3_nextOrder_31 : decode cX3_nextOrder 31 = .ok (.iload_n 2, 1) := by decide +kernel
theorem dX3_nextOrder_32 : decode cX3_nextOrder 32 = .ok (.iconst 1, 1) := by decide +kernel
theorem dX3_nextOrder_33 : decode cX3_nextOrder 33 = .ok (.iadd, 1) := by decide +kernel
theorem dX3_nextOrder_34 : decode cX3_nextOrder 34 = .ok (.iaload, 1) := by decide +kernel
theorem dX3_nextOrder_35 : decode cX3_nextOrder 35 = .ok (.if_icmp .ge 5, 3) := by decide +kernel
theorem dX3_nextOrder_38 : decode cX3_nextOrder 38 = .ok (.iload_n 2, 1) := by decide +kernel
theorem dX3_nextOrder_39 : decode cX3_nextOrder 39 = .ok (.istore_n 1, 1) := by decide +kernel
theorem dX3_nextOrder_40 : decode cX3_nextOrder 40 = .ok (.iinc 2 1, 3) := by decide +kernel
theorem dX3_nextOrder_43 : decode cX3_nextOrder 43 = .ok (.goto (-39), 3) := by decide +kernel
theorem dX3_nextOrder_46 : decode cX3_nextOrder 46 = .ok (.iload_n 1, 1) := by decide +kernel
theorem dX3_nextOrder_47 : decode cX3_nextOrder 47 = .ok (.ifCond .ge 5, 3) := by decide +kernel
theorem dX3_nextOrder_50 : decode cX3_nextOrder 50 = .ok (.iconst 0, 1) := by decide +kernel
theorem dX3_nextOrder_51 : decode cX3_nextOrder 51 = .ok (.ireturn, 1) := by decide +kernel
theorem dX3_nextOrder_52 : decode cX3_nextOrder 52 = .ok (.iload_n 1, 1) := by decide +kernel
theorem dX3_nextOrder_53 : decode cX3_nextOrder 53 = .ok (.iconst 1, 1) := by decide +kernel
theorem dX3_nextOrder_54 : decode cX3_nextOrder 54 = .ok (.iadd, 1) := by decide +kernel
theorem dX3_nextOrder_55 : decode cX3_nextOrder 55 = .ok (.istore_n 2, 1) := by decide +kernel
theorem dX3_nextOrder_56 : decode cX3_nextOrder 56 = .ok (.iload_n 1, 1) := by decide +kernel
theorem dX3_nextOrder_57 : decode cX3_nextOrder 57 = .ok (.iconst 1, 1) := by decide +kernel
theorem dX3_nextOrder_58 : decode cX3_nextOrder 58 = .ok (.iadd, 1) := by decide +kernel
theorem dX3_nextOrder_59 : decode cX3_nextOrder 59 = .ok (.istore_n 3, 1) := by decide +kernel
theorem dX3_nextOrder_60 : decode cX3_nextOrder 60 = .ok (.iload_n 3, 1) := by decide +kernel
theorem dX3_nextOrder_61 : decode cX3_nextOrder 61 = .ok (.iconst 5, 1) := by decide +kernel
theorem dX3_nextOrder_62 : decode cX3_nextOrder 62 = .ok (.if_icmp .ge 34, 3) := by decide +kernel
theorem dX3_nextOrder_65 : decode cX3_nextOrder 65 = .ok (.iload_n 3, 1) := by decide +kernel
theorem dX3_nextOrder_66 : decode cX3_nextOrder 66 = .ok (.aload_n 0, 1) := by decide +kernel
theorem dX3_nextOrder_67 : decode cX3_nextOrder 67 = .ok (.getfield 15, 3) := by decide +kernel
theorem dX3_nextOrder_70 : decode cX3_nextOrder 70 = .ok (.if_icmp .ge 26, 3) := by decide +kernel
theorem dX3_nextOrder_73 : decode cX3_nextOrder 73 = .ok (.aload_n 0, 1) := by decide +kernel
theorem dX3_nextOrder_74 : decode cX3_nextOrder 74 = .ok (.getfield 19, 3) := by decide +kernel
theorem dX3_nextOrder_77 : decode cX3_nextOrder 77 = .ok (.iload_n 3, 1) := by decide +kernel
theorem dX3_nextOrder_78 : decode cX3_nextOrder 78 = .ok (.iaload, 1) := by decide +kernel
theorem dX3_nextOrder_79 : decode cX3_nextOrder 79 = .ok (.aload_n 0, 1) := by decide +kernel
theorem dX3_nextOrder_80 : decode cX3_nextOrder 80 = .ok (.getfield 19, 3) := by decide +kernel
theorem dX3_nextOrder_83 : decode cX3_nextOrder 83 = .ok (.iload_n 1, 1) := by decide +kernel
theorem dX3_nextOrder_84 : decode cX3_nextOrder 84 = .ok (.iaload, 1) := by decide +kernel
theorem dX3_nextOrder_85 : decode cX3_nextOrder 85 = .ok (.if_icmp .le 5, 3) := by decide +kernel
theorem dX3_nextOrder_88 : decode cX3_nextOrder 88 = .ok (.iload_n 3, 1) := by decide +kernel
theorem dX3_nextOrder_89 : decode cX3_nextOrder 89 = .ok (.istore_n 2, 1) := by decide +kernel
theorem dX3_nextOrder_90 : decode cX3_nextOrder 90 = .ok (.iinc 3 1, 3) := by decide +kernel
theorem dX3_nextOrder_93 : decode cX3_nextOrder 93 = .ok (.goto (-33), 3) := by decide +kernel
theorem dX3_nextOrder_96 : decode cX3_nextOrder 96 = .ok (.aload_n 0, 1) := by decide +kernel
theorem dX3_nextOrder_97 : decode cX3_nextOrder 97 = .ok (.iload_n 1, 1) := by decide +kernel
theorem dX3_nextOrder_98 : decode cX3_nextOrder 98 = .ok (.iload_n 2, 1) := by decide +kernel
theorem dX3_nextOrder_99 : decode cX3_nextOrder 99 = .ok (.invokevirtual 41, 3) := by decide +kernel
theorem dX3_nextOrder_102 : decode cX3_nextOrder 102 = .ok (.iload_n 1, 1) := by decide +kernel
theorem dX3_nextOrder_103 : decode cX3_nextOrder 103 = .ok (.iconst 1, 1) := by decide +kernel
theorem dX3_nextOrder_104 : decode cX3_nextOrder 104 = .ok (.iadd, 1) := by decide +kernel
theorem dX3_nextOrder_105 : decode cX3_nextOrder 105 = .ok (.istore_n 3, 1) := by decide +kernel
theorem dX3_nextOrder_106 : decode cX3_nextOrder 106 = .ok (.aload_n 0, 1) := by decide +kernel
theorem dX3_nextOrder_107 : decode cX3_nextOrder 107 = .ok (.getfield 15, 3) := by decide +kernel
theorem dX3_nextOrder_110 : decode cX3_nextOrder 110 = .ok (.iconst 1, 1) := by decide +kernel
theorem dX3_nextOrder_111 : decode cX3_nextOrder 111 = .ok (.isub, 1) := by decide +kernel
theorem dX3_nextOrder_112 : decode cX3_nextOrder 112 = .ok (.istore 4, 2) := by decide +kernel
theorem dX3_nextOrder_114 : decode cX3_nextOrder 114 = .ok (.iload_n 3, 1) := by decide +kernel
theorem dX3_nextOrder_115 : decode cX3_nextOrder 115 = .ok (.iload 4, 2) := by decide +kernel
theorem dX3_nextOrder_117 : decode cX3_nextOrder 117 = .ok (.if_icmp .ge 19, 3) := by decide +kernel
theorem dX3_nextOrder_120 : decode cX3_nextOrder 120 = .ok (.aload_n 0, 1) := by decide +kernel
theorem dX3_nextOrder_121 : decode cX3_nextOrder 121 = .ok (.iload_n 3, 1) := by decide +kernel
theorem dX3_nextOrder_122 : decode cX3_nextOrder 122 = .ok (.iload 4, 2) := by decide +kernel
theorem dX3_nextOrder_124 : decode cX3_nextOrder 124 = .ok (.invokevirtual 41, 3) := by decide +kernel
theorem dX3_nextOrder_127 : decode cX3_nextOrder 127 = .ok (.iinc 3 1, 3) := by decide +kernel
theorem dX3_nextOrder_130 : decode cX3_nextOrder 130 = .ok (.iinc 4 (-1), 3) := by decide +kernel
theorem dX3_nextOrder_133 : decode cX3_nextOrder 133 = .ok (.goto (-19), 3) := by decide +kernel
theorem dX3_nextOrder_136 : decode cX3_nextOrder 136 = .ok (.iconst 1, 1) := by decide +kernel
theorem dX3_nextOrder_137 : decode cX3_nextOrder 137 = .ok (.ireturn, 1) := by decide +kernel
theorem dX3_exchange_0 : decode cX3_exchange 0 = .ok (.iload_n 1, 1) := by decide +kernel
theorem dX3_exchange_1 : decode cX3_exchange 1 = .ok (.ifCond .lt 17, 3) := by decide +kernel
theorem dX3_exchange_4 : decode cX3_exchange 4 = .ok (.iload_n 1, 1) := by decide +kernel
theorem dX3_exchange_5 : decode cX3_exchange 5 = .ok (.iconst 5, 1) := by decide +kernel
theorem dX3_exchange_6 : decode cX3_exchange 6 = .ok (.if_icmp .ge 12, 3) := by decide +kernel
theorem dX3_exchange_9 : decode cX3_exchange 9 = .ok (.iload_n 2, 1) := by decide +kernel
theorem dX3_exchange_10 : decode cX3_exchange 10 = .ok (.ifCond .lt 8, 3) := by decide +kernel
theorem dX3_exchange_13 : decode cX3_exchange 13 = .ok (.iload_n 2, 1) := by decide +kernel
theorem dX3_exchange_14 : decode cX3_exchange 14 = .ok (.iconst 5, 1) := by decide +kernel
theorem dX3_exchange_15 : decode cX3_exchange 15 = .ok (.if_icmp .lt 4, 3) := by decide +kernel
theorem dX3_exchange_18 : decode cX3_exchange 18 = .ok (.return_, 1) := by decide +kernel
theorem dX3_exchange_19 : decode cX3_exchange 19 = .ok (.aload_n 0, 1) := by decide +kernel
theorem dX3_exchange_20 : decode cX3_exchange 20 = .ok (.getfield 19, 3) := by decide +kernel
theorem dX3_exchange_23 : decode cX3_exchange 23 = .ok (.iload_n 1, 1) := by decide +kernel
theorem dX3_exchange_24 : decode cX3_exchange 24 = .ok (.iaload, 1) := by decide +kernel
theorem dX3_exchange_25 : decode cX3_exchange 25 = .ok (.istore_n 3, 1) := by decide +kernel
theorem dX3_exchange_26 : decode cX3_exchange 26 = .ok (.aload_n 0, 1) := by decide +kernel
theorem dX3_exchange_27 : decode cX3_exchange 27 = .ok (.getfield 19, 3) := by decide +kernel
theorem dX3_exchange_30 : decode cX3_exchange 30 = .ok (.iload_n 1, 1) := by decide +kernel
theorem dX3_exchange_31 : decode cX3_exchange 31 = .ok (.aload_n 0, 1) := by decide +kernel
theorem dX3_exchange_32 : decode cX3_exchange 32 = .ok (.getfield 19, 3) := by decide +kernel
theorem dX3_exchange_35 : decode cX3_exchange 35 = .ok (.iload_n 2, 1) := by decide +kernel
theorem dX3_exchange_36 : decode cX3_exchange 36 = .ok (.iaload, 1) := by decide +kernel
theorem dX3_exchange_37 : decode cX3_exchange 37 = .ok (.iastore, 1) := by decide +kernel
theorem dX3_exchange_38 : decode cX3_exchange 38 = .ok (.aload_n 0, 1) := by decide +kernel
theorem dX3_exchange_39 : decode cX3_exchange 39 = .ok (.getfield 19, 3) := by decide +kernel
theorem dX3_exchange_42 : decode cX3_exchange 42 = .ok (.iload_n 2, 1) := by decide +kernel
theorem dX3_exchange_43 : decode cX3_exchange 43 = .ok (.iload_n 3, 1) := by decide +kernel
theorem dX3_exchange_44 : decode cX3_exchange 44 = .ok (.iastore, 1) := by decide +kernel
theorem dX3_exchange_45 : decode cX3_exchange 45 = .ok (.return_, 1) := by decide +kernel
set_option maxRecDepth 20000 in
theorem ggX4_init_X7_init : GoodIn wsX4_init wsX7_init := goodIn_r _ [4, 5, 6, 7, 8, 9, 10, 11, 12, 13, 14, 15, 16, 17, 18, 19, 20, 21, 22, 23, 24, 25, 26, 27, 28, 29, 30, 31, 32, 33, 34] (by decide +kernel) (by decide +kernel)
set_option maxRecDepth 20000 in
theorem gX4_init_X7_init : GoodIn wsX4_init (wsX7_init) := ggX4_init_X7_init
theorem dX4_init_0 : decode cX4_init 0 = .ok (.aload_n 0, 1) := by decide +kernel
theorem dX4_init_1 : decode cX4_init 1 = .ok (.iload_n 1, 1) := by decide +kernel
theorem dX4_init_2 : decode cX4_init 2 = .ok (.iload_n 2, 1) := by decide +kernel
theorem dX4_init_3 : decode cX4_init 3 = .ok (.iload_n 3, 1) := by decide +kernel
theorem dX4_init_4 : decode cX4_init 4 = .ok (.invokespecial 3, 3) := by decide +kernel
theorem dX4_init_7 : decode cX4_init 7 = .ok (.return_, 1) := by decide +kernel
theorem dX4_kind_0 : decode cX4_kind 0 = .ok (.iconst 3, 1) := by decide +kernel
theorem dX4_kind_1 : decode cX4_kind 1 = .ok (.ireturn, 1) := by decide +kernel
theorem dX4_hundredths_0 : decode cX4_hundredths 0 = .ok (.iload_n 1, 1) := by decide +kernel
theorem dX4_hundredths_1 : decode cX4_hundredths 1 = .ok (.ifCond .eq 12, 3) := by decide +kernel
theorem dX4_hundredths_4 : decode cX4_hundredths 4 = .ok (.aload_n 0, 1) := by decide +kernel
theorem dX4_hundredths_5 : decode cX4_hundredths 5 = .ok (.getfield 9, 3) := by decide +kernel
theorem dX4_hundredths_8 : decode cX4_hundredths 8 = .ok (.iconst 2, 1) := by decide +kernel
theorem dX4_hundredths_9 : decode cX4_hundredths 9 = .ok (.idiv, 1) := by decide +kernel
theorem dX4_hundredths_10 : decode cX4_hundredths 10 = .ok (.goto 7, 3) := by decide +kernel
theorem dX4_hundredths_13 : decode cX4_hundredths 13 = .ok (.aload_n 0, 1) := by decide +kernel
theorem dX4_hundredths_14 : decode cX4_hundredths 14 = .ok (.getfield 9, 3) := by decide +kernel
theorem dX4_hundredths_17 : decode cX4_hundredths 17 = .ok (.ireturn, 1) := by decide +kernel
theorem dX5_init_0 : decode cX5_init 0 = .ok (.aload_n 0, 1) := by decide +kernel
theorem dX5_init_1 : decode cX5_init 1 = .ok (.invokespecial 3, 3) := by decide +kernel
theorem dX5_init_4 : decode cX5_init 4 = .ok (.aload_n 0, 1) := by decide +kernel
theorem dX5_init_5 : decode cX5_init 5 = .ok (.iload_n 1, 1) := by decide +kernel
theorem dX5_init_6 : decode cX5_init 6 = .ok (.putfield 9, 3) := by decide +kernel
theorem dX5_init_9 : decode cX5_init 9 = .ok (.aload_n 0, 1) := by decide +kernel
theorem dX5_init_10 : decode cX5_init 10 = .ok (.iload_n 2, 1) := by decide +kernel
theorem dX5_init_11 : decode cX5_init 11 = .ok (.putfield 15, 3) := by decide +kernel
theorem dX5_init_14 : decode cX5_init 14 = .ok (.aload_n 0, 1) := by decide +kernel
theorem dX5_init_15 : decode cX5_init 15 = .ok (.iload_n 3, 1) := by decide +kernel
theorem dX5_init_16 : decode cX5_init 16 = .ok (.putfield 18, 3) := by decide +kernel
theorem dX5_init_19 : decode cX5_init 19 = .ok (.return_, 1) := by decide +kernel
set_option maxRecDepth 20000 in
theorem ggX5_ofKind_X2_init : GoodIn wsX5_ofKind wsX2_init := goodIn_r _ [21, 22, 23, 24, 25, 26, 27, 28, 29, 30, 31, 69, 70, 71, 72, 59, 60, 61, 53, 54, 55, 62, 63, 64, 56, 57, 58, 65, 66, 67, 68] (by decide +kernel) (by decide +kernel)
set_option maxRecDepth 20000 in
theorem gX5_ofKind_X2_init : GoodIn wsX5_ofKind (wsX2_init) := ggX5_ofKind_X2_init
set_option maxRecDepth 20000 in
theorem ggX5_ofKind_X7_init : GoodIn wsX5_ofKind wsX7_init := goodIn_r _ [34, 35, 23, 24, 25, 26, 27, 28, 29, 30, 31, 69, 70, 71, 72, 59, 60, 61, 53, 54, 55, 62, 63, 64, 56, 57, 58, 65, 66, 67, 68] (by decide +kernel) (by decide +kernel)
set_option maxRecDepth 20000 in
theorem gX5_ofKind_X7_init : GoodIn wsX5_ofKind (wsX7_init) := ggX5_ofKind_X7_init
set_option maxRecDepth 20000 in
theorem ggX5_ofKind_X1_init : GoodIn wsX5_ofKind wsX1_init := goodIn_r _ [38, 39, 33, 6, 34, 35, 23, 24, 25, 26, 27, 28, 29, 30, 31, 69, 70, 71, 72, 59, 60, 61, 53, 54, 55, 62, 63, 64, 56, 57, 58, 65, 66, 67, 68] (by decide +kernel) (by decide +kernel)
set_option maxRecDepth 20000 in
theorem gX5_ofKind_X1_init : GoodIn wsX5_ofKind (wsX1_init) := ggX5_ofKind_X1_init
set_option maxRecDepth 20000 in
theorem ggX5_ofKind_X4_init : GoodIn wsX5_ofKind wsX4_init := goodIn_r _ [42, 43, 33, 6, 34, 35, 23, 24, 25, 26, 27, 28, 29, 30, 31, 69, 70, 71, 72, 59, 60, 61, 53, 54, 55, 62, 63, 64, 56, 57, 58, 65, 66, 67, 68] (by decide +kernel) (by decide +kernel)
set_option maxRecDepth 20000 in
theorem gX5_ofKind_X4_init : GoodIn wsX5_ofKind (wsX4_init) := ggX5_ofKind_X4_init
set_option maxRecDepth 20000 in
theorem ggX5_ofKind_X9_init : GoodIn wsX5_ofKind wsX9_init := goodIn_r _ [46, 47, 48, 23, 24, 25, 26, 27, 28, 29, 30, 31, 69, 70, 71, 72, 65, 66, 67, 68, 59, 60, 61, 53, 54, 55, 62, 63, 64, 56, 57, 58] (by decide +kernel) (by decide +kernel)
set_option maxRecDepth 20000 in
theorem gX5_ofKind_X9_init : GoodIn wsX5_ofKind (wsX9_init) := ggX5_ofKind_X9_init
set_option maxRecDepth 20000 in
theorem ggX5_ofKind_X0_init : GoodIn wsX5_ofKind wsX0_init := goodIn_r _ [51, 52, 45, 15, 46, 47, 48, 23, 24, 25, 26, 27, 28, 29, 30, 31, 69, 70, 71, 72, 65, 66, 67, 68, 59, 60, 61, 53, 54, 55, 62, 63, 64, 56, 57, 58] (by decide +kernel) (by decide +kernel)
set_option maxRecDepth 20000 in
theorem gX5_ofKind_X0_init : GoodIn wsX5_ofKind (wsX0_init) := ggX5_ofKind_X0_init
theorem dX5_ofKind_0 : decode cX5_ofKind 0 = .ok (.iload_n 0, 1) := by decide +kernel
theorem dX5_ofKind_1 : decode cX5_ofKind 1 = .ok (.tableswitch 90 0 4 #[35, 46, 57, 68, 79], 35) := by decide +kernel
theorem dX5_ofKind_36 : decode cX5_ofKind 36 = .ok (.new 21, 3) := by decide +kernel
theorem dX5_ofKind_39 : decode cX5_ofKind 39 = .ok (.dup, 1) := by decide +kernel
theorem dX5_ofKind_40 : decode cX5_ofKind 40 = .ok (.iload_n 1, 1) := by decide +kernel
theorem dX5_ofKind_41 : decode cX5_ofKind 41 = .ok (.iload_n 2, 1) := by decide +kernel
theorem dX5_ofKind_42 : decode cX5_ofKind 42 = .ok (.iload_n 3, 1) := by decide +kernel
theorem dX5_ofKind_43 : decode cX5_ofKind 43 = .ok (.invokespecial 23, 3) := by decide +kernel
theorem dX5_ofKind_46 : decode cX5_ofKind 46 = .ok (.areturn, 1) := by decide +kernel
theorem dX5_ofKind_47 : decode cX5_ofKind 47 = .ok (.new 26, 3) := by decide +kernel
theorem dX5_ofKind_50 : decode cX5_ofKind 50 = .ok (.dup, 1) := by decide +kernel
theorem dX5_ofKind_51 : decode cX5_ofKind 51 = .ok (.iload_n 1, 1) := by decide +kernel
theorem dX5_ofKind_52 : decode cX5_ofKind 52 = .ok (.iload_n 2, 1) := by decide +kernel
theorem dX5_ofKind_53 : decode cX5_ofKind 53 = .ok (.iload_n 3, 1) := by decide +kernel
theorem dX5_ofKind_54 : decode cX5_ofKind 54 = .ok (.invokespecial 28, 3) := by decide +kernel
theorem dX5_ofKind_57 : decode cX5_ofKind 57 = .ok (.areturn, 1) := by decide +kernel
theorem dX5_ofKind_58 : decode cX5_ofKind 58 = .ok (.new 29, 3) := by decide +kernel
theorem dX5_ofKind_61 : decode cX5_ofKind 61 = .ok (.dup, 1) := by decide +kernel
theorem dX5_ofKind_62 : decode cX5_ofKind 62 = .ok (.iload_n 1, 1) := by decide +kernel
theorem dX5_ofKind_63 : decode cX5_ofKind 63 = .ok (.iload_n 2, 1) := by decide +kernel
theorem dX5_ofKind_64 : decode cX5_ofKind 64 = .ok (.iload_n 3, 1) := by decide +kernel
theorem dX5_ofKind_65 : decode cX5_ofKind 65 = .ok (.invokespecial 31, 3) := by decide +kernel
theorem dX5_ofKind_68 : decode cX5_ofKind 68 = .ok (.areturn, 1) := by decide +kernel
theorem dX5_ofKind_69 : decode cX5_ofKind 69 = .ok (.new 32, 3) := by decide +kernel
theorem dX5_ofKind_72 : decode cX5_ofKind 72 = .ok (.dup, 1) := by decide +kernel
theorem dX5_ofKind_73 : decode cX5_ofKind 73 = .ok (.iload_n 1, 1) := by decide +kernel
theorem dX5_ofKind_74 : decode cX5_ofKind 74 = .ok (.iload_n 2, 1) := by decide +kernel
theorem dX5_ofKind_75 : decode cX5_ofKind 75 = .ok (.iload_n 3, 1) := by decide +kernel
theorem dX5_ofKind_76 : decode cX5_ofKind 76 = .ok (.invokespecial 34, 3) := by decide +kernel
theorem dX5_ofKind_79 : decode cX5_ofKind 79 = .ok (.areturn, 1) := by decide +kernel
theorem dX5_ofKind_80 : decode cX5_ofKind 80 = .ok (.new 35, 3) := by decide +kernel
theorem dX5_ofKind_83 : decode cX5_ofKind 83 = .ok (.dup, 1) := by decide +kernel
theorem dX5_ofKind_84 : decode cX5_ofKind 84 = .ok (.iload_n 1, 1) := by decide +kernel
theorem dX5_ofKind_85 : decode cX5_ofKind 85 = .ok (.iload_n 2, 1) := by decide +kernel
theorem dX5_ofKind_86 : decode cX5_ofKind 86 = .ok (.iload_n 3, 1) := by decide +kernel
theorem dX5_ofKind_87 : decode cX5_ofKind 87 = .ok (.invokespecial 37, 3) := by decide +kernel
theorem dX5_ofKind_90 : decode cX5_ofKind 90 = .ok (.areturn, 1) := by decide +kernel
theorem dX5_ofKind_91 : decode cX5_ofKind 91 = .ok (.new 38, 3) := by decide +kernel
theorem dX5_ofKind_94 : decode cX5_ofKind 94 = .ok (.dup, 1) := by decide +kernel
theorem dX5_ofKind_95 : decode cX5_ofKind 95 = .ok (.iload_n 1, 1) := by decide +kernel
theorem dX5_ofKind_96 : decode cX5_ofKind 96 = .ok (.iload_n 2, 1) := by decide +kernel
theorem dX5_ofKind_97 : decode cX5_ofKind 97 = .ok (.iload_n 3, 1) := by decide +kernel
theorem dX5_ofKind_98 : decode cX5_ofKind 98 = .ok (.invokespecial 40, 3) := by decide +kernel
theorem dX5_ofKind_101 : decode cX5_ofKind 101 = .ok (.areturn, 1) := by decide +kernel
theorem dX5_toldSet_0 : decode cX5_toldSet 0 = .ok (.iconst 0, 1) := by decide +kernel
theorem dX5_toldSet_1 : decode cX5_toldSet 1 = .ok (.ireturn, 1) := by decide +kernel
theorem dX5_tell_0 : decode cX5_tell 0 = .ok (.return_, 1) := by decide +kernel
theorem dX6_init_0 : decode cX6_init 0 = .ok (.aload_n 0, 1) := by decide +kernel
theorem dX6_init_1 : decode cX6_init 1 = .ok (.invokespecial 3, 3) := by decide +kernel
theorem dX6_init_4 : decode cX6_init 4 = .ok (.aload_n 0, 1) := by decide +kernel
theorem dX6_init_5 : decode cX6_init 5 = .ok (.iconst 4, 1) := by decide +kernel
theorem dX6_init_6 : decode cX6_init 6 = .ok (.anewarray 9, 3) := by decide +kernel
theorem dX6_init_9 : decode cX6_init 9 = .ok (.putfield 11, 3) := by decide +kernel
theorem dX6_init_12 : decode cX6_init 12 = .ok (.aload_n 0, 1) := by decide +kernel
theorem dX6_init_13 : decode cX6_init 13 = .ok (.iconst 0, 1) := by decide +kernel
theorem dX6_init_14 : decode cX6_init 14 = .ok (.putfield 17, 3) := by decide +kernel
theorem dX6_init_17 : decode cX6_init 17 = .ok (.aload_n 0, 1) := by decide +kernel
theorem dX6_init_18 : decode cX6_init 18 = .ok (.iconst 4, 1) := by decide +kernel
theorem dX6_init_19 : decode cX6_init 19 = .ok (.newarray .int, 2) := by decide +kernel
theorem dX6_init_21 : decode cX6_init 21 = .ok (.dup, 1) := by decide +kernel
theorem dX6_init_22 : decode cX6_init 22 = .ok (.iconst 0, 1) := by decide +kernel
theorem dX6_init_23 : decode cX6_init 23 = .ok (.bipush 10, 2) := by decide +kernel
theorem dX6_init_25 : decode cX6_init 25 = .ok (.iastore, 1) := by decide +kernel
theorem dX6_init_26 : decode cX6_init 26 = .ok (.dup, 1) := by decide +kernel
theorem dX6_init_27 : decode cX6_init 27 = .ok (.iconst 1, 1) := by decide +kernel
theorem dX6_init_28 : decode cX6_init 28 = .ok (.iconst 5, 1) := by decide +kernel
theorem dX6_init_29 : decode cX6_init 29 = .ok (.iastore, 1) := by decide +kernel
theorem dX6_init_30 : decode cX6_init 30 = .ok (.dup, 1) := by decide +kernel
theorem dX6_init_31 : decode cX6_init 31 = .ok (.iconst 2, 1) := by decide +kernel
theorem dX6_init_32 : decode cX6_init 32 = .ok (.iconst 0, 1) := by decide +kernel
theorem dX6_init_33 : decode cX6_init 33 = .ok (.iastore, 1) := by decide +kernel
theorem dX6_init_34 : decode cX6_init 34 = .ok (.dup, 1) := by decide +kernel
theorem dX6_init_35 : decode cX6_init 35 = .ok (.iconst 3, 1) := by decide +kernel
theorem dX6_init_36 : decode cX6_init 36 = .ok (.iconst 1, 1) := by decide +kernel
theorem dX6_init_37 : decode cX6_init 37 = .ok (.iastore, 1) := by decide +kernel
theorem dX6_init_38 : decode cX6_init 38 = .ok (.putfield 21, 3) := by decide +kernel
theorem dX6_init_41 : decode cX6_init 41 = .ok (.aload_n 0, 1) := by decide +kernel
theorem dX6_init_42 : decode cX6_init 42 = .ok (.iconst 4, 1) := by decide +kernel
theorem dX6_init_43 : decode cX6_init 43 = .ok (.newarray .int, 2) := by decide +kernel
theorem dX6_init_45 : decode cX6_init 45 = .ok (.putfield 25, 3) := by decide +kernel
theorem dX6_init_48 : decode cX6_init 48 = .ok (.aload_n 0, 1) := by decide +kernel
theorem dX6_init_49 : decode cX6_init 49 = .ok (.iconst 4, 1) := by decide +kernel
theorem dX6_init_50 : decode cX6_init 50 = .ok (.newarray .int, 2) := by decide +kernel
theorem dX6_init_52 : decode cX6_init 52 = .ok (.putfield 28, 3) := by decide +kernel
theorem dX6_init_55 : decode cX6_init 55 = .ok (.aload_n 0, 1) := by decide +kernel
theorem dX6_init_56 : decode cX6_init 56 = .ok (.iconst 4, 1) := by decide +kernel
theorem dX6_init_57 : decode cX6_init 57 = .ok (.newarray .int, 2) := by decide +kernel
theorem dX6_init_59 : decode cX6_init 59 = .ok (.putfield 31, 3) := by decide +kernel
theorem dX6_init_62 : decode cX6_init 62 = .ok (.aload_n 0, 1) := by decide +kernel
theorem dX6_init_63 : decode cX6_init 63 = .ok (.iconst 4, 1) := by decide +kernel
theorem dX6_init_64 : decode cX6_init 64 = .ok (.newarray .int, 2) := by decide +kernel
