theorem dX11_word_62 : decode cX11_word 62 = .ok (.getfield 59, 3) := by decide +kernel
theorem dX11_word_65 : decode cX11_word 65 = .ok (.iload_n 1, 1) := by decide +kernel
theorem dX11_word_66 : decode cX11_word 66 = .ok (.invokevirtual 103, 3) := by decide +kernel
theorem dX11_word_69 : decode cX11_word 69 = .ok (.ireturn, 1) := by decide +kernel
theorem dX11_word_70 : decode cX11_word 70 = .ok (.aload_n 0, 1) := by decide +kernel
theorem dX11_word_71 : decode cX11_word 71 = .ok (.getfield 59, 3) := by decide +kernel
theorem dX11_word_74 : decode cX11_word 74 = .ok (.iload_n 1, 1) := by decide +kernel
theorem dX11_word_75 : decode cX11_word 75 = .ok (.invokevirtual 106, 3) := by decide +kernel
theorem dX11_word_78 : decode cX11_word 78 = .ok (.ireturn, 1) := by decide +kernel
theorem dX11_word_79 : decode cX11_word 79 = .ok (.aload_n 0, 1) := by decide +kernel
theorem dX11_word_80 : decode cX11_word 80 = .ok (.getfield 59, 3) := by decide +kernel
theorem dX11_word_83 : decode cX11_word 83 = .ok (.iload_n 1, 1) := by decide +kernel
theorem dX11_word_84 : decode cX11_word 84 = .ok (.invokevirtual 109, 3) := by decide +kernel
theorem dX11_word_87 : decode cX11_word 87 = .ok (.ireturn, 1) := by decide +kernel
theorem dX11_word_88 : decode cX11_word 88 = .ok (.aload_n 0, 1) := by decide +kernel
theorem dX11_word_89 : decode cX11_word 89 = .ok (.getfield 59, 3) := by decide +kernel
theorem dX11_word_92 : decode cX11_word 92 = .ok (.iload_n 1, 1) := by decide +kernel
theorem dX11_word_93 : decode cX11_word 93 = .ok (.invokevirtual 112, 3) := by decide +kernel
theorem dX11_word_96 : decode cX11_word 96 = .ok (.ireturn, 1) := by decide +kernel
theorem dX11_word_97 : decode cX11_word 97 = .ok (.aload_n 0, 1) := by decide +kernel
theorem dX11_word_98 : decode cX11_word 98 = .ok (.bipush (-2), 2) := by decide +kernel
theorem dX11_word_100 : decode cX11_word 100 = .ok (.invokevirtual 72, 3) := by decide +kernel
theorem dX11_word_103 : decode cX11_word 103 = .ok (.ireturn, 1) := by decide +kernel
set_option maxRecDepth 20000 in
theorem ggX11_player_X6_playerAt : GoodIn wsX11_player wsX6_playerAt := goodIn_r _ [9, 10, 11, 92, 93, 94, 95, 96, 97, 98, 99, 100, 101, 102, 103, 104, 105, 106, 107, 108] (by decide +kernel) (by decide +kernel)
set_option maxRecDepth 20000 in
theorem gX11_player_X6_playerAt : GoodIn wsX11_player (wsV RX11 115 RX6 yX6_playerAt wsX6_playerAt) := goodIn_app (goodIn_of _ (by decide +kernel)) ggX11_player_X6_playerAt
set_option maxRecDepth 20000 in
theorem ggX11_player_X11_refuse : GoodIn wsX11_player wsX11_refuse := goodIn_r _ [16, 17, 59, 60, 61, 62, 63, 64, 65, 66, 67, 68, 69, 70, 71] (by decide +kernel) (by decide +kernel)
set_option maxRecDepth 20000 in
theorem gX11_player_X11_refuse : GoodIn wsX11_player (wsV RX11 72 RX11 yX11_refuse wsX11_refuse) := goodIn_app (goodIn_of _ (by decide +kernel)) ggX11_player_X11_refuse
set_option maxRecDepth 20000 in
theorem ggX11_player_X0_kind : GoodIn wsX11_player wsX0_kind := goodIn_r _ [23] (by decide +kernel) (by decide +kernel)
set_option maxRecDepth 20000 in
theorem gX11_player_X0_kind_u119X0 : GoodIn wsX11_player (va_wsU RX11 119 RX0 "BeforeTheEnd$Player" ⟨"BeforeTheEnd$Player", "kind", "()I"⟩ yX0_kind wsX0_kind) := goodIn_app (goodIn_of _ (by decide +kernel)) ggX11_player_X0_kind
set_option maxRecDepth 20000 in
theorem ggX11_player_X1_kind : GoodIn wsX11_player wsX1_kind := goodIn_r _ [27] (by decide +kernel) (by decide +kernel)
set_option maxRecDepth 20000 in
theorem gX11_player_X1_kind_u119X1 : GoodIn wsX11_player (va_wsU RX11 119 RX1 "BeforeTheEnd$Player" ⟨"BeforeTheEnd$Player", "kind", "()I"⟩ yX1_kind wsX1_kind) := goodIn_app (goodIn_of _ (by decide +kernel)) ggX11_player_X1_kind
set_option maxRecDepth 20000 in
theorem ggX11_player_X2_kind : GoodIn wsX11_player wsX2_kind := goodIn_r _ [31] (by decide +kernel) (by decide +kernel)
set_option maxRecDepth 20000 in
theorem gX11_player_X2_kind_u119X2 : GoodIn wsX11_player (va_wsU RX11 119 RX2 "BeforeTheEnd$Player" ⟨"BeforeTheEnd$Player", "kind", "()I"⟩ yX2_kind wsX2_kind) := goodIn_app (goodIn_of _ (by decide +kernel)) ggX11_player_X2_kind
set_option maxRecDepth 20000 in
theorem ggX11_player_X4_kind : GoodIn wsX11_player wsX4_kind := goodIn_r _ [35] (by decide +kernel) (by decide +kernel)
set_option maxRecDepth 20000 in
theorem gX11_player_X4_kind_u119X4 : GoodIn wsX11_player (va_wsU RX11 119 RX4 "BeforeTheEnd$Player" ⟨"BeforeTheEnd$Player", "kind", "()I"⟩ yX4_kind wsX4_kind) := goodIn_app (goodIn_of _ (by decide +kernel)) ggX11_player_X4_kind
set_option maxRecDepth 20000 in
theorem ggX11_player_X7_kind : GoodIn wsX11_player wsX7_kind := goodIn_r _ [39] (by decide +kernel) (by decide +kernel)
set_option maxRecDepth 20000 in
theorem gX11_player_X7_kind_u119X7 : GoodIn wsX11_player (va_wsU RX11 119 RX7 "BeforeTheEnd$Player" ⟨"BeforeTheEnd$Player", "kind", "()I"⟩ yX7_kind wsX7_kind) := goodIn_app (goodIn_of _ (by decide +kernel)) ggX11_player_X7_kind
set_option maxRecDepth 20000 in
theorem ggX11_player_X9_kind : GoodIn wsX11_player wsX9_kind := goodIn_r _ [43] (by decide +kernel) (by decide +kernel)
set_option maxRecDepth 20000 in
theorem gX11_player_X9_kind_u119X9 : GoodIn wsX11_player (va_wsU RX11 119 RX9 "BeforeTheEnd$Player" ⟨"BeforeTheEnd$Player", "kind", "()I"⟩ yX9_kind wsX9_kind) := goodIn_app (goodIn_of _ (by decide +kernel)) ggX11_player_X9_kind
set_option maxRecDepth 20000 in
theorem ggX11_player_X9_toldSet : GoodIn wsX11_player wsX9_toldSet := goodIn_r _ [49, 50, 72, 73, 74, 75, 88, 89, 90, 91] (by decide +kernel) (by decide +kernel)
set_option maxRecDepth 20000 in
theorem gX11_player_X9_toldSet_u133X0 : GoodIn wsX11_player (va_wsO RX11 133 RX0 "BeforeTheEnd$Player" ⟨"BeforeTheEnd$Player", "toldSet", "()I"⟩ yX9_toldSet wsX9_toldSet) := goodIn_app (goodIn_of _ (by decide +kernel)) ggX11_player_X9_toldSet
set_option maxRecDepth 20000 in
theorem ggX11_player_X5_toldSet : GoodIn wsX11_player wsX5_toldSet := goodIn_r _ [51] (by decide +kernel) (by decide +kernel)
set_option maxRecDepth 20000 in
theorem gX11_player_X5_toldSet_u133X1 : GoodIn wsX11_player (va_wsU RX11 133 RX1 "BeforeTheEnd$Player" ⟨"BeforeTheEnd$Player", "toldSet", "()I"⟩ yX5_toldSet wsX5_toldSet) := goodIn_app (goodIn_of _ (by decide +kernel)) ggX11_player_X5_toldSet
set_option maxRecDepth 20000 in
theorem gX11_player_X5_toldSet_u133X2 : GoodIn wsX11_player (va_wsU RX11 133 RX2 "BeforeTheEnd$Player" ⟨"BeforeTheEnd$Player", "toldSet", "()I"⟩ yX5_toldSet wsX5_toldSet) := goodIn_app (goodIn_of _ (by decide +kernel)) ggX11_player_X5_toldSet
set_option maxRecDepth 20000 in
theorem gX11_player_X5_toldSet_u133X4 : GoodIn wsX11_player (va_wsU RX11 133 RX4 "BeforeTheEnd$Player" ⟨"BeforeTheEnd$Player", "toldSet", "()I"⟩ yX5_toldSet wsX5_toldSet) := goodIn_app (goodIn_of _ (by decide +kernel)) ggX11_player_X5_toldSet
set_option maxRecDepth 20000 in
theorem gX11_player_X5_toldSet_u133X7 : GoodIn wsX11_player (va_wsU RX11 133 RX7 "BeforeTheEnd$Player" ⟨"BeforeTheEnd$Player", "toldSet", "()I"⟩ yX5_toldSet wsX5_toldSet) := goodIn_app (goodIn_of _ (by decide +kernel)) ggX11_player_X5_toldSet
set_option maxRecDepth 20000 in
theorem gX11_player_X9_toldSet_u133X9 : GoodIn wsX11_player (va_wsO RX11 133 RX9 "BeforeTheEnd$Player" ⟨"BeforeTheEnd$Player", "toldSet", "()I"⟩ yX9_toldSet wsX9_toldSet) := goodIn_app (goodIn_of _ (by decide +kernel)) ggX11_player_X9_toldSet
theorem dX11_player_0 : decode cX11_player 0 = .ok (.aload_n 0, 1) := by decide +kernel
theorem dX11_player_1 : decode cX11_player 1 = .ok (.getfield 68, 3) := by decide +kernel
theorem dX11_player_4 : decode cX11_player 4 = .ok (.iload_n 1, 1) := by decide +kernel
theorem dX11_player_5 : decode cX11_player 5 = .ok (.invokevirtual 115, 3) := by decide +kernel
theorem dX11_player_8 : decode cX11_player 8 = .ok (.astore_n 3, 1) := by decide +kernel
theorem dX11_player_9 : decode cX11_player 9 = .ok (.aload_n 3, 1) := by decide +kernel
theorem dX11_player_10 : decode cX11_player 10 = .ok (.ifnonnull 9, 3) := by decide +kernel
theorem dX11_player_13 : decode cX11_player 13 = .ok (.aload_n 0, 1) := by decide +kernel
theorem dX11_player_14 : decode cX11_player 14 = .ok (.iconst (-1), 1) := by decide +kernel
theorem dX11_player_15 : decode cX11_player 15 = .ok (.invokevirtual 72, 3) := by decide +kernel
theorem dX11_player_18 : decode cX11_player 18 = .ok (.ireturn, 1) := by decide +kernel
theorem dX11_player_19 : decode cX11_player 19 = .ok (.iload_n 2, 1) := by decide +kernel
theorem dX11_player_20 : decode cX11_player 20 = .ok (.tableswitch 61 0 4 #[36, 41, 46, 51, 56], 36) := by decide +kernel
theorem dX11_player_56 : decode cX11_player 56 = .ok (.aload_n 3, 1) := by decide +kernel
theorem dX11_player_57 : decode cX11_player 57 = .ok (.invokevirtual 119, 3) := by decide +kernel
theorem dX11_player_60 : decode cX11_player 60 = .ok (.ireturn, 1) := by decide +kernel
theorem dX11_player_61 : decode cX11_player 61 = .ok (.aload_n 3, 1) := by decide +kernel
theorem dX11_player_62 : decode cX11_player 62 = .ok (.getfield 124, 3) := by decide +kernel
theorem dX11_player_65 : decode cX11_player 65 = .ok (.ireturn, 1) := by decide +kernel
theorem dX11_player_66 : decode cX11_player 66 = .ok (.aload_n 3, 1) := by decide +kernel
theorem dX11_player_67 : decode cX11_player 67 = .ok (.getfield 127, 3) := by decide +kernel
theorem dX11_player_70 : decode cX11_player 70 = .ok (.ireturn, 1) := by decide +kernel
theorem dX11_player_71 : decode cX11_player 71 = .ok (.aload_n 3, 1) := by decide +kernel
theorem dX11_player_72 : decode cX11_player 72 = .ok (.getfield 130, 3) := by decide +kernel
theorem dX11_player_75 : decode cX11_player 75 = .ok (.ireturn, 1) := by decide +kernel
theorem dX11_player_76 : decode cX11_player 76 = .ok (.aload_n 3, 1) := by decide +kernel
theorem dX11_player_77 : decode cX11_player 77 = .ok (.invokevirtual 133, 3) := by decide +kernel
theorem dX11_player_80 : decode cX11_player 80 = .ok (.ireturn, 1) := by decide +kernel
theorem dX11_player_81 : decode cX11_player 81 = .ok (.aload_n 0, 1) := by decide +kernel
theorem dX11_player_82 : decode cX11_player 82 = .ok (.bipush (-2), 2) := by decide +kernel
theorem dX11_player_84 : decode cX11_player 84 = .ok (.invokevirtual 72, 3) := by decide +kernel
theorem dX11_player_87 : decode cX11_player 87 = .ok (.ireturn, 1) := by decide +kernel
set_option maxRecDepth 20000 in
theorem ggX11_whole_X10_isWhole : GoodIn wsX11_whole wsX10_isWhole := goodIn_r _ [6, 7, 21, 22, 23, 24, 25, 26, 27, 28, 29, 30, 31, 32, 33, 34, 35, 36] (by decide +kernel) (by decide +kernel)
set_option maxRecDepth 20000 in
theorem gX11_whole_X10_isWhole : GoodIn wsX11_whole (wsV RX11 136 RX10 yX10_isWhole wsX10_isWhole) := goodIn_app (goodIn_of _ (by decide +kernel)) ggX11_whole_X10_isWhole
theorem dX11_whole_0 : decode cX11_whole 0 = .ok (.aload_n 0, 1) := by decide +kernel
theorem dX11_whole_1 : decode cX11_whole 1 = .ok (.getfield 59, 3) := by decide +kernel
theorem dX11_whole_4 : decode cX11_whole 4 = .ok (.invokevirtual 136, 3) := by decide +kernel
theorem dX11_whole_7 : decode cX11_whole 7 = .ok (.ifCond .eq 7, 3) := by decide +kernel
theorem dX11_whole_10 : decode cX11_whole 10 = .ok (.iconst 1, 1) := by decide +kernel
theorem dX11_whole_11 : decode cX11_whole 11 = .ok (.goto 4, 3) := by decide +kernel
theorem dX11_whole_14 : decode cX11_whole 14 = .ok (.iconst 0, 1) := by decide +kernel
theorem dX11_whole_15 : decode cX11_whole 15 = .ok (.ireturn, 1) := by decide +kernel
set_option maxRecDepth 20000 in
theorem ggX11_left_X10_has : GoodIn wsX11_left wsX10_has := goodIn_r _ [6, 7, 33, 34, 35, 36, 37, 38, 39, 40, 41, 42, 43, 44, 45, 46, 47, 48] (by decide +kernel) (by decide +kernel)
set_option maxRecDepth 20000 in
theorem gX11_left_X10_has : GoodIn wsX11_left (wsV RX11 96 RX10 yX10_has wsX10_has) := goodIn_app (goodIn_of _ (by decide +kernel)) ggX11_left_X10_has
set_option maxRecDepth 20000 in
theorem ggX11_left_X11_refuse : GoodIn wsX11_left wsX11_refuse := goodIn_r _ [12, 13, 20, 21, 22, 23, 24, 25, 26, 27, 28, 29, 30, 31, 32] (by decide +kernel) (by decide +kernel)
set_option maxRecDepth 20000 in
theorem gX11_left_X11_refuse : GoodIn wsX11_left (wsV RX11 72 RX11 yX11_refuse wsX11_refuse) := goodIn_app (goodIn_of _ (by decide +kernel)) ggX11_left_X11_refuse
set_option maxRecDepth 20000 in
theorem ggX11_left_X10_behindOf : GoodIn wsX11_left wsX10_behindOf := goodIn_r _ [17, 18, 19, 3, 4, 5, 6, 7, 33, 34, 35, 36, 37, 38, 39, 40, 41, 42, 43, 44, 45, 46, 47, 48] (by decide +kernel) (by decide +kernel)
set_option maxRecDepth 20000 in
theorem gX11_left_X10_behindOf : GoodIn wsX11_left (wsV RX11 140 RX10 yX10_behindOf wsX10_behindOf) := goodIn_app (goodIn_of _ (by decide +kernel)) ggX11_left_X10_behindOf
theorem dX11_left_0 : decode cX11_left 0 = .ok (.aload_n 0, 1) := by decide +kernel
theorem dX11_left_1 : decode cX11_left 1 = .ok (.getfield 59, 3) := by decide +kernel
theorem dX11_left_4 : decode cX11_left 4 = .ok (.iload_n 1, 1) := by decide +kernel
theorem dX11_left_5 : decode cX11_left 5 = .ok (.invokevirtual 96, 3) := by decide +kernel
theorem dX11_left_8 : decode cX11_left 8 = .ok (.ifCond .ne 9, 3) := by decide +kernel
theorem dX11_left_11 : decode cX11_left 11 = .ok (.aload_n 0, 1) := by decide +kernel
theorem dX11_left_12 : decode cX11_left 12 = .ok (.iconst (-1), 1) := by decide +kernel
theorem dX11_left_13 : decode cX11_left 13 = .ok (.invokevirtual 72, 3) := by decide +kernel
theorem dX11_left_16 : decode cX11_left 16 = .ok (.ireturn, 1) := by decide +kernel
theorem dX11_left_17 : decode cX11_left 17 = .ok (.aload_n 0, 1) := by decide +kernel
theorem dX11_left_18 : decode cX11_left 18 = .ok (.getfield 59, 3) := by decide +kernel
theorem dX11_left_21 : decode cX11_left 21 = .ok (.iload_n 1, 1) := by decide +kernel
theorem dX11_left_22 : decode cX11_left 22 = .ok (.invokevirtual 140, 3) := by decide +kernel
theorem dX11_left_25 : decode cX11_left 25 = .ok (.ireturn, 1) := by decide +kernel
set_option maxRecDepth 20000 in
theorem ggX11_chance_X10_has : GoodIn wsX11_chance wsX10_has := goodIn_r _ [6, 7, 64, 65, 66, 67, 68, 69, 70, 71, 72, 73, 74, 75, 76, 77, 78, 79] (by decide +kernel) (by decide +kernel)
set_option maxRecDepth 20000 in
theorem gX11_chance_X10_has : GoodIn wsX11_chance (wsV RX11 96 RX10 yX10_has wsX10_has) := goodIn_app (goodIn_of _ (by decide +kernel)) ggX11_chance_X10_has
set_option maxRecDepth 20000 in
theorem ggX11_chance_X11_refuseLong : GoodIn wsX11_chance wsX11_refuseLong := goodIn_r _ [12, 13, 14, 15, 16, 11, 17, 18, 51, 52, 53, 54, 55, 56, 57, 58, 59, 60, 61, 62, 63] (by decide +kernel) (by decide +kernel)
set_option maxRecDepth 20000 in
theorem gX11_chance_X11_refuseLong : GoodIn wsX11_chance (wsV RX11 143 RX11 yX11_refuseLong wsX11_refuseLong) := goodIn_app (goodIn_of _ (by decide +kernel)) ggX11_chance_X11_refuseLong
set_option maxRecDepth 20000 in
theorem ggX11_chance_X11_isNoPart : GoodIn wsX11_chance wsX11_isNoPart := goodIn_r _ [21] (by decide +kernel) (by decide +kernel)
set_option maxRecDepth 20000 in
theorem gX11_chance_X11_isNoPart : GoodIn wsX11_chance (va_wsS RX11 147 yX11_isNoPart wsX11_isNoPart) := goodIn_app (goodIn_of _ (by decide +kernel)) ggX11_chance_X11_isNoPart
set_option maxRecDepth 20000 in
theorem ggX11_chance_X10_isWhole : GoodIn wsX11_chance wsX10_isWhole := goodIn_r _ [25, 26, 64, 65, 66, 67, 68, 69, 70, 71, 72, 73, 74, 75, 76, 77, 78, 79] (by decide +kernel) (by decide +kernel)
set_option maxRecDepth 20000 in
theorem gX11_chance_X10_isWhole : GoodIn wsX11_chance (wsV RX11 136 RX10 yX10_isWhole wsX10_isWhole) := goodIn_app (goodIn_of _ (by decide +kernel)) ggX11_chance_X10_isWhole
set_option maxRecDepth 20000 in
theorem ggX11_chance_X10_shareOf : GoodIn wsX11_chance wsX10_shareOf := goodIn_r _ [30, 31, 32, 3, 4, 5, 6, 7, 64, 65, 66, 67, 68, 69, 70, 71, 72, 73, 74, 75, 76, 77, 78, 79] (by decide +kernel) (by decide +kernel)
set_option maxRecDepth 20000 in
theorem gX11_chance_X10_shareOf : GoodIn wsX11_chance (wsV RX11 150 RX10 yX10_shareOf wsX10_shareOf) := goodIn_app (goodIn_of _ (by decide +kernel)) ggX11_chance_X10_shareOf
set_option maxRecDepth 20000 in
theorem ggX11_chance_X10_belowOf : GoodIn wsX11_chance wsX10_belowOf := goodIn_r _ [36, 37, 32, 3, 4, 5, 6, 7, 64, 65, 66, 67, 68, 69, 70, 71, 72, 73, 74, 75, 76, 77, 78, 79] (by decide +kernel) (by decide +kernel)
set_option maxRecDepth 20000 in
theorem gX11_chance_X10_belowOf : GoodIn wsX11_chance (wsV RX11 154 RX10 yX10_belowOf wsX10_belowOf) := goodIn_app (goodIn_of _ (by decide +kernel)) ggX11_chance_X10_belowOf
set_option maxRecDepth 20000 in
theorem ggX11_chance_X11_leastTerms : GoodIn wsX11_chance wsX11_leastTerms := goodIn_r _ [40, 41, 42, 11, 43, 44, 45, 46, 47, 48, 49, 50] (by decide +kernel) (by decide +kernel)
set_option maxRecDepth 20000 in
theorem gX11_chance_X11_leastTerms : GoodIn wsX11_chance (va_wsS RX11 157 yX11_leastTerms wsX11_leastTerms) := goodIn_app (goodIn_of _ (by decide +kernel)) ggX11_chance_X11_leastTerms
theorem dX11_chance_0 : decode cX11_chance 0 = .ok (.aload_n 0, 1) := by decide +kernel
theorem dX11_chance_1 : decode cX11_chance 1 = .ok (.getfield 59, 3) := by decide +kernel
theorem dX11_chance_4 : decode cX11_chance 4 = .ok (.iload_n 1, 1) := by decide +kernel
theorem dX11_chance_5 : decode cX11_chance 5 = .ok (.invokevirtual 96, 3) := by decide +kernel
theorem dX11_chance_8 : decode cX11_chance 8 = .ok (.ifCond .eq 14, 3) := by decide +kernel
theorem dX11_chance_11 : decode cX11_chance 11 = .ok (.iload_n 2, 1) := by decide +kernel
theorem dX11_chance_12 : decode cX11_chance 12 = .ok (.iconst 1, 1) := by decide +kernel
theorem dX11_chance_13 : decode cX11_chance 13 = .ok (.if_icmp .lt 9, 3) := by decide +kernel
theorem dX11_chance_16 : decode cX11_chance 16 = .ok (.iload_n 2, 1) := by decide +kernel
theorem dX11_chance_17 : decode cX11_chance 17 = .ok (.bipush 10, 2) := by decide +kernel
theorem dX11_chance_19 : decode cX11_chance 19 = .ok (.if_icmp .lt 9, 3) := by decide +kernel
theorem dX11_chance_22 : decode cX11_chance 22 = .ok (.aload_n 0, 1) := by decide +kernel
theorem dX11_chance_23 : decode cX11_chance 23 = .ok (.iconst (-1), 1) := by decide +kernel
theorem dX11_chance_24 : decode cX11_chance 24 = .ok (.invokevirtual 143, 3) := by decide +kernel
theorem dX11_chance_27 : decode cX11_chance 27 = .ok (.lreturn, 1) := by decide +kernel
theorem dX11_chance_28 : decode cX11_chance 28 = .ok (.iload_n 3, 1) := by decide +kernel
theorem dX11_chance_29 : decode cX11_chance 29 = .ok (.invokestatic 147, 3) := by decide +kernel
theorem dX11_chance_32 : decode cX11_chance 32 = .ok (.ifCond .eq 10, 3) := by decide +kernel
theorem dX11_chance_35 : decode cX11_chance 35 = .ok (.aload_n 0, 1) := by decide +kernel
theorem dX11_chance_36 : decode cX11_chance 36 = .ok (.bipush (-2), 2) := by decide +kernel
theorem dX11_chance_38 : decode cX11_chance 38 = .ok (.invokevirtual 143, 3) := by decide +kernel
theorem dX11_chance_41 : decode cX11_chance 41 = .ok (.lreturn, 1) := by decide +kernel
theorem dX11_chance_42 : decode cX11_chance 42 = .ok (.aload_n 0, 1) := by decide +kernel
theorem dX11_chance_43 : decode cX11_chance 43 = .ok (.getfield 59, 3) := by decide +kernel
theorem dX11_chance_46 : decode cX11_chance 46 = .ok (.invokevirtual 136, 3) := by decide +kernel
theorem dX11_chance_49 : decode cX11_chance 49 = .ok (.ifCond .ne 10, 3) := by decide +kernel
theorem dX11_chance_52 : decode cX11_chance 52 = .ok (.aload_n 0, 1) := by decide +kernel
theorem dX11_chance_53 : decode cX11_chance 53 = .ok (.bipush (-3), 2) := by decide +kernel
theorem dX11_chance_55 : decode cX11_chance 55 = .ok (.invokevirtual 143, 3) := by decide +kernel
theorem dX11_chance_58 : decode cX11_chance 58 = .ok (.lreturn, 1) := by decide +kernel
theorem dX11_chance_59 : decode cX11_chance 59 = .ok (.aload_n 0, 1) := by decide +kernel
theorem dX11_chance_60 : decode cX11_chance 60 = .ok (.getfield 59, 3) := by decide +kernel
theorem dX11_chance_63 : decode cX11_chance 63 = .ok (.iload_n 1, 1) := by decide +kernel
theorem dX11_chance_64 : decode cX11_chance 64 = .ok (.iload_n 2, 1) := by decide +kernel
theorem dX11_chance_65 : decode cX11_chance 65 = .ok (.invokevirtual 150, 3) := by decide +kernel
theorem dX11_chance_68 : decode cX11_chance 68 = .ok (.aload_n 0, 1) := by decide +kernel
theorem dX11_chance_69 : decode cX11_chance 69 = .ok (.getfield 59, 3) := by decide +kernel
theorem dX11_chance_72 : decode cX11_chance 72 = .ok (.iload_n 1, 1) := by decide +kernel
theorem dX11_chance_73 : decode cX11_chance 73 = .ok (.invokevirtual 154, 3) := by decide +kernel
theorem dX11_chance_76 : decode cX11_chance 76 = .ok (.iload_n 3, 1) := by decide +kernel
theorem dX11_chance_77 : decode cX11_chance 77 = .ok (.invokestatic 157, 3) := by decide +kernel
theorem dX11_chance_80 : decode cX11_chance 80 = .ok (.lreturn, 1) := by decide +kernel
set_option maxRecDepth 20000 in
theorem ggX11_guess_X6_playerAt : GoodIn wsX11_guess wsX6_playerAt := goodIn_r _ [8, 9, 10, 67, 68, 69, 70, 71, 72, 73, 74, 75, 76, 77, 78, 79, 80, 81, 82, 83] (by decide +kernel) (by decide +kernel)
set_option maxRecDepth 20000 in
theorem gX11_guess_X6_playerAt : GoodIn wsX11_guess (wsV RX11 115 RX6 yX6_playerAt wsX6_playerAt) := goodIn_app (goodIn_of _ (by decide +kernel)) ggX11_guess_X6_playerAt
set_option maxRecDepth 20000 in
theorem ggX11_guess_X10_has : GoodIn wsX11_guess wsX10_has := goodIn_r _ [15, 16, 84, 85, 86, 87, 88, 89, 90, 91, 92, 93, 94, 95, 96, 97, 98, 99] (by decide +kernel) (by decide +kernel)
set_option maxRecDepth 20000 in
theorem gX11_guess_X10_has : GoodIn wsX11_guess (wsV RX11 96 RX10 yX10_has wsX10_has) := goodIn_app (goodIn_of _ (by decide +kernel)) ggX11_guess_X10_has
set_option maxRecDepth 20000 in
theorem ggX11_guess_X11_refuse : GoodIn wsX11_guess wsX11_refuse := goodIn_r _ [21, 22, 34, 35, 36, 37, 38, 39, 40, 41, 42, 43, 44, 45, 46] (by decide +kernel) (by decide +kernel)
set_option maxRecDepth 20000 in
theorem gX11_guess_X11_refuse : GoodIn wsX11_guess (wsV RX11 72 RX11 yX11_refuse wsX11_refuse) := goodIn_app (goodIn_of _ (by decide +kernel)) ggX11_guess_X11_refuse
set_option maxRecDepth 20000 in
theorem ggX11_guess_X10_isWhole : GoodIn wsX11_guess wsX10_isWhole := goodIn_r _ [26, 27, 84, 85, 86, 87, 88, 89, 90, 91, 92, 93, 94, 95, 96, 97, 98, 99] (by decide +kernel) (by decide +kernel)
set_option maxRecDepth 20000 in
theorem gX11_guess_X10_isWhole : GoodIn wsX11_guess (wsV RX11 136 RX10 yX10_isWhole wsX10_isWhole) := goodIn_app (goodIn_of _ (by decide +kernel)) ggX11_guess_X10_isWhole
set_option maxRecDepth 20000 in
theorem ggX11_guess_X10_guessAt : GoodIn wsX11_guess wsX10_guessAt := goodIn_r _ [31, 32, 33, 12, 13, 14, 15, 16, 84, 85, 86, 87, 88, 89, 90, 91, 92, 93, 94, 95, 96, 97, 98, 99] (by decide +kernel) (by decide +kernel)
set_option maxRecDepth 20000 in
theorem gX11_guess_X10_guessAt : GoodIn wsX11_guess (wsV RX11 161 RX10 yX10_guessAt wsX10_guessAt) := goodIn_app (goodIn_of _ (by decide +kernel)) ggX11_guess_X10_guessAt
theorem dX11_guess_0 : decode cX11_guess 0 = .ok (.aload_n 0, 1) := by decide +kernel
theorem dX11_guess_1 : decode cX11_guess 1 = .ok (.getfield 68, 3) := by decide +kernel
theorem dX11_guess_4 : decode cX11_guess 4 = .ok (.iload_n 1, 1) := by decide +kernel
theorem dX11_guess_5 : decode cX11_guess 5 = .ok (.invokevirtual 115, 3) := by decide +kernel
theorem dX11_guess_8 : decode cX11_guess 8 = .ok (.astore_n 3, 1) := by decide +kernel
theorem dX11_guess_9 : decode cX11_guess 9 = .ok (.aload_n 3, 1) := by decide +kernel
theorem dX11_guess_10 : decode cX11_guess 10 = .ok (.ifnull 14, 3) := by decide +kernel
theorem dX11_guess_13 : decode cX11_guess 13 = .ok (.aload_n 0, 1) := by decide +kernel
theorem dX11_guess_14 : decode cX11_guess 14 = .ok (.getfield 59, 3) := by decide +kernel
theorem dX11_guess_17 : decode cX11_guess 17 = .ok (.iload_n 2, 1) := by decide +kernel
theorem dX11_guess_18 : decode cX11_guess 18 = .ok (.invokevirtual 96, 3) := by decide +kernel
theorem dX11_guess_21 : decode cX11_guess 21 = .ok (.ifCond .ne 9, 3) := by decide +kernel
theorem dX11_guess_24 : decode cX11_guess 24 = .ok (.aload_n 0, 1) := by decide +kernel
theorem dX11_guess_25 : decode cX11_guess 25 = .ok (.iconst (-1), 1) := by decide +kernel
theorem dX11_guess_26 : decode cX11_guess 26 = .ok (.invokevirtual 72, 3) := by decide +kernel
theorem dX11_guess_29 : decode cX11_guess 29 = .ok (.ireturn, 1) := by decide +kernel
theorem dX11_guess_30 : decode cX11_guess 30 = .ok (.aload_n 0, 1) := by decide +kernel
theorem dX11_guess_31 : decode cX11_guess 31 = .ok (.getfield 59, 3) := by decide +kernel
theorem dX11_guess_34 : decode cX11_guess 34 = .ok (.invokevirtual 136, 3) := by decide +kernel
theorem dX11_guess_37 : decode cX11_guess 37 = .ok (.ifCond .ne 10, 3) := by decide +kernel
theorem dX11_guess_40 : decode cX11_guess 40 = .ok (.aload_n 0, 1) := by decide +kernel
theorem dX11_guess_41 : decode cX11_guess 41 = .ok (.bipush (-3), 2) := by decide +kernel
theorem dX11_guess_43 : decode cX11_guess 43 = .ok (.invokevirtual 72, 3) := by decide +kernel
theorem dX11_guess_46 : decode cX11_guess 46 = .ok (.ireturn, 1) := by decide +kernel
theorem dX11_guess_47 : decode cX11_guess 47 = .ok (.aload_n 0, 1) := by decide +kernel
theorem dX11_guess_48 : decode cX11_guess 48 = .ok (.getfield 59, 3) := by decide +kernel
theorem dX11_guess_51 : decode cX11_guess 51 = .ok (.iload_n 2, 1) := by decide +kernel
theorem dX11_guess_52 : decode cX11_guess 52 = .ok (.aload_n 3, 1) := by decide +kernel
theorem dX11_guess_53 : decode cX11_guess 53 = .ok (.getfield 130, 3) := by decide +kernel
theorem dX11_guess_56 : decode cX11_guess 56 = .ok (.invokevirtual 161, 3) := by decide +kernel
theorem dX11_guess_59 : decode cX11_guess 59 = .ok (.ireturn, 1) := by decide +kernel
set_option maxRecDepth 20000 in
theorem ggX11_points_X11_refuse : GoodIn wsX11_points wsX11_refuse := goodIn_r _ [7, 8, 19, 20, 21, 22, 23, 24, 25, 26, 27, 28, 29, 30, 31] (by decide +kernel) (by decide +kernel)
set_option maxRecDepth 20000 in
theorem gX11_points_X11_refuse : GoodIn wsX11_points (wsV RX11 72 RX11 yX11_refuse wsX11_refuse) := goodIn_app (goodIn_of _ (by decide +kernel)) ggX11_points_X11_refuse
set_option maxRecDepth 20000 in
theorem ggX11_points_X6_pointOf : GoodIn wsX11_points wsX6_pointOf := goodIn_r _ [13, 14, 32, 33, 34, 35, 36, 37, 38, 39, 40, 41, 42, 43, 44, 45, 46, 47, 48] (by decide +kernel) (by decide +kernel)
set_option maxRecDepth 20000 in
theorem gX11_points_X6_pointOf : GoodIn wsX11_points (wsV RX11 165 RX6 yX6_pointOf wsX6_pointOf) := goodIn_app (goodIn_of _ (by decide +kernel)) ggX11_points_X6_pointOf
set_option maxRecDepth 20000 in
theorem ggX11_points_X6_setPoint : GoodIn wsX11_points wsX6_setPoint := goodIn_r _ [18, 14, 32, 33, 34, 35, 36, 37, 38, 39, 40, 41, 42, 43, 44, 45, 46, 47, 48] (by decide +kernel) (by decide +kernel)
set_option maxRecDepth 20000 in
theorem gX11_points_X6_setPoint : GoodIn wsX11_points (wsV RX11 168 RX6 yX6_setPoint wsX6_setPoint) := goodIn_app (goodIn_of _ (by decide +kernel)) ggX11_points_X6_setPoint
theorem dX11_points_0 : decode cX11_points 0 = .ok (.iload_n 1, 1) := by decide +kernel
theorem dX11_points_1 : decode cX11_points 1 = .ok (.ifCond .lt 11, 3) := by decide +kernel
theorem dX11_points_4 : decode cX11_points 4 = .ok (.iload_n 1, 1) := by decide +kernel
theorem dX11_points_5 : decode cX11_points 5 = .ok (.getstatic 47, 3) := by decide +kernel
theorem dX11_points_8 : decode cX11_points 8 = .ok (.arraylength, 1) := by decide +kernel
theorem dX11_points_9 : decode cX11_points 9 = .ok (.if_icmp .lt 10, 3) := by decide +kernel
theorem dX11_points_12 : decode cX11_points 12 = .ok (.aload_n 0, 1) := by decide +kernel
theorem dX11_points_13 : decode cX11_points 13 = .ok (.bipush (-2), 2) := by decide +kernel
theorem dX11_points_15 : decode cX11_points 15 = .ok (.invokevirtual 72, 3) := by decide +kernel
theorem dX11_points_18 : decode cX11_points 18 = .ok (.ireturn, 1) := by decide +kernel
theorem dX11_points_19 : decode cX11_points 19 = .ok (.iload_n 2, 1) := by decide +kernel
theorem dX11_points_20 : decode cX11_points 20 = .ok (.ifCond .ge 10, 3) := by decide +kernel
theorem dX11_points_23 : decode cX11_points 23 = .ok (.aload_n 0, 1) := by decide +kernel
theorem dX11_points_24 : decode cX11_points 24 = .ok (.bipush (-4), 2) := by decide +kernel
theorem dX11_points_26 : decode cX11_points 26 = .ok (.invokevirtual 72, 3) := by decide +kernel
theorem dX11_points_29 : decode cX11_points 29 = .ok (.ireturn, 1) := by decide +kernel
theorem dX11_points_30 : decode cX11_points 30 = .ok (.iload_n 2, 1) := by decide +kernel
theorem dX11_points_31 : decode cX11_points 31 = .ok (.getstatic 47, 3) := by decide +kernel
theorem dX11_points_34 : decode cX11_points 34 = .ok (.iload_n 1, 1) := by decide +kernel
theorem dX11_points_35 : decode cX11_points 35 = .ok (.iaload, 1) := by decide +kernel
theorem dX11_points_36 : decode cX11_points 36 = .ok (.if_icmp .le 10, 3) := by decide +kernel
theorem dX11_points_39 : decode cX11_points 39 = .ok (.aload_n 0, 1) := by decide +kernel
theorem dX11_points_40 : decode cX11_points 40 = .ok (.bipush (-6), 2) := by decide +kernel
theorem dX11_points_42 : decode cX11_points 42 = .ok (.invokevirtual 72, 3) := by decide +kernel
theorem dX11_points_45 : decode cX11_points 45 = .ok (.ireturn, 1) := by decide +kernel
theorem dX11_points_46 : decode cX11_points 46 = .ok (.aload_n 0, 1) := by decide +kernel
theorem dX11_points_47 : decode cX11_points 47 = .ok (.getfield 68, 3) := by decide +kernel
theorem dX11_points_50 : decode cX11_points 50 = .ok (.iload_n 1, 1) := by decide +kernel
theorem dX11_points_51 : decode cX11_points 51 = .ok (.invokevirtual 165, 3) := by decide +kernel
theorem dX11_points_54 : decode cX11_points 54 = .ok (.istore_n 3, 1) := by decide +kernel
theorem dX11_points_55 : decode cX11_points 55 = .ok (.aload_n 0, 1) := by decide +kernel
theorem dX11_points_56 : decode cX11_points 56 = .ok (.getfield 68, 3) := by decide +kernel
theorem dX11_points_59 : decode cX11_points 59 = .ok (.iload_n 1, 1) := by decide +kernel
theorem dX11_points_60 : decode cX11_points 60 = .ok (.iload_n 2, 1) := by decide +kernel
theorem dX11_points_61 : decode cX11_points 61 = .ok (.invokevirtual 168, 3) := by decide +kernel
theorem dX11_points_64 : decode cX11_points 64 = .ok (.iload_n 3, 1) := by decide +kernel
theorem dX11_points_65 : decode cX11_points 65 = .ok (.ireturn, 1) := by decide +kernel
set_option maxRecDepth 20000 in
theorem ggX11_setOf_X6_playerAt : GoodIn wsX11_setOf wsX6_playerAt := goodIn_r _ [7, 8, 9, 89, 90, 91, 92, 93, 94, 95, 96, 97, 98, 99, 100, 101, 102, 103, 104, 105] (by decide +kernel) (by decide +kernel)
set_option maxRecDepth 20000 in
theorem gX11_setOf_X6_playerAt : GoodIn wsX11_setOf (wsV RX11 115 RX6 yX6_playerAt wsX6_playerAt) := goodIn_app (goodIn_of _ (by decide +kernel)) ggX11_setOf_X6_playerAt
set_option maxRecDepth 20000 in
theorem ggX11_setOf_X10_allWords : GoodIn wsX11_setOf wsX10_allWords := goodIn_r _ [14, 15, 106, 107, 108, 109, 110, 111, 112, 113, 114, 115, 116, 117, 118, 119, 120, 121] (by decide +kernel) (by decide +kernel)
set_option maxRecDepth 20000 in
theorem gX11_setOf_X10_allWords : GoodIn wsX11_setOf (wsV RX11 172 RX10 yX10_allWords wsX10_allWords) := goodIn_app (goodIn_of _ (by decide +kernel)) ggX11_setOf_X10_allWords
set_option maxRecDepth 20000 in
theorem ggX11_setOf_X11_refuse : GoodIn wsX11_setOf wsX11_refuse := goodIn_r _ [20, 21, 76, 77, 78, 79, 80, 81, 82, 83, 84, 85, 86, 87, 88] (by decide +kernel) (by decide +kernel)
set_option maxRecDepth 20000 in
theorem gX11_setOf_X11_refuse : GoodIn wsX11_setOf (wsV RX11 72 RX11 yX11_refuse wsX11_refuse) := goodIn_app (goodIn_of _ (by decide +kernel)) ggX11_setOf_X11_refuse
set_option maxRecDepth 20000 in
theorem ggX11_setOf_X0_kind : GoodIn wsX11_setOf wsX0_kind := goodIn_r _ [27] (by decide +kernel) (by decide +kernel)
set_option maxRecDepth 20000 in
theorem gX11_setOf_X0_kind_u119X0 : GoodIn wsX11_setOf (va_wsU RX11 119 RX0 "BeforeTheEnd$Player" ⟨"BeforeTheEnd$Player", "kind", "()I"⟩ yX0_kind wsX0_kind) := goodIn_app (goodIn_of _ (by decide +kernel)) ggX11_setOf_X0_kind
set_option maxRecDepth 20000 in
theorem ggX11_setOf_X1_kind : GoodIn wsX11_setOf wsX1_kind := goodIn_r _ [31] (by decide +kernel) (by decide +kernel)
set_option maxRecDepth 20000 in
theorem gX11_setOf_X1_kind_u119X1 : GoodIn wsX11_setOf (va_wsU RX11 119 RX1 "BeforeTheEnd$Player" ⟨"BeforeTheEnd$Player", "kind", "()I"⟩ yX1_kind wsX1_kind) := goodIn_app (goodIn_of _ (by decide +kernel)) ggX11_setOf_X1_kind
set_option maxRecDepth 20000 in
theorem ggX11_setOf_X2_kind : GoodIn wsX11_setOf wsX2_kind := goodIn_r _ [35] (by decide +kernel) (by decide +kernel)
set_option maxRecDepth 20000 in
theorem gX11_setOf_X2_kind_u119X2 : GoodIn wsX11_setOf (va_wsU RX11 119 RX2 "BeforeTheEnd$Player" ⟨"BeforeTheEnd$Player", "kind", "()I"⟩ yX2_kind wsX2_kind) := goodIn_app (goodIn_of _ (by decide +kernel)) ggX11_setOf_X2_kind
set_option maxRecDepth 20000 in
theorem ggX11_setOf_X4_kind : GoodIn wsX11_setOf wsX4_kind := goodIn_r _ [39] (by decide +kernel) (by decide +kernel)
set_option maxRecDepth 20000 in
theorem gX11_setOf_X4_kind_u119X4 : GoodIn wsX11_setOf (va_wsU RX11 119 RX4 "BeforeTheEnd$Player" ⟨"BeforeTheEnd$Player", "kind", "()I"⟩ yX4_kind wsX4_kind) := goodIn_app (goodIn_of _ (by decide +kernel)) ggX11_setOf_X4_kind
set_option maxRecDepth 20000 in
theorem ggX11_setOf_X7_kind : GoodIn wsX11_setOf wsX7_kind := goodIn_r _ [43] (by decide +kernel) (by decide +kernel)
set_option maxRecDepth 20000 in
theorem gX11_setOf_X7_kind_u119X7 : GoodIn wsX11_setOf (va_wsU RX11 119 RX7 "BeforeTheEnd$Player" ⟨"BeforeTheEnd$Player", "kind", "()I"⟩ yX7_kind wsX7_kind) := goodIn_app (goodIn_of _ (by decide +kernel)) ggX11_setOf_X7_kind
set_option maxRecDepth 20000 in
theorem ggX11_setOf_X9_kind : GoodIn wsX11_setOf wsX9_kind := goodIn_r _ [47] (by decide +kernel) (by decide +kernel)
set_option maxRecDepth 20000 in
theorem gX11_setOf_X9_kind_u119X9 : GoodIn wsX11_setOf (va_wsU RX11 119 RX9 "BeforeTheEnd$Player" ⟨"BeforeTheEnd$Player", "kind", "()I"⟩ yX9_kind wsX9_kind) := goodIn_app (goodIn_of _ (by decide +kernel)) ggX11_setOf_X9_kind
set_option maxRecDepth 20000 in
theorem ggX11_setOf_X9_toldSet : GoodIn wsX11_setOf wsX9_toldSet := goodIn_r _ [53, 54, 122, 123, 124, 125, 126, 127, 128, 129] (by decide +kernel) (by decide +kernel)
set_option maxRecDepth 20000 in
theorem gX11_setOf_X9_toldSet_u133X0 : GoodIn wsX11_setOf (va_wsO RX11 133 RX0 "BeforeTheEnd$Player" ⟨"BeforeTheEnd$Player", "toldSet", "()I"⟩ yX9_toldSet wsX9_toldSet) := goodIn_app (goodIn_of _ (by decide +kernel)) ggX11_setOf_X9_toldSet
set_option maxRecDepth 20000 in
theorem ggX11_setOf_X5_toldSet : GoodIn wsX11_setOf wsX5_toldSet := goodIn_r _ [55] (by decide +kernel) (by decide +kernel)
set_option maxRecDepth 20000 in
theorem gX11_setOf_X5_toldSet_u133X1 : GoodIn wsX11_setOf (va_wsU RX11 133 RX1 "BeforeTheEnd$Player" ⟨"BeforeTheEnd$Player", "toldSet", "()I"⟩ yX5_toldSet wsX5_toldSet) := goodIn_app (goodIn_of _ (by decide +kernel)) ggX11_setOf_X5_toldSet
set_option maxRecDepth 20000 in
theorem gX11_setOf_X5_toldSet_u133X2 : GoodIn wsX11_setOf (va_wsU RX11 133 RX2 "BeforeTheEnd$Player" ⟨"BeforeTheEnd$Player", "toldSet", "()I"⟩ yX5_toldSet wsX5_toldSet) := goodIn_app (goodIn_of _ (by decide +kernel)) ggX11_setOf_X5_toldSet
set_option maxRecDepth 20000 in
theorem gX11_setOf_X5_toldSet_u133X4 : GoodIn wsX11_setOf (va_wsU RX11 133 RX4 "BeforeTheEnd$Player" ⟨"BeforeTheEnd$Player", "toldSet", "()I"⟩ yX5_toldSet wsX5_toldSet) := goodIn_app (goodIn_of _ (by decide +kernel)) ggX11_setOf_X5_toldSet
set_option maxRecDepth 20000 in
theorem gX11_setOf_X5_toldSet_u133X7 : GoodIn wsX11_setOf (va_wsU RX11 133 RX7 "BeforeTheEnd$Player" ⟨"BeforeTheEnd$Player", "toldSet", "()I"⟩ yX5_toldSet wsX5_toldSet) := goodIn_app (goodIn_of _ (by decide +kernel)) ggX11_setOf_X5_toldSet
set_option maxRecDepth 20000 in
theorem gX11_setOf_X9_toldSet_u133X9 : GoodIn wsX11_setOf (va_wsO RX11 133 RX9 "BeforeTheEnd$Player" ⟨"BeforeTheEnd$Player", "toldSet", "()I"⟩ yX9_toldSet wsX9_toldSet) := goodIn_app (goodIn_of _ (by decide +kernel)) ggX11_setOf_X9_toldSet
set_option maxRecDepth 20000 in
theorem ggX11_setOf_X9_tell : GoodIn wsX11_setOf wsX9_tell := goodIn_r _ [68, 54, 122, 123, 124, 125, 126, 127, 128, 129] (by decide +kernel) (by decide +kernel)
set_option maxRecDepth 20000 in
theorem gX11_setOf_X9_tell_u175X0 : GoodIn wsX11_setOf (va_wsO RX11 175 RX0 "BeforeTheEnd$Player" ⟨"BeforeTheEnd$Player", "tell", "(I)V"⟩ yX9_tell wsX9_tell) := goodIn_app (goodIn_of _ (by decide +kernel)) ggX11_setOf_X9_tell
set_option maxRecDepth 20000 in
theorem ggX11_setOf_X5_tell : GoodIn wsX11_setOf wsX5_tell := goodIn_r _ [69] (by decide +kernel) (by decide +kernel)
set_option maxRecDepth 20000 in
theorem gX11_setOf_X5_tell_u175X1 : GoodIn wsX11_setOf (va_wsU RX11 175 RX1 "BeforeTheEnd$Player" ⟨"BeforeTheEnd$Player", "tell", "(I)V"⟩ yX5_tell wsX5_tell) := goodIn_app (goodIn_of _ (by decide +kernel)) ggX11_setOf_X5_tell
set_option maxRecDepth 20000 in
theorem gX11_setOf_X5_tell_u175X2 : GoodIn wsX11_setOf (va_wsU RX11 175 RX2 "BeforeTheEnd$Player" ⟨"BeforeTheEnd$Player", "tell", "(I)V"⟩ yX5_tell wsX5_tell) := goodIn_app (goodIn_of _ (by decide +kernel)) ggX11_setOf_X5_tell
set_option maxRecDepth 20000 in
theorem gX11_setOf_X5_tell_u175X4 : GoodIn wsX11_setOf (va_wsU RX11 175 RX4 "BeforeTheEnd$Player" ⟨"BeforeTheEnd$Player", "tell", "(I)V"⟩ yX5_tell wsX5_tell) := goodIn_app (goodIn_of _ (by decide +kernel)) ggX11_setOf_X5_tell
set_option maxRecDepth 20000 in
theorem gX11_setOf_X5_tell_u175X7 : GoodIn wsX11_setOf (va_wsU RX11 175 RX7 "BeforeTheEnd$Player" ⟨"BeforeTheEnd$Player", "tell", "(I)V"⟩ yX5_tell wsX5_tell) := goodIn_app (goodIn_of _ (by decide +kernel)) ggX11_setOf_X5_tell
set_option maxRecDepth 20000 in
theorem gX11_setOf_X9_tell_u175X9 : GoodIn wsX11_setOf (va_wsO RX11 175 RX9 "BeforeTheEnd$Player" ⟨"BeforeTheEnd$Player", "tell", "(I)V"⟩ yX9_tell wsX9_tell) := goodIn_app (goodIn_of _ (by decide +kernel)) ggX11_setOf_X9_tell
theorem dX11_setOf_0 : decode cX11_setOf 0 = .ok (.aload_n 0, 1) := by decide +kernel
theorem dX11_setOf_1 : decode cX11_setOf 1 = .ok (.getfield 68, 3) := by decide +kernel
theorem dX11_setOf_4 : decode cX11_setOf 4 = .ok (.iload_n 1, 1) := by decide +kernel
theorem dX11_setOf_5 : decode cX11_setOf 5 = .ok (.invokevirtual 115, 3) := by decide +kernel
theorem dX11_setOf_8 : decode cX11_setOf 8 = .ok (.astore_n 3, 1) := by decide +kernel
theorem dX11_setOf_9 : decode cX11_setOf 9 = .ok (.aload_n 3, 1) := by decide +kernel
theorem dX11_setOf_10 : decode cX11_setOf 10 = .ok (.ifnull 17, 3) := by decide +kernel
theorem dX11_setOf_13 : decode cX11_setOf 13 = .ok (.iload_n 2, 1) := by decide +kernel
theorem dX11_setOf_14 : decode cX11_setOf 14 = .ok (.aload_n 0, 1) := by decide +kernel
theorem dX11_setOf_15 : decode cX11_setOf 15 = .ok (.getfield 59, 3) := by decide +kernel
theorem dX11_setOf_18 : decode cX11_setOf 18 = .ok (.invokevirtual 172, 3) := by decide +kernel
theorem dX11_setOf_21 : decode cX11_setOf 21 = .ok (.iconst (-1), 1) := by decide +kernel
theorem dX11_setOf_22 : decode cX11_setOf 22 = .ok (.ixor, 1) := by decide +kernel
theorem dX11_setOf_23 : decode cX11_setOf 23 = .ok (.iand, 1) := by decide +kernel
theorem dX11_setOf_24 : decode cX11_setOf 24 = .ok (.ifCond .eq 9, 3) := by decide +kernel
theorem dX11_setOf_27 : decode cX11_setOf 27 = .ok (.aload_n 0, 1) := by decide +kernel
theorem dX11_setOf_28 : decode cX11_setOf 28 = .ok (.iconst (-1), 1) := by decide +kernel
theorem dX11_setOf_29 : decode cX11_setOf 29 = .ok (.invokevirtual 72, 3) := by decide +kernel
theorem dX11_setOf_32 : decode cX11_setOf 32 = .ok (.ireturn, 1) := by decide +kernel
theorem dX11_setOf_33 : decode cX11_setOf 33 = .ok (.aload_n 3, 1) := by decide +kernel
theorem dX11_setOf_34 : decode cX11_setOf 34 = .ok (.invokevirtual 119, 3) := by decide +kernel
theorem dX11_setOf_37 : decode cX11_setOf 37 = .ok (.iconst 4, 1) := by decide +kernel
theorem dX11_setOf_38 : decode cX11_setOf 38 = .ok (.if_icmp .eq 10, 3) := by decide +kernel
theorem dX11_setOf_41 : decode cX11_setOf 41 = .ok (.aload_n 0, 1) := by decide +kernel
theorem dX11_setOf_42 : decode cX11_setOf 42 = .ok (.bipush (-2), 2) := by decide +kernel
theorem dX11_setOf_44 : decode cX11_setOf 44 = .ok (.invokevirtual 72, 3) := by decide +kernel
theorem dX11_setOf_47 : decode cX11_setOf 47 = .ok (.ireturn, 1) := by decide +kernel
theorem dX11_setOf_48 : decode cX11_setOf 48 = .ok (.aload_n 3, 1) := by decide +kernel
theorem dX11_setOf_49 : decode cX11_setOf 49 = .ok (.invokevirtual 133, 3) := by decide +kernel
theorem dX11_setOf_52 : decode cX11_setOf 52 = .ok (.istore 4, 2) := by decide +kernel
theorem dX11_setOf_54 : decode cX11_setOf 54 = .ok (.aload_n 3, 1) := by decide +kernel
theorem dX11_setOf_55 : decode cX11_setOf 55 = .ok (.iload_n 2, 1) := by decide +kernel
theorem dX11_setOf_56 : decode cX11_setOf 56 = .ok (.invokevirtual 175, 3) := by decide +kernel
theorem dX11_setOf_59 : decode cX11_setOf 59 = .ok (.iload 4, 2) := by decide +kernel
theorem dX11_setOf_61 : decode cX11_setOf 61 = .ok (.ireturn, 1) := by decide +kernel
set_option maxRecDepth 20000 in
theorem ggX11_presses_X6_playerAt : GoodIn wsX11_presses wsX6_playerAt := goodIn_r _ [7, 8, 9, 151, 152, 153, 154, 155, 156, 157, 158, 159, 160, 161, 162, 163, 164, 165, 166, 167] (by decide +kernel) (by decide +kernel)
set_option maxRecDepth 20000 in
theorem gX11_presses_X6_playerAt : GoodIn wsX11_presses (wsV RX11 115 RX6 yX6_playerAt wsX6_playerAt) := goodIn_app (goodIn_of _ (by decide +kernel)) ggX11_presses_X6_playerAt
set_option maxRecDepth 20000 in
theorem ggX11_presses_X10_has : GoodIn wsX11_presses wsX10_has := goodIn_r _ [14, 15, 168, 169, 170, 171, 172, 173, 174, 175, 176, 177, 178, 179, 180, 181, 182, 183] (by decide +kernel) (by decide +kernel)
set_option maxRecDepth 20000 in
theorem gX11_presses_X10_has : GoodIn wsX11_presses (wsV RX11 96 RX10 yX10_has wsX10_has) := goodIn_app (goodIn_of _ (by decide +kernel)) ggX11_presses_X10_has
set_option maxRecDepth 20000 in
theorem ggX11_presses_X11_refuse : GoodIn wsX11_presses wsX11_refuse := goodIn_r _ [20, 21, 138, 139, 140, 141, 142, 143, 144, 145, 146, 147, 148, 149, 150] (by decide +kernel) (by decide +kernel)
set_option maxRecDepth 20000 in
theorem gX11_presses_X11_refuse : GoodIn wsX11_presses (wsV RX11 72 RX11 yX11_refuse wsX11_refuse) := goodIn_app (goodIn_of _ (by decide +kernel)) ggX11_presses_X11_refuse
set_option maxRecDepth 20000 in
theorem ggX11_presses_X10_isWhole : GoodIn wsX11_presses wsX10_isWhole := goodIn_r _ [25, 26, 168, 169, 170, 171, 172, 173, 174, 175, 176, 177, 178, 179, 180, 181, 182, 183] (by decide +kernel) (by decide +kernel)
set_option maxRecDepth 20000 in
theorem gX11_presses_X10_isWhole : GoodIn wsX11_presses (wsV RX11 136 RX10 yX10_isWhole wsX10_isWhole) := goodIn_app (goodIn_of _ (by decide +kernel)) ggX11_presses_X10_isWhole
set_option maxRecDepth 20000 in
theorem ggX11_presses_X6_prepare : GoodIn wsX11_presses wsX6_prepare := goodIn_r _ [30, 8, 9, 31, 32, 33, 34, 35, 36, 37, 38, 13, 39, 15, 40, 41, 42, 43, 6, 44, 45, 46, 47, 48, 49, 50, 51, 52, 53, 54, 55, 56, 57, 11, 12, 14, 58, 59, 60, 61, 62, 63, 64, 65, 66, 67, 68, 69, 70, 71, 72, 73, 74, 75, 76, 77, 78, 79, 80, 81, 82, 83, 84, 85, 86, 87, 88, 89, 90, 91, 92, 93, 94, 95, 96, 97, 98, 99, 100, 101, 102, 103, 104, 105, 106, 107, 108, 109, 110, 111, 112, 113, 114, 115, 116, 117, 118, 119, 120, 121, 122, 123, 124, 125, 126, 127, 128, 129, 130, 131, 132, 133, 151, 152, 153, 154, 155, 156, 157, 158, 159, 160, 161, 162, 163, 164, 165, 166, 167, 184, 185, 186, 187, 188, 189, 190, 191, 192, 193, 194, 195, 196, 197, 198, 199, 200, 201, 202, 203, 168, 169, 170, 171, 172, 173, 174, 175, 176, 177, 178, 179, 180, 181, 182, 183] (by decide +kernel) (by decide +kernel)
set_option maxRecDepth 20000 in
theorem gX11_presses_X6_prepare : GoodIn wsX11_presses (wsV RX11 178 RX6 yX6_prepare wsX6_prepare) := goodIn_app (goodIn_of _ (by decide +kernel)) ggX11_presses_X6_prepare
set_option maxRecDepth 20000 in
theorem ggX11_presses_X6_calmBits : GoodIn wsX11_presses wsX6_calmBits := goodIn_r _ [137, 34, 151, 152, 153, 154, 155, 156, 157, 158, 159, 160, 161, 162, 163, 164, 165, 166, 167] (by decide +kernel) (by decide +kernel)
set_option maxRecDepth 20000 in
theorem gX11_presses_X6_calmBits : GoodIn wsX11_presses (wsV RX11 181 RX6 yX6_calmBits wsX6_calmBits) := goodIn_app (goodIn_of _ (by decide +kernel)) ggX11_presses_X6_calmBits
theorem dX11_presses_0 : decode cX11_presses 0 = .ok (.aload_n 0, 1) := by decide +kernel
theorem dX11_presses_1 : decode cX11_presses 1 = .ok (.getfield 68, 3) := by decide +kernel
theorem dX11_presses_4 : decode cX11_presses 4 = .ok (.iload_n 1, 1) := by decide +kernel
theorem dX11_presses_5 : decode cX11_presses 5 = .ok (.invokevirtual 115, 3) := by decide +kernel
theorem dX11_presses_8 : decode cX11_presses 8 = .ok (.ifnull 14, 3) := by decide +kernel
theorem dX11_presses_11 : decode cX11_presses 11 = .ok (.aload_n 0, 1) := by decide +kernel
theorem dX11_presses_12 : decode cX11_presses 12 = .ok (.getfield 59, 3) := by decide +kernel
theorem dX11_presses_15 : decode cX11_presses 15 = .ok (.iload_n 2, 1) := by decide +kernel
theorem dX11_presses_16 : decode cX11_presses 16 = .ok (.invokevirtual 96, 3) := by decide +kernel
theorem dX11_presses_19 : decode cX11_presses 19 = .ok (.ifCond .ne 9, 3) := by decide +kernel
theorem dX11_presses_22 : decode cX11_presses 22 = .ok (.aload_n 0, 1) := by decide +kernel
theorem dX11_presses_23 : decode cX11_presses 23 = .ok (.iconst (-1), 1) := by decide +kernel
theorem dX11_presses_24 : decode cX11_presses 24 = .ok (.invokevirtual 72, 3) := by decide +kernel
theorem dX11_presses_27 : decode cX11_presses 27 = .ok (.ireturn, 1) := by decide +kernel
theorem dX11_presses_28 : decode cX11_presses 28 = .ok (.aload_n 0, 1) := by decide +kernel
theorem dX11_presses_29 : decode cX11_presses 29 = .ok (.getfield 59, 3) := by decide +kernel
theorem dX11_presses_32 : decode cX11_presses 32 = .ok (.invokevirtual 136, 3) := by decide +kernel
theorem dX11_presses_35 : decode cX11_presses 35 = .ok (.ifCond .ne 10, 3) := by decide +kernel
theorem dX11_presses_38 : decode cX11_presses 38 = .ok (.aload_n 0, 1) := by decide +kernel
theorem dX11_presses_39 : decode cX11_presses 39 = .ok (.bipush (-3), 2) := by decide +kernel
theorem dX11_presses_41 : decode cX11_presses 41 = .ok (.invokevirtual 72, 3) := by decide +kernel
theorem dX11_presses_44 : decode cX11_presses 44 = .ok (.ireturn, 1) := by decide +kernel
theorem dX11_presses_45 : decode cX11_presses 45 = .ok (.aload_n 0, 1) := by decide +kernel
theorem dX11_presses_46 : decode cX11_presses 46 = .ok (.getfield 68, 3) := by decide +kernel
theorem dX11_presses_49 : decode cX11_presses 49 = .ok (.invokevirtual 178, 3) := by decide +kernel
theorem dX11_presses_52 : decode cX11_presses 52 = .ok (.aload_n 0, 1) := by decide +kernel
theorem dX11_presses_53 : decode cX11_presses 53 = .ok (.getfield 68, 3) := by decide +kernel
theorem dX11_presses_56 : decode cX11_presses 56 = .ok (.iload_n 1, 1) := by decide +kernel
theorem dX11_presses_57 : decode cX11_presses 57 = .ok (.invokevirtual 181, 3) := by decide +kernel
theorem dX11_presses_60 : decode cX11_presses 60 = .ok (.iload_n 2, 1) := by decide +kernel
theorem dX11_presses_61 : decode cX11_presses 61 = .ok (.ishr, 1) := by decide +kernel
theorem dX11_presses_62 : decode cX11_presses 62 = .ok (.iconst 1, 1) := by decide +kernel
theorem dX11_presses_63 : decode cX11_presses 63 = .ok (.iand, 1) := by decide +kernel
theorem dX11_presses_64 : decode cX11_presses 64 = .ok (.ireturn, 1) := by decide +kernel
set_option maxRecDepth 20000 in
theorem ggX11_run_X10_isEnd : GoodIn wsX11_run wsX10_isEnd := goodIn_r _ [10, 11, 12, 13, 14, 9, 15, 16, 210, 211, 212, 213, 214, 215, 216, 217, 218, 219, 220, 221, 222, 223, 224, 225] (by decide +kernel) (by decide +kernel)
set_option maxRecDepth 20000 in
theorem gX11_run_X10_isEnd : GoodIn wsX11_run (wsV RX11 184 RX10 yX10_isEnd wsX10_isEnd) := goodIn_app (goodIn_of _ (by decide +kernel)) ggX11_run_X10_isEnd
set_option maxRecDepth 20000 in
theorem ggX11_run_X11_refuse : GoodIn wsX11_run wsX11_refuse := goodIn_r _ [21, 22, 180, 181, 182, 183, 184, 185, 186, 187, 188, 189, 190, 191, 192] (by decide +kernel) (by decide +kernel)
set_option maxRecDepth 20000 in
theorem gX11_run_X11_refuse : GoodIn wsX11_run (wsV RX11 72 RX11 yX11_refuse wsX11_refuse) := goodIn_app (goodIn_of _ (by decide +kernel)) ggX11_run_X11_refuse
set_option maxRecDepth 20000 in
theorem ggX11_run_X10_isWhole : GoodIn wsX11_run wsX10_isWhole := goodIn_r _ [26, 27, 210, 211, 212, 213, 214, 215, 216, 217, 218, 219, 220, 221, 222, 223, 224, 225] (by decide +kernel) (by decide +kernel)
set_option maxRecDepth 20000 in
theorem gX11_run_X10_isWhole : GoodIn wsX11_run (wsV RX11 136 RX10 yX10_isWhole wsX10_isWhole) := goodIn_app (goodIn_of _ (by decide +kernel)) ggX11_run_X10_isWhole
set_option maxRecDepth 20000 in
theorem ggX11_run_X6_prepare : GoodIn wsX11_run wsX6_prepare := goodIn_r _ [32, 33, 34, 35, 36, 37, 38, 39, 40, 41, 42, 9, 43, 16, 44, 45, 46, 47, 31, 48, 49, 50, 51, 52, 53, 54, 55, 56, 57, 58, 59, 60, 61, 13, 14, 15, 62, 63, 64, 65, 66, 67, 68, 69, 70, 71, 72, 12, 73, 74, 75, 76, 77, 78, 79, 80, 81, 82, 83, 84, 85, 86, 87, 88, 89, 90, 91, 92, 93, 94, 95, 96, 97, 98, 99, 100, 101, 102, 103, 104, 105, 106, 107, 108, 109, 110, 111, 112, 113, 114, 115, 116, 117, 118, 119, 120, 121, 122, 11, 123, 124, 125, 126, 127, 128, 129, 130, 131, 132, 133, 134, 135, 193, 194, 195, 196, 197, 198, 199, 200, 201, 202, 203, 204, 205, 206, 207, 208, 209, 226, 227, 228, 229, 230, 231, 232, 233, 234, 235, 236, 237, 238, 239, 240, 241, 242, 243, 244, 245, 210, 211, 212, 213, 214, 215, 216, 217, 218, 219, 220, 221, 222, 223, 224, 225] (by decide +kernel) (by decide +kernel)
set_option maxRecDepth 20000 in
theorem gX11_run_X6_prepare : GoodIn wsX11_run (wsV RX11 178 RX6 yX6_prepare wsX6_prepare) := goodIn_app (goodIn_of _ (by decide +kernel)) ggX11_run_X6_prepare
set_option maxRecDepth 20000 in
theorem ggX11_run_X6_runTo : GoodIn wsX11_run wsX6_runTo := goodIn_r _ [139, 140, 141, 142, 143, 144, 33, 145, 38, 39, 36, 146, 147, 148, 9, 149, 150, 12, 13, 14, 15, 16, 151, 152, 153, 31, 154, 34, 155, 156, 157, 158, 159, 37, 60, 160, 161, 162, 163, 68, 69, 70, 71, 72, 164, 165, 166, 167, 11, 168, 169, 170, 171, 172, 193, 194, 195, 196, 197, 198, 199, 200, 201, 202, 203, 204, 205, 206, 207, 208, 209, 210, 211, 212, 213, 214, 215, 216, 217, 218, 219, 220, 221, 222, 223, 224, 225, 226, 227, 228, 229, 230, 231, 232, 233, 234, 235, 236, 237, 238, 239, 240, 241, 242, 243, 244, 245] (by decide +kernel) (by decide +kernel)
set_option maxRecDepth 20000 in
theorem gX11_run_X6_runTo : GoodIn wsX11_run (wsV RX11 187 RX6 yX6_runTo wsX6_runTo) := goodIn_app (goodIn_of _ (by decide +kernel)) ggX11_run_X6_runTo
set_option maxRecDepth 20000 in
theorem ggX11_run_J6_bitCount_0f7a4 : GoodIn wsX11_run wsJ6_bitCount_0f7a4 := goodIn_r _ [176, 177, 178, 179] (by decide +kernel) (by decide +kernel)
set_option maxRecDepth 20000 in
theorem gX11_run_J6_bitCount_0f7a4 : GoodIn wsX11_run (va_wsS RX11 199 yJ6_bitCount_0f7a4 wsJ6_bitCount_0f7a4) := goodIn_app (goodIn_of _ (by decide +kernel)) ggX11_run_J6_bitCount_0f7a4
theorem dX11_run_0 : decode cX11_run 0 = .ok (.aload_n 0, 1) := by decide +kernel
theorem dX11_run_1 : decode cX11_run 1 = .ok (.getfield 59, 3) := by decide +kernel
theorem dX11_run_4 : decode cX11_run 4 = .ok (.iload_n 1, 1) := by decide +kernel
theorem dX11_run_5 : decode cX11_run 5 = .ok (.invokevirtual 184, 3) := by decide +kernel
theorem dX11_run_8 : decode cX11_run 8 = .ok (.ifCond .ne 9, 3) := by decide +kernel
theorem dX11_run_11 : decode cX11_run 11 = .ok (.aload_n 0, 1) := by decide +kernel
theorem dX11_run_12 : decode cX11_run 12 = .ok (.iconst (-1), 1) := by decide +kernel
theorem dX11_run_13 : decode cX11_run 13 = .ok (.invokevirtual 72, 3) := by decide +kernel
theorem dX11_run_16 : decode cX11_run 16 = .ok (.ireturn, 1) := by decide +kernel
theorem dX11_run_17 : decode cX11_run 17 = .ok (.iload_n 2, 1) := by decide +kernel
theorem dX11_run_18 : decode cX11_run 18 = .ok (.ifCond .lt 8, 3) := by decide +kernel
theorem dX11_run_21 : decode cX11_run 21 = .ok (.iload_n 2, 1) := by decide +kernel
theorem dX11_run_22 : decode cX11_run 22 = .ok (.iconst 2, 1) := by decide +kernel
theorem dX11_run_23 : decode cX11_run 23 = .ok (.if_icmp .le 10, 3) := by decide +kernel
theorem dX11_run_26 : decode cX11_run 26 = .ok (.aload_n 0, 1) := by decide +kernel
theorem dX11_run_27 : decode cX11_run 27 = .ok (.bipush (-2), 2) := by decide +kernel
theorem dX11_run_29 : decode cX11_run 29 = .ok (.invokevirtual 72, 3) := by decide +kernel
theorem dX11_run_32 : decode cX11_run 32 = .ok (.ireturn, 1) := by decide +kernel
theorem dX11_run_33 : decode cX11_run 33 = .ok (.aload_n 0, 1) := by decide +kernel
theorem dX11_run_34 : decode cX11_run 34 = .ok (.getfield 59, 3) := by decide +kernel
theorem dX11_run_37 : decode cX11_run 37 = .ok (.invokevirtual 136, 3) := by decide +kernel
theorem dX11_run_40 : decode cX11_run 40 = .ok (.ifCond .ne 10, 3) := by decide +kernel
theorem dX11_run_43 : decode cX11_run 43 = .ok (.aload_n 0, 1) := by decide +kernel
theorem dX11_run_44 : decode cX11_run 44 = .ok (.bipush (-3), 2) := by decide +kernel
theorem dX11_run_46 : decode cX11_run 46 = .ok (.invokevirtual 72, 3) := by decide +kernel
theorem dX11_run_49 : decode cX11_run 49 = .ok (.ireturn, 1) := by decide +kernel
theorem dX11_run_50 : decode cX11_run 50 = .ok (.aload_n 0, 1) := by decide +kernel
theorem dX11_run_51 : decode cX11_run 51 = .ok (.getfield 68, 3) := by decide +kernel
theorem dX11_run_54 : decode cX11_run 54 = .ok (.invokevirtual 178, 3) := by decide +kernel
theorem dX11_run_57 : decode cX11_run 57 = .ok (.aload_n 0, 1) := by decide +kernel
theorem dX11_run_58 : decode cX11_run 58 = .ok (.getfield 68, 3) := by decide +kernel
theorem dX11_run_61 : decode cX11_run 61 = .ok (.iload_n 1, 1) := by decide +kernel
theorem dX11_run_62 : decode cX11_run 62 = .ok (.invokevirtual 187, 3) := by decide +kernel
theorem dX11_run_65 : decode cX11_run 65 = .ok (.iload_n 2, 1) := by decide +kernel
theorem dX11_run_66 : decode cX11_run 66 = .ok (.ifCond .ne 11, 3) := by decide +kernel
theorem dX11_run_69 : decode cX11_run 69 = .ok (.aload_n 0, 1) := by decide +kernel
theorem dX11_run_70 : decode cX11_run 70 = .ok (.getfield 68, 3) := by decide +kernel
theorem dX11_run_73 : decode cX11_run 73 = .ok (.getfield 190, 3) := by decide +kernel
theorem dX11_run_76 : decode cX11_run 76 = .ok (.ireturn, 1) := by decide +kernel
theorem dX11_run_77 : decode cX11_run 77 = .ok (.iload_n 2, 1) := by decide +kernel
theorem dX11_run_78 : decode cX11_run 78 = .ok (.iconst 1, 1) := by decide +kernel
theorem dX11_run_79 : decode cX11_run 79 = .ok (.if_icmp .ne 13, 3) := by decide +kernel
theorem dX11_run_82 : decode cX11_run 82 = .ok (.aload_n 0, 1) := by decide +kernel
theorem dX11_run_83 : decode cX11_run 83 = .ok (.getfield 68, 3) := by decide +kernel
theorem dX11_run_86 : decode cX11_run 86 = .ok (.getfield 193, 3) := by decide +kernel
theorem dX11_run_89 : decode cX11_run 89 = .ok (.goto 13, 3) := by decide +kernel
theorem dX11_run_92 : decode cX11_run 92 = .ok (.aload_n 0, 1) := by decide +kernel
theorem dX11_run_93 : decode cX11_run 93 = .ok (.getfield 68, 3) := by decide +kernel
theorem dX11_run_96 : decode cX11_run 96 = .ok (.getfield 196, 3) := by decide +kernel
theorem dX11_run_99 : decode cX11_run 99 = .ok (.invokestatic 199, 3) := by decide +kernel
theorem dX11_run_102 : decode cX11_run 102 = .ok (.ireturn, 1) := by decide +kernel
set_option maxRecDepth 20000 in
theorem ggX11_wins_X11_meanOf : GoodIn wsX11_wins wsX11_meanOf := goodIn_r _ [5, 6, 7, 8, 9, 10, 11, 12, 13, 14, 15, 16, 17, 4, 18, 19, 20, 21, 22, 23, 24, 25, 26, 27, 28, 29, 30, 31, 32, 33, 34, 35, 36, 37, 38, 39, 40, 41, 42, 43, 44, 45, 46, 47, 48, 49, 50, 51, 52, 53, 54, 55, 56, 57, 58, 59, 60, 61, 62, 63, 64, 65, 66, 67, 68, 69, 70, 71, 72, 73, 74, 75, 76, 77, 78, 79, 80, 81, 82, 83, 84, 85, 86, 87, 88, 89, 90, 91, 92, 93, 94, 95, 96, 97, 98, 99, 100, 101, 102, 103, 104, 105, 106, 107, 108, 109, 110, 111, 112, 113, 114, 115, 116, 117, 118, 119, 120, 121, 122, 123, 124, 125, 126, 127, 128, 129, 130, 131, 132, 133, 134, 135, 136, 137, 138, 139, 140, 141, 142, 143, 144, 145, 146, 147, 148, 149, 150, 151, 152, 153, 154, 155, 156, 157, 158, 159, 160, 161, 162, 163, 164, 165, 166, 167, 168, 169, 170, 171, 172, 173, 174, 175, 176, 177, 178, 179, 180, 181, 182, 183, 184, 185, 186, 187, 188, 189, 190, 191, 192, 193, 194, 195, 196, 197, 198, 199, 200, 201, 202, 203, 204, 205, 206, 207, 208, 209, 210, 211, 212, 213, 214, 215, 216, 217, 218, 219, 220, 221, 222, 223, 224, 225, 226, 227, 228, 229, 230, 231, 232, 233, 234, 235, 236, 237, 238, 239, 240, 241, 242, 243, 244, 245, 246, 247, 248, 249, 250, 251, 252, 253, 254, 255, 256, 257, 258, 259, 260, 261, 262, 263, 264, 265, 266, 267, 268, 269, 270, 271, 272, 273, 274, 275, 276, 277] (by decide +kernel) (by decide +kernel)
set_option maxRecDepth 20000 in
theorem gX11_wins_X11_meanOf : GoodIn wsX11_wins (wsV RX11 204 RX11 yX11_meanOf wsX11_meanOf) := goodIn_app (goodIn_of _ (by decide +kernel)) ggX11_wins_X11_meanOf
theorem dX11_wins_0 : decode cX11_wins 0 = .ok (.aload_n 0, 1) := by decide +kernel
theorem dX11_wins_1 : decode cX11_wins 1 = .ok (.iconst 0, 1) := by decide +kernel
theorem dX11_wins_2 : decode cX11_wins 2 = .ok (.iload_n 1, 1) := by decide +kernel
theorem dX11_wins_3 : decode cX11_wins 3 = .ok (.iload_n 2, 1) := by decide +kernel
theorem dX11_wins_4 : decode cX11_wins 4 = .ok (.invokevirtual 204, 3) := by decide +kernel
theorem dX11_wins_7 : decode cX11_wins 7 = .ok (.lreturn, 1) := by decide +kernel
set_option maxRecDepth 20000 in
theorem ggX11_worth_X11_meanOf : GoodIn wsX11_worth wsX11_meanOf := goodIn_r _ [5, 6, 7, 8, 9, 10, 11, 12, 13, 14, 15, 16, 17, 4, 18, 19, 20, 21, 22, 23, 24, 25, 26, 27, 28, 29, 30, 31, 32, 33, 34, 35, 36, 37, 38, 39, 40, 41, 42, 43, 44, 45, 46, 47, 48, 49, 50, 51, 52, 53, 54, 55, 56, 57, 58, 59, 60, 61, 62, 63, 64, 65, 66, 67, 68, 69, 70, 71, 72, 73, 74, 75, 76, 77, 78, 79, 80, 81, 82, 83, 84, 85, 86, 87, 88, 89, 90, 91, 92, 93, 94, 95, 96, 97, 98, 99, 100, 101, 102, 103, 104, 105, 106, 107, 108, 109, 110, 111, 112, 113, 114, 115, 116, 117, 118, 119, 120, 121, 122, 123, 124, 125, 126, 127, 128, 129, 130, 131, 132, 133, 134, 135, 136, 137, 138, 139, 140, 141, 142, 143, 144, 145, 146, 147, 148, 149, 150, 151, 152, 153, 154, 155, 156, 157, 158, 159, 160, 161, 162, 163, 164, 165, 166, 167, 168, 169, 170, 171, 172, 173, 174, 175, 176, 177, 178, 179, 180, 181, 182, 183, 184, 185, 186, 187, 188, 189, 190, 191, 192, 193, 194, 195, 196, 197, 198, 199, 200, 201, 202, 203, 204, 205, 206, 207, 208, 209, 210, 211, 212, 213, 214, 215, 216, 217, 218, 219, 220, 221, 222, 223, 224, 225, 226, 227, 228, 229, 230, 231, 232, 233, 234, 235, 236, 237, 238, 239, 240, 241, 242, 243, 244, 245, 246, 247, 248, 249, 250, 251, 252, 253, 254, 255, 256, 257, 258, 259, 260, 261, 262, 263, 264, 265, 266, 267, 268, 269, 270, 271, 272, 273, 274, 275, 276, 277] (by decide +kernel) (by decide +kernel)
set_option maxRecDepth 20000 in
theorem gX11_worth_X11_meanOf : GoodIn wsX11_worth (wsV RX11 204 RX11 yX11_meanOf wsX11_meanOf) := goodIn_app (goodIn_of _ (by decide +kernel)) ggX11_worth_X11_meanOf
theorem dX11_worth_0 : decode cX11_worth 0 = .ok (.aload_n 0, 1) := by decide +kernel
theorem dX11_worth_1 : decode cX11_worth 1 = .ok (.iconst 1, 1) := by decide +kernel
theorem dX11_worth_2 : decode cX11_worth 2 = .ok (.iload_n 1, 1) := by decide +kernel
theorem dX11_worth_3 : decode cX11_worth 3 = .ok (.iload_n 2, 1) := by decide +kernel
theorem dX11_worth_4 : decode cX11_worth 4 = .ok (.invokevirtual 204, 3) := by decide +kernel
theorem dX11_worth_7 : decode cX11_worth 7 = .ok (.lreturn, 1) := by decide +kernel
set_option maxRecDepth 20000 in
theorem ggX11_nobody_X11_isNoPart : GoodIn wsX11_nobody wsX11_isNoPart := goodIn_r _ [6] (by decide +kernel) (by decide +kernel)
set_option maxRecDepth 20000 in
theorem gX11_nobody_X11_isNoPart : GoodIn wsX11_nobody (va_wsS RX11 147 yX11_isNoPart wsX11_isNoPart) := goodIn_app (goodIn_of _ (by decide +kernel)) ggX11_nobody_X11_isNoPart
set_option maxRecDepth 20000 in
theorem ggX11_nobody_X11_refuseLong : GoodIn wsX11_nobody wsX11_refuseLong := goodIn_r _ [10, 11, 12, 13, 14, 5, 15, 16, 207, 208, 209, 210, 211, 212, 213, 214, 215, 216, 217, 218, 219] (by decide +kernel) (by decide +kernel)
set_option maxRecDepth 20000 in
theorem gX11_nobody_X11_refuseLong : GoodIn wsX11_nobody (wsV RX11 143 RX11 yX11_refuseLong wsX11_refuseLong) := goodIn_app (goodIn_of _ (by decide +kernel)) ggX11_nobody_X11_refuseLong
set_option maxRecDepth 20000 in
theorem ggX11_nobody_X10_isWhole : GoodIn wsX11_nobody wsX10_isWhole := goodIn_r _ [21, 22, 220, 221, 222, 223, 224, 225, 226, 227, 228, 229, 230, 231, 232, 233, 234, 235] (by decide +kernel) (by decide +kernel)
set_option maxRecDepth 20000 in
theorem gX11_nobody_X10_isWhole : GoodIn wsX11_nobody (wsV RX11 136 RX10 yX10_isWhole wsX10_isWhole) := goodIn_app (goodIn_of _ (by decide +kernel)) ggX11_nobody_X10_isWhole
set_option maxRecDepth 20000 in
theorem ggX11_nobody_X6_prepare : GoodIn wsX11_nobody wsX6_prepare := goodIn_r _ [27, 28, 29, 30, 31, 32, 33, 34, 35, 36, 37, 20, 38, 39, 40, 41, 42, 43, 26, 44, 45, 46, 47, 48, 49, 50, 51, 52, 53, 54, 55, 56, 57, 58, 59, 60, 61, 62, 63, 64, 65, 66, 67, 68, 69, 70, 71, 72, 73, 74, 75, 76, 77, 78, 79, 80, 81, 82, 83, 84, 85, 86, 87, 88, 89, 90, 91, 92, 93, 94, 95, 96, 97, 98, 99, 100, 101, 102, 103, 104, 105, 106, 107, 108, 109, 110, 111, 112, 113, 114, 115, 116, 117, 118, 119, 120, 121, 122, 123, 124, 125, 126, 127, 128, 129, 130, 131, 132, 133, 134, 135, 136, 236, 237, 238, 239, 240, 241, 242, 243, 244, 245, 246, 247, 248, 249, 250, 251, 252, 253, 254, 255, 256, 257, 258, 259, 260, 261, 262, 263, 264, 265, 266, 267, 268, 269, 270, 271, 272, 220, 221, 222, 223, 224, 225, 226, 227, 228, 229, 230, 231, 232, 233, 234, 235] (by decide +kernel) (by decide +kernel)
set_option maxRecDepth 20000 in
theorem gX11_nobody_X6_prepare : GoodIn wsX11_nobody (wsV RX11 178 RX6 yX6_prepare wsX6_prepare) := goodIn_app (goodIn_of _ (by decide +kernel)) ggX11_nobody_X6_prepare
set_option maxRecDepth 20000 in
theorem ggX11_nobody_X6_total : GoodIn wsX11_nobody wsX6_total := goodIn_r _ [140, 31, 141, 142, 143, 144, 20, 145, 123, 72, 58, 59, 60, 39, 146, 147, 148, 26, 149, 150, 151, 152, 153, 28, 154, 33, 34, 155, 156, 157, 158, 159, 160, 161, 162, 163, 29, 164, 165, 166, 167, 168, 32, 56, 169, 170, 171, 172, 67, 68, 69, 70, 71, 173, 174, 175, 176, 177, 178, 179, 180, 181, 182, 183, 184, 185, 186, 187, 188, 189, 190, 236, 237, 238, 239, 240, 241, 242, 243, 244, 245, 246, 247, 248, 249, 250, 251, 252, 220, 221, 222, 223, 224, 225, 226, 227, 228, 229, 230, 231, 232, 233, 234, 235, 253, 254, 255, 256, 257, 258, 259, 260, 261, 262, 263, 264, 265, 266, 267, 268, 269, 270, 271, 272] (by decide +kernel) (by decide +kernel)
set_option maxRecDepth 20000 in
theorem gX11_nobody_X6_total : GoodIn wsX11_nobody (wsV RX11 208 RX6 yX6_total wsX6_total) := goodIn_app (goodIn_of _ (by decide +kernel)) ggX11_nobody_X6_total
set_option maxRecDepth 20000 in
theorem ggX11_nobody_X10_belowOf : GoodIn wsX11_nobody wsX10_belowOf := goodIn_r _ [194, 78, 72, 58, 59, 20, 60, 39, 220, 221, 222, 223, 224, 225, 226, 227, 228, 229, 230, 231, 232, 233, 234, 235] (by decide +kernel) (by decide +kernel)
set_option maxRecDepth 20000 in
theorem gX11_nobody_X10_belowOf : GoodIn wsX11_nobody (wsV RX11 154 RX10 yX10_belowOf wsX10_belowOf) := goodIn_app (goodIn_of _ (by decide +kernel)) ggX11_nobody_X10_belowOf
set_option maxRecDepth 20000 in
theorem ggX11_nobody_X11_leastTerms : GoodIn wsX11_nobody wsX11_leastTerms := goodIn_r _ [197, 198, 199, 5, 200, 201, 202, 95, 203, 204, 205, 206] (by decide +kernel) (by decide +kernel)
set_option maxRecDepth 20000 in
theorem gX11_nobody_X11_leastTerms : GoodIn wsX11_nobody (va_wsS RX11 157 yX11_leastTerms wsX11_leastTerms) := goodIn_app (goodIn_of _ (by decide +kernel)) ggX11_nobody_X11_leastTerms
theorem dX11_nobody_0 : decode cX11_nobody 0 = .ok (.iload_n 1, 1) := by decide +kernel
theorem dX11_nobody_1 : decode cX11_nobody 1 = .ok (.invokestatic 147, 3) := by decide +kernel
theorem dX11_nobody_4 : decode cX11_nobody 4 = .ok (.ifCond .eq 10, 3) := by decide +kernel
theorem dX11_nobody_7 : decode cX11_nobody 7 = .ok (.aload_n 0, 1) := by decide +kernel
theorem dX11_nobody_8 : decode cX11_nobody 8 = .ok (.bipush (-2), 2) := by decide +kernel
theorem dX11_nobody_10 : decode cX11_nobody 10 = .ok (.invokevirtual 143, 3) := by decide +kernel
theorem dX11_nobody_13 : decode cX11_nobody 13 = .ok (.lreturn, 1) := by decide +kernel
theorem dX11_nobody_14 : decode cX11_nobody 14 = .ok (.aload_n 0, 1) := by decide +kernel
theorem dX11_nobody_15 : decode cX11_nobody 15 = .ok (.getfield 59, 3) := by decide +kernel
theorem dX11_nobody_18 : decode cX11_nobody 18 = .ok (.invokevirtual 136, 3) := by decide +kernel
theorem dX11_nobody_21 : decode cX11_nobody 21 = .ok (.ifCond .ne 10, 3) := by decide +kernel
theorem dX11_nobody_24 : decode cX11_nobody 24 = .ok (.aload_n 0, 1) := by decide +kernel
theorem dX11_nobody_25 : decode cX11_nobody 25 = .ok (.bipush (-3), 2) := by decide +kernel
theorem dX11_nobody_27 : decode cX11_nobody 27 = .ok (.invokevirtual 143, 3) := by decide +kernel
theorem dX11_nobody_30 : decode cX11_nobody 30 = .ok (.lreturn, 1) := by decide +kernel
theorem dX11_nobody_31 : decode cX11_nobody 31 = .ok (.aload_n 0, 1) := by decide +kernel
theorem dX11_nobody_32 : decode cX11_nobody 32 = .ok (.getfield 68, 3) := by decide +kernel
theorem dX11_nobody_35 : decode cX11_nobody 35 = .ok (.invokevirtual 178, 3) := by decide +kernel
theorem dX11_nobody_38 : decode cX11_nobody 38 = .ok (.aload_n 0, 1) := by decide +kernel
theorem dX11_nobody_39 : decode cX11_nobody 39 = .ok (.getfield 68, 3) := by decide +kernel
theorem dX11_nobody_42 : decode cX11_nobody 42 = .ok (.iconst 2, 1) := by decide +kernel
theorem dX11_nobody_43 : decode cX11_nobody 43 = .ok (.bipush (-9), 2) := by decide +kernel
theorem dX11_nobody_45 : decode cX11_nobody 45 = .ok (.invokevirtual 208, 3) := by decide +kernel
theorem dX11_nobody_48 : decode cX11_nobody 48 = .ok (.aload_n 0, 1) := by decide +kernel
theorem dX11_nobody_49 : decode cX11_nobody 49 = .ok (.getfield 59, 3) := by decide +kernel
theorem dX11_nobody_52 : decode cX11_nobody 52 = .ok (.iconst 0, 1) := by decide +kernel
theorem dX11_nobody_53 : decode cX11_nobody 53 = .ok (.invokevirtual 154, 3) := by decide +kernel
theorem dX11_nobody_56 : decode cX11_nobody 56 = .ok (.iload_n 1, 1) := by decide +kernel
theorem dX11_nobody_57 : decode cX11_nobody 57 = .ok (.invokestatic 157, 3) := by decide +kernel
theorem dX11_nobody_60 : decode cX11_nobody 60 = .ok (.lreturn, 1) := by decide +kernel
set_option maxRecDepth 20000 in
theorem ggX11_dull_X11_isNoPart : GoodIn wsX11_dull wsX11_isNoPart := goodIn_r _ [6] (by decide +kernel) (by decide +kernel)
set_option maxRecDepth 20000 in
theorem gX11_dull_X11_isNoPart : GoodIn wsX11_dull (va_wsS RX11 147 yX11_isNoPart wsX11_isNoPart) := goodIn_app (goodIn_of _ (by decide +kernel)) ggX11_dull_X11_isNoPart
set_option maxRecDepth 20000 in
theorem ggX11_dull_X11_refuseLong : GoodIn wsX11_dull wsX11_refuseLong := goodIn_r _ [10, 11, 12, 13, 14, 5, 15, 16, 171, 172, 173, 174, 175, 176, 177, 178, 179, 180, 181, 182, 183] (by decide +kernel) (by decide +kernel)
set_option maxRecDepth 20000 in
theorem gX11_dull_X11_refuseLong : GoodIn wsX11_dull (wsV RX11 143 RX11 yX11_refuseLong wsX11_refuseLong) := goodIn_app (goodIn_of _ (by decide +kernel)) ggX11_dull_X11_refuseLong
set_option maxRecDepth 20000 in
theorem ggX11_dull_X10_isWhole : GoodIn wsX11_dull wsX10_isWhole := goodIn_r _ [21, 22, 184, 185, 186, 187, 188, 189, 190, 191, 192, 193, 194, 195, 196, 197, 198, 199] (by decide +kernel) (by decide +kernel)
set_option maxRecDepth 20000 in
theorem gX11_dull_X10_isWhole : GoodIn wsX11_dull (wsV RX11 136 RX10 yX10_isWhole wsX10_isWhole) := goodIn_app (goodIn_of _ (by decide +kernel)) ggX11_dull_X10_isWhole
set_option maxRecDepth 20000 in
theorem ggX11_dull_X6_prepare : GoodIn wsX11_dull wsX6_prepare := goodIn_r _ [27, 28, 29, 30, 31, 32, 33, 34, 35, 36, 37, 20, 38, 39, 40, 41, 42, 43, 26, 44, 45, 46, 47, 48, 49, 50, 51, 52, 53, 54, 55, 56, 57, 58, 59, 60, 61, 62, 63, 64, 65, 66, 67, 68, 69, 70, 71, 72, 73, 74, 75, 76, 77, 78, 79, 80, 81, 82, 83, 84, 85, 86, 87, 88, 89, 90, 91, 92, 93, 94, 95, 96, 97, 98, 99, 100, 101, 102, 103, 104, 105, 106, 107, 108, 109, 110, 111, 112, 113, 114, 115, 116, 117, 118, 119, 120, 121, 122, 123, 124, 125, 126, 127, 128, 129, 130, 131, 132, 133, 134, 135, 136, 200, 201, 202, 203, 204, 205, 206, 207, 208, 209, 210, 211, 212, 213, 214, 215, 216, 217, 218, 219, 220, 221, 222, 223, 224, 225, 226, 227, 228, 229, 230, 231, 232, 233, 234, 235, 236, 184, 185, 186, 187, 188, 189, 190, 191, 192, 193, 194, 195, 196, 197, 198, 199] (by decide +kernel) (by decide +kernel)
set_option maxRecDepth 20000 in
theorem gX11_dull_X6_prepare : GoodIn wsX11_dull (wsV RX11 178 RX6 yX6_prepare wsX6_prepare) := goodIn_app (goodIn_of _ (by decide +kernel)) ggX11_dull_X6_prepare
set_option maxRecDepth 20000 in
theorem ggX11_dull_X6_dullTotal : GoodIn wsX11_dull wsX6_dullTotal := goodIn_r _ [140, 28, 33, 31, 141, 142, 143, 20, 144, 145, 72, 58, 59, 60, 39, 146, 147, 148, 149, 123, 150, 151, 152, 153, 154, 200, 201, 202, 203, 204, 205, 206, 207, 208, 209, 210, 211, 212, 213, 214, 215, 216, 184, 185, 186, 187, 188, 189, 190, 191, 192, 193, 194, 195, 196, 197, 198, 199] (by decide +kernel) (by decide +kernel)
set_option maxRecDepth 20000 in
theorem gX11_dull_X6_dullTotal : GoodIn wsX11_dull (wsV RX11 211 RX6 yX6_dullTotal wsX6_dullTotal) := goodIn_app (goodIn_of _ (by decide +kernel)) ggX11_dull_X6_dullTotal
set_option maxRecDepth 20000 in
theorem ggX11_dull_X10_belowOf : GoodIn wsX11_dull wsX10_belowOf := goodIn_r _ [158, 78, 72, 58, 59, 20, 60, 39, 184, 185, 186, 187, 188, 189, 190, 191, 192, 193, 194, 195, 196, 197, 198, 199] (by decide +kernel) (by decide +kernel)
set_option maxRecDepth 20000 in
theorem gX11_dull_X10_belowOf : GoodIn wsX11_dull (wsV RX11 154 RX10 yX10_belowOf wsX10_belowOf) := goodIn_app (goodIn_of _ (by decide +kernel)) ggX11_dull_X10_belowOf
set_option maxRecDepth 20000 in
theorem ggX11_dull_X11_leastTerms : GoodIn wsX11_dull wsX11_leastTerms := goodIn_r _ [161, 162, 163, 5, 164, 165, 166, 95, 167, 168, 169, 170] (by decide +kernel) (by decide +kernel)
set_option maxRecDepth 20000 in
theorem gX11_dull_X11_leastTerms : GoodIn wsX11_dull (va_wsS RX11 157 yX11_leastTerms wsX11_leastTerms) := goodIn_app (goodIn_of _ (by decide +kernel)) ggX11_dull_X11_leastTerms
theorem dX11_dull_0 : decode cX11_dull 0 = .ok (.iload_n 1, 1) := by decide +kernel
theorem dX11_dull_1 : decode cX11_dull 1 = .ok (.invokestatic 147, 3) := by decide +kernel
theorem dX11_dull_4 : decode cX11_dull 4 = .ok (.ifCond .eq 10, 3) := by decide +kernel
theorem dX11_dull_7 : decode cX11_dull 7 = .ok (.aload_n 0, 1) := by decide +kernel
theorem dX11_dull_8 : decode cX11_dull 8 = .ok (.bipush (-2), 2) := by decide +kernel
theorem dX11_dull_10 : decode cX11_dull 10 = .ok (.invokevirtual 143, 3) := by decide +kernel
theorem dX11_dull_13 : decode cX11_dull 13 = .ok (.lreturn, 1) := by decide +kernel
theorem dX11_dull_14 : decode cX11_dull 14 = .ok (.aload_n 0, 1) := by decide +kernel
theorem dX11_dull_15 : decode cX11_dull 15 = .ok (.getfield 59, 3) := by decide +kernel
theorem dX11_dull_18 : decode cX11_dull 18 = .ok (.invokevirtual 136, 3) := by decide +kernel
theorem dX11_dull_21 : decode cX11_dull 21 = .ok (.ifCond .ne 10, 3) := by decide +kernel
theorem dX11_dull_24 : decode cX11_dull 24 = .ok (.aload_n 0, 1) := by decide +kernel
theorem dX11_dull_25 : decode cX11_dull 25 = .ok (.bipush (-3), 2) := by decide +kernel
theorem dX11_dull_27 : decode cX11_dull 27 = .ok (.invokevirtual 143, 3) := by decide +kernel
theorem dX11_dull_30 : decode cX11_dull 30 = .ok (.lreturn, 1) := by decide +kernel
theorem dX11_dull_31 : decode cX11_dull 31 = .ok (.aload_n 0, 1) := by decide +kernel
theorem dX11_dull_32 : decode cX11_dull 32 = .ok (.getfield 68, 3) := by decide +kernel
theorem dX11_dull_35 : decode cX11_dull 35 = .ok (.invokevirtual 178, 3) := by decide +kernel
theorem dX11_dull_38 : decode cX11_dull 38 = .ok (.aload_n 0, 1) := by decide +kernel
theorem dX11_dull_39 : decode cX11_dull 39 = .ok (.getfield 68, 3) := by decide +kernel
theorem dX11_dull_42 : decode cX11_dull 42 = .ok (.invokevirtual 211, 3) := by decide +kernel
theorem dX11_dull_45 : decode cX11_dull 45 = .ok (.aload_n 0, 1) := by decide +kernel
theorem dX11_dull_46 : decode cX11_dull 46 = .ok (.getfield 59, 3) := by decide +kernel
theorem dX11_dull_49 : decode cX11_dull 49 = .ok (.iconst 0, 1) := by decide +kernel
theorem dX11_dull_50 : decode cX11_dull 50 = .ok (.invokevirtual 154, 3) := by decide +kernel
theorem dX11_dull_53 : decode cX11_dull 53 = .ok (.iload_n 1, 1) := by decide +kernel
theorem dX11_dull_54 : decode cX11_dull 54 = .ok (.invokestatic 157, 3) := by decide +kernel
theorem dX11_dull_57 : decode cX11_dull 57 = .ok (.lreturn, 1) := by decide +kernel
set_option maxRecDepth 20000 in
theorem ggX11_value_X6_playerAt : GoodIn wsX11_value wsX6_playerAt := goodIn_r _ [8, 9, 10, 116, 117, 118, 119, 120, 121, 122, 123, 124, 125, 126, 127, 128, 129, 130, 131, 132] (by decide +kernel) (by decide +kernel)
set_option maxRecDepth 20000 in
theorem gX11_value_X6_playerAt : GoodIn wsX11_value (wsV RX11 115 RX6 yX6_playerAt wsX6_playerAt) := goodIn_app (goodIn_of _ (by decide +kernel)) ggX11_value_X6_playerAt
set_option maxRecDepth 20000 in
theorem ggX11_value_X10_has : GoodIn wsX11_value wsX10_has := goodIn_r _ [15, 16, 133, 134, 135, 136, 137, 138, 139, 140, 141, 142, 143, 144, 145, 146, 147, 148] (by decide +kernel) (by decide +kernel)
set_option maxRecDepth 20000 in
theorem gX11_value_X10_has : GoodIn wsX11_value (wsV RX11 96 RX10 yX10_has wsX10_has) := goodIn_app (goodIn_of _ (by decide +kernel)) ggX11_value_X10_has
set_option maxRecDepth 20000 in
theorem ggX11_value_X11_refuseLong : GoodIn wsX11_value wsX11_refuseLong := goodIn_r _ [21, 22, 23, 24, 25, 20, 26, 27, 83, 84, 85, 86, 87, 88, 89, 90, 91, 92, 93, 94, 95] (by decide +kernel) (by decide +kernel)
set_option maxRecDepth 20000 in
theorem gX11_value_X11_refuseLong : GoodIn wsX11_value (wsV RX11 143 RX11 yX11_refuseLong wsX11_refuseLong) := goodIn_app (goodIn_of _ (by decide +kernel)) ggX11_value_X11_refuseLong
set_option maxRecDepth 20000 in
theorem ggX11_value_X11_isNoPart : GoodIn wsX11_value wsX11_isNoPart := goodIn_r _ [30] (by decide +kernel) (by decide +kernel)
set_option maxRecDepth 20000 in
theorem gX11_value_X11_isNoPart : GoodIn wsX11_value (va_wsS RX11 147 yX11_isNoPart wsX11_isNoPart) := goodIn_app (goodIn_of _ (by decide +kernel)) ggX11_value_X11_isNoPart
set_option maxRecDepth 20000 in
theorem ggX11_value_X10_isWhole : GoodIn wsX11_value wsX10_isWhole := goodIn_r _ [34, 35, 133, 134, 135, 136, 137, 138, 139, 140, 141, 142, 143, 144, 145, 146, 147, 148] (by decide +kernel) (by decide +kernel)
set_option maxRecDepth 20000 in
theorem gX11_value_X10_isWhole : GoodIn wsX11_value (wsV RX11 136 RX10 yX10_isWhole wsX10_isWhole) := goodIn_app (goodIn_of _ (by decide +kernel)) ggX11_value_X10_isWhole
set_option maxRecDepth 20000 in
theorem ggX11_value_X6_aloneSet : GoodIn wsX11_value wsX6_aloneSet := goodIn_r _ [39, 40, 41, 42, 43, 12, 13, 14, 15, 16, 44, 45, 46, 47, 48, 49, 50, 51, 52, 53, 54, 55, 56, 57, 58, 59, 60, 61, 116, 117, 118, 119, 120, 121, 122, 123, 124, 125, 126, 127, 128, 129, 130, 131, 132, 133, 134, 135, 136, 137, 138, 139, 140, 141, 142, 143, 144, 145, 146, 147, 148] (by decide +kernel) (by decide +kernel)
set_option maxRecDepth 20000 in
theorem gX11_value_X6_aloneSet : GoodIn wsX11_value (wsV RX11 215 RX6 yX6_aloneSet wsX6_aloneSet) := goodIn_app (goodIn_of _ (by decide +kernel)) ggX11_value_X6_aloneSet
set_option maxRecDepth 20000 in
theorem ggX11_value_X6_valueOf : GoodIn wsX11_value wsX6_valueOf := goodIn_r _ [65, 41, 116, 117, 118, 119, 120, 121, 122, 123, 124, 125, 126, 127, 128, 129, 130, 131, 132] (by decide +kernel) (by decide +kernel)
set_option maxRecDepth 20000 in
theorem gX11_value_X6_valueOf : GoodIn wsX11_value (wsV RX11 218 RX6 yX6_valueOf wsX6_valueOf) := goodIn_app (goodIn_of _ (by decide +kernel)) ggX11_value_X6_valueOf
set_option maxRecDepth 20000 in
theorem ggX11_value_X10_belowOf : GoodIn wsX11_value wsX10_belowOf := goodIn_r _ [69, 61, 55, 12, 13, 14, 15, 16, 133, 134, 135, 136, 137, 138, 139, 140, 141, 142, 143, 144, 145, 146, 147, 148] (by decide +kernel) (by decide +kernel)
set_option maxRecDepth 20000 in
theorem gX11_value_X10_belowOf : GoodIn wsX11_value (wsV RX11 154 RX10 yX10_belowOf wsX10_belowOf) := goodIn_app (goodIn_of _ (by decide +kernel)) ggX11_value_X10_belowOf
set_option maxRecDepth 20000 in
theorem ggX11_value_X11_leastTerms : GoodIn wsX11_value wsX11_leastTerms := goodIn_r _ [72, 73, 74, 20, 75, 76, 77, 78, 79, 80, 81, 82] (by decide +kernel) (by decide +kernel)
set_option maxRecDepth 20000 in
theorem gX11_value_X11_leastTerms : GoodIn wsX11_value (va_wsS RX11 157 yX11_leastTerms wsX11_leastTerms) := goodIn_app (goodIn_of _ (by decide +kernel)) ggX11_value_X11_leastTerms
theorem dX11_value_0 : decode cX11_value 0 = .ok (.aload_n 0, 1) := by decide +kernel
theorem dX11_value_1 : decode cX11_value 1 = .ok (.getfield 68, 3) := by decide +kernel
theorem dX11_value_4 : decode cX11_value 4 = .ok (.iload_n 1, 1) := by decide +kernel
theorem dX11_value_5 : decode cX11_value 5 = .ok (.invokevirtual 115, 3) := by decide +kernel
theorem dX11_value_8 : decode cX11_value 8 = .ok (.astore 4, 2) := by decide +kernel
theorem dX11_value_10 : decode cX11_value 10 = .ok (.aload 4, 2) := by decide +kernel
theorem dX11_value_12 : decode cX11_value 12 = .ok (.ifnull 14, 3) := by decide +kernel
theorem dX11_value_15 : decode cX11_value 15 = .ok (.aload_n 0, 1) := by decide +kernel
theorem dX11_value_16 : decode cX11_value 16 = .ok (.getfield 59, 3) := by decide +kernel
theorem dX11_value_19 : decode cX11_value 19 = .ok (.iload_n 2, 1) := by decide +kernel
theorem dX11_value_20 : decode cX11_value 20 = .ok (.invokevirtual 96, 3) := by decide +kernel
theorem dX11_value_23 : decode cX11_value 23 = .ok (.ifCond .ne 9, 3) := by decide +kernel
theorem dX11_value_26 : decode cX11_value 26 = .ok (.aload_n 0, 1) := by decide +kernel
theorem dX11_value_27 : decode cX11_value 27 = .ok (.iconst (-1), 1) := by decide +kernel
theorem dX11_value_28 : decode cX11_value 28 = .ok (.invokevirtual 143, 3) := by decide +kernel
theorem dX11_value_31 : decode cX11_value 31 = .ok (.lreturn, 1) := by decide +kernel
theorem dX11_value_32 : decode cX11_value 32 = .ok (.iload_n 3, 1) := by decide +kernel
theorem dX11_value_33 : decode cX11_value 33 = .ok (.invokestatic 147, 3) := by decide +kernel
theorem dX11_value_36 : decode cX11_value 36 = .ok (.ifCond .eq 10, 3) := by decide +kernel
theorem dX11_value_39 : decode cX11_value 39 = .ok (.aload_n 0, 1) := by decide +kernel
theorem dX11_value_40 : decode cX11_value 40 = .ok (.bipush (-2), 2) := by decide +kernel
theorem dX11_value_42 : decode cX11_value 42 = .ok (.invokevirtual 143, 3) := by decide +kernel
theorem dX11_value_45 : decode cX11_value 45 = .ok (.lreturn, 1) := by decide +kernel
theorem dX11_value_46 : decode cX11_value 46 = .ok (.aload_n 0, 1) := by decide +kernel
theorem dX11_value_47 : decode cX11_value 47 = .ok (.getfield 59, 3) := by decide +kernel
theorem dX11_value_50 : decode cX11_value 50 = .ok (.invokevirtual 136, 3) := by decide +kernel
theorem dX11_value_53 : decode cX11_value 53 = .ok (.ifCond .ne 10, 3) := by decide +kernel
theorem dX11_value_56 : decode cX11_value 56 = .ok (.aload_n 0, 1) := by decide +kernel
theorem dX11_value_57 : decode cX11_value 57 = .ok (.bipush (-3), 2) := by decide +kernel
theorem dX11_value_59 : decode cX11_value 59 = .ok (.invokevirtual 143, 3) := by decide +kernel
theorem dX11_value_62 : decode cX11_value 62 = .ok (.lreturn, 1) := by decide +kernel
theorem dX11_value_63 : decode cX11_value 63 = .ok (.aload_n 0, 1) := by decide +kernel
theorem dX11_value_64 : decode cX11_value 64 = .ok (.getfield 68, 3) := by decide +kernel
theorem dX11_value_67 : decode cX11_value 67 = .ok (.aload 4, 2) := by decide +kernel
theorem dX11_value_69 : decode cX11_value 69 = .ok (.getfield 130, 3) := by decide +kernel
theorem dX11_value_72 : decode cX11_value 72 = .ok (.invokevirtual 215, 3) := by decide +kernel
theorem dX11_value_75 : decode cX11_value 75 = .ok (.pop, 1) := by decide +kernel
theorem dX11_value_76 : decode cX11_value 76 = .ok (.aload_n 0, 1) := by decide +kernel
theorem dX11_value_77 : decode cX11_value 77 = .ok (.getfield 68, 3) := by decide +kernel
theorem dX11_value_80 : decode cX11_value 80 = .ok (.iload_n 2, 1) := by decide +kernel
theorem dX11_value_81 : decode cX11_value 81 = .ok (.invokevirtual 218, 3) := by decide +kernel
theorem dX11_value_84 : decode cX11_value 84 = .ok (.aload_n 0, 1) := by decide +kernel
theorem dX11_value_85 : decode cX11_value 85 = .ok (.getfield 59, 3) := by decide +kernel
theorem dX11_value_88 : decode cX11_value 88 = .ok (.iload_n 2, 1) := by decide +kernel
theorem dX11_value_89 : decode cX11_value 89 = .ok (.invokevirtual 154, 3) := by decide +kernel
theorem dX11_value_92 : decode cX11_value 92 = .ok (.iload_n 3, 1) := by decide +kernel
theorem dX11_value_93 : decode cX11_value 93 = .ok (.invokestatic 157, 3) := by decide +kernel
theorem dX11_value_96 : decode cX11_value 96 = .ok (.lreturn, 1) := by decide +kernel
set_option maxRecDepth 20000 in
theorem ggX11_alone_X6_playerAt : GoodIn wsX11_alone wsX6_playerAt := goodIn_r _ [8, 9, 10, 86, 87, 88, 89, 90, 91, 92, 93, 94, 95, 96, 97, 98, 99, 100, 101, 102] (by decide +kernel) (by decide +kernel)
set_option maxRecDepth 20000 in
theorem gX11_alone_X6_playerAt : GoodIn wsX11_alone (wsV RX11 115 RX6 yX6_playerAt wsX6_playerAt) := goodIn_app (goodIn_of _ (by decide +kernel)) ggX11_alone_X6_playerAt
set_option maxRecDepth 20000 in
theorem ggX11_alone_X11_refuse : GoodIn wsX11_alone wsX11_refuse := goodIn_r _ [15, 16, 53, 54, 55, 56, 57, 58, 59, 60, 61, 62, 63, 64, 65] (by decide +kernel) (by decide +kernel)
set_option maxRecDepth 20000 in
theorem gX11_alone_X11_refuse : GoodIn wsX11_alone (wsV RX11 72 RX11 yX11_refuse wsX11_refuse) := goodIn_app (goodIn_of _ (by decide +kernel)) ggX11_alone_X11_refuse
set_option maxRecDepth 20000 in
theorem ggX11_alone_X10_isWhole : GoodIn wsX11_alone wsX10_isWhole := goodIn_r _ [21, 22, 103, 104, 105, 106, 107, 108, 109, 110, 111, 112, 113, 114, 115, 116, 117, 118] (by decide +kernel) (by decide +kernel)
set_option maxRecDepth 20000 in
theorem gX11_alone_X10_isWhole : GoodIn wsX11_alone (wsV RX11 136 RX10 yX10_isWhole wsX10_isWhole) := goodIn_app (goodIn_of _ (by decide +kernel)) ggX11_alone_X10_isWhole
set_option maxRecDepth 20000 in
theorem ggX11_alone_X6_aloneSet : GoodIn wsX11_alone wsX6_aloneSet := goodIn_r _ [26, 27, 28, 29, 30, 31, 32, 20, 33, 34, 35, 36, 37, 38, 39, 40, 41, 42, 43, 44, 45, 46, 47, 48, 49, 50, 51, 52, 86, 87, 88, 89, 90, 91, 92, 93, 94, 95, 96, 97, 98, 99, 100, 101, 102, 103, 104, 105, 106, 107, 108, 109, 110, 111, 112, 113, 114, 115, 116, 117, 118] (by decide +kernel) (by decide +kernel)
set_option maxRecDepth 20000 in
theorem gX11_alone_X6_aloneSet : GoodIn wsX11_alone (wsV RX11 215 RX6 yX6_aloneSet wsX6_aloneSet) := goodIn_app (goodIn_of _ (by decide +kernel)) ggX11_alone_X6_aloneSet
theorem dX11_alone_0 : decode cX11_alone 0 = .ok (.aload_n 0, 1) := by decide +kernel
theorem dX11_alone_1 : decode cX11_alone 1 = .ok (.getfield 68, 3) := by decide +kernel
theorem dX11_alone_4 : decode cX11_alone 4 = .ok (.iload_n 1, 1) := by decide +kernel
theorem dX11_alone_5 : decode cX11_alone 5 = .ok (.invokevirtual 115, 3) := by decide +kernel
theorem dX11_alone_8 : decode cX11_alone 8 = .ok (.astore_n 2, 1) := by decide +kernel
theorem dX11_alone_9 : decode cX11_alone 9 = .ok (.aload_n 2, 1) := by decide +kernel
theorem dX11_alone_10 : decode cX11_alone 10 = .ok (.ifnonnull 9, 3) := by decide +kernel
theorem dX11_alone_13 : decode cX11_alone 13 = .ok (.aload_n 0, 1) := by decide +kernel
theorem dX11_alone_14 : decode cX11_alone 14 = .ok (.iconst (-1), 1) := by decide +kernel
theorem dX11_alone_15 : decode cX11_alone 15 = .ok (.invokevirtual 72, 3) := by decide +kernel
theorem dX11_alone_18 : decode cX11_alone 18 = .ok (.ireturn, 1) := by decide +kernel
theorem dX11_alone_19 : decode cX11_alone 19 = .ok (.aload_n 0, 1) := by decide +kernel
theorem dX11_alone_20 : decode cX11_alone 20 = .ok (.getfield 59, 3) := by decide +kernel
theorem dX11_alone_23 : decode cX11_alone 23 = .ok (.invokevirtual 136, 3) := by decide +kernel
theorem dX11_alone_26 : decode cX11_alone 26 = .ok (.ifCond .ne 10, 3) := by decide +kernel
theorem dX11_alone_29 : decode cX11_alone 29 = .ok (.aload_n 0, 1) := by decide +kernel
theorem dX11_alone_30 : decode cX11_alone 30 = .ok (.bipush (-3), 2) := by decide +kernel
theorem dX11_alone_32 : decode cX11_alone 32 = .ok (.invokevirtual 72, 3) := by decide +kernel
theorem dX11_alone_35 : decode cX11_alone 35 = .ok (.ireturn, 1) := by decide +kernel
theorem dX11_alone_36 : decode cX11_alone 36 = .ok (.aload_n 0, 1) := by decide +kernel
theorem dX11_alone_37 : decode cX11_alone 37 = .ok (.getfield 68, 3) := by decide +kernel
theorem dX11_alone_40 : decode cX11_alone 40 = .ok (.aload_n 2, 1) := by decide +kernel
theorem dX11_alone_41 : decode cX11_alone 41 = .ok (.getfield 130, 3) := by decide +kernel
theorem dX11_alone_44 : decode cX11_alone 44 = .ok (.invokevirtual 215, 3) := by decide +kernel
theorem dX11_alone_47 : decode cX11_alone 47 = .ok (.ireturn, 1) := by decide +kernel
set_option maxRecDepth 20000 in
theorem ggX11_reply_X6_playerAt : GoodIn wsX11_reply wsX6_playerAt := goodIn_r _ [7, 8, 9, 208, 209, 210, 211, 212, 213, 214, 215, 216, 217, 218, 219, 220, 221, 222, 223, 224] (by decide +kernel) (by decide +kernel)
set_option maxRecDepth 20000 in
theorem gX11_reply_X6_playerAt : GoodIn wsX11_reply (wsV RX11 115 RX6 yX6_playerAt wsX6_playerAt) := goodIn_app (goodIn_of _ (by decide +kernel)) ggX11_reply_X6_playerAt
set_option maxRecDepth 20000 in
theorem ggX11_reply_X11_refuse : GoodIn wsX11_reply wsX11_refuse := goodIn_r _ [14, 15, 195, 196, 197, 198, 199, 200, 201, 202, 203, 204, 205, 206, 207] (by decide +kernel) (by decide +kernel)
set_option maxRecDepth 20000 in
theorem gX11_reply_X11_refuse : GoodIn wsX11_reply (wsV RX11 72 RX11 yX11_refuse wsX11_refuse) := goodIn_app (goodIn_of _ (by decide +kernel)) ggX11_reply_X11_refuse
set_option maxRecDepth 20000 in
theorem ggX11_reply_X10_isWhole : GoodIn wsX11_reply wsX10_isWhole := goodIn_r _ [20, 21, 225, 226, 227, 228, 229, 230, 231, 232, 233, 234, 235, 236, 237, 238, 239, 240] (by decide +kernel) (by decide +kernel)
set_option maxRecDepth 20000 in
theorem gX11_reply_X10_isWhole : GoodIn wsX11_reply (wsV RX11 136 RX10 yX10_isWhole wsX10_isWhole) := goodIn_app (goodIn_of _ (by decide +kernel)) ggX11_reply_X10_isWhole
set_option maxRecDepth 20000 in
theorem ggX11_reply_X6_bestReply : GoodIn wsX11_reply wsX6_bestReply := goodIn_r _ [25, 26, 27, 28, 29, 30, 31, 6, 32, 8, 9, 33, 34, 35, 36, 37, 38, 39, 40, 19, 41, 42, 43, 44, 45, 46, 47, 48, 49, 50, 51, 52, 53, 54, 55, 56, 57, 58, 59, 60, 61, 62, 63, 64, 65, 66, 67, 68, 69, 70, 71, 72, 73, 74, 75, 76, 77, 78, 79, 80, 81, 82, 83, 84, 85, 86, 87, 88, 89, 90, 91, 92, 93, 94, 95, 96, 97, 98, 99, 100, 101, 102, 103, 104, 105, 106, 107, 108, 109, 110, 111, 112, 113, 114, 115, 116, 117, 118, 119, 120, 121, 122, 123, 124, 125, 126, 127, 128, 129, 130, 131, 132, 133, 134, 135, 136, 137, 138, 139, 140, 141, 142, 143, 144, 145, 146, 147, 148, 149, 150, 151, 152, 153, 154, 155, 156, 157, 158, 159, 160, 161, 162, 163, 164, 165, 166, 167, 168, 169, 170, 171, 172, 173, 174, 175, 176, 4, 5, 7, 177, 178, 179, 180, 181, 182, 183, 184, 185, 186, 187, 188, 189, 190, 191, 192, 193, 194, 208, 209, 210, 211, 212, 213, 214, 215, 216, 217, 218, 219, 220, 221, 222, 223, 224, 241, 242, 243, 244, 245, 246, 247, 248, 249, 250, 251, 252, 253, 254, 255, 256, 257, 258, 259, 260, 225, 226, 227, 228, 229, 230, 231, 232, 233, 234, 235, 236, 237, 238, 239, 240] (by decide +kernel) (by decide +kernel)
set_option maxRecDepth 20000 in
theorem gX11_reply_X6_bestReply : GoodIn wsX11_reply (wsV RX11 221 RX6 yX6_bestReply wsX6_bestReply) := goodIn_app (goodIn_of _ (by decide +kernel)) ggX11_reply_X6_bestReply
theorem dX11_reply_0 : decode cX11_reply 0 = .ok (.aload_n 0, 1) := by decide +kernel
theorem dX11_reply_1 : decode cX11_reply 1 = .ok (.getfield 68, 3) := by decide +kernel
theorem dX11_reply_4 : decode cX11_reply 4 = .ok (.iload_n 1, 1) := by decide +kernel
theorem dX11_reply_5 : decode cX11_reply 5 = .ok (.invokevirtual 115, 3) := by decide +kernel
theorem dX11_reply_8 : decode cX11_reply 8 = .ok (.ifnonnull 9, 3) := by decide +kernel
theorem dX11_reply_11 : decode cX11_reply 11 = .ok (.aload_n 0, 1) := by decide +kernel
theorem dX11_reply_12 : decode cX11_reply 12 = .ok (.iconst (-1), 1) := by decide +kernel
theorem dX11_reply_13 : decode cX11_reply 13 = .ok (.invokevirtual 72, 3) := by decide +kernel
theorem dX11_reply_16 : decode cX11_reply 16 = .ok (.ireturn, 1) := by decide +kernel
theorem dX11_reply_17 : decode cX11_reply 17 = .ok (.iload_n 2, 1) := by decide +kernel
theorem dX11_reply_18 : decode cX11_reply 18 = .ok (.ifCond .ge 10, 3) := by decide +kernel
theorem dX11_reply_21 : decode cX11_reply 21 = .ok (.aload_n 0, 1) := by decide +kernel
theorem dX11_reply_22 : decode cX11_reply 22 = .ok (.bipush (-4), 2) := by decide +kernel
theorem dX11_reply_24 : decode cX11_reply 24 = .ok (.invokevirtual 72, 3) := by decide +kernel
theorem dX11_reply_27 : decode cX11_reply 27 = .ok (.ireturn, 1) := by decide +kernel
theorem dX11_reply_28 : decode cX11_reply 28 = .ok (.iload_n 2, 1) := by decide +kernel
theorem dX11_reply_29 : decode cX11_reply 29 = .ok (.iconst 2, 1) := by decide +kernel
theorem dX11_reply_30 : decode cX11_reply 30 = .ok (.if_icmp .le 10, 3) := by decide +kernel
theorem dX11_reply_33 : decode cX11_reply 33 = .ok (.aload_n 0, 1) := by decide +kernel
theorem dX11_reply_34 : decode cX11_reply 34 = .ok (.bipush (-6), 2) := by decide +kernel
theorem dX11_reply_36 : decode cX11_reply 36 = .ok (.invokevirtual 72, 3) := by decide +kernel
theorem dX11_reply_39 : decode cX11_reply 39 = .ok (.ireturn, 1) := by decide +kernel
theorem dX11_reply_40 : decode cX11_reply 40 = .ok (.aload_n 0, 1) := by decide +kernel
theorem dX11_reply_41 : decode cX11_reply 41 = .ok (.getfield 59, 3) := by decide +kernel
theorem dX11_reply_44 : decode cX11_reply 44 = .ok (.invokevirtual 136, 3) := by decide +kernel
theorem dX11_reply_47 : decode cX11_reply 47 = .ok (.ifCond .ne 10, 3) := by decide +kernel
theorem dX11_reply_50 : decode cX11_reply 50 = .ok (.aload_n 0, 1) := by decide +kernel
theorem dX11_reply_51 : decode cX11_reply 51 = .ok (.bipush (-3), 2) := by decide +kernel
theorem dX11_reply_53 : decode cX11_reply 53 = .ok (.invokevirtual 72, 3) := by decide +kernel
theorem dX11_reply_56 : decode cX11_reply 56 = .ok (.ireturn, 1) := by decide +kernel
theorem dX11_reply_57 : decode cX11_reply 57 = .ok (.aload_n 0, 1) := by decide +kernel
theorem dX11_reply_58 : decode cX11_reply 58 = .ok (.getfield 68, 3) := by decide +kernel
theorem dX11_reply_61 : decode cX11_reply 61 = .ok (.iload_n 1, 1) := by decide +kernel
theorem dX11_reply_62 : decode cX11_reply 62 = .ok (.iload_n 2, 1) := by decide +kernel
theorem dX11_reply_63 : decode cX11_reply 63 = .ok (.invokevirtual 221, 3) := by decide +kernel
theorem dX11_reply_66 : decode cX11_reply 66 = .ok (.ireturn, 1) := by decide +kernel
set_option maxRecDepth 20000 in
theorem ggX11_rest_X6_playerAt : GoodIn wsX11_rest wsX6_playerAt := goodIn_r _ [7, 8, 9, 255, 256, 257, 258, 259, 260, 261, 262, 263, 264, 265, 266, 267, 268, 269, 270, 271] (by decide +kernel) (by decide +kernel)
set_option maxRecDepth 20000 in
theorem gX11_rest_X6_playerAt : GoodIn wsX11_rest (wsV RX11 115 RX6 yX6_playerAt wsX6_playerAt) := goodIn_app (goodIn_of _ (by decide +kernel)) ggX11_rest_X6_playerAt
set_option maxRecDepth 20000 in
theorem ggX11_rest_X11_refuse : GoodIn wsX11_rest wsX11_refuse := goodIn_r _ [14, 15, 242, 243, 244, 245, 246, 247, 248, 249, 250, 251, 252, 253, 254] (by decide +kernel) (by decide +kernel)
set_option maxRecDepth 20000 in
theorem gX11_rest_X11_refuse : GoodIn wsX11_rest (wsV RX11 72 RX11 yX11_refuse wsX11_refuse) := goodIn_app (goodIn_of _ (by decide +kernel)) ggX11_rest_X11_refuse
set_option maxRecDepth 20000 in
theorem ggX11_rest_X0_kind : GoodIn wsX11_rest wsX0_kind := goodIn_r _ [21] (by decide +kernel) (by decide +kernel)
set_option maxRecDepth 20000 in
theorem gX11_rest_X0_kind_u119X0 : GoodIn wsX11_rest (va_wsU RX11 119 RX0 "BeforeTheEnd$Player" ⟨"BeforeTheEnd$Player", "kind", "()I"⟩ yX0_kind wsX0_kind) := goodIn_app (goodIn_of _ (by decide +kernel)) ggX11_rest_X0_kind
set_option maxRecDepth 20000 in
theorem ggX11_rest_X1_kind : GoodIn wsX11_rest wsX1_kind := goodIn_r _ [25] (by decide +kernel) (by decide +kernel)
set_option maxRecDepth 20000 in
theorem gX11_rest_X1_kind_u119X1 : GoodIn wsX11_rest (va_wsU RX11 119 RX1 "BeforeTheEnd$Player" ⟨"BeforeTheEnd$Player", "kind", "()I"⟩ yX1_kind wsX1_kind) := goodIn_app (goodIn_of _ (by decide +kernel)) ggX11_rest_X1_kind
set_option maxRecDepth 20000 in
theorem ggX11_rest_X2_kind : GoodIn wsX11_rest wsX2_kind := goodIn_r _ [29] (by decide +kernel) (by decide +kernel)
set_option maxRecDepth 20000 in
theorem gX11_rest_X2_kind_u119X2 : GoodIn wsX11_rest (va_wsU RX11 119 RX2 "BeforeTheEnd$Player" ⟨"BeforeTheEnd$Player", "kind", "()I"⟩ yX2_kind wsX2_kind) := goodIn_app (goodIn_of _ (by decide +kernel)) ggX11_rest_X2_kind
set_option maxRecDepth 20000 in
theorem ggX11_rest_X4_kind : GoodIn wsX11_rest wsX4_kind := goodIn_r _ [33] (by decide +kernel) (by decide +kernel)
set_option maxRecDepth 20000 in
theorem gX11_rest_X4_kind_u119X4 : GoodIn wsX11_rest (va_wsU RX11 119 RX4 "BeforeTheEnd$Player" ⟨"BeforeTheEnd$Player", "kind", "()I"⟩ yX4_kind wsX4_kind) := goodIn_app (goodIn_of _ (by decide +kernel)) ggX11_rest_X4_kind
set_option maxRecDepth 20000 in
theorem ggX11_rest_X7_kind : GoodIn wsX11_rest wsX7_kind := goodIn_r _ [37] (by decide +kernel) (by decide +kernel)
set_option maxRecDepth 20000 in
theorem gX11_rest_X7_kind_u119X7 : GoodIn wsX11_rest (va_wsU RX11 119 RX7 "BeforeTheEnd$Player" ⟨"BeforeTheEnd$Player", "kind", "()I"⟩ yX7_kind wsX7_kind) := goodIn_app (goodIn_of _ (by decide +kernel)) ggX11_rest_X7_kind
set_option maxRecDepth 20000 in
theorem ggX11_rest_X9_kind : GoodIn wsX11_rest wsX9_kind := goodIn_r _ [41] (by decide +kernel) (by decide +kernel)
set_option maxRecDepth 20000 in
theorem gX11_rest_X9_kind_u119X9 : GoodIn wsX11_rest (va_wsU RX11 119 RX9 "BeforeTheEnd$Player" ⟨"BeforeTheEnd$Player", "kind", "()I"⟩ yX9_kind wsX9_kind) := goodIn_app (goodIn_of _ (by decide +kernel)) ggX11_rest_X9_kind
set_option maxRecDepth 20000 in
theorem ggX11_rest_X10_isWhole : GoodIn wsX11_rest wsX10_isWhole := goodIn_r _ [46, 47, 272, 273, 274, 275, 276, 277, 278, 279, 280, 281, 282, 283, 284, 285, 286, 287] (by decide +kernel) (by decide +kernel)
set_option maxRecDepth 20000 in
theorem gX11_rest_X10_isWhole : GoodIn wsX11_rest (wsV RX11 136 RX10 yX10_isWhole wsX10_isWhole) := goodIn_app (goodIn_of _ (by decide +kernel)) ggX11_rest_X10_isWhole
set_option maxRecDepth 20000 in
theorem ggX11_rest_X9_toldSet : GoodIn wsX11_rest wsX9_toldSet := goodIn_r _ [53, 54, 288, 289, 290, 291, 292, 293, 294, 295] (by decide +kernel) (by decide +kernel)
set_option maxRecDepth 20000 in
theorem gX11_rest_X9_toldSet_u133X0 : GoodIn wsX11_rest (va_wsO RX11 133 RX0 "BeforeTheEnd$Player" ⟨"BeforeTheEnd$Player", "toldSet", "()I"⟩ yX9_toldSet wsX9_toldSet) := goodIn_app (goodIn_of _ (by decide +kernel)) ggX11_rest_X9_toldSet
set_option maxRecDepth 20000 in
theorem ggX11_rest_X5_toldSet : GoodIn wsX11_rest wsX5_toldSet := goodIn_r _ [55] (by decide +kernel) (by decide +kernel)
set_option maxRecDepth 20000 in
theorem gX11_rest_X5_toldSet_u133X1 : GoodIn wsX11_rest (va_wsU RX11 133 RX1 "BeforeTheEnd$Player" ⟨"BeforeTheEnd$Player", "toldSet", "()I"⟩ yX5_toldSet wsX5_toldSet) := goodIn_app (goodIn_of _ (by decide +kernel)) ggX11_rest_X5_toldSet
set_option maxRecDepth 20000 in
theorem gX11_rest_X5_toldSet_u133X2 : GoodIn wsX11_rest (va_wsU RX11 133 RX2 "BeforeTheEnd$Player" ⟨"BeforeTheEnd$Player", "toldSet", "()I"⟩ yX5_toldSet wsX5_toldSet) := goodIn_app (goodIn_of _ (by decide +kernel)) ggX11_rest_X5_toldSet
set_option maxRecDepth 20000 in
theorem gX11_rest_X5_toldSet_u133X4 : GoodIn wsX11_rest (va_wsU RX11 133 RX4 "BeforeTheEnd$Player" ⟨"BeforeTheEnd$Player", "toldSet", "()I"⟩ yX5_toldSet wsX5_toldSet) := goodIn_app (goodIn_of _ (by decide +kernel)) ggX11_rest_X5_toldSet
set_option maxRecDepth 20000 in
theorem gX11_rest_X5_toldSet_u133X7 : GoodIn wsX11_rest (va_wsU RX11 133 RX7 "BeforeTheEnd$Player" ⟨"BeforeTheEnd$Player", "toldSet", "()I"⟩ yX5_toldSet wsX5_toldSet) := goodIn_app (goodIn_of _ (by decide +kernel)) ggX11_rest_X5_toldSet
set_option maxRecDepth 20000 in
theorem gX11_rest_X9_toldSet_u133X9 : GoodIn wsX11_rest (va_wsO RX11 133 RX9 "BeforeTheEnd$Player" ⟨"BeforeTheEnd$Player", "toldSet", "()I"⟩ yX9_toldSet wsX9_toldSet) := goodIn_app (goodIn_of _ (by decide +kernel)) ggX11_rest_X9_toldSet
set_option maxRecDepth 20000 in
theorem ggX11_rest_X6_bestReply : GoodIn wsX11_rest wsX6_bestReply := goodIn_r _ [66, 67, 68, 69, 70, 71, 72, 6, 73, 8, 9, 74, 75, 76, 77, 78, 79, 80, 81, 45, 82, 83, 84, 85, 86, 87, 88, 89, 90, 91, 92, 20, 93, 94, 95, 96, 97, 98, 99, 100, 101, 102, 103, 104, 105, 106, 107, 108, 109, 110, 111, 112, 113, 114, 115, 116, 117, 118, 119, 120, 121, 122, 123, 36, 124, 125, 126, 127, 128, 129, 130, 24, 131, 132, 133, 134, 135, 136, 137, 138, 139, 140, 32, 141, 142, 143, 144, 145, 146, 147, 148, 149, 150, 151, 152, 153, 154, 155, 156, 157, 158, 159, 160, 161, 162, 163, 164, 165, 28, 166, 167, 168, 169, 170, 171, 172, 40, 173, 54, 174, 175, 176, 177, 178, 179, 180, 181, 182, 183, 184, 185, 186, 187, 188, 189, 190, 191, 192, 193, 194, 195, 196, 197, 198, 199, 200, 201, 202, 203, 204, 205, 206, 207, 208, 209, 210, 4, 5, 7, 211, 212, 213, 214, 215, 216, 217, 218, 219, 220, 221, 222, 223, 224, 225, 226, 227, 228, 255, 256, 257, 258, 259, 260, 261, 262, 263, 264, 265, 266, 267, 268, 269, 270, 271, 288, 289, 290, 291, 296, 297, 298, 299, 300, 301, 302, 303, 304, 305, 306, 307, 292, 293, 294, 295, 272, 273, 274, 275, 276, 277, 278, 279, 280, 281, 282, 283, 284, 285, 286, 287] (by decide +kernel) (by decide +kernel)
set_option maxRecDepth 20000 in
theorem gX11_rest_X6_bestReply : GoodIn wsX11_rest (wsV RX11 221 RX6 yX6_bestReply wsX6_bestReply) := goodIn_app (goodIn_of _ (by decide +kernel)) ggX11_rest_X6_bestReply
set_option maxRecDepth 20000 in
theorem ggX11_rest_X9_tell : GoodIn wsX11_rest wsX9_tell := goodIn_r _ [234, 54, 288, 289, 290, 291, 292, 293, 294, 295] (by decide +kernel) (by decide +kernel)
set_option maxRecDepth 20000 in
theorem gX11_rest_X9_tell_u175X0 : GoodIn wsX11_rest (va_wsO RX11 175 RX0 "BeforeTheEnd$Player" ⟨"BeforeTheEnd$Player", "tell", "(I)V"⟩ yX9_tell wsX9_tell) := goodIn_app (goodIn_of _ (by decide +kernel)) ggX11_rest_X9_tell
set_option maxRecDepth 20000 in
theorem ggX11_rest_X5_tell : GoodIn wsX11_rest wsX5_tell := goodIn_r _ [235] (by decide +kernel) (by decide +kernel)
set_option maxRecDepth 20000 in
theorem gX11_rest_X5_tell_u175X1 : GoodIn wsX11_rest (va_wsU RX11 175 RX1 "BeforeTheEnd$Player" ⟨"BeforeTheEnd$Player", "tell", "(I)V"⟩ yX5_tell wsX5_tell) := goodIn_app (goodIn_of _ (by decide +kernel)) ggX11_rest_X5_tell
set_option maxRecDepth 20000 in
theorem gX11_rest_X5_tell_u175X2 : GoodIn wsX11_rest (va_wsU RX11 175 RX2 "BeforeTheEnd$Player" ⟨"BeforeTheEnd$Player", "tell", "(I)V"⟩ yX5_tell wsX5_tell) := goodIn_app (goodIn_of _ (by decide +kernel)) ggX11_rest_X5_tell
set_option maxRecDepth 20000 in
theorem gX11_rest_X5_tell_u175X4 : GoodIn wsX11_rest (va_wsU RX11 175 RX4 "BeforeTheEnd$Player" ⟨"BeforeTheEnd$Player", "tell", "(I)V"⟩ yX5_tell wsX5_tell) := goodIn_app (goodIn_of _ (by decide +kernel)) ggX11_rest_X5_tell
set_option maxRecDepth 20000 in
theorem gX11_rest_X5_tell_u175X7 : GoodIn wsX11_rest (va_wsU RX11 175 RX7 "BeforeTheEnd$Player" ⟨"BeforeTheEnd$Player", "tell", "(I)V"⟩ yX5_tell wsX5_tell) := goodIn_app (goodIn_of _ (by decide +kernel)) ggX11_rest_X5_tell
set_option maxRecDepth 20000 in
theorem gX11_rest_X9_tell_u175X9 : GoodIn wsX11_rest (va_wsO RX11 175 RX9 "BeforeTheEnd$Player" ⟨"BeforeTheEnd$Player", "tell", "(I)V"⟩ yX9_tell wsX9_tell) := goodIn_app (goodIn_of _ (by decide +kernel)) ggX11_rest_X9_tell
theorem dX11_rest_0 : decode cX11_rest 0 = .ok (.aload_n 0, 1) := by decide +kernel
theorem dX11_rest_1 : decode cX11_rest 1 = .ok (.getfield 68, 3) := by decide +kernel
theorem dX11_rest_4 : decode cX11_rest 4 = .ok (.iload_n 1, 1) := by decide +kernel
theorem dX11_rest_5 : decode cX11_rest 5 = .ok (.invokevirtual 115, 3) := by decide +kernel
theorem dX11_rest_8 : decode cX11_rest 8 = .ok (.astore_n 3, 1) := by decide +kernel
theorem dX11_rest_9 : decode cX11_rest 9 = .ok (.aload_n 0, 1) := by decide +kernel
theorem dX11_rest_10 : decode cX11_rest 10 = .ok (.getfield 68, 3) := by decide +kernel
theorem dX11_rest_13 : decode cX11_rest 13 = .ok (.iload_n 2, 1) := by decide +kernel
theorem dX11_rest_14 : decode cX11_rest 14 = .ok (.invokevirtual 115, 3) := by decide +kernel
theorem dX11_rest_17 : decode cX11_rest 17 = .ok (.astore 4, 2) := by decide +kernel
theorem dX11_rest_19 : decode cX11_rest 19 = .ok (.aload_n 3, 1) := by decide +kernel
theorem dX11_rest_20 : decode cX11_rest 20 = .ok (.ifnull 13, 3) := by decide +kernel
theorem dX11_rest_23 : decode cX11_rest 23 = .ok (.aload 4, 2) := by decide +kernel
theorem dX11_rest_25 : decode cX11_rest 25 = .ok (.ifnull 8, 3) := by decide +kernel
theorem dX11_rest_28 : decode cX11_rest 28 = .ok (.iload_n 1, 1) := by decide +kernel
theorem dX11_rest_29 : decode cX11_rest 29 = .ok (.iload_n 2, 1) := by decide +kernel
theorem dX11_rest_30 : decode cX11_rest 30 = .ok (.if_icmp .ne 9, 3) := by decide +kernel
theorem dX11_rest_33 : decode cX11_rest 33 = .ok (.aload_n 0, 1) := by decide +kernel
theorem dX11_rest_34 : decode cX11_rest 34 = .ok (.iconst (-1), 1) := by decide +kernel
theorem dX11_rest_35 : decode cX11_rest 35 = .ok (.invokevirtual 72, 3) := by decide +kernel
theorem dX11_rest_38 : decode cX11_rest 38 = .ok (.ireturn, 1) := by decide +kernel
theorem dX11_rest_39 : decode cX11_rest 39 = .ok (.aload_n 3, 1) := by decide +kernel
theorem dX11_rest_40 : decode cX11_rest 40 = .ok (.invokevirtual 119, 3) := by decide +kernel
theorem dX11_rest_43 : decode cX11_rest 43 = .ok (.iconst 4, 1) := by decide +kernel
theorem dX11_rest_44 : decode cX11_rest 44 = .ok (.if_icmp .ne 12, 3) := by decide +kernel
theorem dX11_rest_47 : decode cX11_rest 47 = .ok (.aload 4, 2) := by decide +kernel
theorem dX11_rest_49 : decode cX11_rest 49 = .ok (.invokevirtual 119, 3) := by decide +kernel
theorem dX11_rest_52 : decode cX11_rest 52 = .ok (.iconst 4, 1) := by decide +kernel
theorem dX11_rest_53 : decode cX11_rest 53 = .ok (.if_icmp .eq 10, 3) := by decide +kernel
theorem dX11_rest_56 : decode cX11_rest 56 = .ok (.aload_n 0, 1) := by decide +kernel
theorem dX11_rest_57 : decode cX11_rest 57 = .ok (.bipush (-2), 2) := by decide +kernel
theorem dX11_rest_59 : decode cX11_rest 59 = .ok (.invokevirtual 72, 3) := by decide +kernel
theorem dX11_rest_62 : decode cX11_rest 62 = .ok (.ireturn, 1) := by decide +kernel
theorem dX11_rest_63 : decode cX11_rest 63 = .ok (.aload_n 0, 1) := by decide +kernel
theorem dX11_rest_64 : decode cX11_rest 64 = .ok (.getfield 59, 3) := by decide +kernel
theorem dX11_rest_67 : decode cX11_rest 67 = .ok (.invokevirtual 136, 3) := by decide +kernel
theorem dX11_rest_70 : decode cX11_rest 70 = .ok (.ifCond .ne 10, 3) := by decide +kernel
theorem dX11_rest_73 : decode cX11_rest 73 = .ok (.aload_n 0, 1) := by decide +kernel
theorem dX11_rest_74 : decode cX11_rest 74 = .ok (.bipush (-3), 2) := by decide +kernel
theorem dX11_rest_76 : decode cX11_rest 76 = .ok (.invokevirtual 72, 3) := by decide +kernel
theorem dX11_rest_79 : decode cX11_rest 79 = .ok (.ireturn, 1) := by decide +kernel
theorem dX11_rest_80 : decode cX11_rest 80 = .ok (.iconst 1, 1) := by decide +kernel
theorem dX11_rest_81 : decode cX11_rest 81 = .ok (.istore 5, 2) := by decide +kernel
theorem dX11_rest_83 : decode cX11_rest 83 = .ok (.iload 5, 2) := by decide +kernel
theorem dX11_rest_85 : decode cX11_rest 85 = .ok (.bipush 10, 2) := by decide +kernel
theorem dX11_rest_87 : decode cX11_rest 87 = .ok (.if_icmp .gt 71, 3) := by decide +kernel
theorem dX11_rest_90 : decode cX11_rest 90 = .ok (.aload_n 3, 1) := by decide +kernel
theorem dX11_rest_91 : decode cX11_rest 91 = .ok (.invokevirtual 133, 3) := by decide +kernel
theorem dX11_rest_94 : decode cX11_rest 94 = .ok (.istore 6, 2) := by decide +kernel
theorem dX11_rest_96 : decode cX11_rest 96 = .ok (.aload 4, 2) := by decide +kernel
theorem dX11_rest_98 : decode cX11_rest 98 = .ok (.invokevirtual 133, 3) := by decide +kernel
theorem dX11_rest_101 : decode cX11_rest 101 = .ok (.istore 7, 2) := by decide +kernel
theorem dX11_rest_103 : decode cX11_rest 103 = .ok (.aload_n 3, 1) := by decide +kernel
theorem dX11_rest_104 : decode cX11_rest 104 = .ok (.aload_n 0, 1) := by decide +kernel
theorem dX11_rest_105 : decode cX11_rest 105 = .ok (.getfield 68, 3) := by decide +kernel
theorem dX11_rest_108 : decode cX11_rest 108 = .ok (.iload_n 1, 1) := by decide +kernel
theorem dX11_rest_109 : decode cX11_rest 109 = .ok (.iconst 2, 1) := by decide +kernel
theorem dX11_rest_110 : decode cX11_rest 110 = .ok (.invokevirtual 221, 3) := by decide +kernel
theorem dX11_rest_113 : decode cX11_rest 113 = .ok (.invokevirtual 175, 3) := by decide +kernel
theorem dX11_rest_116 : decode cX11_rest 116 = .ok (.aload 4, 2) := by decide +kernel
theorem dX11_rest_118 : decode cX11_rest 118 = .ok (.aload_n 0, 1) := by decide +kernel
theorem dX11_rest_119 : decode cX11_rest 119 = .ok (.getfield 68, 3) := by decide +kernel
theorem dX11_rest_122 : decode cX11_rest 122 = .ok (.iload_n 2, 1) := by decide +kernel
theorem dX11_rest_123 : decode cX11_rest 123 = .ok (.iconst 2, 1) := by decide +kernel
theorem dX11_rest_124 : decode cX11_rest 124 = .ok (.invokevirtual 221, 3) := by decide +kernel
theorem dX11_rest_127 : decode cX11_rest 127 = .ok (.invokevirtual 175, 3) := by decide +kernel
theorem dX11_rest_130 : decode cX11_rest 130 = .ok (.aload_n 3, 1) := by decide +kernel
theorem dX11_rest_131 : decode cX11_rest 131 = .ok (.invokevirtual 133, 3) := by decide +kernel
theorem dX11_rest_134 : decode cX11_rest 134 = .ok (.iload 6, 2) := by decide +kernel
theorem dX11_rest_136 : decode cX11_rest 136 = .ok (.if_icmp .ne 16, 3) := by decide +kernel
theorem dX11_rest_139 : decode cX11_rest 139 = .ok (.aload 4, 2) := by decide +kernel
theorem dX11_rest_141 : decode cX11_rest 141 = .ok (.invokevirtual 133, 3) := by decide +kernel
theorem dX11_rest_144 : decode cX11_rest 144 = .ok (.iload 7, 2) := by decide +kernel
theorem dX11_rest_146 : decode cX11_rest 146 = .ok (.if_icmp .ne 6, 3) := by decide +kernel
theorem dX11_rest_149 : decode cX11_rest 149 = .ok (.iload 5, 2) := by decide +kernel
theorem dX11_rest_151 : decode cX11_rest 151 = .ok (.ireturn, 1) := by decide +kernel
theorem dX11_rest_152 : decode cX11_rest 152 = .ok (.iinc 5 1, 3) := by decide +kernel
theorem dX11_rest_155 : decode cX11_rest 155 = .ok (.goto (-72), 3) := by decide +kernel
theorem dX11_rest_158 : decode cX11_rest 158 = .ok (.bipush (-9), 2) := by decide +kernel
theorem dX11_rest_160 : decode cX11_rest 160 = .ok (.ireturn, 1) := by decide +kernel
set_option maxRecDepth 20000 in
theorem ggX11_law_X11_refuse : GoodIn wsX11_law wsX11_refuse := goodIn_r _ [7, 8, 156, 157, 158, 159, 160, 161, 162, 163, 164, 165, 166, 167, 168] (by decide +kernel) (by decide +kernel)
set_option maxRecDepth 20000 in
theorem gX11_law_X11_refuse : GoodIn wsX11_law (wsV RX11 72 RX11 yX11_refuse wsX11_refuse) := goodIn_app (goodIn_of _ (by decide +kernel)) ggX11_law_X11_refuse
set_option maxRecDepth 20000 in
theorem ggX11_law_X10_isWhole : GoodIn wsX11_law wsX10_isWhole := goodIn_r _ [13, 14, 169, 170, 171, 172, 173, 174, 175, 176, 177, 178, 179, 180, 181, 182, 183, 184] (by decide +kernel) (by decide +kernel)
set_option maxRecDepth 20000 in
theorem gX11_law_X10_isWhole : GoodIn wsX11_law (wsV RX11 136 RX10 yX10_isWhole wsX10_isWhole) := goodIn_app (goodIn_of _ (by decide +kernel)) ggX11_law_X10_isWhole
set_option maxRecDepth 20000 in
theorem ggX11_law_X6_leastWrong : GoodIn wsX11_law wsX6_leastWrong := goodIn_r _ [19, 20, 21, 22, 23, 24, 25, 18, 26, 27, 28, 29, 30, 31, 32, 33, 34, 35, 12, 36, 37, 38, 39, 40, 41, 42, 43, 44, 45, 46, 47, 48, 49, 50, 51, 52, 53, 54, 55, 56, 57, 58, 59, 60, 61, 62, 63, 64, 65, 66, 67, 68, 69, 70, 71, 72, 73, 74, 75, 76, 77, 78, 79, 80, 81, 82, 83, 84, 85, 86, 87, 88, 89, 90, 91, 92, 93, 94, 95, 96, 97, 98, 99, 100, 101, 102, 103, 104, 105, 106, 107, 108, 109, 110, 111, 112, 113, 114, 115, 116, 117, 118, 119, 120, 121, 122, 123, 124, 125, 126, 127, 128, 129, 130, 131, 132, 133, 134, 135, 136, 137, 138, 139, 140, 141, 142, 143, 144, 145, 146, 147, 148, 149, 150, 151, 152, 153, 154, 155, 185, 186, 187, 188, 189, 190, 191, 192, 193, 194, 195, 196, 197, 198, 199, 200, 201, 202, 203, 204, 205, 206, 207, 208, 209, 210, 211, 212, 213, 214, 215, 216, 217, 218, 219, 220, 221, 169, 170, 171, 172, 173, 174, 175, 176, 177, 178, 179, 180, 181, 182, 183, 184] (by decide +kernel) (by decide +kernel)
set_option maxRecDepth 20000 in
theorem gX11_law_X6_leastWrong : GoodIn wsX11_law (wsV RX11 224 RX6 yX6_leastWrong wsX6_leastWrong) := goodIn_app (goodIn_of _ (by decide +kernel)) ggX11_law_X6_leastWrong
theorem dX11_law_0 : decode cX11_law 0 = .ok (.iload_n 1, 1) := by decide +kernel
theorem dX11_law_1 : decode cX11_law 1 = .ok (.ifCond .ge 10, 3) := by decide +kernel
theorem dX11_law_4 : decode cX11_law 4 = .ok (.aload_n 0, 1) := by decide +kernel
theorem dX11_law_5 : decode cX11_law 5 = .ok (.bipush (-4), 2) := by decide +kernel
theorem dX11_law_7 : decode cX11_law 7 = .ok (.invokevirtual 72, 3) := by decide +kernel
theorem dX11_law_10 : decode cX11_law 10 = .ok (.ireturn, 1) := by decide +kernel
theorem dX11_law_11 : decode cX11_law 11 = .ok (.iload_n 1, 1) := by decide +kernel
theorem dX11_law_12 : decode cX11_law 12 = .ok (.bipush 100, 2) := by decide +kernel
theorem dX11_law_14 : decode cX11_law 14 = .ok (.if_icmp .le 10, 3) := by decide +kernel
theorem dX11_law_17 : decode cX11_law 17 = .ok (.aload_n 0, 1) := by decide +kernel
theorem dX11_law_18 : decode cX11_law 18 = .ok (.bipush (-6), 2) := by decide +kernel
theorem dX11_law_20 : decode cX11_law 20 = .ok (.invokevirtual 72, 3) := by decide +kernel
theorem dX11_law_23 : decode cX11_law 23 = .ok (.ireturn, 1) := by decide +kernel
theorem dX11_law_24 : decode cX11_law 24 = .ok (.aload_n 0, 1) := by decide +kernel
theorem dX11_law_25 : decode cX11_law 25 = .ok (.getfield 59, 3) := by decide +kernel
theorem dX11_law_28 : decode cX11_law 28 = .ok (.invokevirtual 136, 3) := by decide +kernel
theorem dX11_law_31 : decode cX11_law 31 = .ok (.ifCond .ne 10, 3) := by decide +kernel
theorem dX11_law_34 : decode cX11_law 34 = .ok (.aload_n 0, 1) := by decide +kernel
theorem dX11_law_35 : decode cX11_law 35 = .ok (.bipush (-3), 2) := by decide +kernel
theorem dX11_law_37 : decode cX11_law 37 = .ok (.invokevirtual 72, 3) := by decide +kernel
theorem dX11_law_40 : decode cX11_law 40 = .ok (.ireturn, 1) := by decide +kernel
theorem dX11_law_41 : decode cX11_law 41 = .ok (.aload_n 0, 1) := by decide +kernel
theorem dX11_law_42 : decode cX11_law 42 = .ok (.getfield 68, 3) := by decide +kernel
theorem dX11_law_45 : decode cX11_law 45 = .ok (.iload_n 1, 1) := by decide +kernel
theorem dX11_law_46 : decode cX11_law 46 = .ok (.invokevirtual 224, 3) := by decide +kernel
theorem dX11_law_49 : decode cX11_law 49 = .ok (.ireturn, 1) := by decide +kernel
set_option maxRecDepth 20000 in
theorem ggX11_mostEarly_X6_playerAt : GoodIn wsX11_mostEarly wsX6_playerAt := goodIn_r _ [7, 8, 9, 202, 203, 204, 205, 206, 207, 208, 209, 210, 211, 212, 213, 214, 215, 216, 217, 218] (by decide +kernel) (by decide +kernel)
set_option maxRecDepth 20000 in
theorem gX11_mostEarly_X6_playerAt : GoodIn wsX11_mostEarly (wsV RX11 115 RX6 yX6_playerAt wsX6_playerAt) := goodIn_app (goodIn_of _ (by decide +kernel)) ggX11_mostEarly_X6_playerAt
set_option maxRecDepth 20000 in
theorem ggX11_mostEarly_X11_refuse : GoodIn wsX11_mostEarly wsX11_refuse := goodIn_r _ [14, 15, 189, 190, 191, 192, 193, 194, 195, 196, 197, 198, 199, 200, 201] (by decide +kernel) (by decide +kernel)
set_option maxRecDepth 20000 in
theorem gX11_mostEarly_X11_refuse : GoodIn wsX11_mostEarly (wsV RX11 72 RX11 yX11_refuse wsX11_refuse) := goodIn_app (goodIn_of _ (by decide +kernel)) ggX11_mostEarly_X11_refuse
set_option maxRecDepth 20000 in
theorem ggX11_mostEarly_X10_isWhole : GoodIn wsX11_mostEarly wsX10_isWhole := goodIn_r _ [20, 21, 219, 220, 221, 222, 223, 224, 225, 226, 227, 228, 229, 230, 231, 232, 233, 234] (by decide +kernel) (by decide +kernel)
set_option maxRecDepth 20000 in
theorem gX11_mostEarly_X10_isWhole : GoodIn wsX11_mostEarly (wsV RX11 136 RX10 yX10_isWhole wsX10_isWhole) := goodIn_app (goodIn_of _ (by decide +kernel)) ggX11_mostEarly_X10_isWhole
set_option maxRecDepth 20000 in
theorem ggX11_mostEarly_X6_bestEarly : GoodIn wsX11_mostEarly wsX6_bestEarly := goodIn_r _ [25, 26, 27, 28, 29, 30, 6, 31, 8, 9, 32, 33, 34, 35, 36, 37, 38, 39, 19, 40, 41, 42, 43, 44, 45, 46, 47, 48, 49, 50, 51, 52, 53, 54, 55, 56, 57, 58, 59, 60, 61, 62, 63, 64, 65, 66, 67, 68, 69, 70, 71, 72, 73, 74, 75, 76, 77, 78, 79, 80, 81, 82, 83, 84, 85, 86, 87, 88, 89, 90, 91, 92, 93, 94, 95, 96, 97, 98, 99, 100, 101, 102, 103, 104, 105, 106, 107, 108, 109, 110, 111, 112, 113, 114, 115, 116, 117, 118, 119, 120, 121, 122, 123, 124, 125, 126, 127, 128, 129, 130, 131, 132, 133, 134, 135, 136, 137, 138, 139, 140, 141, 142, 143, 144, 145, 146, 147, 148, 149, 150, 151, 152, 153, 154, 155, 156, 157, 158, 159, 160, 161, 162, 163, 164, 165, 166, 167, 168, 169, 170, 4, 5, 7, 171, 172, 173, 174, 175, 176, 177, 178, 179, 180, 181, 182, 183, 184, 185, 186, 187, 188, 202, 203, 204, 205, 206, 207, 208, 209, 210, 211, 212, 213, 214, 215, 216, 217, 218, 235, 236, 237, 238, 239, 240, 241, 242, 243, 244, 245, 246, 247, 248, 249, 250, 251, 252, 253, 254, 219, 220, 221, 222, 223, 224, 225, 226, 227, 228, 229, 230, 231, 232, 233, 234] (by decide +kernel) (by decide +kernel)
set_option maxRecDepth 20000 in
theorem gX11_mostEarly_X6_bestEarly : GoodIn wsX11_mostEarly (wsV RX11 227 RX6 yX6_bestEarly wsX6_bestEarly) := goodIn_app (goodIn_of _ (by decide +kernel)) ggX11_mostEarly_X6_bestEarly
theorem dX11_mostEarly_0 : decode cX11_mostEarly 0 = .ok (.aload_n 0, 1) := by decide +kernel
theorem dX11_mostEarly_1 : decode cX11_mostEarly 1 = .ok (.getfield 68, 3) := by decide +kernel
theorem dX11_mostEarly_4 : decode cX11_mostEarly 4 = .ok (.iload_n 1, 1) := by decide +kernel
theorem dX11_mostEarly_5 : decode cX11_mostEarly 5 = .ok (.invokevirtual 115, 3) := by decide +kernel
theorem dX11_mostEarly_8 : decode cX11_mostEarly 8 = .ok (.ifnonnull 9, 3) := by decide +kernel
theorem dX11_mostEarly_11 : decode cX11_mostEarly 11 = .ok (.aload_n 0, 1) := by decide +kernel
theorem dX11_mostEarly_12 : decode cX11_mostEarly 12 = .ok (.iconst (-1), 1) := by decide +kernel
theorem dX11_mostEarly_13 : decode cX11_mostEarly 13 = .ok (.invokevirtual 72, 3) := by decide +kernel
theorem dX11_mostEarly_16 : decode cX11_mostEarly 16 = .ok (.ireturn, 1) := by decide +kernel
theorem dX11_mostEarly_17 : decode cX11_mostEarly 17 = .ok (.aload_n 0, 1) := by decide +kernel
theorem dX11_mostEarly_18 : decode cX11_mostEarly 18 = .ok (.getfield 59, 3) := by decide +kernel
theorem dX11_mostEarly_21 : decode cX11_mostEarly 21 = .ok (.invokevirtual 136, 3) := by decide +kernel
theorem dX11_mostEarly_24 : decode cX11_mostEarly 24 = .ok (.ifCond .ne 10, 3) := by decide +kernel
theorem dX11_mostEarly_27 : decode cX11_mostEarly 27 = .ok (.aload_n 0, 1) := by decide +kernel
theorem dX11_mostEarly_28 : decode cX11_mostEarly 28 = .ok (.bipush (-3), 2) := by decide +kernel
theorem dX11_mostEarly_30 : decode cX11_mostEarly 30 = .ok (.invokevirtual 72, 3) := by decide +kernel
theorem dX11_mostEarly_33 : decode cX11_mostEarly 33 = .ok (.ireturn, 1) := by decide +kernel
theorem dX11_mostEarly_34 : decode cX11_mostEarly 34 = .ok (.aload_n 0, 1) := by decide +kernel
theorem dX11_mostEarly_35 : decode cX11_mostEarly 35 = .ok (.getfield 68, 3) := by decide +kernel
theorem dX11_mostEarly_38 : decode cX11_mostEarly 38 = .ok (.iload_n 1, 1) := by decide +kernel
theorem dX11_mostEarly_39 : decode cX11_mostEarly 39 = .ok (.invokevirtual 227, 3) := by decide +kernel
theorem dX11_mostEarly_42 : decode cX11_mostEarly 42 = .ok (.ireturn, 1) := by decide +kernel
set_option maxRecDepth 20000 in
theorem ggX11_silent_X6_playerAt : GoodIn wsX11_silent wsX6_playerAt := goodIn_r _ [7, 8, 9, 164, 165, 166, 167, 168, 169, 170, 171, 172, 173, 174, 175, 176, 177, 178, 179, 180] (by decide +kernel) (by decide +kernel)
set_option maxRecDepth 20000 in
theorem gX11_silent_X6_playerAt : GoodIn wsX11_silent (wsV RX11 115 RX6 yX6_playerAt wsX6_playerAt) := goodIn_app (goodIn_of _ (by decide +kernel)) ggX11_silent_X6_playerAt
set_option maxRecDepth 20000 in
theorem ggX11_silent_X10_has : GoodIn wsX11_silent wsX10_has := goodIn_r _ [14, 15, 181, 182, 183, 184, 185, 186, 187, 188, 189, 190, 191, 192, 193, 194, 195, 196] (by decide +kernel) (by decide +kernel)
set_option maxRecDepth 20000 in
theorem gX11_silent_X10_has : GoodIn wsX11_silent (wsV RX11 96 RX10 yX10_has wsX10_has) := goodIn_app (goodIn_of _ (by decide +kernel)) ggX11_silent_X10_has
set_option maxRecDepth 20000 in
theorem ggX11_silent_X11_refuse : GoodIn wsX11_silent wsX11_refuse := goodIn_r _ [20, 21, 151, 152, 153, 154, 155, 156, 157, 158, 159, 160, 161, 162, 163] (by decide +kernel) (by decide +kernel)
set_option maxRecDepth 20000 in
theorem gX11_silent_X11_refuse : GoodIn wsX11_silent (wsV RX11 72 RX11 yX11_refuse wsX11_refuse) := goodIn_app (goodIn_of _ (by decide +kernel)) ggX11_silent_X11_refuse
set_option maxRecDepth 20000 in
theorem ggX11_silent_X0_kind : GoodIn wsX11_silent wsX0_kind := goodIn_r _ [27] (by decide +kernel) (by decide +kernel)
set_option maxRecDepth 20000 in
theorem gX11_silent_X0_kind_u119X0 : GoodIn wsX11_silent (va_wsU RX11 119 RX0 "BeforeTheEnd$Player" ⟨"BeforeTheEnd$Player", "kind", "()I"⟩ yX0_kind wsX0_kind) := goodIn_app (goodIn_of _ (by decide +kernel)) ggX11_silent_X0_kind
set_option maxRecDepth 20000 in
theorem ggX11_silent_X1_kind : GoodIn wsX11_silent wsX1_kind := goodIn_r _ [31] (by decide +kernel) (by decide +kernel)
set_option maxRecDepth 20000 in
theorem gX11_silent_X1_kind_u119X1 : GoodIn wsX11_silent (va_wsU RX11 119 RX1 "BeforeTheEnd$Player" ⟨"BeforeTheEnd$Player", "kind", "()I"⟩ yX1_kind wsX1_kind) := goodIn_app (goodIn_of _ (by decide +kernel)) ggX11_silent_X1_kind
set_option maxRecDepth 20000 in
theorem ggX11_silent_X2_kind : GoodIn wsX11_silent wsX2_kind := goodIn_r _ [35] (by decide +kernel) (by decide +kernel)
set_option maxRecDepth 20000 in
theorem gX11_silent_X2_kind_u119X2 : GoodIn wsX11_silent (va_wsU RX11 119 RX2 "BeforeTheEnd$Player" ⟨"BeforeTheEnd$Player", "kind", "()I"⟩ yX2_kind wsX2_kind) := goodIn_app (goodIn_of _ (by decide +kernel)) ggX11_silent_X2_kind
set_option maxRecDepth 20000 in
theorem ggX11_silent_X4_kind : GoodIn wsX11_silent wsX4_kind := goodIn_r _ [39] (by decide +kernel) (by decide +kernel)
set_option maxRecDepth 20000 in
theorem gX11_silent_X4_kind_u119X4 : GoodIn wsX11_silent (va_wsU RX11 119 RX4 "BeforeTheEnd$Player" ⟨"BeforeTheEnd$Player", "kind", "()I"⟩ yX4_kind wsX4_kind) := goodIn_app (goodIn_of _ (by decide +kernel)) ggX11_silent_X4_kind
set_option maxRecDepth 20000 in
theorem ggX11_silent_X7_kind : GoodIn wsX11_silent wsX7_kind := goodIn_r _ [43] (by decide +kernel) (by decide +kernel)
set_option maxRecDepth 20000 in
theorem gX11_silent_X7_kind_u119X7 : GoodIn wsX11_silent (va_wsU RX11 119 RX7 "BeforeTheEnd$Player" ⟨"BeforeTheEnd$Player", "kind", "()I"⟩ yX7_kind wsX7_kind) := goodIn_app (goodIn_of _ (by decide +kernel)) ggX11_silent_X7_kind
set_option maxRecDepth 20000 in
theorem ggX11_silent_X9_kind : GoodIn wsX11_silent wsX9_kind := goodIn_r _ [47] (by decide +kernel) (by decide +kernel)
set_option maxRecDepth 20000 in
theorem gX11_silent_X9_kind_u119X9 : GoodIn wsX11_silent (va_wsU RX11 119 RX9 "BeforeTheEnd$Player" ⟨"BeforeTheEnd$Player", "kind", "()I"⟩ yX9_kind wsX9_kind) := goodIn_app (goodIn_of _ (by decide +kernel)) ggX11_silent_X9_kind
set_option maxRecDepth 20000 in
theorem ggX11_silent_X10_isWhole : GoodIn wsX11_silent wsX10_isWhole := goodIn_r _ [51, 52, 181, 182, 183, 184, 185, 186, 187, 188, 189, 190, 191, 192, 193, 194, 195, 196] (by decide +kernel) (by decide +kernel)
set_option maxRecDepth 20000 in
theorem gX11_silent_X10_isWhole : GoodIn wsX11_silent (wsV RX11 136 RX10 yX10_isWhole wsX10_isWhole) := goodIn_app (goodIn_of _ (by decide +kernel)) ggX11_silent_X10_isWhole
set_option maxRecDepth 20000 in
theorem ggX11_silent_X6_pressBits : GoodIn wsX11_silent wsX6_pressBits := goodIn_r _ [56, 57, 58, 59, 60, 61, 26, 62, 63, 64, 65, 6, 66, 67, 68, 69, 11, 12, 13, 14, 15, 70, 71, 72, 73, 74, 75, 76, 77, 78, 79, 80, 81, 82, 83, 84, 85, 86, 87, 88, 89, 42, 90, 91, 92, 93, 94, 95, 96, 30, 97, 98, 99, 100, 101, 102, 103, 104, 105, 106, 38, 107, 108, 109, 110, 111, 112, 113, 114, 115, 116, 117, 118, 119, 120, 121, 122, 123, 124, 125, 126, 127, 128, 129, 130, 131, 34, 132, 133, 134, 135, 136, 137, 138, 46, 139, 140, 141, 142, 143, 144, 145, 164, 165, 166, 167, 168, 169, 170, 171, 172, 173, 174, 175, 176, 177, 178, 179, 180, 181, 182, 183, 184, 185, 186, 187, 188, 189, 190, 191, 192, 193, 194, 195, 196, 197, 198, 199, 200, 201, 202, 203, 204, 205, 206, 207, 208, 209, 210, 211, 212, 213, 214, 215, 216] (by decide +kernel) (by decide +kernel)
set_option maxRecDepth 20000 in
theorem gX11_silent_X6_pressBits : GoodIn wsX11_silent (wsV RX11 230 RX6 yX6_pressBits wsX6_pressBits) := goodIn_app (goodIn_of _ (by decide +kernel)) ggX11_silent_X6_pressBits
set_option maxRecDepth 20000 in
theorem ggX11_silent_X10_wayTo : GoodIn wsX11_silent wsX10_wayTo := goodIn_r _ [149, 150, 81, 11, 12, 13, 14, 15, 181, 182, 183, 184, 185, 186, 187, 188, 189, 190, 191, 192, 193, 194, 195, 196] (by decide +kernel) (by decide +kernel)
set_option maxRecDepth 20000 in
theorem gX11_silent_X10_wayTo : GoodIn wsX11_silent (wsV RX11 234 RX10 yX10_wayTo wsX10_wayTo) := goodIn_app (goodIn_of _ (by decide +kernel)) ggX11_silent_X10_wayTo
theorem dX11_silent_0 : decode cX11_silent 0 = .ok (.aload_n 0, 1) := by decide +kernel
theorem dX11_silent_1 : decode cX11_silent 1 = .ok (.getfield 68, 3) := by decide +kernel
theorem dX11_silent_4 : decode cX11_silent 4 = .ok (.iload_n 1, 1) := by decide +kernel
theorem dX11_silent_5 : decode cX11_silent 5 = .ok (.invokevirtual 115, 3) := by decide +kernel
theorem dX11_silent_8 : decode cX11_silent 8 = .ok (.astore_n 3, 1) := by decide +kernel
theorem dX11_silent_9 : decode cX11_silent 9 = .ok (.aload_n 3, 1) := by decide +kernel
theorem dX11_silent_10 : decode cX11_silent 10 = .ok (.ifnull 14, 3) := by decide +kernel
theorem dX11_silent_13 : decode cX11_silent 13 = .ok (.aload_n 0, 1) := by decide +kernel
theorem dX11_silent_14 : decode cX11_silent 14 = .ok (.getfield 59, 3) := by decide +kernel
theorem dX11_silent_17 : decode cX11_silent 17 = .ok (.iload_n 2, 1) := by decide +kernel
theorem dX11_silent_18 : decode cX11_silent 18 = .ok (.invokevirtual 96, 3) := by decide +kernel
theorem dX11_silent_21 : decode cX11_silent 21 = .ok (.ifCond .ne 9, 3) := by decide +kernel
theorem dX11_silent_24 : decode cX11_silent 24 = .ok (.aload_n 0, 1) := by decide +kernel
theorem dX11_silent_25 : decode cX11_silent 25 = .ok (.iconst (-1), 1) := by decide +kernel
theorem dX11_silent_26 : decode cX11_silent 26 = .ok (.invokevirtual 72, 3) := by decide +kernel
theorem dX11_silent_29 : decode cX11_silent 29 = .ok (.ireturn, 1) := by decide +kernel
theorem dX11_silent_30 : decode cX11_silent 30 = .ok (.aload_n 3, 1) := by decide +kernel
theorem dX11_silent_31 : decode cX11_silent 31 = .ok (.invokevirtual 119, 3) := by decide +kernel
theorem dX11_silent_34 : decode cX11_silent 34 = .ok (.iconst 1, 1) := by decide +kernel
theorem dX11_silent_35 : decode cX11_silent 35 = .ok (.if_icmp .eq 18, 3) := by decide +kernel
theorem dX11_silent_38 : decode cX11_silent 38 = .ok (.aload_n 3, 1) := by decide +kernel
theorem dX11_silent_39 : decode cX11_silent 39 = .ok (.invokevirtual 119, 3) := by decide +kernel
theorem dX11_silent_42 : decode cX11_silent 42 = .ok (.iconst 2, 1) := by decide +kernel
theorem dX11_silent_43 : decode cX11_silent 43 = .ok (.if_icmp .eq 10, 3) := by decide +kernel
theorem dX11_silent_46 : decode cX11_silent 46 = .ok (.aload_n 0, 1) := by decide +kernel
theorem dX11_silent_47 : decode cX11_silent 47 = .ok (.bipush (-2), 2) := by decide +kernel
