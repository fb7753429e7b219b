theorem dX12_quiz_117 : decode cX12_quiz 117 = .ok (.aload_n 0, 1) := by decide +kernel
theorem dX12_quiz_118 : decode cX12_quiz 118 = .ok (.iload_n 3, 1) := by decide +kernel
theorem dX12_quiz_119 : decode cX12_quiz 119 = .ok (.putfield 114, 3) := by decide +kernel
theorem dX12_quiz_122 : decode cX12_quiz 122 = .ok (.sipush (-2000), 3) := by decide +kernel
theorem dX12_quiz_125 : decode cX12_quiz 125 = .ok (.aload_n 0, 1) := by decide +kernel
theorem dX12_quiz_126 : decode cX12_quiz 126 = .ok (.getfield 68, 3) := by decide +kernel
theorem dX12_quiz_129 : decode cX12_quiz 129 = .ok (.iload 4, 2) := by decide +kernel
theorem dX12_quiz_131 : decode cX12_quiz 131 = .ok (.iaload, 1) := by decide +kernel
theorem dX12_quiz_132 : decode cX12_quiz 132 = .ok (.isub, 1) := by decide +kernel
theorem dX12_quiz_133 : decode cX12_quiz 133 = .ok (.ireturn, 1) := by decide +kernel
theorem dX12_quiz_134 : decode cX12_quiz 134 = .ok (.iinc 4 1, 3) := by decide +kernel
theorem dX12_quiz_137 : decode cX12_quiz 137 = .ok (.goto (-46), 3) := by decide +kernel
theorem dX12_quiz_140 : decode cX12_quiz 140 = .ok (.aload_n 0, 1) := by decide +kernel
theorem dX12_quiz_141 : decode cX12_quiz 141 = .ok (.getfield 157, 3) := by decide +kernel
theorem dX12_quiz_144 : decode cX12_quiz 144 = .ok (.ireturn, 1) := by decide +kernel
set_option maxRecDepth 20000 in
theorem ggX12_word_X12_isWord : GoodIn wsX12_word wsX12_isWord := goodIn_r _ [9, 10, 20, 21, 22, 23, 24, 25, 26, 27, 28, 29, 30, 31, 32, 33, 34, 35, 36, 37, 38, 39, 40, 41, 42, 43, 44, 45, 46, 47, 48, 49, 50, 51, 52, 53, 54, 55, 56, 57, 58, 59, 60, 61, 62, 63, 64, 65, 66, 67, 68, 69, 70, 71] (by decide +kernel) (by decide +kernel)
set_option maxRecDepth 20000 in
theorem gX12_word_X12_isWord : GoodIn wsX12_word (wsV RX12 166 RX12 yX12_isWord wsX12_isWord) := goodIn_app (goodIn_of _ (by decide +kernel)) ggX12_word_X12_isWord
set_option maxRecDepth 20000 in
theorem ggX12_word_X12_no : GoodIn wsX12_word wsX12_no := goodIn_r _ [14, 15, 20, 21, 22, 23, 24, 25, 26, 27, 28, 29, 30, 31, 32, 33, 34, 35, 36, 37, 38, 39, 40, 41, 42, 43, 44, 45, 46, 47, 48, 49, 50, 51, 52, 53, 54, 55, 56, 57, 58, 59, 60, 61, 62, 63, 64, 65, 66, 67, 68, 69, 70, 71] (by decide +kernel) (by decide +kernel)
set_option maxRecDepth 20000 in
theorem gX12_word_X12_no : GoodIn wsX12_word (wsV RX12 128 RX12 yX12_no wsX12_no) := goodIn_app (goodIn_of _ (by decide +kernel)) ggX12_word_X12_no
set_option maxRecDepth 20000 in
theorem ggX12_word_X12_nexts : GoodIn wsX12_word wsX12_nexts := goodIn_r _ [19, 10, 1, 20, 21, 22, 23, 24, 25, 26, 27, 28, 29, 30, 31, 32, 33, 34, 35, 36, 37, 38, 39, 40, 41, 42, 43, 44, 45, 46, 47, 48, 49, 50, 51, 52, 53, 54, 55, 56, 57, 58, 59, 60, 61, 62, 63, 64, 65, 66, 67, 68, 69, 70, 71] (by decide +kernel) (by decide +kernel)
set_option maxRecDepth 20000 in
theorem gX12_word_X12_nexts : GoodIn wsX12_word (wsV RX12 117 RX12 yX12_nexts wsX12_nexts) := goodIn_app (goodIn_of _ (by decide +kernel)) ggX12_word_X12_nexts
theorem dX12_word_0 : decode cX12_word 0 = .ok (.aload_n 0, 1) := by decide +kernel
theorem dX12_word_1 : decode cX12_word 1 = .ok (.iload_n 1, 1) := by decide +kernel
theorem dX12_word_2 : decode cX12_word 2 = .ok (.invokevirtual 166, 3) := by decide +kernel
theorem dX12_word_5 : decode cX12_word 5 = .ok (.ifCond .ne 9, 3) := by decide +kernel
theorem dX12_word_8 : decode cX12_word 8 = .ok (.aload_n 0, 1) := by decide +kernel
theorem dX12_word_9 : decode cX12_word 9 = .ok (.iconst (-1), 1) := by decide +kernel
theorem dX12_word_10 : decode cX12_word 10 = .ok (.invokevirtual 128, 3) := by decide +kernel
theorem dX12_word_13 : decode cX12_word 13 = .ok (.ireturn, 1) := by decide +kernel
theorem dX12_word_14 : decode cX12_word 14 = .ok (.iload_n 2, 1) := by decide +kernel
theorem dX12_word_15 : decode cX12_word 15 = .ok (.tableswitch 67 0 4 #[33, 40, 47, 54, 61], 33) := by decide +kernel
theorem dX12_word_48 : decode cX12_word 48 = .ok (.aload_n 0, 1) := by decide +kernel
theorem dX12_word_49 : decode cX12_word 49 = .ok (.getfield 13, 3) := by decide +kernel
theorem dX12_word_52 : decode cX12_word 52 = .ok (.iload_n 1, 1) := by decide +kernel
theorem dX12_word_53 : decode cX12_word 53 = .ok (.iaload, 1) := by decide +kernel
theorem dX12_word_54 : decode cX12_word 54 = .ok (.ireturn, 1) := by decide +kernel
theorem dX12_word_55 : decode cX12_word 55 = .ok (.aload_n 0, 1) := by decide +kernel
theorem dX12_word_56 : decode cX12_word 56 = .ok (.getfield 16, 3) := by decide +kernel
theorem dX12_word_59 : decode cX12_word 59 = .ok (.iload_n 1, 1) := by decide +kernel
theorem dX12_word_60 : decode cX12_word 60 = .ok (.iaload, 1) := by decide +kernel
theorem dX12_word_61 : decode cX12_word 61 = .ok (.ireturn, 1) := by decide +kernel
theorem dX12_word_62 : decode cX12_word 62 = .ok (.aload_n 0, 1) := by decide +kernel
theorem dX12_word_63 : decode cX12_word 63 = .ok (.getfield 19, 3) := by decide +kernel
theorem dX12_word_66 : decode cX12_word 66 = .ok (.iload_n 1, 1) := by decide +kernel
theorem dX12_word_67 : decode cX12_word 67 = .ok (.iaload, 1) := by decide +kernel
theorem dX12_word_68 : decode cX12_word 68 = .ok (.ireturn, 1) := by decide +kernel
theorem dX12_word_69 : decode cX12_word 69 = .ok (.aload_n 0, 1) := by decide +kernel
theorem dX12_word_70 : decode cX12_word 70 = .ok (.getfield 22, 3) := by decide +kernel
theorem dX12_word_73 : decode cX12_word 73 = .ok (.iload_n 1, 1) := by decide +kernel
theorem dX12_word_74 : decode cX12_word 74 = .ok (.iaload, 1) := by decide +kernel
theorem dX12_word_75 : decode cX12_word 75 = .ok (.ireturn, 1) := by decide +kernel
theorem dX12_word_76 : decode cX12_word 76 = .ok (.aload_n 0, 1) := by decide +kernel
theorem dX12_word_77 : decode cX12_word 77 = .ok (.iload_n 1, 1) := by decide +kernel
theorem dX12_word_78 : decode cX12_word 78 = .ok (.invokevirtual 117, 3) := by decide +kernel
theorem dX12_word_81 : decode cX12_word 81 = .ok (.ireturn, 1) := by decide +kernel
theorem dX12_word_82 : decode cX12_word 82 = .ok (.aload_n 0, 1) := by decide +kernel
theorem dX12_word_83 : decode cX12_word 83 = .ok (.bipush (-2), 2) := by decide +kernel
theorem dX12_word_85 : decode cX12_word 85 = .ok (.invokevirtual 128, 3) := by decide +kernel
theorem dX12_word_88 : decode cX12_word 88 = .ok (.ireturn, 1) := by decide +kernel
set_option maxRecDepth 20000 in
theorem ggX12_player_X12_isPlayer : GoodIn wsX12_player wsX12_isPlayer := goodIn_r _ [10, 11, 17, 18, 19, 20, 21, 22, 23, 24, 25, 26, 27, 28, 29, 30, 31, 32, 33, 34, 35, 36, 37, 38, 39, 40, 41, 42, 43, 44, 45, 46, 47, 48, 49, 50, 51, 52, 53, 54, 55, 56, 57, 58, 59, 60, 61, 62, 63, 64, 65, 66, 67, 68] (by decide +kernel) (by decide +kernel)
set_option maxRecDepth 20000 in
theorem gX12_player_X12_isPlayer : GoodIn wsX12_player (wsV RX12 180 RX12 yX12_isPlayer wsX12_isPlayer) := goodIn_app (goodIn_of _ (by decide +kernel)) ggX12_player_X12_isPlayer
set_option maxRecDepth 20000 in
theorem ggX12_player_X12_no : GoodIn wsX12_player wsX12_no := goodIn_r _ [15, 16, 17, 18, 19, 20, 21, 22, 23, 24, 25, 26, 27, 28, 29, 30, 31, 32, 33, 34, 35, 36, 37, 38, 39, 40, 41, 42, 43, 44, 45, 46, 47, 48, 49, 50, 51, 52, 53, 54, 55, 56, 57, 58, 59, 60, 61, 62, 63, 64, 65, 66, 67, 68] (by decide +kernel) (by decide +kernel)
set_option maxRecDepth 20000 in
theorem gX12_player_X12_no : GoodIn wsX12_player (wsV RX12 128 RX12 yX12_no wsX12_no) := goodIn_app (goodIn_of _ (by decide +kernel)) ggX12_player_X12_no
theorem dX12_player_0 : decode cX12_player 0 = .ok (.aload_n 0, 1) := by decide +kernel
theorem dX12_player_1 : decode cX12_player 1 = .ok (.iload_n 1, 1) := by decide +kernel
theorem dX12_player_2 : decode cX12_player 2 = .ok (.invokevirtual 180, 3) := by decide +kernel
theorem dX12_player_5 : decode cX12_player 5 = .ok (.ifCond .ne 9, 3) := by decide +kernel
theorem dX12_player_8 : decode cX12_player 8 = .ok (.aload_n 0, 1) := by decide +kernel
theorem dX12_player_9 : decode cX12_player 9 = .ok (.iconst (-1), 1) := by decide +kernel
theorem dX12_player_10 : decode cX12_player 10 = .ok (.invokevirtual 128, 3) := by decide +kernel
theorem dX12_player_13 : decode cX12_player 13 = .ok (.ireturn, 1) := by decide +kernel
theorem dX12_player_14 : decode cX12_player 14 = .ok (.iload_n 2, 1) := by decide +kernel
theorem dX12_player_15 : decode cX12_player 15 = .ok (.tableswitch 82 0 4 #[33, 40, 47, 54, 61], 33) := by decide +kernel
theorem dX12_player_48 : decode cX12_player 48 = .ok (.aload_n 0, 1) := by decide +kernel
theorem dX12_player_49 : decode cX12_player 49 = .ok (.getfield 25, 3) := by decide +kernel
theorem dX12_player_52 : decode cX12_player 52 = .ok (.iload_n 1, 1) := by decide +kernel
theorem dX12_player_53 : decode cX12_player 53 = .ok (.iaload, 1) := by decide +kernel
theorem dX12_player_54 : decode cX12_player 54 = .ok (.ireturn, 1) := by decide +kernel
theorem dX12_player_55 : decode cX12_player 55 = .ok (.aload_n 0, 1) := by decide +kernel
theorem dX12_player_56 : decode cX12_player 56 = .ok (.getfield 31, 3) := by decide +kernel
theorem dX12_player_59 : decode cX12_player 59 = .ok (.iload_n 1, 1) := by decide +kernel
theorem dX12_player_60 : decode cX12_player 60 = .ok (.iaload, 1) := by decide +kernel
theorem dX12_player_61 : decode cX12_player 61 = .ok (.ireturn, 1) := by decide +kernel
theorem dX12_player_62 : decode cX12_player 62 = .ok (.aload_n 0, 1) := by decide +kernel
theorem dX12_player_63 : decode cX12_player 63 = .ok (.getfield 34, 3) := by decide +kernel
theorem dX12_player_66 : decode cX12_player 66 = .ok (.iload_n 1, 1) := by decide +kernel
theorem dX12_player_67 : decode cX12_player 67 = .ok (.iaload, 1) := by decide +kernel
theorem dX12_player_68 : decode cX12_player 68 = .ok (.ireturn, 1) := by decide +kernel
theorem dX12_player_69 : decode cX12_player 69 = .ok (.aload_n 0, 1) := by decide +kernel
theorem dX12_player_70 : decode cX12_player 70 = .ok (.getfield 28, 3) := by decide +kernel
theorem dX12_player_73 : decode cX12_player 73 = .ok (.iload_n 1, 1) := by decide +kernel
theorem dX12_player_74 : decode cX12_player 74 = .ok (.iaload, 1) := by decide +kernel
theorem dX12_player_75 : decode cX12_player 75 = .ok (.ireturn, 1) := by decide +kernel
theorem dX12_player_76 : decode cX12_player 76 = .ok (.aload_n 0, 1) := by decide +kernel
theorem dX12_player_77 : decode cX12_player 77 = .ok (.getfield 25, 3) := by decide +kernel
theorem dX12_player_80 : decode cX12_player 80 = .ok (.iload_n 1, 1) := by decide +kernel
theorem dX12_player_81 : decode cX12_player 81 = .ok (.iaload, 1) := by decide +kernel
theorem dX12_player_82 : decode cX12_player 82 = .ok (.iconst 4, 1) := by decide +kernel
theorem dX12_player_83 : decode cX12_player 83 = .ok (.if_icmp .ne 12, 3) := by decide +kernel
theorem dX12_player_86 : decode cX12_player 86 = .ok (.aload_n 0, 1) := by decide +kernel
theorem dX12_player_87 : decode cX12_player 87 = .ok (.getfield 37, 3) := by decide +kernel
theorem dX12_player_90 : decode cX12_player 90 = .ok (.iload_n 1, 1) := by decide +kernel
theorem dX12_player_91 : decode cX12_player 91 = .ok (.iaload, 1) := by decide +kernel
theorem dX12_player_92 : decode cX12_player 92 = .ok (.goto 4, 3) := by decide +kernel
theorem dX12_player_95 : decode cX12_player 95 = .ok (.iconst 0, 1) := by decide +kernel
theorem dX12_player_96 : decode cX12_player 96 = .ok (.ireturn, 1) := by decide +kernel
theorem dX12_player_97 : decode cX12_player 97 = .ok (.aload_n 0, 1) := by decide +kernel
theorem dX12_player_98 : decode cX12_player 98 = .ok (.bipush (-2), 2) := by decide +kernel
theorem dX12_player_100 : decode cX12_player 100 = .ok (.invokevirtual 128, 3) := by decide +kernel
theorem dX12_player_103 : decode cX12_player 103 = .ok (.ireturn, 1) := by decide +kernel
set_option maxRecDepth 20000 in
theorem ggX12_whole_X12_isWhole : GoodIn wsX12_whole wsX12_isWhole := goodIn_r _ [5, 6, 7, 8, 9, 10, 4, 11, 12, 13, 14, 15, 16, 17, 18, 19, 20, 21, 22, 23, 24, 25, 26, 27, 28, 29, 30, 31, 32, 33, 34, 35, 36, 37, 38, 39, 40, 41, 42, 43, 44, 45, 46, 47, 48, 49, 50, 51, 52, 53, 54, 55, 56, 57, 58, 59, 60, 61, 62, 63, 64] (by decide +kernel) (by decide +kernel)
set_option maxRecDepth 20000 in
theorem gX12_whole_X12_isWhole : GoodIn wsX12_whole (wsV RX12 183 RX12 yX12_isWhole wsX12_isWhole) := goodIn_app (goodIn_of _ (by decide +kernel)) ggX12_whole_X12_isWhole
theorem dX12_whole_0 : decode cX12_whole 0 = .ok (.aload_n 0, 1) := by decide +kernel
theorem dX12_whole_1 : decode cX12_whole 1 = .ok (.invokevirtual 183, 3) := by decide +kernel
theorem dX12_whole_4 : decode cX12_whole 4 = .ok (.ifCond .eq 7, 3) := by decide +kernel
theorem dX12_whole_7 : decode cX12_whole 7 = .ok (.iconst 1, 1) := by decide +kernel
theorem dX12_whole_8 : decode cX12_whole 8 = .ok (.goto 4, 3) := by decide +kernel
theorem dX12_whole_11 : decode cX12_whole 11 = .ok (.iconst 0, 1) := by decide +kernel
theorem dX12_whole_12 : decode cX12_whole 12 = .ok (.ireturn, 1) := by decide +kernel
theorem dX12_isBehind_0 : decode cX12_isBehind 0 = .ok (.iload_n 1, 1) := by decide +kernel
theorem dX12_isBehind_1 : decode cX12_isBehind 1 = .ok (.istore_n 3, 1) := by decide +kernel
theorem dX12_isBehind_2 : decode cX12_isBehind 2 = .ok (.iload_n 3, 1) := by decide +kernel
theorem dX12_isBehind_3 : decode cX12_isBehind 3 = .ok (.iload_n 2, 1) := by decide +kernel
theorem dX12_isBehind_4 : decode cX12_isBehind 4 = .ok (.if_icmp .le 13, 3) := by decide +kernel
theorem dX12_isBehind_7 : decode cX12_isBehind 7 = .ok (.aload_n 0, 1) := by decide +kernel
theorem dX12_isBehind_8 : decode cX12_isBehind 8 = .ok (.getfield 13, 3) := by decide +kernel
theorem dX12_isBehind_11 : decode cX12_isBehind 11 = .ok (.iload_n 3, 1) := by decide +kernel
theorem dX12_isBehind_12 : decode cX12_isBehind 12 = .ok (.iaload, 1) := by decide +kernel
theorem dX12_isBehind_13 : decode cX12_isBehind 13 = .ok (.istore_n 3, 1) := by decide +kernel
theorem dX12_isBehind_14 : decode cX12_isBehind 14 = .ok (.goto (-12), 3) := by decide +kernel
theorem dX12_isBehind_17 : decode cX12_isBehind 17 = .ok (.iload_n 3, 1) := by decide +kernel
theorem dX12_isBehind_18 : decode cX12_isBehind 18 = .ok (.iload_n 2, 1) := by decide +kernel
theorem dX12_isBehind_19 : decode cX12_isBehind 19 = .ok (.if_icmp .ne 7, 3) := by decide +kernel
theorem dX12_isBehind_22 : decode cX12_isBehind 22 = .ok (.iconst 1, 1) := by decide +kernel
theorem dX12_isBehind_23 : decode cX12_isBehind 23 = .ok (.goto 4, 3) := by decide +kernel
theorem dX12_isBehind_26 : decode cX12_isBehind 26 = .ok (.iconst 0, 1) := by decide +kernel
theorem dX12_isBehind_27 : decode cX12_isBehind 27 = .ok (.ireturn, 1) := by decide +kernel
set_option maxRecDepth 20000 in
theorem ggX12_left_X12_isWord : GoodIn wsX12_left wsX12_isWord := goodIn_r _ [7, 1, 18, 19, 20, 21, 22, 23, 24, 25, 26, 27, 28, 29, 30, 31, 32, 33, 34, 35, 36, 37, 38, 39, 40, 41, 42, 43, 44, 45, 46, 47, 48, 49, 50, 51, 52, 53, 54, 55, 56, 57, 58, 59, 60, 61, 62, 63, 64, 65, 66, 67, 68, 69] (by decide +kernel) (by decide +kernel)
set_option maxRecDepth 20000 in
theorem gX12_left_X12_isWord : GoodIn wsX12_left (wsV RX12 166 RX12 yX12_isWord wsX12_isWord) := goodIn_app (goodIn_of _ (by decide +kernel)) ggX12_left_X12_isWord
set_option maxRecDepth 20000 in
theorem ggX12_left_X12_no : GoodIn wsX12_left wsX12_no := goodIn_r _ [11, 12, 18, 19, 20, 21, 22, 23, 24, 25, 26, 27, 28, 29, 30, 31, 32, 33, 34, 35, 36, 37, 38, 39, 40, 41, 42, 43, 44, 45, 46, 47, 48, 49, 50, 51, 52, 53, 54, 55, 56, 57, 58, 59, 60, 61, 62, 63, 64, 65, 66, 67, 68, 69] (by decide +kernel) (by decide +kernel)
set_option maxRecDepth 20000 in
theorem gX12_left_X12_no : GoodIn wsX12_left (wsV RX12 128 RX12 yX12_no wsX12_no) := goodIn_app (goodIn_of _ (by decide +kernel)) ggX12_left_X12_no
set_option maxRecDepth 20000 in
theorem ggX12_left_X12_isBehind : GoodIn wsX12_left wsX12_isBehind := goodIn_r _ [16, 17, 18, 19, 20, 21, 22, 23, 24, 25, 26, 27, 28, 29, 30, 31, 32, 33, 34, 35, 36, 37, 38, 39, 40, 41, 42, 43, 44, 45, 46, 47, 48, 49, 50, 51, 52, 53, 54, 55, 56, 57, 58, 59, 60, 61, 62, 63, 64, 65, 66, 67, 68, 69] (by decide +kernel) (by decide +kernel)
set_option maxRecDepth 20000 in
theorem gX12_left_X12_isBehind : GoodIn wsX12_left (wsV RX12 186 RX12 yX12_isBehind wsX12_isBehind) := goodIn_app (goodIn_of _ (by decide +kernel)) ggX12_left_X12_isBehind
theorem dX12_left_0 : decode cX12_left 0 = .ok (.aload_n 0, 1) := by decide +kernel
theorem dX12_left_1 : decode cX12_left 1 = .ok (.iload_n 1, 1) := by decide +kernel
theorem dX12_left_2 : decode cX12_left 2 = .ok (.invokevirtual 166, 3) := by decide +kernel
theorem dX12_left_5 : decode cX12_left 5 = .ok (.ifCond .ne 9, 3) := by decide +kernel
theorem dX12_left_8 : decode cX12_left 8 = .ok (.aload_n 0, 1) := by decide +kernel
theorem dX12_left_9 : decode cX12_left 9 = .ok (.iconst (-1), 1) := by decide +kernel
theorem dX12_left_10 : decode cX12_left 10 = .ok (.invokevirtual 128, 3) := by decide +kernel
theorem dX12_left_13 : decode cX12_left 13 = .ok (.ireturn, 1) := by decide +kernel
theorem dX12_left_14 : decode cX12_left 14 = .ok (.iconst 0, 1) := by decide +kernel
theorem dX12_left_15 : decode cX12_left 15 = .ok (.istore_n 2, 1) := by decide +kernel
theorem dX12_left_16 : decode cX12_left 16 = .ok (.iload_n 1, 1) := by decide +kernel
theorem dX12_left_17 : decode cX12_left 17 = .ok (.istore_n 3, 1) := by decide +kernel
theorem dX12_left_18 : decode cX12_left 18 = .ok (.iload_n 3, 1) := by decide +kernel
theorem dX12_left_19 : decode cX12_left 19 = .ok (.aload_n 0, 1) := by decide +kernel
theorem dX12_left_20 : decode cX12_left 20 = .ok (.getfield 46, 3) := by decide +kernel
theorem dX12_left_23 : decode cX12_left 23 = .ok (.if_icmp .ge 42, 3) := by decide +kernel
theorem dX12_left_26 : decode cX12_left 26 = .ok (.iload_n 2, 1) := by decide +kernel
theorem dX12_left_27 : decode cX12_left 27 = .ok (.aload_n 0, 1) := by decide +kernel
theorem dX12_left_28 : decode cX12_left 28 = .ok (.getfield 19, 3) := by decide +kernel
theorem dX12_left_31 : decode cX12_left 31 = .ok (.iload_n 3, 1) := by decide +kernel
theorem dX12_left_32 : decode cX12_left 32 = .ok (.iaload, 1) := by decide +kernel
theorem dX12_left_33 : decode cX12_left 33 = .ok (.ifCond .eq 23, 3) := by decide +kernel
theorem dX12_left_36 : decode cX12_left 36 = .ok (.aload_n 0, 1) := by decide +kernel
theorem dX12_left_37 : decode cX12_left 37 = .ok (.iload_n 3, 1) := by decide +kernel
theorem dX12_left_38 : decode cX12_left 38 = .ok (.iload_n 1, 1) := by decide +kernel
theorem dX12_left_39 : decode cX12_left 39 = .ok (.invokevirtual 186, 3) := by decide +kernel
theorem dX12_left_42 : decode cX12_left 42 = .ok (.ifCond .eq 14, 3) := by decide +kernel
theorem dX12_left_45 : decode cX12_left 45 = .ok (.iconst 1, 1) := by decide +kernel
theorem dX12_left_46 : decode cX12_left 46 = .ok (.aload_n 0, 1) := by decide +kernel
theorem dX12_left_47 : decode cX12_left 47 = .ok (.getfield 19, 3) := by decide +kernel
theorem dX12_left_50 : decode cX12_left 50 = .ok (.iload_n 3, 1) := by decide +kernel
theorem dX12_left_51 : decode cX12_left 51 = .ok (.iaload, 1) := by decide +kernel
theorem dX12_left_52 : decode cX12_left 52 = .ok (.ishl, 1) := by decide +kernel
theorem dX12_left_53 : decode cX12_left 53 = .ok (.goto 4, 3) := by decide +kernel
theorem dX12_left_56 : decode cX12_left 56 = .ok (.iconst 0, 1) := by decide +kernel
theorem dX12_left_57 : decode cX12_left 57 = .ok (.ior, 1) := by decide +kernel
theorem dX12_left_58 : decode cX12_left 58 = .ok (.istore_n 2, 1) := by decide +kernel
theorem dX12_left_59 : decode cX12_left 59 = .ok (.iinc 3 1, 3) := by decide +kernel
theorem dX12_left_62 : decode cX12_left 62 = .ok (.goto (-44), 3) := by decide +kernel
theorem dX12_left_65 : decode cX12_left 65 = .ok (.iload_n 2, 1) := by decide +kernel
theorem dX12_left_66 : decode cX12_left 66 = .ok (.ireturn, 1) := by decide +kernel
theorem dX12_divisor_0 : decode cX12_divisor 0 = .ok (.lload_n 0, 1) := by decide +kernel
theorem dX12_divisor_1 : decode cX12_divisor 1 = .ok (.lstore 4, 2) := by decide +kernel
theorem dX12_divisor_3 : decode cX12_divisor 3 = .ok (.lload_n 2, 1) := by decide +kernel
theorem dX12_divisor_4 : decode cX12_divisor 4 = .ok (.lstore 6, 2) := by decide +kernel
theorem dX12_divisor_6 : decode cX12_divisor 6 = .ok (.lload 6, 2) := by decide +kernel
theorem dX12_divisor_8 : decode cX12_divisor 8 = .ok (.lconst 0, 1) := by decide +kernel
theorem dX12_divisor_9 : decode cX12_divisor 9 = .ok (.lcmp, 1) := by decide +kernel
theorem dX12_divisor_10 : decode cX12_divisor 10 = .ok (.ifCond .eq 21, 3) := by decide +kernel
theorem dX12_divisor_13 : decode cX12_divisor 13 = .ok (.lload 4, 2) := by decide +kernel
theorem dX12_divisor_15 : decode cX12_divisor 15 = .ok (.lload 6, 2) := by decide +kernel
theorem dX12_divisor_17 : decode cX12_divisor 17 = .ok (.lrem, 1) := by decide +kernel
theorem dX12_divisor_18 : decode cX12_divisor 18 = .ok (.lstore 8, 2) := by decide +kernel
theorem dX12_divisor_20 : decode cX12_divisor 20 = .ok (.lload 6, 2) := by decide +kernel
theorem dX12_divisor_22 : decode cX12_divisor 22 = .ok (.lstore 4, 2) := by decide +kernel
theorem dX12_divisor_24 : decode cX12_divisor 24 = .ok (.lload 8, 2) := by decide +kernel
theorem dX12_divisor_26 : decode cX12_divisor 26 = .ok (.lstore 6, 2) := by decide +kernel
theorem dX12_divisor_28 : decode cX12_divisor 28 = .ok (.goto (-22), 3) := by decide +kernel
theorem dX12_divisor_31 : decode cX12_divisor 31 = .ok (.lload 4, 2) := by decide +kernel
theorem dX12_divisor_33 : decode cX12_divisor 33 = .ok (.lreturn, 1) := by decide +kernel
theorem dX12_sumOf_0 : decode cX12_sumOf 0 = .ok (.iconst 0, 1) := by decide +kernel
theorem dX12_sumOf_1 : decode cX12_sumOf 1 = .ok (.istore_n 2, 1) := by decide +kernel
theorem dX12_sumOf_2 : decode cX12_sumOf 2 = .ok (.iload_n 1, 1) := by decide +kernel
theorem dX12_sumOf_3 : decode cX12_sumOf 3 = .ok (.iconst 1, 1) := by decide +kernel
theorem dX12_sumOf_4 : decode cX12_sumOf 4 = .ok (.iadd, 1) := by decide +kernel
theorem dX12_sumOf_5 : decode cX12_sumOf 5 = .ok (.istore_n 3, 1) := by decide +kernel
theorem dX12_sumOf_6 : decode cX12_sumOf 6 = .ok (.iload_n 3, 1) := by decide +kernel
theorem dX12_sumOf_7 : decode cX12_sumOf 7 = .ok (.aload_n 0, 1) := by decide +kernel
theorem dX12_sumOf_8 : decode cX12_sumOf 8 = .ok (.getfield 46, 3) := by decide +kernel
theorem dX12_sumOf_11 : decode cX12_sumOf 11 = .ok (.if_icmp .ge 32, 3) := by decide +kernel
theorem dX12_sumOf_14 : decode cX12_sumOf 14 = .ok (.iload_n 2, 1) := by decide +kernel
theorem dX12_sumOf_15 : decode cX12_sumOf 15 = .ok (.aload_n 0, 1) := by decide +kernel
theorem dX12_sumOf_16 : decode cX12_sumOf 16 = .ok (.getfield 13, 3) := by decide +kernel
theorem dX12_sumOf_19 : decode cX12_sumOf 19 = .ok (.iload_n 3, 1) := by decide +kernel
theorem dX12_sumOf_20 : decode cX12_sumOf 20 = .ok (.iaload, 1) := by decide +kernel
theorem dX12_sumOf_21 : decode cX12_sumOf 21 = .ok (.iload_n 1, 1) := by decide +kernel
theorem dX12_sumOf_22 : decode cX12_sumOf 22 = .ok (.if_icmp .ne 12, 3) := by decide +kernel
theorem dX12_sumOf_25 : decode cX12_sumOf 25 = .ok (.aload_n 0, 1) := by decide +kernel
theorem dX12_sumOf_26 : decode cX12_sumOf 26 = .ok (.getfield 16, 3) := by decide +kernel
theorem dX12_sumOf_29 : decode cX12_sumOf 29 = .ok (.iload_n 3, 1) := by decide +kernel
theorem dX12_sumOf_30 : decode cX12_sumOf 30 = .ok (.iaload, 1) := by decide +kernel
theorem dX12_sumOf_31 : decode cX12_sumOf 31 = .ok (.goto 4, 3) := by decide +kernel
theorem dX12_sumOf_34 : decode cX12_sumOf 34 = .ok (.iconst 0, 1) := by decide +kernel
theorem dX12_sumOf_35 : decode cX12_sumOf 35 = .ok (.iadd, 1) := by decide +kernel
theorem dX12_sumOf_36 : decode cX12_sumOf 36 = .ok (.istore_n 2, 1) := by decide +kernel
theorem dX12_sumOf_37 : decode cX12_sumOf 37 = .ok (.iinc 3 1, 3) := by decide +kernel
theorem dX12_sumOf_40 : decode cX12_sumOf 40 = .ok (.goto (-34), 3) := by decide +kernel
theorem dX12_sumOf_43 : decode cX12_sumOf 43 = .ok (.iload_n 2, 1) := by decide +kernel
theorem dX12_sumOf_44 : decode cX12_sumOf 44 = .ok (.ireturn, 1) := by decide +kernel
set_option maxRecDepth 20000 in
theorem ggX12_commonOf_X12_divisor : GoodIn wsX12_commonOf wsX12_divisor := goodIn_r _ [7] (by decide +kernel) (by decide +kernel)
set_option maxRecDepth 20000 in
theorem gX12_commonOf_X12_divisor : GoodIn wsX12_commonOf (va_wsS RX12 190 yX12_divisor wsX12_divisor) := goodIn_app (goodIn_of _ (by decide +kernel)) ggX12_commonOf_X12_divisor
theorem dX12_commonOf_0 : decode cX12_commonOf 0 = .ok (.iconst 0, 1) := by decide +kernel
theorem dX12_commonOf_1 : decode cX12_commonOf 1 = .ok (.istore_n 2, 1) := by decide +kernel
theorem dX12_commonOf_2 : decode cX12_commonOf 2 = .ok (.iload_n 1, 1) := by decide +kernel
theorem dX12_commonOf_3 : decode cX12_commonOf 3 = .ok (.iconst 1, 1) := by decide +kernel
theorem dX12_commonOf_4 : decode cX12_commonOf 4 = .ok (.iadd, 1) := by decide +kernel
theorem dX12_commonOf_5 : decode cX12_commonOf 5 = .ok (.istore_n 3, 1) := by decide +kernel
theorem dX12_commonOf_6 : decode cX12_commonOf 6 = .ok (.iload_n 3, 1) := by decide +kernel
theorem dX12_commonOf_7 : decode cX12_commonOf 7 = .ok (.aload_n 0, 1) := by decide +kernel
theorem dX12_commonOf_8 : decode cX12_commonOf 8 = .ok (.getfield 46, 3) := by decide +kernel
theorem dX12_commonOf_11 : decode cX12_commonOf 11 = .ok (.if_icmp .ge 37, 3) := by decide +kernel
theorem dX12_commonOf_14 : decode cX12_commonOf 14 = .ok (.aload_n 0, 1) := by decide +kernel
theorem dX12_commonOf_15 : decode cX12_commonOf 15 = .ok (.getfield 13, 3) := by decide +kernel
theorem dX12_commonOf_18 : decode cX12_commonOf 18 = .ok (.iload_n 3, 1) := by decide +kernel
theorem dX12_commonOf_19 : decode cX12_commonOf 19 = .ok (.iaload, 1) := by decide +kernel
theorem dX12_commonOf_20 : decode cX12_commonOf 20 = .ok (.iload_n 1, 1) := by decide +kernel
theorem dX12_commonOf_21 : decode cX12_commonOf 21 = .ok (.if_icmp .ne 19, 3) := by decide +kernel
theorem dX12_commonOf_24 : decode cX12_commonOf 24 = .ok (.aload_n 0, 1) := by decide +kernel
theorem dX12_commonOf_25 : decode cX12_commonOf 25 = .ok (.getfield 16, 3) := by decide +kernel
theorem dX12_commonOf_28 : decode cX12_commonOf 28 = .ok (.iload_n 3, 1) := by decide +kernel
theorem dX12_commonOf_29 : decode cX12_commonOf 29 = .ok (.iaload, 1) := by decide +kernel
theorem dX12_commonOf_30 : decode cX12_commonOf 30 = .ok (.i2l, 1) := by decide +kernel
theorem dX12_commonOf_31 : decode cX12_commonOf 31 = .ok (.iload_n 2, 1) := by decide +kernel
theorem dX12_commonOf_32 : decode cX12_commonOf 32 = .ok (.i2l, 1) := by decide +kernel
theorem dX12_commonOf_33 : decode cX12_commonOf 33 = .ok (.invokestatic 190, 3) := by decide +kernel
theorem dX12_commonOf_36 : decode cX12_commonOf 36 = .ok (.l2i, 1) := by decide +kernel
theorem dX12_commonOf_37 : decode cX12_commonOf 37 = .ok (.goto 4, 3) := by decide +kernel
theorem dX12_commonOf_40 : decode cX12_commonOf 40 = .ok (.iload_n 2, 1) := by decide +kernel
theorem dX12_commonOf_41 : decode cX12_commonOf 41 = .ok (.istore_n 2, 1) := by decide +kernel
theorem dX12_commonOf_42 : decode cX12_commonOf 42 = .ok (.iinc 3 1, 3) := by decide +kernel
theorem dX12_commonOf_45 : decode cX12_commonOf 45 = .ok (.goto (-39), 3) := by decide +kernel
theorem dX12_commonOf_48 : decode cX12_commonOf 48 = .ok (.iload_n 2, 1) := by decide +kernel
theorem dX12_commonOf_49 : decode cX12_commonOf 49 = .ok (.ireturn, 1) := by decide +kernel
set_option maxRecDepth 20000 in
theorem ggX12_findShares_X12_sumOf : GoodIn wsX12_findShares wsX12_sumOf := goodIn_r _ [12, 2, 5, 6, 20, 21, 22, 23, 24, 25, 26, 27, 28, 29, 30, 31, 32, 33, 34, 35, 36, 37, 38, 39, 40, 41, 42, 43, 44, 45, 46, 47, 48, 49, 50, 51, 52, 53, 54, 55, 56, 57, 58, 59, 60, 61, 62, 63, 64, 65, 66, 67, 68, 69, 70, 71] (by decide +kernel) (by decide +kernel)
set_option maxRecDepth 20000 in
theorem gX12_findShares_X12_sumOf : GoodIn wsX12_findShares (wsV RX12 198 RX12 yX12_sumOf wsX12_sumOf) := goodIn_app (goodIn_of _ (by decide +kernel)) ggX12_findShares_X12_sumOf
set_option maxRecDepth 20000 in
theorem ggX12_findShares_X12_commonOf : GoodIn wsX12_findShares wsX12_commonOf := goodIn_r _ [16, 2, 5, 6, 17, 18, 11, 19, 20, 21, 22, 23, 24, 25, 26, 27, 28, 29, 30, 31, 32, 33, 34, 35, 36, 37, 38, 39, 40, 41, 42, 43, 44, 45, 46, 47, 48, 49, 50, 51, 52, 53, 54, 55, 56, 57, 58, 59, 60, 61, 62, 63, 64, 65, 66, 67, 68, 69, 70, 71] (by decide +kernel) (by decide +kernel)
set_option maxRecDepth 20000 in
theorem gX12_findShares_X12_commonOf : GoodIn wsX12_findShares (wsV RX12 201 RX12 yX12_commonOf wsX12_commonOf) := goodIn_app (goodIn_of _ (by decide +kernel)) ggX12_findShares_X12_commonOf
theorem dX12_findShares_0 : decode cX12_findShares 0 = .ok (.aload_n 0, 1) := by decide +kernel
theorem dX12_findShares_1 : decode cX12_findShares 1 = .ok (.lconst 1, 1) := by decide +kernel
theorem dX12_findShares_2 : decode cX12_findShares 2 = .ok (.putfield 194, 3) := by decide +kernel
theorem dX12_findShares_5 : decode cX12_findShares 5 = .ok (.iconst 0, 1) := by decide +kernel
theorem dX12_findShares_6 : decode cX12_findShares 6 = .ok (.istore_n 1, 1) := by decide +kernel
theorem dX12_findShares_7 : decode cX12_findShares 7 = .ok (.iload_n 1, 1) := by decide +kernel
theorem dX12_findShares_8 : decode cX12_findShares 8 = .ok (.aload_n 0, 1) := by decide +kernel
theorem dX12_findShares_9 : decode cX12_findShares 9 = .ok (.getfield 46, 3) := by decide +kernel
theorem dX12_findShares_12 : decode cX12_findShares 12 = .ok (.if_icmp .ge 43, 3) := by decide +kernel
theorem dX12_findShares_15 : decode cX12_findShares 15 = .ok (.aload_n 0, 1) := by decide +kernel
theorem dX12_findShares_16 : decode cX12_findShares 16 = .ok (.dup, 1) := by decide +kernel
theorem dX12_findShares_17 : decode cX12_findShares 17 = .ok (.getfield 194, 3) := by decide +kernel
theorem dX12_findShares_20 : decode cX12_findShares 20 = .ok (.aload_n 0, 1) := by decide +kernel
theorem dX12_findShares_21 : decode cX12_findShares 21 = .ok (.getfield 19, 3) := by decide +kernel
theorem dX12_findShares_24 : decode cX12_findShares 24 = .ok (.iload_n 1, 1) := by decide +kernel
theorem dX12_findShares_25 : decode cX12_findShares 25 = .ok (.iaload, 1) := by decide +kernel
theorem dX12_findShares_26 : decode cX12_findShares 26 = .ok (.ifCond .ne 18, 3) := by decide +kernel
theorem dX12_findShares_29 : decode cX12_findShares 29 = .ok (.aload_n 0, 1) := by decide +kernel
theorem dX12_findShares_30 : decode cX12_findShares 30 = .ok (.iload_n 1, 1) := by decide +kernel
theorem dX12_findShares_31 : decode cX12_findShares 31 = .ok (.invokevirtual 198, 3) := by decide +kernel
theorem dX12_findShares_34 : decode cX12_findShares 34 = .ok (.aload_n 0, 1) := by decide +kernel
theorem dX12_findShares_35 : decode cX12_findShares 35 = .ok (.iload_n 1, 1) := by decide +kernel
theorem dX12_findShares_36 : decode cX12_findShares 36 = .ok (.invokevirtual 201, 3) := by decide +kernel
theorem dX12_findShares_39 : decode cX12_findShares 39 = .ok (.idiv, 1) := by decide +kernel
theorem dX12_findShares_40 : decode cX12_findShares 40 = .ok (.i2l, 1) := by decide +kernel
theorem dX12_findShares_41 : decode cX12_findShares 41 = .ok (.goto 4, 3) := by decide +kernel
theorem dX12_findShares_44 : decode cX12_findShares 44 = .ok (.lconst 1, 1) := by decide +kernel
theorem dX12_findShares_45 : decode cX12_findShares 45 = .ok (.lmul, 1) := by decide +kernel
theorem dX12_findShares_46 : decode cX12_findShares 46 = .ok (.putfield 194, 3) := by decide +kernel
theorem dX12_findShares_49 : decode cX12_findShares 49 = .ok (.iinc 1 1, 3) := by decide +kernel
theorem dX12_findShares_52 : decode cX12_findShares 52 = .ok (.goto (-45), 3) := by decide +kernel
theorem dX12_findShares_55 : decode cX12_findShares 55 = .ok (.aload_n 0, 1) := by decide +kernel
theorem dX12_findShares_56 : decode cX12_findShares 56 = .ok (.getfield 71, 3) := by decide +kernel
theorem dX12_findShares_59 : decode cX12_findShares 59 = .ok (.iconst 0, 1) := by decide +kernel
theorem dX12_findShares_60 : decode cX12_findShares 60 = .ok (.aload_n 0, 1) := by decide +kernel
theorem dX12_findShares_61 : decode cX12_findShares 61 = .ok (.getfield 194, 3) := by decide +kernel
theorem dX12_findShares_64 : decode cX12_findShares 64 = .ok (.lastore, 1) := by decide +kernel
theorem dX12_findShares_65 : decode cX12_findShares 65 = .ok (.iconst 1, 1) := by decide +kernel
theorem dX12_findShares_66 : decode cX12_findShares 66 = .ok (.istore_n 1, 1) := by decide +kernel
theorem dX12_findShares_67 : decode cX12_findShares 67 = .ok (.iload_n 1, 1) := by decide +kernel
theorem dX12_findShares_68 : decode cX12_findShares 68 = .ok (.aload_n 0, 1) := by decide +kernel
theorem dX12_findShares_69 : decode cX12_findShares 69 = .ok (.getfield 46, 3) := by decide +kernel
theorem dX12_findShares_72 : decode cX12_findShares 72 = .ok (.if_icmp .ge 61, 3) := by decide +kernel
theorem dX12_findShares_75 : decode cX12_findShares 75 = .ok (.aload_n 0, 1) := by decide +kernel
theorem dX12_findShares_76 : decode cX12_findShares 76 = .ok (.aload_n 0, 1) := by decide +kernel
theorem dX12_findShares_77 : decode cX12_findShares 77 = .ok (.getfield 13, 3) := by decide +kernel
theorem dX12_findShares_80 : decode cX12_findShares 80 = .ok (.iload_n 1, 1) := by decide +kernel
theorem dX12_findShares_81 : decode cX12_findShares 81 = .ok (.iaload, 1) := by decide +kernel
theorem dX12_findShares_82 : decode cX12_findShares 82 = .ok (.invokevirtual 201, 3) := by decide +kernel
theorem dX12_findShares_85 : decode cX12_findShares 85 = .ok (.istore_n 2, 1) := by decide +kernel
theorem dX12_findShares_86 : decode cX12_findShares 86 = .ok (.aload_n 0, 1) := by decide +kernel
theorem dX12_findShares_87 : decode cX12_findShares 87 = .ok (.getfield 71, 3) := by decide +kernel
theorem dX12_findShares_90 : decode cX12_findShares 90 = .ok (.iload_n 1, 1) := by decide +kernel
theorem dX12_findShares_91 : decode cX12_findShares 91 = .ok (.aload_n 0, 1) := by decide +kernel
theorem dX12_findShares_92 : decode cX12_findShares 92 = .ok (.getfield 71, 3) := by decide +kernel
theorem dX12_findShares_95 : decode cX12_findShares 95 = .ok (.aload_n 0, 1) := by decide +kernel
theorem dX12_findShares_96 : decode cX12_findShares 96 = .ok (.getfield 13, 3) := by decide +kernel
theorem dX12_findShares_99 : decode cX12_findShares 99 = .ok (.iload_n 1, 1) := by decide +kernel
theorem dX12_findShares_100 : decode cX12_findShares 100 = .ok (.iaload, 1) := by decide +kernel
theorem dX12_findShares_101 : decode cX12_findShares 101 = .ok (.laload, 1) := by decide +kernel
theorem dX12_findShares_102 : decode cX12_findShares 102 = .ok (.aload_n 0, 1) := by decide +kernel
theorem dX12_findShares_103 : decode cX12_findShares 103 = .ok (.aload_n 0, 1) := by decide +kernel
theorem dX12_findShares_104 : decode cX12_findShares 104 = .ok (.getfield 13, 3) := by decide +kernel
theorem dX12_findShares_107 : decode cX12_findShares 107 = .ok (.iload_n 1, 1) := by decide +kernel
theorem dX12_findShares_108 : decode cX12_findShares 108 = .ok (.iaload, 1) := by decide +kernel
theorem dX12_findShares_109 : decode cX12_findShares 109 = .ok (.invokevirtual 198, 3) := by decide +kernel
theorem dX12_findShares_112 : decode cX12_findShares 112 = .ok (.iload_n 2, 1) := by decide +kernel
theorem dX12_findShares_113 : decode cX12_findShares 113 = .ok (.idiv, 1) := by decide +kernel
theorem dX12_findShares_114 : decode cX12_findShares 114 = .ok (.i2l, 1) := by decide +kernel
theorem dX12_findShares_115 : decode cX12_findShares 115 = .ok (.ldiv, 1) := by decide +kernel
theorem dX12_findShares_116 : decode cX12_findShares 116 = .ok (.aload_n 0, 1) := by decide +kernel
theorem dX12_findShares_117 : decode cX12_findShares 117 = .ok (.getfield 16, 3) := by decide +kernel
theorem dX12_findShares_120 : decode cX12_findShares 120 = .ok (.iload_n 1, 1) := by decide +kernel
theorem dX12_findShares_121 : decode cX12_findShares 121 = .ok (.iaload, 1) := by decide +kernel
theorem dX12_findShares_122 : decode cX12_findShares 122 = .ok (.iload_n 2, 1) := by decide +kernel
theorem dX12_findShares_123 : decode cX12_findShares 123 = .ok (.idiv, 1) := by decide +kernel
theorem dX12_findShares_124 : decode cX12_findShares 124 = .ok (.i2l, 1) := by decide +kernel
theorem dX12_findShares_125 : decode cX12_findShares 125 = .ok (.lmul, 1) := by decide +kernel
theorem dX12_findShares_126 : decode cX12_findShares 126 = .ok (.lastore, 1) := by decide +kernel
theorem dX12_findShares_127 : decode cX12_findShares 127 = .ok (.iinc 1 1, 3) := by decide +kernel
theorem dX12_findShares_130 : decode cX12_findShares 130 = .ok (.goto (-63), 3) := by decide +kernel
theorem dX12_findShares_133 : decode cX12_findShares 133 = .ok (.iconst 0, 1) := by decide +kernel
theorem dX12_findShares_134 : decode cX12_findShares 134 = .ok (.istore_n 1, 1) := by decide +kernel
theorem dX12_findShares_135 : decode cX12_findShares 135 = .ok (.iload_n 1, 1) := by decide +kernel
theorem dX12_findShares_136 : decode cX12_findShares 136 = .ok (.bipush 10, 2) := by decide +kernel
theorem dX12_findShares_138 : decode cX12_findShares 138 = .ok (.aload_n 0, 1) := by decide +kernel
theorem dX12_findShares_139 : decode cX12_findShares 139 = .ok (.getfield 46, 3) := by decide +kernel
theorem dX12_findShares_142 : decode cX12_findShares 142 = .ok (.imul, 1) := by decide +kernel
theorem dX12_findShares_143 : decode cX12_findShares 143 = .ok (.if_icmp .ge 16, 3) := by decide +kernel
theorem dX12_findShares_146 : decode cX12_findShares 146 = .ok (.aload_n 0, 1) := by decide +kernel
theorem dX12_findShares_147 : decode cX12_findShares 147 = .ok (.getfield 75, 3) := by decide +kernel
theorem dX12_findShares_150 : decode cX12_findShares 150 = .ok (.iload_n 1, 1) := by decide +kernel
theorem dX12_findShares_151 : decode cX12_findShares 151 = .ok (.lconst 0, 1) := by decide +kernel
theorem dX12_findShares_152 : decode cX12_findShares 152 = .ok (.lastore, 1) := by decide +kernel
theorem dX12_findShares_153 : decode cX12_findShares 153 = .ok (.iinc 1 1, 3) := by decide +kernel
theorem dX12_findShares_156 : decode cX12_findShares 156 = .ok (.goto (-21), 3) := by decide +kernel
theorem dX12_findShares_159 : decode cX12_findShares 159 = .ok (.iconst 1, 1) := by decide +kernel
theorem dX12_findShares_160 : decode cX12_findShares 160 = .ok (.istore_n 1, 1) := by decide +kernel
theorem dX12_findShares_161 : decode cX12_findShares 161 = .ok (.iload_n 1, 1) := by decide +kernel
theorem dX12_findShares_162 : decode cX12_findShares 162 = .ok (.aload_n 0, 1) := by decide +kernel
theorem dX12_findShares_163 : decode cX12_findShares 163 = .ok (.getfield 46, 3) := by decide +kernel
theorem dX12_findShares_166 : decode cX12_findShares 166 = .ok (.if_icmp .ge 82, 3) := by decide +kernel
theorem dX12_findShares_169 : decode cX12_findShares 169 = .ok (.aload_n 0, 1) := by decide +kernel
theorem dX12_findShares_170 : decode cX12_findShares 170 = .ok (.getfield 19, 3) := by decide +kernel
theorem dX12_findShares_173 : decode cX12_findShares 173 = .ok (.iload_n 1, 1) := by decide +kernel
theorem dX12_findShares_174 : decode cX12_findShares 174 = .ok (.iaload, 1) := by decide +kernel
theorem dX12_findShares_175 : decode cX12_findShares 175 = .ok (.ifCond .ne 6, 3) := by decide +kernel
theorem dX12_findShares_178 : decode cX12_findShares 178 = .ok (.goto 64, 3) := by decide +kernel
theorem dX12_findShares_181 : decode cX12_findShares 181 = .ok (.iload_n 1, 1) := by decide +kernel
theorem dX12_findShares_182 : decode cX12_findShares 182 = .ok (.istore_n 2, 1) := by decide +kernel
theorem dX12_findShares_183 : decode cX12_findShares 183 = .ok (.iload_n 2, 1) := by decide +kernel
theorem dX12_findShares_184 : decode cX12_findShares 184 = .ok (.ifCond .le 38, 3) := by decide +kernel
theorem dX12_findShares_187 : decode cX12_findShares 187 = .ok (.aload_n 0, 1) := by decide +kernel
theorem dX12_findShares_188 : decode cX12_findShares 188 = .ok (.getfield 75, 3) := by decide +kernel
theorem dX12_findShares_191 : decode cX12_findShares 191 = .ok (.bipush 10, 2) := by decide +kernel
theorem dX12_findShares_193 : decode cX12_findShares 193 = .ok (.iload_n 2, 1) := by decide +kernel
theorem dX12_findShares_194 : decode cX12_findShares 194 = .ok (.imul, 1) := by decide +kernel
theorem dX12_findShares_195 : decode cX12_findShares 195 = .ok (.aload_n 0, 1) := by decide +kernel
theorem dX12_findShares_196 : decode cX12_findShares 196 = .ok (.getfield 19, 3) := by decide +kernel
theorem dX12_findShares_199 : decode cX12_findShares 199 = .ok (.iload_n 1, 1) := by decide +kernel
theorem dX12_findShares_200 : decode cX12_findShares 200 = .ok (.iaload, 1) := by decide +kernel
theorem dX12_findShares_201 : decode cX12_findShares 201 = .ok (.iadd, 1) := by decide +kernel
theorem dX12_findShares_202 : decode cX12_findShares 202 = .ok (.dup2, 1) := by decide +kernel
theorem dX12_findShares_203 : decode cX12_findShares 203 = .ok (.laload, 1) := by decide +kernel
theorem dX12_findShares_204 : decode cX12_findShares 204 = .ok (.aload_n 0, 1) := by decide +kernel
theorem dX12_findShares_205 : decode cX12_findShares 205 = .ok (.getfield 71, 3) := by decide +kernel
theorem dX12_findShares_208 : decode cX12_findShares 208 = .ok (.iload_n 1, 1) := by decide +kernel
theorem dX12_findShares_209 : decode cX12_findShares 209 = .ok (.laload, 1) := by decide +kernel
theorem dX12_findShares_210 : decode cX12_findShares 210 = .ok (.ladd, 1) := by decide +kernel
theorem dX12_findShares_211 : decode cX12_findShares 211 = .ok (.lastore, 1) := by decide +kernel
theorem dX12_findShares_212 : decode cX12_findShares 212 = .ok (.aload_n 0, 1) := by decide +kernel
theorem dX12_findShares_213 : decode cX12_findShares 213 = .ok (.getfield 13, 3) := by decide +kernel
theorem dX12_findShares_216 : decode cX12_findShares 216 = .ok (.iload_n 2, 1) := by decide +kernel
theorem dX12_findShares_217 : decode cX12_findShares 217 = .ok (.iaload, 1) := by decide +kernel
theorem dX12_findShares_218 : decode cX12_findShares 218 = .ok (.istore_n 2, 1) := by decide +kernel
theorem dX12_findShares_219 : decode cX12_findShares 219 = .ok (.goto (-36), 3) := by decide +kernel
theorem dX12_findShares_222 : decode cX12_findShares 222 = .ok (.aload_n 0, 1) := by decide +kernel
theorem dX12_findShares_223 : decode cX12_findShares 223 = .ok (.getfield 75, 3) := by decide +kernel
theorem dX12_findShares_226 : decode cX12_findShares 226 = .ok (.aload_n 0, 1) := by decide +kernel
theorem dX12_findShares_227 : decode cX12_findShares 227 = .ok (.getfield 19, 3) := by decide +kernel
theorem dX12_findShares_230 : decode cX12_findShares 230 = .ok (.iload_n 1, 1) := by decide +kernel
theorem dX12_findShares_231 : decode cX12_findShares 231 = .ok (.iaload, 1) := by decide +kernel
theorem dX12_findShares_232 : decode cX12_findShares 232 = .ok (.dup2, 1) := by decide +kernel
theorem dX12_findShares_233 : decode cX12_findShares 233 = .ok (.laload, 1) := by decide +kernel
theorem dX12_findShares_234 : decode cX12_findShares 234 = .ok (.aload_n 0, 1) := by decide +kernel
theorem dX12_findShares_235 : decode cX12_findShares 235 = .ok (.getfield 71, 3) := by decide +kernel
theorem dX12_findShares_238 : decode cX12_findShares 238 = .ok (.iload_n 1, 1) := by decide +kernel
theorem dX12_findShares_239 : decode cX12_findShares 239 = .ok (.laload, 1) := by decide +kernel
theorem dX12_findShares_240 : decode cX12_findShares 240 = .ok (.ladd, 1) := by decide +kernel
theorem dX12_findShares_241 : decode cX12_findShares 241 = .ok (.lastore, 1) := by decide +kernel
theorem dX12_findShares_242 : decode cX12_findShares 242 = .ok (.iinc 1 1, 3) := by decide +kernel
theorem dX12_findShares_245 : decode cX12_findShares 245 = .ok (.goto (-84), 3) := by decide +kernel
theorem dX12_findShares_248 : decode cX12_findShares 248 = .ok (.return_, 1) := by decide +kernel
theorem dX12_guessOf_0 : decode cX12_guessOf 0 = .ok (.iconst 0, 1) := by decide +kernel
theorem dX12_guessOf_1 : decode cX12_guessOf 1 = .ok (.istore_n 3, 1) := by decide +kernel
theorem dX12_guessOf_2 : decode cX12_guessOf 2 = .ok (.iconst 1, 1) := by decide +kernel
theorem dX12_guessOf_3 : decode cX12_guessOf 3 = .ok (.istore 4, 2) := by decide +kernel
theorem dX12_guessOf_5 : decode cX12_guessOf 5 = .ok (.iload 4, 2) := by decide +kernel
theorem dX12_guessOf_7 : decode cX12_guessOf 7 = .ok (.bipush 10, 2) := by decide +kernel
theorem dX12_guessOf_9 : decode cX12_guessOf 9 = .ok (.if_icmp .ge 57, 3) := by decide +kernel
theorem dX12_guessOf_12 : decode cX12_guessOf 12 = .ok (.iload_n 1, 1) := by decide +kernel
theorem dX12_guessOf_13 : decode cX12_guessOf 13 = .ok (.iload 4, 2) := by decide +kernel
theorem dX12_guessOf_15 : decode cX12_guessOf 15 = .ok (.ishr, 1) := by decide +kernel
theorem dX12_guessOf_16 : decode cX12_guessOf 16 = .ok (.iconst 1, 1) := by decide +kernel
theorem dX12_guessOf_17 : decode cX12_guessOf 17 = .ok (.iand, 1) := by decide +kernel
theorem dX12_guessOf_18 : decode cX12_guessOf 18 = .ok (.iconst 1, 1) := by decide +kernel
theorem dX12_guessOf_19 : decode cX12_guessOf 19 = .ok (.if_icmp .ne 41, 3) := by decide +kernel
theorem dX12_guessOf_22 : decode cX12_guessOf 22 = .ok (.aload_n 0, 1) := by decide +kernel
theorem dX12_guessOf_23 : decode cX12_guessOf 23 = .ok (.getfield 75, 3) := by decide +kernel
theorem dX12_guessOf_26 : decode cX12_guessOf 26 = .ok (.bipush 10, 2) := by decide +kernel
theorem dX12_guessOf_28 : decode cX12_guessOf 28 = .ok (.iload_n 2, 1) := by decide +kernel
theorem dX12_guessOf_29 : decode cX12_guessOf 29 = .ok (.imul, 1) := by decide +kernel
theorem dX12_guessOf_30 : decode cX12_guessOf 30 = .ok (.iload 4, 2) := by decide +kernel
theorem dX12_guessOf_32 : decode cX12_guessOf 32 = .ok (.iadd, 1) := by decide +kernel
theorem dX12_guessOf_33 : decode cX12_guessOf 33 = .ok (.laload, 1) := by decide +kernel
theorem dX12_guessOf_34 : decode cX12_guessOf 34 = .ok (.iload_n 3, 1) := by decide +kernel
theorem dX12_guessOf_35 : decode cX12_guessOf 35 = .ok (.ifCond .ne 7, 3) := by decide +kernel
theorem dX12_guessOf_38 : decode cX12_guessOf 38 = .ok (.lconst 0, 1) := by decide +kernel
theorem dX12_guessOf_39 : decode cX12_guessOf 39 = .ok (.goto 14, 3) := by decide +kernel
theorem dX12_guessOf_42 : decode cX12_guessOf 42 = .ok (.aload_n 0, 1) := by decide +kernel
theorem dX12_guessOf_43 : decode cX12_guessOf 43 = .ok (.getfield 75, 3) := by decide +kernel
theorem dX12_guessOf_46 : decode cX12_guessOf 46 = .ok (.bipush 10, 2) := by decide +kernel
theorem dX12_guessOf_48 : decode cX12_guessOf 48 = .ok (.iload_n 2, 1) := by decide +kernel
theorem dX12_guessOf_49 : decode cX12_guessOf 49 = .ok (.imul, 1) := by decide +kernel
theorem dX12_guessOf_50 : decode cX12_guessOf 50 = .ok (.iload_n 3, 1) := by decide +kernel
theorem dX12_guessOf_51 : decode cX12_guessOf 51 = .ok (.iadd, 1) := by decide +kernel
theorem dX12_guessOf_52 : decode cX12_guessOf 52 = .ok (.laload, 1) := by decide +kernel
theorem dX12_guessOf_53 : decode cX12_guessOf 53 = .ok (.lcmp, 1) := by decide +kernel
theorem dX12_guessOf_54 : decode cX12_guessOf 54 = .ok (.ifCond .le 6, 3) := by decide +kernel
theorem dX12_guessOf_57 : decode cX12_guessOf 57 = .ok (.iload 4, 2) := by decide +kernel
theorem dX12_guessOf_59 : decode cX12_guessOf 59 = .ok (.istore_n 3, 1) := by decide +kernel
theorem dX12_guessOf_60 : decode cX12_guessOf 60 = .ok (.iinc 4 1, 3) := by decide +kernel
theorem dX12_guessOf_63 : decode cX12_guessOf 63 = .ok (.goto (-58), 3) := by decide +kernel
theorem dX12_guessOf_66 : decode cX12_guessOf 66 = .ok (.iload_n 3, 1) := by decide +kernel
theorem dX12_guessOf_67 : decode cX12_guessOf 67 = .ok (.ireturn, 1) := by decide +kernel
theorem dX12_isSure_0 : decode cX12_isSure 0 = .ok (.aload_n 0, 1) := by decide +kernel
theorem dX12_isSure_1 : decode cX12_isSure 1 = .ok (.getfield 19, 3) := by decide +kernel
theorem dX12_isSure_4 : decode cX12_isSure 4 = .ok (.iload_n 1, 1) := by decide +kernel
theorem dX12_isSure_5 : decode cX12_isSure 5 = .ok (.iaload, 1) := by decide +kernel
theorem dX12_isSure_6 : decode cX12_isSure 6 = .ok (.ifCond .ne 31, 3) := by decide +kernel
theorem dX12_isSure_9 : decode cX12_isSure 9 = .ok (.ldc2_w 204, 3) := by decide +kernel
theorem dX12_isSure_12 : decode cX12_isSure 12 = .ok (.aload_n 0, 1) := by decide +kernel
theorem dX12_isSure_13 : decode cX12_isSure 13 = .ok (.getfield 75, 3) := by decide +kernel
theorem dX12_isSure_16 : decode cX12_isSure 16 = .ok (.bipush 10, 2) := by decide +kernel
theorem dX12_isSure_18 : decode cX12_isSure 18 = .ok (.iload_n 1, 1) := by decide +kernel
theorem dX12_isSure_19 : decode cX12_isSure 19 = .ok (.imul, 1) := by decide +kernel
theorem dX12_isSure_20 : decode cX12_isSure 20 = .ok (.iload_n 2, 1) := by decide +kernel
theorem dX12_isSure_21 : decode cX12_isSure 21 = .ok (.iadd, 1) := by decide +kernel
theorem dX12_isSure_22 : decode cX12_isSure 22 = .ok (.laload, 1) := by decide +kernel
theorem dX12_isSure_23 : decode cX12_isSure 23 = .ok (.lmul, 1) := by decide +kernel
theorem dX12_isSure_24 : decode cX12_isSure 24 = .ok (.iload_n 3, 1) := by decide +kernel
theorem dX12_isSure_25 : decode cX12_isSure 25 = .ok (.i2l, 1) := by decide +kernel
theorem dX12_isSure_26 : decode cX12_isSure 26 = .ok (.aload_n 0, 1) := by decide +kernel
theorem dX12_isSure_27 : decode cX12_isSure 27 = .ok (.getfield 71, 3) := by decide +kernel
theorem dX12_isSure_30 : decode cX12_isSure 30 = .ok (.iload_n 1, 1) := by decide +kernel
theorem dX12_isSure_31 : decode cX12_isSure 31 = .ok (.laload, 1) := by decide +kernel
theorem dX12_isSure_32 : decode cX12_isSure 32 = .ok (.lmul, 1) := by decide +kernel
theorem dX12_isSure_33 : decode cX12_isSure 33 = .ok (.lcmp, 1) := by decide +kernel
theorem dX12_isSure_34 : decode cX12_isSure 34 = .ok (.ifCond .lt 7, 3) := by decide +kernel
theorem dX12_isSure_37 : decode cX12_isSure 37 = .ok (.iconst 1, 1) := by decide +kernel
theorem dX12_isSure_38 : decode cX12_isSure 38 = .ok (.goto 4, 3) := by decide +kernel
theorem dX12_isSure_41 : decode cX12_isSure 41 = .ok (.iconst 0, 1) := by decide +kernel
theorem dX12_isSure_42 : decode cX12_isSure 42 = .ok (.ireturn, 1) := by decide +kernel
set_option maxRecDepth 20000 in
theorem ggX12_mayPress_X12_isSure : GoodIn wsX12_mayPress wsX12_isSure := goodIn_r _ [9, 2, 10, 11, 12, 13, 14, 15, 16, 17, 18, 19, 20, 21, 22, 23, 24, 25, 26, 27, 28, 29, 30, 31, 32, 33, 34, 35, 36, 37, 38, 39, 40, 41, 42, 43, 44, 45, 46, 47, 48, 49, 50, 51, 52, 53, 54, 55, 56, 57, 58, 59, 60, 61, 62, 63, 64] (by decide +kernel) (by decide +kernel)
set_option maxRecDepth 20000 in
theorem gX12_mayPress_X12_isSure : GoodIn wsX12_mayPress (wsV RX12 206 RX12 yX12_isSure wsX12_isSure) := goodIn_app (goodIn_of _ (by decide +kernel)) ggX12_mayPress_X12_isSure
theorem dX12_mayPress_0 : decode cX12_mayPress 0 = .ok (.aload_n 0, 1) := by decide +kernel
theorem dX12_mayPress_1 : decode cX12_mayPress 1 = .ok (.getfield 25, 3) := by decide +kernel
theorem dX12_mayPress_4 : decode cX12_mayPress 4 = .ok (.iload_n 1, 1) := by decide +kernel
theorem dX12_mayPress_5 : decode cX12_mayPress 5 = .ok (.iaload, 1) := by decide +kernel
theorem dX12_mayPress_6 : decode cX12_mayPress 6 = .ok (.lookupswitch 61 #[(0, 26), (4, 41)], 26) := by decide +kernel
theorem dX12_mayPress_32 : decode cX12_mayPress 32 = .ok (.aload_n 0, 1) := by decide +kernel
theorem dX12_mayPress_33 : decode cX12_mayPress 33 = .ok (.getfield 19, 3) := by decide +kernel
theorem dX12_mayPress_36 : decode cX12_mayPress 36 = .ok (.iload_n 2, 1) := by decide +kernel
theorem dX12_mayPress_37 : decode cX12_mayPress 37 = .ok (.iaload, 1) := by decide +kernel
theorem dX12_mayPress_38 : decode cX12_mayPress 38 = .ok (.ifCond .eq 7, 3) := by decide +kernel
theorem dX12_mayPress_41 : decode cX12_mayPress 41 = .ok (.iconst 1, 1) := by decide +kernel
theorem dX12_mayPress_42 : decode cX12_mayPress 42 = .ok (.goto 4, 3) := by decide +kernel
theorem dX12_mayPress_45 : decode cX12_mayPress 45 = .ok (.iconst 0, 1) := by decide +kernel
theorem dX12_mayPress_46 : decode cX12_mayPress 46 = .ok (.ireturn, 1) := by decide +kernel
theorem dX12_mayPress_47 : decode cX12_mayPress 47 = .ok (.aload_n 0, 1) := by decide +kernel
theorem dX12_mayPress_48 : decode cX12_mayPress 48 = .ok (.getfield 37, 3) := by decide +kernel
theorem dX12_mayPress_51 : decode cX12_mayPress 51 = .ok (.iload_n 1, 1) := by decide +kernel
theorem dX12_mayPress_52 : decode cX12_mayPress 52 = .ok (.iaload, 1) := by decide +kernel
theorem dX12_mayPress_53 : decode cX12_mayPress 53 = .ok (.iload_n 2, 1) := by decide +kernel
theorem dX12_mayPress_54 : decode cX12_mayPress 54 = .ok (.ishr, 1) := by decide +kernel
theorem dX12_mayPress_55 : decode cX12_mayPress 55 = .ok (.iconst 1, 1) := by decide +kernel
theorem dX12_mayPress_56 : decode cX12_mayPress 56 = .ok (.iand, 1) := by decide +kernel
theorem dX12_mayPress_57 : decode cX12_mayPress 57 = .ok (.iconst 1, 1) := by decide +kernel
theorem dX12_mayPress_58 : decode cX12_mayPress 58 = .ok (.if_icmp .ne 7, 3) := by decide +kernel
theorem dX12_mayPress_61 : decode cX12_mayPress 61 = .ok (.iconst 1, 1) := by decide +kernel
theorem dX12_mayPress_62 : decode cX12_mayPress 62 = .ok (.goto 4, 3) := by decide +kernel
theorem dX12_mayPress_65 : decode cX12_mayPress 65 = .ok (.iconst 0, 1) := by decide +kernel
theorem dX12_mayPress_66 : decode cX12_mayPress 66 = .ok (.ireturn, 1) := by decide +kernel
theorem dX12_mayPress_67 : decode cX12_mayPress 67 = .ok (.aload_n 0, 1) := by decide +kernel
theorem dX12_mayPress_68 : decode cX12_mayPress 68 = .ok (.iload_n 2, 1) := by decide +kernel
theorem dX12_mayPress_69 : decode cX12_mayPress 69 = .ok (.aload_n 0, 1) := by decide +kernel
theorem dX12_mayPress_70 : decode cX12_mayPress 70 = .ok (.getfield 78, 3) := by decide +kernel
theorem dX12_mayPress_73 : decode cX12_mayPress 73 = .ok (.bipush 24, 2) := by decide +kernel
theorem dX12_mayPress_75 : decode cX12_mayPress 75 = .ok (.iload_n 1, 1) := by decide +kernel
theorem dX12_mayPress_76 : decode cX12_mayPress 76 = .ok (.imul, 1) := by decide +kernel
theorem dX12_mayPress_77 : decode cX12_mayPress 77 = .ok (.iload_n 2, 1) := by decide +kernel
theorem dX12_mayPress_78 : decode cX12_mayPress 78 = .ok (.iadd, 1) := by decide +kernel
theorem dX12_mayPress_79 : decode cX12_mayPress 79 = .ok (.iaload, 1) := by decide +kernel
theorem dX12_mayPress_80 : decode cX12_mayPress 80 = .ok (.iload_n 3, 1) := by decide +kernel
theorem dX12_mayPress_81 : decode cX12_mayPress 81 = .ok (.invokevirtual 206, 3) := by decide +kernel
theorem dX12_mayPress_84 : decode cX12_mayPress 84 = .ok (.ireturn, 1) := by decide +kernel
theorem dX12_sureOf_0 : decode cX12_sureOf 0 = .ok (.aload_n 0, 1) := by decide +kernel
theorem dX12_sureOf_1 : decode cX12_sureOf 1 = .ok (.getfield 25, 3) := by decide +kernel
theorem dX12_sureOf_4 : decode cX12_sureOf 4 = .ok (.iload_n 1, 1) := by decide +kernel
theorem dX12_sureOf_5 : decode cX12_sureOf 5 = .ok (.iaload, 1) := by decide +kernel
theorem dX12_sureOf_6 : decode cX12_sureOf 6 = .ok (.iconst 2, 1) := by decide +kernel
theorem dX12_sureOf_7 : decode cX12_sureOf 7 = .ok (.if_icmp .eq 12, 3) := by decide +kernel
theorem dX12_sureOf_10 : decode cX12_sureOf 10 = .ok (.aload_n 0, 1) := by decide +kernel
theorem dX12_sureOf_11 : decode cX12_sureOf 11 = .ok (.getfield 34, 3) := by decide +kernel
theorem dX12_sureOf_14 : decode cX12_sureOf 14 = .ok (.iload_n 1, 1) := by decide +kernel
theorem dX12_sureOf_15 : decode cX12_sureOf 15 = .ok (.iaload, 1) := by decide +kernel
theorem dX12_sureOf_16 : decode cX12_sureOf 16 = .ok (.goto 27, 3) := by decide +kernel
theorem dX12_sureOf_19 : decode cX12_sureOf 19 = .ok (.aload_n 0, 1) := by decide +kernel
theorem dX12_sureOf_20 : decode cX12_sureOf 20 = .ok (.getfield 34, 3) := by decide +kernel
theorem dX12_sureOf_23 : decode cX12_sureOf 23 = .ok (.iload_n 1, 1) := by decide +kernel
theorem dX12_sureOf_24 : decode cX12_sureOf 24 = .ok (.iaload, 1) := by decide +kernel
theorem dX12_sureOf_25 : decode cX12_sureOf 25 = .ok (.bipush 20, 2) := by decide +kernel
theorem dX12_sureOf_27 : decode cX12_sureOf 27 = .ok (.if_icmp .ge 7, 3) := by decide +kernel
theorem dX12_sureOf_30 : decode cX12_sureOf 30 = .ok (.iconst 0, 1) := by decide +kernel
theorem dX12_sureOf_31 : decode cX12_sureOf 31 = .ok (.goto 12, 3) := by decide +kernel
theorem dX12_sureOf_34 : decode cX12_sureOf 34 = .ok (.aload_n 0, 1) := by decide +kernel
theorem dX12_sureOf_35 : decode cX12_sureOf 35 = .ok (.getfield 34, 3) := by decide +kernel
theorem dX12_sureOf_38 : decode cX12_sureOf 38 = .ok (.iload_n 1, 1) := by decide +kernel
theorem dX12_sureOf_39 : decode cX12_sureOf 39 = .ok (.iaload, 1) := by decide +kernel
theorem dX12_sureOf_40 : decode cX12_sureOf 40 = .ok (.bipush 20, 2) := by decide +kernel
theorem dX12_sureOf_42 : decode cX12_sureOf 42 = .ok (.isub, 1) := by decide +kernel
theorem dX12_sureOf_43 : decode cX12_sureOf 43 = .ok (.ireturn, 1) := by decide +kernel
set_option maxRecDepth 20000 in
theorem ggX12_pressing_X12_mayPress : GoodIn wsX12_pressing wsX12_mayPress := goodIn_r _ [7, 8, 9, 10, 2, 11, 12, 13, 6, 14, 15, 16, 17, 18, 19, 20, 21, 22, 23, 24, 25, 26, 27, 28, 29, 30, 31, 32, 33, 34, 35, 36, 37, 38, 39, 40, 41, 42, 43, 44, 45, 46, 47, 48, 49, 50, 51, 52, 53, 54, 55, 56, 57, 58, 59, 60, 61, 62, 63, 64, 65, 66, 67, 68, 69] (by decide +kernel) (by decide +kernel)
set_option maxRecDepth 20000 in
theorem gX12_pressing_X12_mayPress : GoodIn wsX12_pressing (wsV RX12 209 RX12 yX12_mayPress wsX12_mayPress) := goodIn_app (goodIn_of _ (by decide +kernel)) ggX12_pressing_X12_mayPress
theorem dX12_pressing_0 : decode cX12_pressing 0 = .ok (.iconst 0, 1) := by decide +kernel
theorem dX12_pressing_1 : decode cX12_pressing 1 = .ok (.istore_n 3, 1) := by decide +kernel
theorem dX12_pressing_2 : decode cX12_pressing 2 = .ok (.iconst 1, 1) := by decide +kernel
theorem dX12_pressing_3 : decode cX12_pressing 3 = .ok (.istore 4, 2) := by decide +kernel
theorem dX12_pressing_5 : decode cX12_pressing 5 = .ok (.iload 4, 2) := by decide +kernel
theorem dX12_pressing_7 : decode cX12_pressing 7 = .ok (.aload_n 0, 1) := by decide +kernel
theorem dX12_pressing_8 : decode cX12_pressing 8 = .ok (.getfield 46, 3) := by decide +kernel
theorem dX12_pressing_11 : decode cX12_pressing 11 = .ok (.if_icmp .ge 46, 3) := by decide +kernel
theorem dX12_pressing_14 : decode cX12_pressing 14 = .ok (.iload_n 3, 1) := by decide +kernel
theorem dX12_pressing_15 : decode cX12_pressing 15 = .ok (.aload_n 0, 1) := by decide +kernel
theorem dX12_pressing_16 : decode cX12_pressing 16 = .ok (.getfield 78, 3) := by decide +kernel
theorem dX12_pressing_19 : decode cX12_pressing 19 = .ok (.bipush 24, 2) := by decide +kernel
theorem dX12_pressing_21 : decode cX12_pressing 21 = .ok (.iload_n 1, 1) := by decide +kernel
theorem dX12_pressing_22 : decode cX12_pressing 22 = .ok (.imul, 1) := by decide +kernel
theorem dX12_pressing_23 : decode cX12_pressing 23 = .ok (.iload 4, 2) := by decide +kernel
theorem dX12_pressing_25 : decode cX12_pressing 25 = .ok (.iadd, 1) := by decide +kernel
theorem dX12_pressing_26 : decode cX12_pressing 26 = .ok (.iaload, 1) := by decide +kernel
theorem dX12_pressing_27 : decode cX12_pressing 27 = .ok (.ifCond .eq 21, 3) := by decide +kernel
theorem dX12_pressing_30 : decode cX12_pressing 30 = .ok (.aload_n 0, 1) := by decide +kernel
theorem dX12_pressing_31 : decode cX12_pressing 31 = .ok (.iload_n 1, 1) := by decide +kernel
theorem dX12_pressing_32 : decode cX12_pressing 32 = .ok (.iload 4, 2) := by decide +kernel
theorem dX12_pressing_34 : decode cX12_pressing 34 = .ok (.iload_n 2, 1) := by decide +kernel
theorem dX12_pressing_35 : decode cX12_pressing 35 = .ok (.invokevirtual 209, 3) := by decide +kernel
theorem dX12_pressing_38 : decode cX12_pressing 38 = .ok (.ifCond .eq 10, 3) := by decide +kernel
theorem dX12_pressing_41 : decode cX12_pressing 41 = .ok (.iconst 1, 1) := by decide +kernel
theorem dX12_pressing_42 : decode cX12_pressing 42 = .ok (.iload 4, 2) := by decide +kernel
theorem dX12_pressing_44 : decode cX12_pressing 44 = .ok (.ishl, 1) := by decide +kernel
theorem dX12_pressing_45 : decode cX12_pressing 45 = .ok (.goto 4, 3) := by decide +kernel
theorem dX12_pressing_48 : decode cX12_pressing 48 = .ok (.iconst 0, 1) := by decide +kernel
theorem dX12_pressing_49 : decode cX12_pressing 49 = .ok (.ior, 1) := by decide +kernel
theorem dX12_pressing_50 : decode cX12_pressing 50 = .ok (.istore_n 3, 1) := by decide +kernel
theorem dX12_pressing_51 : decode cX12_pressing 51 = .ok (.iinc 4 1, 3) := by decide +kernel
theorem dX12_pressing_54 : decode cX12_pressing 54 = .ok (.goto (-49), 3) := by decide +kernel
theorem dX12_pressing_57 : decode cX12_pressing 57 = .ok (.iload_n 3, 1) := by decide +kernel
theorem dX12_pressing_58 : decode cX12_pressing 58 = .ok (.ireturn, 1) := by decide +kernel
set_option maxRecDepth 20000 in
theorem ggX12_pressWorth_X12_isBehind : GoodIn wsX12_pressWorth wsX12_isBehind := goodIn_r _ [11, 12, 13, 14, 15, 16, 17, 18, 19, 20, 21, 22, 23, 24, 25, 26, 27, 28, 29, 30, 31, 32, 33, 34, 35, 36, 37, 38, 39, 40, 41, 42, 43, 44, 45, 46, 47, 48, 49, 50, 51, 52, 53, 54, 55, 56, 57, 58, 59, 60, 61, 62, 63, 64] (by decide +kernel) (by decide +kernel)
set_option maxRecDepth 20000 in
theorem gX12_pressWorth_X12_isBehind : GoodIn wsX12_pressWorth (wsV RX12 186 RX12 yX12_isBehind wsX12_isBehind) := goodIn_app (goodIn_of _ (by decide +kernel)) ggX12_pressWorth_X12_isBehind
theorem dX12_pressWorth_0 : decode cX12_pressWorth 0 = .ok (.aload_n 0, 1) := by decide +kernel
theorem dX12_pressWorth_1 : decode cX12_pressWorth 1 = .ok (.getfield 78, 3) := by decide +kernel
theorem dX12_pressWorth_4 : decode cX12_pressWorth 4 = .ok (.bipush 24, 2) := by decide +kernel
theorem dX12_pressWorth_6 : decode cX12_pressWorth 6 = .ok (.iload_n 1, 1) := by decide +kernel
theorem dX12_pressWorth_7 : decode cX12_pressWorth 7 = .ok (.imul, 1) := by decide +kernel
theorem dX12_pressWorth_8 : decode cX12_pressWorth 8 = .ok (.iload_n 2, 1) := by decide +kernel
theorem dX12_pressWorth_9 : decode cX12_pressWorth 9 = .ok (.iadd, 1) := by decide +kernel
theorem dX12_pressWorth_10 : decode cX12_pressWorth 10 = .ok (.iaload, 1) := by decide +kernel
theorem dX12_pressWorth_11 : decode cX12_pressWorth 11 = .ok (.istore_n 3, 1) := by decide +kernel
theorem dX12_pressWorth_12 : decode cX12_pressWorth 12 = .ok (.lconst 0, 1) := by decide +kernel
theorem dX12_pressWorth_13 : decode cX12_pressWorth 13 = .ok (.lstore 4, 2) := by decide +kernel
theorem dX12_pressWorth_15 : decode cX12_pressWorth 15 = .ok (.iload_n 2, 1) := by decide +kernel
theorem dX12_pressWorth_16 : decode cX12_pressWorth 16 = .ok (.istore 6, 2) := by decide +kernel
theorem dX12_pressWorth_18 : decode cX12_pressWorth 18 = .ok (.iload 6, 2) := by decide +kernel
theorem dX12_pressWorth_20 : decode cX12_pressWorth 20 = .ok (.aload_n 0, 1) := by decide +kernel
theorem dX12_pressWorth_21 : decode cX12_pressWorth 21 = .ok (.getfield 46, 3) := by decide +kernel
theorem dX12_pressWorth_24 : decode cX12_pressWorth 24 = .ok (.if_icmp .ge 95, 3) := by decide +kernel
theorem dX12_pressWorth_27 : decode cX12_pressWorth 27 = .ok (.aload_n 0, 1) := by decide +kernel
theorem dX12_pressWorth_28 : decode cX12_pressWorth 28 = .ok (.getfield 19, 3) := by decide +kernel
theorem dX12_pressWorth_31 : decode cX12_pressWorth 31 = .ok (.iload 6, 2) := by decide +kernel
theorem dX12_pressWorth_33 : decode cX12_pressWorth 33 = .ok (.iaload, 1) := by decide +kernel
theorem dX12_pressWorth_34 : decode cX12_pressWorth 34 = .ok (.ifCond .eq 79, 3) := by decide +kernel
theorem dX12_pressWorth_37 : decode cX12_pressWorth 37 = .ok (.aload_n 0, 1) := by decide +kernel
theorem dX12_pressWorth_38 : decode cX12_pressWorth 38 = .ok (.iload 6, 2) := by decide +kernel
theorem dX12_pressWorth_40 : decode cX12_pressWorth 40 = .ok (.iload_n 2, 1) := by decide +kernel
theorem dX12_pressWorth_41 : decode cX12_pressWorth 41 = .ok (.invokevirtual 186, 3) := by decide +kernel
theorem dX12_pressWorth_44 : decode cX12_pressWorth 44 = .ok (.ifCond .ne 6, 3) := by decide +kernel
theorem dX12_pressWorth_47 : decode cX12_pressWorth 47 = .ok (.goto 66, 3) := by decide +kernel
theorem dX12_pressWorth_50 : decode cX12_pressWorth 50 = .ok (.lload 4, 2) := by decide +kernel
theorem dX12_pressWorth_52 : decode cX12_pressWorth 52 = .ok (.aload_n 0, 1) := by decide +kernel
theorem dX12_pressWorth_53 : decode cX12_pressWorth 53 = .ok (.getfield 71, 3) := by decide +kernel
theorem dX12_pressWorth_56 : decode cX12_pressWorth 56 = .ok (.iload 6, 2) := by decide +kernel
theorem dX12_pressWorth_58 : decode cX12_pressWorth 58 = .ok (.laload, 1) := by decide +kernel
theorem dX12_pressWorth_59 : decode cX12_pressWorth 59 = .ok (.aload_n 0, 1) := by decide +kernel
theorem dX12_pressWorth_60 : decode cX12_pressWorth 60 = .ok (.getfield 19, 3) := by decide +kernel
theorem dX12_pressWorth_63 : decode cX12_pressWorth 63 = .ok (.iload 6, 2) := by decide +kernel
theorem dX12_pressWorth_65 : decode cX12_pressWorth 65 = .ok (.iaload, 1) := by decide +kernel
theorem dX12_pressWorth_66 : decode cX12_pressWorth 66 = .ok (.iload_n 3, 1) := by decide +kernel
theorem dX12_pressWorth_67 : decode cX12_pressWorth 67 = .ok (.if_icmp .ne 34, 3) := by decide +kernel
theorem dX12_pressWorth_70 : decode cX12_pressWorth 70 = .ok (.aload_n 0, 1) := by decide +kernel
theorem dX12_pressWorth_71 : decode cX12_pressWorth 71 = .ok (.getfield 40, 3) := by decide +kernel
theorem dX12_pressWorth_74 : decode cX12_pressWorth 74 = .ok (.iconst 0, 1) := by decide +kernel
theorem dX12_pressWorth_75 : decode cX12_pressWorth 75 = .ok (.iaload, 1) := by decide +kernel
theorem dX12_pressWorth_76 : decode cX12_pressWorth 76 = .ok (.aload_n 0, 1) := by decide +kernel
theorem dX12_pressWorth_77 : decode cX12_pressWorth 77 = .ok (.getfield 40, 3) := by decide +kernel
theorem dX12_pressWorth_80 : decode cX12_pressWorth 80 = .ok (.iconst 2, 1) := by decide +kernel
theorem dX12_pressWorth_81 : decode cX12_pressWorth 81 = .ok (.iaload, 1) := by decide +kernel
theorem dX12_pressWorth_82 : decode cX12_pressWorth 82 = .ok (.aload_n 0, 1) := by decide +kernel
theorem dX12_pressWorth_83 : decode cX12_pressWorth 83 = .ok (.getfield 22, 3) := by decide +kernel
theorem dX12_pressWorth_86 : decode cX12_pressWorth 86 = .ok (.iload 6, 2) := by decide +kernel
theorem dX12_pressWorth_88 : decode cX12_pressWorth 88 = .ok (.iaload, 1) := by decide +kernel
theorem dX12_pressWorth_89 : decode cX12_pressWorth 89 = .ok (.aload_n 0, 1) := by decide +kernel
theorem dX12_pressWorth_90 : decode cX12_pressWorth 90 = .ok (.getfield 22, 3) := by decide +kernel
theorem dX12_pressWorth_93 : decode cX12_pressWorth 93 = .ok (.iload_n 2, 1) := by decide +kernel
theorem dX12_pressWorth_94 : decode cX12_pressWorth 94 = .ok (.iaload, 1) := by decide +kernel
theorem dX12_pressWorth_95 : decode cX12_pressWorth 95 = .ok (.isub, 1) := by decide +kernel
theorem dX12_pressWorth_96 : decode cX12_pressWorth 96 = .ok (.imul, 1) := by decide +kernel
theorem dX12_pressWorth_97 : decode cX12_pressWorth 97 = .ok (.iadd, 1) := by decide +kernel
theorem dX12_pressWorth_98 : decode cX12_pressWorth 98 = .ok (.goto 10, 3) := by decide +kernel
theorem dX12_pressWorth_101 : decode cX12_pressWorth 101 = .ok (.aload_n 0, 1) := by decide +kernel
theorem dX12_pressWorth_102 : decode cX12_pressWorth 102 = .ok (.getfield 40, 3) := by decide +kernel
theorem dX12_pressWorth_105 : decode cX12_pressWorth 105 = .ok (.iconst 1, 1) := by decide +kernel
theorem dX12_pressWorth_106 : decode cX12_pressWorth 106 = .ok (.iaload, 1) := by decide +kernel
theorem dX12_pressWorth_107 : decode cX12_pressWorth 107 = .ok (.ineg, 1) := by decide +kernel
theorem dX12_pressWorth_108 : decode cX12_pressWorth 108 = .ok (.i2l, 1) := by decide +kernel
theorem dX12_pressWorth_109 : decode cX12_pressWorth 109 = .ok (.lmul, 1) := by decide +kernel
theorem dX12_pressWorth_110 : decode cX12_pressWorth 110 = .ok (.ladd, 1) := by decide +kernel
theorem dX12_pressWorth_111 : decode cX12_pressWorth 111 = .ok (.lstore 4, 2) := by decide +kernel
theorem dX12_pressWorth_113 : decode cX12_pressWorth 113 = .ok (.iinc 6 1, 3) := by decide +kernel
theorem dX12_pressWorth_116 : decode cX12_pressWorth 116 = .ok (.goto (-98), 3) := by decide +kernel
theorem dX12_pressWorth_119 : decode cX12_pressWorth 119 = .ok (.lload 4, 2) := by decide +kernel
theorem dX12_pressWorth_121 : decode cX12_pressWorth 121 = .ok (.lreturn, 1) := by decide +kernel
set_option maxRecDepth 20000 in
theorem ggX12_findAlone_X12_pressWorth : GoodIn wsX12_findAlone wsX12_pressWorth := goodIn_r _ [10, 4, 2, 11, 12, 13, 14, 15, 16, 17, 9, 18, 5, 19, 20, 21, 22, 23, 24, 25, 26, 27, 28, 29, 30, 31, 32, 33, 34, 35, 36, 37, 38, 39, 40, 41, 42, 43, 44, 45, 46, 47, 48, 49, 50, 51, 52, 53, 54, 55, 56, 57, 58, 59, 60, 61, 62, 63, 64, 65, 66, 67, 68, 69, 70] (by decide +kernel) (by decide +kernel)
set_option maxRecDepth 20000 in
theorem gX12_findAlone_X12_pressWorth : GoodIn wsX12_findAlone (wsV RX12 215 RX12 yX12_pressWorth wsX12_pressWorth) := goodIn_app (goodIn_of _ (by decide +kernel)) ggX12_findAlone_X12_pressWorth
theorem dX12_findAlone_0 : decode cX12_findAlone 0 = .ok (.aload_n 0, 1) := by decide +kernel
theorem dX12_findAlone_1 : decode cX12_findAlone 1 = .ok (.iconst 0, 1) := by decide +kernel
theorem dX12_findAlone_2 : decode cX12_findAlone 2 = .ok (.putfield 212, 3) := by decide +kernel
theorem dX12_findAlone_5 : decode cX12_findAlone 5 = .ok (.iconst 0, 1) := by decide +kernel
theorem dX12_findAlone_6 : decode cX12_findAlone 6 = .ok (.istore_n 2, 1) := by decide +kernel
theorem dX12_findAlone_7 : decode cX12_findAlone 7 = .ok (.iload_n 2, 1) := by decide +kernel
theorem dX12_findAlone_8 : decode cX12_findAlone 8 = .ok (.aload_n 0, 1) := by decide +kernel
theorem dX12_findAlone_9 : decode cX12_findAlone 9 = .ok (.getfield 46, 3) := by decide +kernel
theorem dX12_findAlone_12 : decode cX12_findAlone 12 = .ok (.if_icmp .ge 16, 3) := by decide +kernel
theorem dX12_findAlone_15 : decode cX12_findAlone 15 = .ok (.aload_n 0, 1) := by decide +kernel
theorem dX12_findAlone_16 : decode cX12_findAlone 16 = .ok (.getfield 87, 3) := by decide +kernel
theorem dX12_findAlone_19 : decode cX12_findAlone 19 = .ok (.iload_n 2, 1) := by decide +kernel
theorem dX12_findAlone_20 : decode cX12_findAlone 20 = .ok (.lconst 0, 1) := by decide +kernel
theorem dX12_findAlone_21 : decode cX12_findAlone 21 = .ok (.lastore, 1) := by decide +kernel
theorem dX12_findAlone_22 : decode cX12_findAlone 22 = .ok (.iinc 2 1, 3) := by decide +kernel
theorem dX12_findAlone_25 : decode cX12_findAlone 25 = .ok (.goto (-18), 3) := by decide +kernel
theorem dX12_findAlone_28 : decode cX12_findAlone 28 = .ok (.aload_n 0, 1) := by decide +kernel
theorem dX12_findAlone_29 : decode cX12_findAlone 29 = .ok (.getfield 46, 3) := by decide +kernel
theorem dX12_findAlone_32 : decode cX12_findAlone 32 = .ok (.iconst 1, 1) := by decide +kernel
theorem dX12_findAlone_33 : decode cX12_findAlone 33 = .ok (.isub, 1) := by decide +kernel
theorem dX12_findAlone_34 : decode cX12_findAlone 34 = .ok (.istore_n 2, 1) := by decide +kernel
theorem dX12_findAlone_35 : decode cX12_findAlone 35 = .ok (.iload_n 2, 1) := by decide +kernel
theorem dX12_findAlone_36 : decode cX12_findAlone 36 = .ok (.ifCond .lt 88, 3) := by decide +kernel
theorem dX12_findAlone_39 : decode cX12_findAlone 39 = .ok (.iload_n 2, 1) := by decide +kernel
theorem dX12_findAlone_40 : decode cX12_findAlone 40 = .ok (.ifCond .le 54, 3) := by decide +kernel
theorem dX12_findAlone_43 : decode cX12_findAlone 43 = .ok (.aload_n 0, 1) := by decide +kernel
theorem dX12_findAlone_44 : decode cX12_findAlone 44 = .ok (.getfield 78, 3) := by decide +kernel
theorem dX12_findAlone_47 : decode cX12_findAlone 47 = .ok (.bipush 24, 2) := by decide +kernel
theorem dX12_findAlone_49 : decode cX12_findAlone 49 = .ok (.iload_n 1, 1) := by decide +kernel
theorem dX12_findAlone_50 : decode cX12_findAlone 50 = .ok (.imul, 1) := by decide +kernel
theorem dX12_findAlone_51 : decode cX12_findAlone 51 = .ok (.iload_n 2, 1) := by decide +kernel
theorem dX12_findAlone_52 : decode cX12_findAlone 52 = .ok (.iadd, 1) := by decide +kernel
theorem dX12_findAlone_53 : decode cX12_findAlone 53 = .ok (.iaload, 1) := by decide +kernel
theorem dX12_findAlone_54 : decode cX12_findAlone 54 = .ok (.ifCond .eq 40, 3) := by decide +kernel
theorem dX12_findAlone_57 : decode cX12_findAlone 57 = .ok (.aload_n 0, 1) := by decide +kernel
theorem dX12_findAlone_58 : decode cX12_findAlone 58 = .ok (.iload_n 1, 1) := by decide +kernel
theorem dX12_findAlone_59 : decode cX12_findAlone 59 = .ok (.iload_n 2, 1) := by decide +kernel
theorem dX12_findAlone_60 : decode cX12_findAlone 60 = .ok (.invokevirtual 215, 3) := by decide +kernel
theorem dX12_findAlone_63 : decode cX12_findAlone 63 = .ok (.lstore_n 3, 1) := by decide +kernel
theorem dX12_findAlone_64 : decode cX12_findAlone 64 = .ok (.lload_n 3, 1) := by decide +kernel
theorem dX12_findAlone_65 : decode cX12_findAlone 65 = .ok (.aload_n 0, 1) := by decide +kernel
theorem dX12_findAlone_66 : decode cX12_findAlone 66 = .ok (.getfield 87, 3) := by decide +kernel
theorem dX12_findAlone_69 : decode cX12_findAlone 69 = .ok (.iload_n 2, 1) := by decide +kernel
theorem dX12_findAlone_70 : decode cX12_findAlone 70 = .ok (.laload, 1) := by decide +kernel
theorem dX12_findAlone_71 : decode cX12_findAlone 71 = .ok (.lcmp, 1) := by decide +kernel
theorem dX12_findAlone_72 : decode cX12_findAlone 72 = .ok (.ifCond .lt 22, 3) := by decide +kernel
theorem dX12_findAlone_75 : decode cX12_findAlone 75 = .ok (.aload_n 0, 1) := by decide +kernel
theorem dX12_findAlone_76 : decode cX12_findAlone 76 = .ok (.getfield 87, 3) := by decide +kernel
theorem dX12_findAlone_79 : decode cX12_findAlone 79 = .ok (.iload_n 2, 1) := by decide +kernel
theorem dX12_findAlone_80 : decode cX12_findAlone 80 = .ok (.lload_n 3, 1) := by decide +kernel
theorem dX12_findAlone_81 : decode cX12_findAlone 81 = .ok (.lastore, 1) := by decide +kernel
theorem dX12_findAlone_82 : decode cX12_findAlone 82 = .ok (.aload_n 0, 1) := by decide +kernel
theorem dX12_findAlone_83 : decode cX12_findAlone 83 = .ok (.dup, 1) := by decide +kernel
theorem dX12_findAlone_84 : decode cX12_findAlone 84 = .ok (.getfield 212, 3) := by decide +kernel
theorem dX12_findAlone_87 : decode cX12_findAlone 87 = .ok (.iconst 1, 1) := by decide +kernel
theorem dX12_findAlone_88 : decode cX12_findAlone 88 = .ok (.iload_n 2, 1) := by decide +kernel
theorem dX12_findAlone_89 : decode cX12_findAlone 89 = .ok (.ishl, 1) := by decide +kernel
theorem dX12_findAlone_90 : decode cX12_findAlone 90 = .ok (.ior, 1) := by decide +kernel
theorem dX12_findAlone_91 : decode cX12_findAlone 91 = .ok (.putfield 212, 3) := by decide +kernel
theorem dX12_findAlone_94 : decode cX12_findAlone 94 = .ok (.iload_n 2, 1) := by decide +kernel
theorem dX12_findAlone_95 : decode cX12_findAlone 95 = .ok (.ifCond .le 23, 3) := by decide +kernel
theorem dX12_findAlone_98 : decode cX12_findAlone 98 = .ok (.aload_n 0, 1) := by decide +kernel
theorem dX12_findAlone_99 : decode cX12_findAlone 99 = .ok (.getfield 87, 3) := by decide +kernel
theorem dX12_findAlone_102 : decode cX12_findAlone 102 = .ok (.aload_n 0, 1) := by decide +kernel
theorem dX12_findAlone_103 : decode cX12_findAlone 103 = .ok (.getfield 13, 3) := by decide +kernel
theorem dX12_findAlone_106 : decode cX12_findAlone 106 = .ok (.iload_n 2, 1) := by decide +kernel
theorem dX12_findAlone_107 : decode cX12_findAlone 107 = .ok (.iaload, 1) := by decide +kernel
theorem dX12_findAlone_108 : decode cX12_findAlone 108 = .ok (.dup2, 1) := by decide +kernel
theorem dX12_findAlone_109 : decode cX12_findAlone 109 = .ok (.laload, 1) := by decide +kernel
theorem dX12_findAlone_110 : decode cX12_findAlone 110 = .ok (.aload_n 0, 1) := by decide +kernel
theorem dX12_findAlone_111 : decode cX12_findAlone 111 = .ok (.getfield 87, 3) := by decide +kernel
theorem dX12_findAlone_114 : decode cX12_findAlone 114 = .ok (.iload_n 2, 1) := by decide +kernel
theorem dX12_findAlone_115 : decode cX12_findAlone 115 = .ok (.laload, 1) := by decide +kernel
theorem dX12_findAlone_116 : decode cX12_findAlone 116 = .ok (.ladd, 1) := by decide +kernel
theorem dX12_findAlone_117 : decode cX12_findAlone 117 = .ok (.lastore, 1) := by decide +kernel
theorem dX12_findAlone_118 : decode cX12_findAlone 118 = .ok (.iinc 2 (-1), 3) := by decide +kernel
theorem dX12_findAlone_121 : decode cX12_findAlone 121 = .ok (.goto (-86), 3) := by decide +kernel
theorem dX12_findAlone_124 : decode cX12_findAlone 124 = .ok (.return_, 1) := by decide +kernel
set_option maxRecDepth 20000 in
theorem ggX12_findPresses_X12_guessOf : GoodIn wsX12_findPresses wsX12_guessOf := goodIn_r _ [14, 15, 52, 53, 54, 55, 56, 57, 58, 59, 60, 61, 62, 63, 64, 65, 66, 67, 68, 69, 70, 71, 72, 73, 74, 75, 76, 77, 78, 79, 80, 81, 82, 83, 84, 85, 86, 87, 88, 89, 90, 91, 92, 93, 94, 95, 96, 97, 98, 99, 100, 101, 102, 103] (by decide +kernel) (by decide +kernel)
set_option maxRecDepth 20000 in
theorem gX12_findPresses_X12_guessOf : GoodIn wsX12_findPresses (wsV RX12 219 RX12 yX12_guessOf wsX12_guessOf) := goodIn_app (goodIn_of _ (by decide +kernel)) ggX12_findPresses_X12_guessOf
set_option maxRecDepth 20000 in
theorem ggX12_findPresses_X12_findAlone : GoodIn wsX12_findPresses wsX12_findAlone := goodIn_r _ [19, 7, 2, 20, 3, 21, 22, 23, 24, 13, 25, 26, 27, 28, 29, 30, 31, 32, 33, 52, 53, 54, 55, 56, 57, 58, 59, 60, 61, 62, 63, 64, 65, 66, 67, 68, 69, 70, 71, 72, 73, 74, 75, 76, 77, 78, 79, 80, 81, 82, 83, 84, 85, 86, 87, 88, 89, 90, 91, 92, 93, 94, 95, 96, 97, 98, 99, 100, 101, 102, 103] (by decide +kernel) (by decide +kernel)
set_option maxRecDepth 20000 in
theorem gX12_findPresses_X12_findAlone : GoodIn wsX12_findPresses (wsV RX12 223 RX12 yX12_findAlone wsX12_findAlone) := goodIn_app (goodIn_of _ (by decide +kernel)) ggX12_findPresses_X12_findAlone
set_option maxRecDepth 20000 in
theorem ggX12_findPresses_X12_sureOf : GoodIn wsX12_findPresses wsX12_sureOf := goodIn_r _ [37, 5, 9, 52, 53, 54, 55, 56, 57, 58, 59, 60, 61, 62, 63, 64, 65, 66, 67, 68, 69, 70, 71, 72, 73, 74, 75, 76, 77, 78, 79, 80, 81, 82, 83, 84, 85, 86, 87, 88, 89, 90, 91, 92, 93, 94, 95, 96, 97, 98, 99, 100, 101, 102, 103] (by decide +kernel) (by decide +kernel)
set_option maxRecDepth 20000 in
theorem gX12_findPresses_X12_sureOf : GoodIn wsX12_findPresses (wsV RX12 227 RX12 yX12_sureOf wsX12_sureOf) := goodIn_app (goodIn_of _ (by decide +kernel)) ggX12_findPresses_X12_sureOf
set_option maxRecDepth 20000 in
theorem ggX12_findPresses_X12_pressing : GoodIn wsX12_findPresses wsX12_pressing := goodIn_r _ [41, 2, 3, 42, 43, 44, 13, 45, 5, 26, 46, 47, 48, 49, 50, 51, 15, 27, 52, 53, 54, 55, 56, 57, 58, 59, 60, 61, 62, 63, 64, 65, 66, 67, 68, 69, 70, 71, 72, 73, 74, 75, 76, 77, 78, 79, 80, 81, 82, 83, 84, 85, 86, 87, 88, 89, 90, 91, 92, 93, 94, 95, 96, 97, 98, 99, 100, 101, 102, 103] (by decide +kernel) (by decide +kernel)
set_option maxRecDepth 20000 in
theorem gX12_findPresses_X12_pressing : GoodIn wsX12_findPresses (wsV RX12 230 RX12 yX12_pressing wsX12_pressing) := goodIn_app (goodIn_of _ (by decide +kernel)) ggX12_findPresses_X12_pressing
theorem dX12_findPresses_0 : decode cX12_findPresses 0 = .ok (.iconst 0, 1) := by decide +kernel
theorem dX12_findPresses_1 : decode cX12_findPresses 1 = .ok (.istore_n 1, 1) := by decide +kernel
theorem dX12_findPresses_2 : decode cX12_findPresses 2 = .ok (.iload_n 1, 1) := by decide +kernel
theorem dX12_findPresses_3 : decode cX12_findPresses 3 = .ok (.aload_n 0, 1) := by decide +kernel
theorem dX12_findPresses_4 : decode cX12_findPresses 4 = .ok (.getfield 114, 3) := by decide +kernel
theorem dX12_findPresses_7 : decode cX12_findPresses 7 = .ok (.if_icmp .ge 129, 3) := by decide +kernel
theorem dX12_findPresses_10 : decode cX12_findPresses 10 = .ok (.iconst 0, 1) := by decide +kernel
theorem dX12_findPresses_11 : decode cX12_findPresses 11 = .ok (.istore_n 2, 1) := by decide +kernel
theorem dX12_findPresses_12 : decode cX12_findPresses 12 = .ok (.iload_n 2, 1) := by decide +kernel
theorem dX12_findPresses_13 : decode cX12_findPresses 13 = .ok (.aload_n 0, 1) := by decide +kernel
theorem dX12_findPresses_14 : decode cX12_findPresses 14 = .ok (.getfield 46, 3) := by decide +kernel
theorem dX12_findPresses_17 : decode cX12_findPresses 17 = .ok (.if_icmp .ge 31, 3) := by decide +kernel
theorem dX12_findPresses_20 : decode cX12_findPresses 20 = .ok (.aload_n 0, 1) := by decide +kernel
theorem dX12_findPresses_21 : decode cX12_findPresses 21 = .ok (.getfield 78, 3) := by decide +kernel
theorem dX12_findPresses_24 : decode cX12_findPresses 24 = .ok (.bipush 24, 2) := by decide +kernel
theorem dX12_findPresses_26 : decode cX12_findPresses 26 = .ok (.iload_n 1, 1) := by decide +kernel
theorem dX12_findPresses_27 : decode cX12_findPresses 27 = .ok (.imul, 1) := by decide +kernel
theorem dX12_findPresses_28 : decode cX12_findPresses 28 = .ok (.iload_n 2, 1) := by decide +kernel
theorem dX12_findPresses_29 : decode cX12_findPresses 29 = .ok (.iadd, 1) := by decide +kernel
theorem dX12_findPresses_30 : decode cX12_findPresses 30 = .ok (.aload_n 0, 1) := by decide +kernel
theorem dX12_findPresses_31 : decode cX12_findPresses 31 = .ok (.aload_n 0, 1) := by decide +kernel
theorem dX12_findPresses_32 : decode cX12_findPresses 32 = .ok (.getfield 28, 3) := by decide +kernel
theorem dX12_findPresses_35 : decode cX12_findPresses 35 = .ok (.iload_n 1, 1) := by decide +kernel
theorem dX12_findPresses_36 : decode cX12_findPresses 36 = .ok (.iaload, 1) := by decide +kernel
theorem dX12_findPresses_37 : decode cX12_findPresses 37 = .ok (.iload_n 2, 1) := by decide +kernel
theorem dX12_findPresses_38 : decode cX12_findPresses 38 = .ok (.invokevirtual 219, 3) := by decide +kernel
theorem dX12_findPresses_41 : decode cX12_findPresses 41 = .ok (.iastore, 1) := by decide +kernel
theorem dX12_findPresses_42 : decode cX12_findPresses 42 = .ok (.iinc 2 1, 3) := by decide +kernel
theorem dX12_findPresses_45 : decode cX12_findPresses 45 = .ok (.goto (-33), 3) := by decide +kernel
theorem dX12_findPresses_48 : decode cX12_findPresses 48 = .ok (.aload_n 0, 1) := by decide +kernel
theorem dX12_findPresses_49 : decode cX12_findPresses 49 = .ok (.getfield 25, 3) := by decide +kernel
theorem dX12_findPresses_52 : decode cX12_findPresses 52 = .ok (.iload_n 1, 1) := by decide +kernel
theorem dX12_findPresses_53 : decode cX12_findPresses 53 = .ok (.iaload, 1) := by decide +kernel
theorem dX12_findPresses_54 : decode cX12_findPresses 54 = .ok (.iconst 5, 1) := by decide +kernel
theorem dX12_findPresses_55 : decode cX12_findPresses 55 = .ok (.if_icmp .ne 21, 3) := by decide +kernel
theorem dX12_findPresses_58 : decode cX12_findPresses 58 = .ok (.aload_n 0, 1) := by decide +kernel
theorem dX12_findPresses_59 : decode cX12_findPresses 59 = .ok (.iload_n 1, 1) := by decide +kernel
theorem dX12_findPresses_60 : decode cX12_findPresses 60 = .ok (.invokevirtual 223, 3) := by decide +kernel
theorem dX12_findPresses_63 : decode cX12_findPresses 63 = .ok (.aload_n 0, 1) := by decide +kernel
theorem dX12_findPresses_64 : decode cX12_findPresses 64 = .ok (.getfield 81, 3) := by decide +kernel
theorem dX12_findPresses_67 : decode cX12_findPresses 67 = .ok (.iload_n 1, 1) := by decide +kernel
theorem dX12_findPresses_68 : decode cX12_findPresses 68 = .ok (.aload_n 0, 1) := by decide +kernel
theorem dX12_findPresses_69 : decode cX12_findPresses 69 = .ok (.getfield 212, 3) := by decide +kernel
theorem dX12_findPresses_72 : decode cX12_findPresses 72 = .ok (.iastore, 1) := by decide +kernel
theorem dX12_findPresses_73 : decode cX12_findPresses 73 = .ok (.goto 19, 3) := by decide +kernel
theorem dX12_findPresses_76 : decode cX12_findPresses 76 = .ok (.aload_n 0, 1) := by decide +kernel
theorem dX12_findPresses_77 : decode cX12_findPresses 77 = .ok (.getfield 81, 3) := by decide +kernel
theorem dX12_findPresses_80 : decode cX12_findPresses 80 = .ok (.iload_n 1, 1) := by decide +kernel
theorem dX12_findPresses_81 : decode cX12_findPresses 81 = .ok (.aload_n 0, 1) := by decide +kernel
theorem dX12_findPresses_82 : decode cX12_findPresses 82 = .ok (.iload_n 1, 1) := by decide +kernel
theorem dX12_findPresses_83 : decode cX12_findPresses 83 = .ok (.aload_n 0, 1) := by decide +kernel
theorem dX12_findPresses_84 : decode cX12_findPresses 84 = .ok (.iload_n 1, 1) := by decide +kernel
theorem dX12_findPresses_85 : decode cX12_findPresses 85 = .ok (.invokevirtual 227, 3) := by decide +kernel
theorem dX12_findPresses_88 : decode cX12_findPresses 88 = .ok (.invokevirtual 230, 3) := by decide +kernel
theorem dX12_findPresses_91 : decode cX12_findPresses 91 = .ok (.iastore, 1) := by decide +kernel
theorem dX12_findPresses_92 : decode cX12_findPresses 92 = .ok (.aload_n 0, 1) := by decide +kernel
theorem dX12_findPresses_93 : decode cX12_findPresses 93 = .ok (.getfield 84, 3) := by decide +kernel
theorem dX12_findPresses_96 : decode cX12_findPresses 96 = .ok (.iload_n 1, 1) := by decide +kernel
theorem dX12_findPresses_97 : decode cX12_findPresses 97 = .ok (.aload_n 0, 1) := by decide +kernel
theorem dX12_findPresses_98 : decode cX12_findPresses 98 = .ok (.getfield 25, 3) := by decide +kernel
theorem dX12_findPresses_101 : decode cX12_findPresses 101 = .ok (.iload_n 1, 1) := by decide +kernel
theorem dX12_findPresses_102 : decode cX12_findPresses 102 = .ok (.iaload, 1) := by decide +kernel
theorem dX12_findPresses_103 : decode cX12_findPresses 103 = .ok (.iconst 3, 1) := by decide +kernel
theorem dX12_findPresses_104 : decode cX12_findPresses 104 = .ok (.if_icmp .ne 19, 3) := by decide +kernel
theorem dX12_findPresses_107 : decode cX12_findPresses 107 = .ok (.aload_n 0, 1) := by decide +kernel
theorem dX12_findPresses_108 : decode cX12_findPresses 108 = .ok (.iload_n 1, 1) := by decide +kernel
theorem dX12_findPresses_109 : decode cX12_findPresses 109 = .ok (.aload_n 0, 1) := by decide +kernel
theorem dX12_findPresses_110 : decode cX12_findPresses 110 = .ok (.getfield 34, 3) := by decide +kernel
theorem dX12_findPresses_113 : decode cX12_findPresses 113 = .ok (.iload_n 1, 1) := by decide +kernel
theorem dX12_findPresses_114 : decode cX12_findPresses 114 = .ok (.iaload, 1) := by decide +kernel
theorem dX12_findPresses_115 : decode cX12_findPresses 115 = .ok (.iconst 2, 1) := by decide +kernel
theorem dX12_findPresses_116 : decode cX12_findPresses 116 = .ok (.idiv, 1) := by decide +kernel
theorem dX12_findPresses_117 : decode cX12_findPresses 117 = .ok (.invokevirtual 230, 3) := by decide +kernel
theorem dX12_findPresses_120 : decode cX12_findPresses 120 = .ok (.goto 9, 3) := by decide +kernel
theorem dX12_findPresses_123 : decode cX12_findPresses 123 = .ok (.aload_n 0, 1) := by decide +kernel
theorem dX12_findPresses_124 : decode cX12_findPresses 124 = .ok (.getfield 81, 3) := by decide +kernel
theorem dX12_findPresses_127 : decode cX12_findPresses 127 = .ok (.iload_n 1, 1) := by decide +kernel
theorem dX12_findPresses_128 : decode cX12_findPresses 128 = .ok (.iaload, 1) := by decide +kernel
theorem dX12_findPresses_129 : decode cX12_findPresses 129 = .ok (.iastore, 1) := by decide +kernel
theorem dX12_findPresses_130 : decode cX12_findPresses 130 = .ok (.iinc 1 1, 3) := by decide +kernel
theorem dX12_findPresses_133 : decode cX12_findPresses 133 = .ok (.goto (-131), 3) := by decide +kernel
theorem dX12_findPresses_136 : decode cX12_findPresses 136 = .ok (.return_, 1) := by decide +kernel
set_option maxRecDepth 20000 in
theorem ggX12_finds_X12_findShares : GoodIn wsX12_finds wsX12_findShares := goodIn_r _ [5, 6, 7, 8, 9, 10, 11, 12, 13, 14, 15, 4, 16, 17, 18, 19, 20, 21, 22, 23, 73, 74, 75, 76, 77, 78, 79, 80, 81, 82, 83, 84, 85, 86, 87, 88, 89, 90, 91, 92, 93, 94, 95, 96, 97, 98, 99, 100, 101, 102, 103, 104, 105, 106, 107, 108, 109, 110, 111, 112, 113, 114, 115, 116, 117, 118, 119, 120, 121, 122, 123, 124] (by decide +kernel) (by decide +kernel)
set_option maxRecDepth 20000 in
theorem gX12_finds_X12_findShares : GoodIn wsX12_finds (wsV RX12 233 RX12 yX12_findShares wsX12_findShares) := goodIn_app (goodIn_of _ (by decide +kernel)) ggX12_finds_X12_findShares
set_option maxRecDepth 20000 in
theorem ggX12_finds_X12_findPresses : GoodIn wsX12_finds wsX12_findPresses := goodIn_r _ [27, 28, 7, 29, 30, 31, 32, 33, 34, 35, 36, 37, 38, 4, 39, 12, 40, 41, 42, 43, 44, 10, 45, 46, 47, 48, 8, 9, 49, 50, 51, 52, 53, 54, 55, 56, 57, 58, 59, 60, 61, 62, 63, 64, 65, 66, 67, 68, 69, 70, 71, 72, 73, 74, 75, 76, 77, 78, 79, 80, 81, 82, 83, 84, 85, 86, 87, 88, 89, 90, 91, 92, 93, 94, 95, 96, 97, 98, 99, 100, 101, 102, 103, 104, 105, 106, 107, 108, 109, 110, 111, 112, 113, 114, 115, 116, 117, 118, 119, 120, 121, 122, 123, 124] (by decide +kernel) (by decide +kernel)
set_option maxRecDepth 20000 in
theorem gX12_finds_X12_findPresses : GoodIn wsX12_finds (wsV RX12 236 RX12 yX12_findPresses wsX12_findPresses) := goodIn_app (goodIn_of _ (by decide +kernel)) ggX12_finds_X12_findPresses
theorem dX12_finds_0 : decode cX12_finds 0 = .ok (.aload_n 0, 1) := by decide +kernel
theorem dX12_finds_1 : decode cX12_finds 1 = .ok (.invokevirtual 233, 3) := by decide +kernel
theorem dX12_finds_4 : decode cX12_finds 4 = .ok (.aload_n 0, 1) := by decide +kernel
theorem dX12_finds_5 : decode cX12_finds 5 = .ok (.invokevirtual 236, 3) := by decide +kernel
theorem dX12_finds_8 : decode cX12_finds 8 = .ok (.return_, 1) := by decide +kernel
set_option maxRecDepth 20000 in
theorem ggX12_inLeast_X12_divisor : GoodIn wsX12_inLeast wsX12_divisor := goodIn_r _ [4] (by decide +kernel) (by decide +kernel)
set_option maxRecDepth 20000 in
theorem gX12_inLeast_X12_divisor : GoodIn wsX12_inLeast (va_wsS RX12 190 yX12_divisor wsX12_divisor) := goodIn_app (goodIn_of _ (by decide +kernel)) ggX12_inLeast_X12_divisor
theorem dX12_inLeast_0 : decode cX12_inLeast 0 = .ok (.lload_n 0, 1) := by decide +kernel
theorem dX12_inLeast_1 : decode cX12_inLeast 1 = .ok (.lconst 0, 1) := by decide +kernel
theorem dX12_inLeast_2 : decode cX12_inLeast 2 = .ok (.lcmp, 1) := by decide +kernel
theorem dX12_inLeast_3 : decode cX12_inLeast 3 = .ok (.ifCond .ge 8, 3) := by decide +kernel
theorem dX12_inLeast_6 : decode cX12_inLeast 6 = .ok (.lload_n 0, 1) := by decide +kernel
theorem dX12_inLeast_7 : decode cX12_inLeast 7 = .ok (.lneg, 1) := by decide +kernel
theorem dX12_inLeast_8 : decode cX12_inLeast 8 = .ok (.goto 4, 3) := by decide +kernel
theorem dX12_inLeast_11 : decode cX12_inLeast 11 = .ok (.lload_n 0, 1) := by decide +kernel
theorem dX12_inLeast_12 : decode cX12_inLeast 12 = .ok (.lload_n 2, 1) := by decide +kernel
theorem dX12_inLeast_13 : decode cX12_inLeast 13 = .ok (.invokestatic 190, 3) := by decide +kernel
theorem dX12_inLeast_16 : decode cX12_inLeast 16 = .ok (.lstore 5, 2) := by decide +kernel
theorem dX12_inLeast_18 : decode cX12_inLeast 18 = .ok (.iload 4, 2) := by decide +kernel
theorem dX12_inLeast_20 : decode cX12_inLeast 20 = .ok (.ifCond .ne 7, 3) := by decide +kernel
theorem dX12_inLeast_23 : decode cX12_inLeast 23 = .ok (.lload_n 0, 1) := by decide +kernel
theorem dX12_inLeast_24 : decode cX12_inLeast 24 = .ok (.goto 4, 3) := by decide +kernel
theorem dX12_inLeast_27 : decode cX12_inLeast 27 = .ok (.lload_n 2, 1) := by decide +kernel
theorem dX12_inLeast_28 : decode cX12_inLeast 28 = .ok (.lload 5, 2) := by decide +kernel
theorem dX12_inLeast_30 : decode cX12_inLeast 30 = .ok (.ldiv, 1) := by decide +kernel
theorem dX12_inLeast_31 : decode cX12_inLeast 31 = .ok (.lreturn, 1) := by decide +kernel
set_option maxRecDepth 20000 in
theorem ggX12_chance_X12_isWord : GoodIn wsX12_chance wsX12_isWord := goodIn_r _ [7, 8, 48, 49, 50, 51, 52, 53, 54, 55, 56, 57, 58, 59, 60, 61, 62, 63, 64, 65, 66, 67, 68, 69, 70, 71, 72, 73, 74, 75, 76, 77, 78, 79, 80, 81, 82, 83, 84, 85, 86, 87, 88, 89, 90, 91, 92, 93, 94, 95, 96, 97, 98, 99] (by decide +kernel) (by decide +kernel)
set_option maxRecDepth 20000 in
theorem gX12_chance_X12_isWord : GoodIn wsX12_chance (wsV RX12 166 RX12 yX12_isWord wsX12_isWord) := goodIn_app (goodIn_of _ (by decide +kernel)) ggX12_chance_X12_isWord
set_option maxRecDepth 20000 in
theorem ggX12_chance_X12_isIn : GoodIn wsX12_chance wsX12_isIn := goodIn_r _ [11] (by decide +kernel) (by decide +kernel)
set_option maxRecDepth 20000 in
theorem gX12_chance_X12_isIn : GoodIn wsX12_chance (va_wsS RX12 140 yX12_isIn wsX12_isIn) := goodIn_app (goodIn_of _ (by decide +kernel)) ggX12_chance_X12_isIn
set_option maxRecDepth 20000 in
theorem ggX12_chance_X12_noLong : GoodIn wsX12_chance wsX12_noLong := goodIn_r _ [15, 16, 17, 48, 49, 50, 51, 52, 53, 54, 55, 56, 57, 58, 59, 60, 61, 62, 63, 64, 65, 66, 67, 68, 69, 70, 71, 72, 73, 74, 75, 76, 77, 78, 79, 80, 81, 82, 83, 84, 85, 86, 87, 88, 89, 90, 91, 92, 93, 94, 95, 96, 97, 98, 99] (by decide +kernel) (by decide +kernel)
set_option maxRecDepth 20000 in
theorem gX12_chance_X12_noLong : GoodIn wsX12_chance (wsV RX12 239 RX12 yX12_noLong wsX12_noLong) := goodIn_app (goodIn_of _ (by decide +kernel)) ggX12_chance_X12_noLong
set_option maxRecDepth 20000 in
theorem ggX12_chance_X12_isWhole : GoodIn wsX12_chance wsX12_isWhole := goodIn_r _ [21, 8, 22, 23, 24, 25, 6, 26, 27, 48, 49, 50, 51, 52, 53, 54, 55, 56, 57, 58, 59, 60, 61, 62, 63, 64, 65, 66, 67, 68, 69, 70, 71, 72, 73, 74, 75, 76, 77, 78, 79, 80, 81, 82, 83, 84, 85, 86, 87, 88, 89, 90, 91, 92, 93, 94, 95, 96, 97, 98, 99] (by decide +kernel) (by decide +kernel)
set_option maxRecDepth 20000 in
theorem gX12_chance_X12_isWhole : GoodIn wsX12_chance (wsV RX12 183 RX12 yX12_isWhole wsX12_isWhole) := goodIn_app (goodIn_of _ (by decide +kernel)) ggX12_chance_X12_isWhole
set_option maxRecDepth 20000 in
theorem ggX12_chance_X12_findShares : GoodIn wsX12_chance wsX12_findShares := goodIn_r _ [31, 32, 8, 22, 2, 27, 33, 1, 34, 35, 36, 6, 37, 38, 39, 40, 41, 42, 43, 44, 48, 49, 50, 51, 52, 53, 54, 55, 56, 57, 58, 59, 60, 61, 62, 63, 64, 65, 66, 67, 68, 69, 70, 71, 72, 73, 74, 75, 76, 77, 78, 79, 80, 81, 82, 83, 84, 85, 86, 87, 88, 89, 90, 91, 92, 93, 94, 95, 96, 97, 98, 99] (by decide +kernel) (by decide +kernel)
set_option maxRecDepth 20000 in
theorem gX12_chance_X12_findShares : GoodIn wsX12_chance (wsV RX12 233 RX12 yX12_findShares wsX12_findShares) := goodIn_app (goodIn_of _ (by decide +kernel)) ggX12_chance_X12_findShares
set_option maxRecDepth 20000 in
theorem ggX12_chance_X12_inLeast : GoodIn wsX12_chance wsX12_inLeast := goodIn_r _ [47, 42, 43, 6, 44] (by decide +kernel) (by decide +kernel)
set_option maxRecDepth 20000 in
theorem gX12_chance_X12_inLeast : GoodIn wsX12_chance (va_wsS RX12 243 yX12_inLeast wsX12_inLeast) := goodIn_app (goodIn_of _ (by decide +kernel)) ggX12_chance_X12_inLeast
theorem dX12_chance_0 : decode cX12_chance 0 = .ok (.aload_n 0, 1) := by decide +kernel
theorem dX12_chance_1 : decode cX12_chance 1 = .ok (.iload_n 1, 1) := by decide +kernel
theorem dX12_chance_2 : decode cX12_chance 2 = .ok (.invokevirtual 166, 3) := by decide +kernel
theorem dX12_chance_5 : decode cX12_chance 5 = .ok (.ifCond .eq 13, 3) := by decide +kernel
theorem dX12_chance_8 : decode cX12_chance 8 = .ok (.iload_n 2, 1) := by decide +kernel
theorem dX12_chance_9 : decode cX12_chance 9 = .ok (.iconst 1, 1) := by decide +kernel
theorem dX12_chance_10 : decode cX12_chance 10 = .ok (.bipush 9, 2) := by decide +kernel
theorem dX12_chance_12 : decode cX12_chance 12 = .ok (.invokestatic 140, 3) := by decide +kernel
theorem dX12_chance_15 : decode cX12_chance 15 = .ok (.ifCond .ne 9, 3) := by decide +kernel
theorem dX12_chance_18 : decode cX12_chance 18 = .ok (.aload_n 0, 1) := by decide +kernel
theorem dX12_chance_19 : decode cX12_chance 19 = .ok (.iconst (-1), 1) := by decide +kernel
theorem dX12_chance_20 : decode cX12_chance 20 = .ok (.invokevirtual 239, 3) := by decide +kernel
theorem dX12_chance_23 : decode cX12_chance 23 = .ok (.lreturn, 1) := by decide +kernel
theorem dX12_chance_24 : decode cX12_chance 24 = .ok (.iload_n 3, 1) := by decide +kernel
theorem dX12_chance_25 : decode cX12_chance 25 = .ok (.iconst 0, 1) := by decide +kernel
