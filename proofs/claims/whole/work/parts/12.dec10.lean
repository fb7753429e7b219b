theorem dX11_silent_49 : decode cX11_silent 49 = .ok (.invokevirtual 72, 3) := by decide +kernel
theorem dX11_silent_52 : decode cX11_silent 52 = .ok (.ireturn, 1) := by decide +kernel
theorem dX11_silent_53 : decode cX11_silent 53 = .ok (.aload_n 0, 1) := by decide +kernel
theorem dX11_silent_54 : decode cX11_silent 54 = .ok (.getfield 59, 3) := by decide +kernel
theorem dX11_silent_57 : decode cX11_silent 57 = .ok (.invokevirtual 136, 3) := by decide +kernel
theorem dX11_silent_60 : decode cX11_silent 60 = .ok (.ifCond .ne 10, 3) := by decide +kernel
theorem dX11_silent_63 : decode cX11_silent 63 = .ok (.aload_n 0, 1) := by decide +kernel
theorem dX11_silent_64 : decode cX11_silent 64 = .ok (.bipush (-3), 2) := by decide +kernel
theorem dX11_silent_66 : decode cX11_silent 66 = .ok (.invokevirtual 72, 3) := by decide +kernel
theorem dX11_silent_69 : decode cX11_silent 69 = .ok (.ireturn, 1) := by decide +kernel
theorem dX11_silent_70 : decode cX11_silent 70 = .ok (.iconst 0, 1) := by decide +kernel
theorem dX11_silent_71 : decode cX11_silent 71 = .ok (.istore 4, 2) := by decide +kernel
theorem dX11_silent_73 : decode cX11_silent 73 = .ok (.iconst 1, 1) := by decide +kernel
theorem dX11_silent_74 : decode cX11_silent 74 = .ok (.istore 5, 2) := by decide +kernel
theorem dX11_silent_76 : decode cX11_silent 76 = .ok (.iload 5, 2) := by decide +kernel
theorem dX11_silent_78 : decode cX11_silent 78 = .ok (.bipush 10, 2) := by decide +kernel
theorem dX11_silent_80 : decode cX11_silent 80 = .ok (.if_icmp .ge 47, 3) := by decide +kernel
theorem dX11_silent_83 : decode cX11_silent 83 = .ok (.aload_n 0, 1) := by decide +kernel
theorem dX11_silent_84 : decode cX11_silent 84 = .ok (.getfield 68, 3) := by decide +kernel
theorem dX11_silent_87 : decode cX11_silent 87 = .ok (.aload_n 3, 1) := by decide +kernel
theorem dX11_silent_88 : decode cX11_silent 88 = .ok (.iconst 1, 1) := by decide +kernel
theorem dX11_silent_89 : decode cX11_silent 89 = .ok (.iload 5, 2) := by decide +kernel
theorem dX11_silent_91 : decode cX11_silent 91 = .ok (.ishl, 1) := by decide +kernel
theorem dX11_silent_92 : decode cX11_silent 92 = .ok (.iconst 0, 1) := by decide +kernel
theorem dX11_silent_93 : decode cX11_silent 93 = .ok (.invokevirtual 230, 3) := by decide +kernel
theorem dX11_silent_96 : decode cX11_silent 96 = .ok (.istore 6, 2) := by decide +kernel
theorem dX11_silent_98 : decode cX11_silent 98 = .ok (.iload 6, 2) := by decide +kernel
theorem dX11_silent_100 : decode cX11_silent 100 = .ok (.aload_n 0, 1) := by decide +kernel
theorem dX11_silent_101 : decode cX11_silent 101 = .ok (.getfield 59, 3) := by decide +kernel
theorem dX11_silent_104 : decode cX11_silent 104 = .ok (.iload_n 2, 1) := by decide +kernel
theorem dX11_silent_105 : decode cX11_silent 105 = .ok (.invokevirtual 234, 3) := by decide +kernel
theorem dX11_silent_108 : decode cX11_silent 108 = .ok (.iand, 1) := by decide +kernel
theorem dX11_silent_109 : decode cX11_silent 109 = .ok (.ifCond .eq 12, 3) := by decide +kernel
theorem dX11_silent_112 : decode cX11_silent 112 = .ok (.iload 4, 2) := by decide +kernel
theorem dX11_silent_114 : decode cX11_silent 114 = .ok (.iconst 1, 1) := by decide +kernel
theorem dX11_silent_115 : decode cX11_silent 115 = .ok (.iload 5, 2) := by decide +kernel
theorem dX11_silent_117 : decode cX11_silent 117 = .ok (.ishl, 1) := by decide +kernel
theorem dX11_silent_118 : decode cX11_silent 118 = .ok (.ior, 1) := by decide +kernel
theorem dX11_silent_119 : decode cX11_silent 119 = .ok (.istore 4, 2) := by decide +kernel
theorem dX11_silent_121 : decode cX11_silent 121 = .ok (.iinc 5 1, 3) := by decide +kernel
theorem dX11_silent_124 : decode cX11_silent 124 = .ok (.goto (-48), 3) := by decide +kernel
theorem dX11_silent_127 : decode cX11_silent 127 = .ok (.iload 4, 2) := by decide +kernel
theorem dX11_silent_129 : decode cX11_silent 129 = .ok (.ireturn, 1) := by decide +kernel
set_option maxRecDepth 20000 in
theorem ggX11_partners_X6_playerAt : GoodIn wsX11_partners wsX6_playerAt := goodIn_r _ [8, 9, 10, 71, 72, 73, 74, 75, 76, 77, 78, 79, 80, 81, 82, 83, 84, 85, 86, 87] (by decide +kernel) (by decide +kernel)
set_option maxRecDepth 20000 in
theorem gX11_partners_X6_playerAt : GoodIn wsX11_partners (wsV RX11 115 RX6 yX6_playerAt wsX6_playerAt) := goodIn_app (goodIn_of _ (by decide +kernel)) ggX11_partners_X6_playerAt
set_option maxRecDepth 20000 in
theorem ggX11_partners_X10_has : GoodIn wsX11_partners wsX10_has := goodIn_r _ [15, 16, 88, 89, 90, 91, 92, 93, 94, 95, 96, 97, 98, 99, 100, 101, 102, 103] (by decide +kernel) (by decide +kernel)
set_option maxRecDepth 20000 in
theorem gX11_partners_X10_has : GoodIn wsX11_partners (wsV RX11 96 RX10 yX10_has wsX10_has) := goodIn_app (goodIn_of _ (by decide +kernel)) ggX11_partners_X10_has
set_option maxRecDepth 20000 in
theorem ggX11_partners_X11_refuse : GoodIn wsX11_partners wsX11_refuse := goodIn_r _ [21, 22, 38, 39, 40, 41, 42, 43, 44, 45, 46, 47, 48, 49, 50] (by decide +kernel) (by decide +kernel)
set_option maxRecDepth 20000 in
theorem gX11_partners_X11_refuse : GoodIn wsX11_partners (wsV RX11 72 RX11 yX11_refuse wsX11_refuse) := goodIn_app (goodIn_of _ (by decide +kernel)) ggX11_partners_X11_refuse
set_option maxRecDepth 20000 in
theorem ggX11_partners_X10_isWhole : GoodIn wsX11_partners wsX10_isWhole := goodIn_r _ [26, 27, 88, 89, 90, 91, 92, 93, 94, 95, 96, 97, 98, 99, 100, 101, 102, 103] (by decide +kernel) (by decide +kernel)
set_option maxRecDepth 20000 in
theorem gX11_partners_X10_isWhole : GoodIn wsX11_partners (wsV RX11 136 RX10 yX10_isWhole wsX10_isWhole) := goodIn_app (goodIn_of _ (by decide +kernel)) ggX11_partners_X10_isWhole
set_option maxRecDepth 20000 in
theorem ggX11_partners_X10_guessAt : GoodIn wsX11_partners wsX10_guessAt := goodIn_r _ [31, 32, 33, 12, 13, 14, 15, 16, 88, 89, 90, 91, 92, 93, 94, 95, 96, 97, 98, 99, 100, 101, 102, 103] (by decide +kernel) (by decide +kernel)
set_option maxRecDepth 20000 in
theorem gX11_partners_X10_guessAt : GoodIn wsX11_partners (wsV RX11 161 RX10 yX10_guessAt wsX10_guessAt) := goodIn_app (goodIn_of _ (by decide +kernel)) ggX11_partners_X10_guessAt
set_option maxRecDepth 20000 in
theorem ggX11_partners_X10_shareOf : GoodIn wsX11_partners wsX10_shareOf := goodIn_r _ [37, 32, 33, 12, 13, 14, 15, 16, 88, 89, 90, 91, 92, 93, 94, 95, 96, 97, 98, 99, 100, 101, 102, 103] (by decide +kernel) (by decide +kernel)
set_option maxRecDepth 20000 in
theorem gX11_partners_X10_shareOf : GoodIn wsX11_partners (wsV RX11 150 RX10 yX10_shareOf wsX10_shareOf) := goodIn_app (goodIn_of _ (by decide +kernel)) ggX11_partners_X10_shareOf
theorem dX11_partners_0 : decode cX11_partners 0 = .ok (.aload_n 0, 1) := by decide +kernel
theorem dX11_partners_1 : decode cX11_partners 1 = .ok (.getfield 68, 3) := by decide +kernel
theorem dX11_partners_4 : decode cX11_partners 4 = .ok (.iload_n 1, 1) := by decide +kernel
theorem dX11_partners_5 : decode cX11_partners 5 = .ok (.invokevirtual 115, 3) := by decide +kernel
theorem dX11_partners_8 : decode cX11_partners 8 = .ok (.astore 4, 2) := by decide +kernel
theorem dX11_partners_10 : decode cX11_partners 10 = .ok (.aload_n 0, 1) := by decide +kernel
theorem dX11_partners_11 : decode cX11_partners 11 = .ok (.getfield 68, 3) := by decide +kernel
theorem dX11_partners_14 : decode cX11_partners 14 = .ok (.iload_n 2, 1) := by decide +kernel
theorem dX11_partners_15 : decode cX11_partners 15 = .ok (.invokevirtual 115, 3) := by decide +kernel
theorem dX11_partners_18 : decode cX11_partners 18 = .ok (.astore 5, 2) := by decide +kernel
theorem dX11_partners_20 : decode cX11_partners 20 = .ok (.aload 4, 2) := by decide +kernel
theorem dX11_partners_22 : decode cX11_partners 22 = .ok (.ifnull 24, 3) := by decide +kernel
theorem dX11_partners_25 : decode cX11_partners 25 = .ok (.aload 5, 2) := by decide +kernel
theorem dX11_partners_27 : decode cX11_partners 27 = .ok (.ifnull 19, 3) := by decide +kernel
theorem dX11_partners_30 : decode cX11_partners 30 = .ok (.iload_n 1, 1) := by decide +kernel
theorem dX11_partners_31 : decode cX11_partners 31 = .ok (.iload_n 2, 1) := by decide +kernel
theorem dX11_partners_32 : decode cX11_partners 32 = .ok (.if_icmp .eq 14, 3) := by decide +kernel
theorem dX11_partners_35 : decode cX11_partners 35 = .ok (.aload_n 0, 1) := by decide +kernel
theorem dX11_partners_36 : decode cX11_partners 36 = .ok (.getfield 59, 3) := by decide +kernel
theorem dX11_partners_39 : decode cX11_partners 39 = .ok (.iload_n 3, 1) := by decide +kernel
theorem dX11_partners_40 : decode cX11_partners 40 = .ok (.invokevirtual 96, 3) := by decide +kernel
theorem dX11_partners_43 : decode cX11_partners 43 = .ok (.ifCond .ne 9, 3) := by decide +kernel
theorem dX11_partners_46 : decode cX11_partners 46 = .ok (.aload_n 0, 1) := by decide +kernel
theorem dX11_partners_47 : decode cX11_partners 47 = .ok (.iconst (-1), 1) := by decide +kernel
theorem dX11_partners_48 : decode cX11_partners 48 = .ok (.invokevirtual 72, 3) := by decide +kernel
theorem dX11_partners_51 : decode cX11_partners 51 = .ok (.ireturn, 1) := by decide +kernel
theorem dX11_partners_52 : decode cX11_partners 52 = .ok (.aload_n 0, 1) := by decide +kernel
theorem dX11_partners_53 : decode cX11_partners 53 = .ok (.getfield 59, 3) := by decide +kernel
theorem dX11_partners_56 : decode cX11_partners 56 = .ok (.invokevirtual 136, 3) := by decide +kernel
theorem dX11_partners_59 : decode cX11_partners 59 = .ok (.ifCond .ne 10, 3) := by decide +kernel
theorem dX11_partners_62 : decode cX11_partners 62 = .ok (.aload_n 0, 1) := by decide +kernel
theorem dX11_partners_63 : decode cX11_partners 63 = .ok (.bipush (-3), 2) := by decide +kernel
theorem dX11_partners_65 : decode cX11_partners 65 = .ok (.invokevirtual 72, 3) := by decide +kernel
theorem dX11_partners_68 : decode cX11_partners 68 = .ok (.ireturn, 1) := by decide +kernel
theorem dX11_partners_69 : decode cX11_partners 69 = .ok (.aload_n 0, 1) := by decide +kernel
theorem dX11_partners_70 : decode cX11_partners 70 = .ok (.getfield 59, 3) := by decide +kernel
theorem dX11_partners_73 : decode cX11_partners 73 = .ok (.iload_n 3, 1) := by decide +kernel
theorem dX11_partners_74 : decode cX11_partners 74 = .ok (.aload_n 0, 1) := by decide +kernel
theorem dX11_partners_75 : decode cX11_partners 75 = .ok (.getfield 59, 3) := by decide +kernel
theorem dX11_partners_78 : decode cX11_partners 78 = .ok (.iload_n 3, 1) := by decide +kernel
theorem dX11_partners_79 : decode cX11_partners 79 = .ok (.aload 4, 2) := by decide +kernel
theorem dX11_partners_81 : decode cX11_partners 81 = .ok (.getfield 130, 3) := by decide +kernel
theorem dX11_partners_84 : decode cX11_partners 84 = .ok (.invokevirtual 161, 3) := by decide +kernel
theorem dX11_partners_87 : decode cX11_partners 87 = .ok (.invokevirtual 150, 3) := by decide +kernel
theorem dX11_partners_90 : decode cX11_partners 90 = .ok (.lstore 6, 2) := by decide +kernel
theorem dX11_partners_92 : decode cX11_partners 92 = .ok (.aload_n 0, 1) := by decide +kernel
theorem dX11_partners_93 : decode cX11_partners 93 = .ok (.getfield 59, 3) := by decide +kernel
theorem dX11_partners_96 : decode cX11_partners 96 = .ok (.iload_n 3, 1) := by decide +kernel
theorem dX11_partners_97 : decode cX11_partners 97 = .ok (.aload_n 0, 1) := by decide +kernel
theorem dX11_partners_98 : decode cX11_partners 98 = .ok (.getfield 59, 3) := by decide +kernel
theorem dX11_partners_101 : decode cX11_partners 101 = .ok (.iload_n 3, 1) := by decide +kernel
theorem dX11_partners_102 : decode cX11_partners 102 = .ok (.aload 5, 2) := by decide +kernel
theorem dX11_partners_104 : decode cX11_partners 104 = .ok (.getfield 130, 3) := by decide +kernel
theorem dX11_partners_107 : decode cX11_partners 107 = .ok (.invokevirtual 161, 3) := by decide +kernel
theorem dX11_partners_110 : decode cX11_partners 110 = .ok (.invokevirtual 150, 3) := by decide +kernel
theorem dX11_partners_113 : decode cX11_partners 113 = .ok (.lstore 8, 2) := by decide +kernel
theorem dX11_partners_115 : decode cX11_partners 115 = .ok (.lload 6, 2) := by decide +kernel
theorem dX11_partners_117 : decode cX11_partners 117 = .ok (.lconst 0, 1) := by decide +kernel
theorem dX11_partners_118 : decode cX11_partners 118 = .ok (.lcmp, 1) := by decide +kernel
theorem dX11_partners_119 : decode cX11_partners 119 = .ok (.ifCond .ne 13, 3) := by decide +kernel
theorem dX11_partners_122 : decode cX11_partners 122 = .ok (.lload 8, 2) := by decide +kernel
theorem dX11_partners_124 : decode cX11_partners 124 = .ok (.lconst 0, 1) := by decide +kernel
theorem dX11_partners_125 : decode cX11_partners 125 = .ok (.lcmp, 1) := by decide +kernel
theorem dX11_partners_126 : decode cX11_partners 126 = .ok (.ifCond .ne 6, 3) := by decide +kernel
theorem dX11_partners_129 : decode cX11_partners 129 = .ok (.bipush (-9), 2) := by decide +kernel
theorem dX11_partners_131 : decode cX11_partners 131 = .ok (.ireturn, 1) := by decide +kernel
theorem dX11_partners_132 : decode cX11_partners 132 = .ok (.lload 8, 2) := by decide +kernel
theorem dX11_partners_134 : decode cX11_partners 134 = .ok (.lload 6, 2) := by decide +kernel
theorem dX11_partners_136 : decode cX11_partners 136 = .ok (.lcmp, 1) := by decide +kernel
theorem dX11_partners_137 : decode cX11_partners 137 = .ok (.ifCond .le 7, 3) := by decide +kernel
theorem dX11_partners_140 : decode cX11_partners 140 = .ok (.iload_n 2, 1) := by decide +kernel
theorem dX11_partners_141 : decode cX11_partners 141 = .ok (.goto 4, 3) := by decide +kernel
theorem dX11_partners_144 : decode cX11_partners 144 = .ok (.iload_n 1, 1) := by decide +kernel
theorem dX11_partners_145 : decode cX11_partners 145 = .ok (.ireturn, 1) := by decide +kernel
set_option maxRecDepth 20000 in
theorem ggX11_fact_X11_refuse : GoodIn wsX11_fact wsX11_refuse := goodIn_r _ [6, 7, 19, 20, 21, 22, 23, 24, 25, 26, 27, 28, 29, 30, 31] (by decide +kernel) (by decide +kernel)
set_option maxRecDepth 20000 in
theorem gX11_fact_X11_refuse : GoodIn wsX11_fact (wsV RX11 72 RX11 yX11_refuse wsX11_refuse) := goodIn_app (goodIn_of _ (by decide +kernel)) ggX11_fact_X11_refuse
set_option maxRecDepth 20000 in
theorem ggX11_fact_X3_size : GoodIn wsX11_fact wsX3_size := goodIn_r _ [12, 13, 32, 33, 34, 35, 36] (by decide +kernel) (by decide +kernel)
set_option maxRecDepth 20000 in
theorem gX11_fact_X3_size : GoodIn wsX11_fact (wsV RX11 237 RX3 yX3_size wsX3_size) := goodIn_app (goodIn_of _ (by decide +kernel)) ggX11_fact_X3_size
set_option maxRecDepth 20000 in
theorem ggX11_fact_X3_append : GoodIn wsX11_fact wsX3_append := goodIn_r _ [17, 13, 18, 32, 33, 34, 35, 36] (by decide +kernel) (by decide +kernel)
set_option maxRecDepth 20000 in
theorem gX11_fact_X3_append : GoodIn wsX11_fact (wsV RX11 238 RX3 yX3_append wsX3_append) := goodIn_app (goodIn_of _ (by decide +kernel)) ggX11_fact_X3_append
theorem dX11_fact_0 : decode cX11_fact 0 = .ok (.iload_n 1, 1) := by decide +kernel
theorem dX11_fact_1 : decode cX11_fact 1 = .ok (.ifCond .lt 11, 3) := by decide +kernel
theorem dX11_fact_4 : decode cX11_fact 4 = .ok (.iload_n 1, 1) := by decide +kernel
theorem dX11_fact_5 : decode cX11_fact 5 = .ok (.sipush (-1023), 3) := by decide +kernel
theorem dX11_fact_8 : decode cX11_fact 8 = .ok (.iand, 1) := by decide +kernel
theorem dX11_fact_9 : decode cX11_fact 9 = .ok (.ifCond .eq 9, 3) := by decide +kernel
theorem dX11_fact_12 : decode cX11_fact 12 = .ok (.aload_n 0, 1) := by decide +kernel
theorem dX11_fact_13 : decode cX11_fact 13 = .ok (.iconst (-1), 1) := by decide +kernel
theorem dX11_fact_14 : decode cX11_fact 14 = .ok (.invokevirtual 72, 3) := by decide +kernel
theorem dX11_fact_17 : decode cX11_fact 17 = .ok (.ireturn, 1) := by decide +kernel
theorem dX11_fact_18 : decode cX11_fact 18 = .ok (.aload_n 0, 1) := by decide +kernel
theorem dX11_fact_19 : decode cX11_fact 19 = .ok (.getfield 19, 3) := by decide +kernel
theorem dX11_fact_22 : decode cX11_fact 22 = .ok (.invokevirtual 237, 3) := by decide +kernel
theorem dX11_fact_25 : decode cX11_fact 25 = .ok (.iconst 5, 1) := by decide +kernel
theorem dX11_fact_26 : decode cX11_fact 26 = .ok (.if_icmp .lt 10, 3) := by decide +kernel
theorem dX11_fact_29 : decode cX11_fact 29 = .ok (.aload_n 0, 1) := by decide +kernel
theorem dX11_fact_30 : decode cX11_fact 30 = .ok (.bipush (-6), 2) := by decide +kernel
theorem dX11_fact_32 : decode cX11_fact 32 = .ok (.invokevirtual 72, 3) := by decide +kernel
theorem dX11_fact_35 : decode cX11_fact 35 = .ok (.ireturn, 1) := by decide +kernel
theorem dX11_fact_36 : decode cX11_fact 36 = .ok (.aload_n 0, 1) := by decide +kernel
theorem dX11_fact_37 : decode cX11_fact 37 = .ok (.getfield 19, 3) := by decide +kernel
theorem dX11_fact_40 : decode cX11_fact 40 = .ok (.iload_n 1, 1) := by decide +kernel
theorem dX11_fact_41 : decode cX11_fact 41 = .ok (.invokevirtual 238, 3) := by decide +kernel
theorem dX11_fact_44 : decode cX11_fact 44 = .ok (.ireturn, 1) := by decide +kernel
set_option maxRecDepth 20000 in
theorem ggX11_had_X11_refuse : GoodIn wsX11_had wsX11_refuse := goodIn_r _ [6, 7, 27, 28, 29, 30, 31, 32, 33, 34, 35, 36, 37, 38, 39] (by decide +kernel) (by decide +kernel)
set_option maxRecDepth 20000 in
theorem gX11_had_X11_refuse : GoodIn wsX11_had (wsV RX11 72 RX11 yX11_refuse wsX11_refuse) := goodIn_app (goodIn_of _ (by decide +kernel)) ggX11_had_X11_refuse
set_option maxRecDepth 20000 in
theorem ggX11_had_X3_takeOrder : GoodIn wsX11_had wsX3_takeOrder := goodIn_r _ [12, 13, 14, 40, 41, 42, 43, 44] (by decide +kernel) (by decide +kernel)
set_option maxRecDepth 20000 in
theorem gX11_had_X3_takeOrder : GoodIn wsX11_had (wsV RX11 240 RX3 yX3_takeOrder wsX3_takeOrder) := goodIn_app (goodIn_of _ (by decide +kernel)) ggX11_had_X3_takeOrder
set_option maxRecDepth 20000 in
theorem ggX11_had_X3_hadBehind : GoodIn wsX11_had wsX3_hadBehind := goodIn_r _ [18, 14, 19, 20, 21, 22, 23, 24, 25, 26, 40, 41, 42, 43, 44] (by decide +kernel) (by decide +kernel)
set_option maxRecDepth 20000 in
theorem gX11_had_X3_hadBehind : GoodIn wsX11_had (wsV RX11 244 RX3 yX3_hadBehind wsX3_hadBehind) := goodIn_app (goodIn_of _ (by decide +kernel)) ggX11_had_X3_hadBehind
theorem dX11_had_0 : decode cX11_had 0 = .ok (.iload_n 1, 1) := by decide +kernel
theorem dX11_had_1 : decode cX11_had 1 = .ok (.ifCond .ge 10, 3) := by decide +kernel
theorem dX11_had_4 : decode cX11_had 4 = .ok (.aload_n 0, 1) := by decide +kernel
theorem dX11_had_5 : decode cX11_had 5 = .ok (.bipush (-4), 2) := by decide +kernel
theorem dX11_had_7 : decode cX11_had 7 = .ok (.invokevirtual 72, 3) := by decide +kernel
theorem dX11_had_10 : decode cX11_had 10 = .ok (.ireturn, 1) := by decide +kernel
theorem dX11_had_11 : decode cX11_had 11 = .ok (.iload_n 1, 1) := by decide +kernel
theorem dX11_had_12 : decode cX11_had 12 = .ok (.iconst 5, 1) := by decide +kernel
theorem dX11_had_13 : decode cX11_had 13 = .ok (.if_icmp .le 10, 3) := by decide +kernel
theorem dX11_had_16 : decode cX11_had 16 = .ok (.aload_n 0, 1) := by decide +kernel
theorem dX11_had_17 : decode cX11_had 17 = .ok (.bipush (-6), 2) := by decide +kernel
theorem dX11_had_19 : decode cX11_had 19 = .ok (.invokevirtual 72, 3) := by decide +kernel
theorem dX11_had_22 : decode cX11_had 22 = .ok (.ireturn, 1) := by decide +kernel
theorem dX11_had_23 : decode cX11_had 23 = .ok (.iload_n 2, 1) := by decide +kernel
theorem dX11_had_24 : decode cX11_had 24 = .ok (.ifCond .lt 15, 3) := by decide +kernel
theorem dX11_had_27 : decode cX11_had 27 = .ok (.aload_n 0, 1) := by decide +kernel
theorem dX11_had_28 : decode cX11_had 28 = .ok (.getfield 19, 3) := by decide +kernel
theorem dX11_had_31 : decode cX11_had 31 = .ok (.iload_n 1, 1) := by decide +kernel
theorem dX11_had_32 : decode cX11_had 32 = .ok (.iload_n 2, 1) := by decide +kernel
theorem dX11_had_33 : decode cX11_had 33 = .ok (.invokevirtual 240, 3) := by decide +kernel
theorem dX11_had_36 : decode cX11_had 36 = .ok (.ifCond .ne 9, 3) := by decide +kernel
theorem dX11_had_39 : decode cX11_had 39 = .ok (.aload_n 0, 1) := by decide +kernel
theorem dX11_had_40 : decode cX11_had 40 = .ok (.iconst (-1), 1) := by decide +kernel
theorem dX11_had_41 : decode cX11_had 41 = .ok (.invokevirtual 72, 3) := by decide +kernel
theorem dX11_had_44 : decode cX11_had 44 = .ok (.ireturn, 1) := by decide +kernel
theorem dX11_had_45 : decode cX11_had 45 = .ok (.aload_n 0, 1) := by decide +kernel
theorem dX11_had_46 : decode cX11_had 46 = .ok (.getfield 19, 3) := by decide +kernel
theorem dX11_had_49 : decode cX11_had 49 = .ok (.iload_n 1, 1) := by decide +kernel
theorem dX11_had_50 : decode cX11_had 50 = .ok (.invokevirtual 244, 3) := by decide +kernel
theorem dX11_had_53 : decode cX11_had 53 = .ok (.ireturn, 1) := by decide +kernel
set_option maxRecDepth 20000 in
theorem ggX11_late_X11_refuse : GoodIn wsX11_late wsX11_refuse := goodIn_r _ [6, 7, 41, 42, 43, 44, 45, 46, 47, 48, 49, 50, 51, 52, 53] (by decide +kernel) (by decide +kernel)
set_option maxRecDepth 20000 in
theorem gX11_late_X11_refuse : GoodIn wsX11_late (wsV RX11 72 RX11 yX11_refuse wsX11_refuse) := goodIn_app (goodIn_of _ (by decide +kernel)) ggX11_late_X11_refuse
set_option maxRecDepth 20000 in
theorem ggX11_late_X3_findExtreme : GoodIn wsX11_late wsX3_findExtreme := goodIn_r _ [12, 13, 14, 15, 16, 17, 18, 19, 11, 20, 21, 22, 23, 24, 25, 26, 27, 28, 29, 30, 31, 32, 33, 34, 35, 36, 54, 55, 56, 57, 58] (by decide +kernel) (by decide +kernel)
set_option maxRecDepth 20000 in
theorem gX11_late_X3_findExtreme : GoodIn wsX11_late (wsV RX11 247 RX3 yX3_findExtreme wsX3_findExtreme) := goodIn_app (goodIn_of _ (by decide +kernel)) ggX11_late_X3_findExtreme
set_option maxRecDepth 20000 in
theorem ggX11_late_X3_told : GoodIn wsX11_late wsX3_told := goodIn_r _ [40, 14, 15, 16, 54, 55, 56, 57, 58] (by decide +kernel) (by decide +kernel)
set_option maxRecDepth 20000 in
theorem gX11_late_X3_told : GoodIn wsX11_late (wsV RX11 251 RX3 yX3_told wsX3_told) := goodIn_app (goodIn_of _ (by decide +kernel)) ggX11_late_X3_told
theorem dX11_late_0 : decode cX11_late 0 = .ok (.iload_n 1, 1) := by decide +kernel
theorem dX11_late_1 : decode cX11_late 1 = .ok (.iconst (-1), 1) := by decide +kernel
theorem dX11_late_2 : decode cX11_late 2 = .ok (.if_icmp .ge 10, 3) := by decide +kernel
theorem dX11_late_5 : decode cX11_late 5 = .ok (.aload_n 0, 1) := by decide +kernel
theorem dX11_late_6 : decode cX11_late 6 = .ok (.bipush (-4), 2) := by decide +kernel
theorem dX11_late_8 : decode cX11_late 8 = .ok (.invokevirtual 72, 3) := by decide +kernel
theorem dX11_late_11 : decode cX11_late 11 = .ok (.ireturn, 1) := by decide +kernel
theorem dX11_late_12 : decode cX11_late 12 = .ok (.aload_n 0, 1) := by decide +kernel
theorem dX11_late_13 : decode cX11_late 13 = .ok (.getfield 19, 3) := by decide +kernel
theorem dX11_late_16 : decode cX11_late 16 = .ok (.iconst 1, 1) := by decide +kernel
theorem dX11_late_17 : decode cX11_late 17 = .ok (.invokevirtual 247, 3) := by decide +kernel
theorem dX11_late_20 : decode cX11_late 20 = .ok (.aload_n 0, 1) := by decide +kernel
theorem dX11_late_21 : decode cX11_late 21 = .ok (.getfield 19, 3) := by decide +kernel
theorem dX11_late_24 : decode cX11_late 24 = .ok (.iload_n 1, 1) := by decide +kernel
theorem dX11_late_25 : decode cX11_late 25 = .ok (.invokevirtual 251, 3) := by decide +kernel
theorem dX11_late_28 : decode cX11_late 28 = .ok (.ireturn, 1) := by decide +kernel
set_option maxRecDepth 20000 in
theorem ggX11_soon_X11_refuse : GoodIn wsX11_soon wsX11_refuse := goodIn_r _ [6, 7, 41, 42, 43, 44, 45, 46, 47, 48, 49, 50, 51, 52, 53] (by decide +kernel) (by decide +kernel)
set_option maxRecDepth 20000 in
theorem gX11_soon_X11_refuse : GoodIn wsX11_soon (wsV RX11 72 RX11 yX11_refuse wsX11_refuse) := goodIn_app (goodIn_of _ (by decide +kernel)) ggX11_soon_X11_refuse
set_option maxRecDepth 20000 in
theorem ggX11_soon_X3_findExtreme : GoodIn wsX11_soon wsX3_findExtreme := goodIn_r _ [12, 13, 14, 15, 16, 17, 18, 19, 11, 20, 21, 22, 23, 24, 25, 26, 27, 28, 29, 30, 31, 32, 33, 34, 35, 36, 54, 55, 56, 57, 58] (by decide +kernel) (by decide +kernel)
set_option maxRecDepth 20000 in
theorem gX11_soon_X3_findExtreme : GoodIn wsX11_soon (wsV RX11 247 RX3 yX3_findExtreme wsX3_findExtreme) := goodIn_app (goodIn_of _ (by decide +kernel)) ggX11_soon_X3_findExtreme
set_option maxRecDepth 20000 in
theorem ggX11_soon_X3_told : GoodIn wsX11_soon wsX3_told := goodIn_r _ [40, 14, 15, 16, 54, 55, 56, 57, 58] (by decide +kernel) (by decide +kernel)
set_option maxRecDepth 20000 in
theorem gX11_soon_X3_told : GoodIn wsX11_soon (wsV RX11 251 RX3 yX3_told wsX3_told) := goodIn_app (goodIn_of _ (by decide +kernel)) ggX11_soon_X3_told
theorem dX11_soon_0 : decode cX11_soon 0 = .ok (.iload_n 1, 1) := by decide +kernel
theorem dX11_soon_1 : decode cX11_soon 1 = .ok (.iconst (-1), 1) := by decide +kernel
theorem dX11_soon_2 : decode cX11_soon 2 = .ok (.if_icmp .ge 10, 3) := by decide +kernel
theorem dX11_soon_5 : decode cX11_soon 5 = .ok (.aload_n 0, 1) := by decide +kernel
theorem dX11_soon_6 : decode cX11_soon 6 = .ok (.bipush (-4), 2) := by decide +kernel
theorem dX11_soon_8 : decode cX11_soon 8 = .ok (.invokevirtual 72, 3) := by decide +kernel
theorem dX11_soon_11 : decode cX11_soon 11 = .ok (.ireturn, 1) := by decide +kernel
theorem dX11_soon_12 : decode cX11_soon 12 = .ok (.aload_n 0, 1) := by decide +kernel
theorem dX11_soon_13 : decode cX11_soon 13 = .ok (.getfield 19, 3) := by decide +kernel
theorem dX11_soon_16 : decode cX11_soon 16 = .ok (.iconst 0, 1) := by decide +kernel
theorem dX11_soon_17 : decode cX11_soon 17 = .ok (.invokevirtual 247, 3) := by decide +kernel
theorem dX11_soon_20 : decode cX11_soon 20 = .ok (.aload_n 0, 1) := by decide +kernel
theorem dX11_soon_21 : decode cX11_soon 21 = .ok (.getfield 19, 3) := by decide +kernel
theorem dX11_soon_24 : decode cX11_soon 24 = .ok (.iload_n 1, 1) := by decide +kernel
theorem dX11_soon_25 : decode cX11_soon 25 = .ok (.invokevirtual 251, 3) := by decide +kernel
theorem dX11_soon_28 : decode cX11_soon 28 = .ok (.ireturn, 1) := by decide +kernel
set_option maxRecDepth 20000 in
theorem ggX11_evening_X6_playerAt : GoodIn wsX11_evening wsX6_playerAt := goodIn_r _ [9, 10, 11, 213, 214, 215, 216, 217, 218, 219, 220, 221, 222, 223, 224, 225, 226, 227, 228, 229] (by decide +kernel) (by decide +kernel)
set_option maxRecDepth 20000 in
theorem gX11_evening_X6_playerAt : GoodIn wsX11_evening (wsV RX11 115 RX6 yX6_playerAt wsX6_playerAt) := goodIn_app (goodIn_of _ (by decide +kernel)) ggX11_evening_X6_playerAt
set_option maxRecDepth 20000 in
theorem ggX11_evening_X11_refuse : GoodIn wsX11_evening wsX11_refuse := goodIn_r _ [16, 17, 200, 201, 202, 203, 204, 205, 206, 207, 208, 209, 210, 211, 212] (by decide +kernel) (by decide +kernel)
set_option maxRecDepth 20000 in
theorem gX11_evening_X11_refuse : GoodIn wsX11_evening (wsV RX11 72 RX11 yX11_refuse wsX11_refuse) := goodIn_app (goodIn_of _ (by decide +kernel)) ggX11_evening_X11_refuse
set_option maxRecDepth 20000 in
theorem ggX11_evening_X10_isWhole : GoodIn wsX11_evening wsX10_isWhole := goodIn_r _ [22, 23, 230, 231, 232, 233, 234, 235, 236, 237, 238, 239, 240, 241, 242, 243, 244, 245] (by decide +kernel) (by decide +kernel)
set_option maxRecDepth 20000 in
theorem gX11_evening_X10_isWhole : GoodIn wsX11_evening (wsV RX11 136 RX10 yX10_isWhole wsX10_isWhole) := goodIn_app (goodIn_of _ (by decide +kernel)) ggX11_evening_X10_isWhole
set_option maxRecDepth 20000 in
theorem ggX11_evening_X6_prepare : GoodIn wsX11_evening wsX6_prepare := goodIn_r _ [27, 10, 11, 28, 29, 30, 31, 32, 33, 34, 35, 21, 36, 37, 38, 39, 40, 41, 8, 42, 43, 44, 45, 46, 47, 48, 49, 50, 51, 52, 53, 54, 55, 56, 57, 58, 59, 60, 61, 62, 63, 64, 65, 66, 67, 68, 69, 70, 71, 72, 73, 74, 75, 76, 77, 78, 79, 80, 81, 82, 83, 84, 85, 86, 87, 88, 89, 90, 91, 92, 93, 94, 95, 96, 97, 98, 99, 100, 101, 102, 103, 104, 105, 106, 107, 108, 109, 110, 111, 112, 113, 114, 115, 116, 117, 118, 119, 120, 121, 122, 123, 124, 125, 126, 127, 128, 129, 130, 131, 132, 133, 134, 213, 214, 215, 216, 217, 218, 219, 220, 221, 222, 223, 224, 225, 226, 227, 228, 229, 246, 247, 248, 249, 250, 251, 252, 253, 254, 255, 256, 257, 258, 259, 260, 261, 262, 263, 264, 265, 230, 231, 232, 233, 234, 235, 236, 237, 238, 239, 240, 241, 242, 243, 244, 245] (by decide +kernel) (by decide +kernel)
set_option maxRecDepth 20000 in
theorem gX11_evening_X6_prepare : GoodIn wsX11_evening (wsV RX11 178 RX6 yX6_prepare wsX6_prepare) := goodIn_app (goodIn_of _ (by decide +kernel)) ggX11_evening_X6_prepare
set_option maxRecDepth 20000 in
theorem ggX11_evening_X6_drawEnd : GoodIn wsX11_evening wsX6_drawEnd := goodIn_r _ [138, 29, 139, 140, 141, 21, 142, 143, 70, 56, 57, 58, 37, 144, 145, 146, 147, 148, 149, 150, 151, 8, 152, 153, 154, 155, 156, 157, 158, 159, 160, 63, 161, 213, 214, 215, 216, 217, 218, 219, 220, 221, 222, 223, 224, 225, 226, 227, 228, 229, 230, 231, 232, 233, 234, 235, 236, 237, 238, 239, 240, 241, 242, 243, 244, 245] (by decide +kernel) (by decide +kernel)
set_option maxRecDepth 20000 in
theorem gX11_evening_X6_drawEnd : GoodIn wsX11_evening (wsV RX11 258 RX6 yX6_drawEnd wsX6_drawEnd) := goodIn_app (goodIn_of _ (by decide +kernel)) ggX11_evening_X6_drawEnd
set_option maxRecDepth 20000 in
theorem ggX11_evening_X6_runTo : GoodIn wsX11_evening wsX6_runTo := goodIn_r _ [165, 166, 167, 168, 169, 170, 10, 171, 31, 32, 29, 172, 173, 174, 21, 175, 176, 70, 56, 57, 58, 37, 177, 178, 179, 8, 180, 11, 181, 182, 183, 184, 185, 30, 54, 186, 6, 7, 9, 65, 66, 67, 68, 69, 187, 188, 189, 190, 121, 191, 192, 193, 194, 195, 213, 214, 215, 216, 217, 218, 219, 220, 221, 222, 223, 224, 225, 226, 227, 228, 229, 230, 231, 232, 233, 234, 235, 236, 237, 238, 239, 240, 241, 242, 243, 244, 245, 246, 247, 248, 249, 250, 251, 252, 253, 254, 255, 256, 257, 258, 259, 260, 261, 262, 263, 264, 265] (by decide +kernel) (by decide +kernel)
set_option maxRecDepth 20000 in
theorem gX11_evening_X6_runTo : GoodIn wsX11_evening (wsV RX11 187 RX6 yX6_runTo wsX6_runTo) := goodIn_app (goodIn_of _ (by decide +kernel)) ggX11_evening_X6_runTo
set_option maxRecDepth 20000 in
theorem ggX11_evening_X6_gainOf : GoodIn wsX11_evening wsX6_gainOf := goodIn_r _ [199, 171, 213, 214, 215, 216, 217, 218, 219, 220, 221, 222, 223, 224, 225, 226, 227, 228, 229] (by decide +kernel) (by decide +kernel)
set_option maxRecDepth 20000 in
theorem gX11_evening_X6_gainOf : GoodIn wsX11_evening (wsV RX11 261 RX6 yX6_gainOf wsX6_gainOf) := goodIn_app (goodIn_of _ (by decide +kernel)) ggX11_evening_X6_gainOf
theorem dX11_evening_0 : decode cX11_evening 0 = .ok (.aload_n 0, 1) := by decide +kernel
theorem dX11_evening_1 : decode cX11_evening 1 = .ok (.getfield 68, 3) := by decide +kernel
theorem dX11_evening_4 : decode cX11_evening 4 = .ok (.iload_n 3, 1) := by decide +kernel
theorem dX11_evening_5 : decode cX11_evening 5 = .ok (.invokevirtual 115, 3) := by decide +kernel
theorem dX11_evening_8 : decode cX11_evening 8 = .ok (.ifnonnull 12, 3) := by decide +kernel
theorem dX11_evening_11 : decode cX11_evening 11 = .ok (.ldc 254, 2) := by decide +kernel
theorem dX11_evening_13 : decode cX11_evening 13 = .ok (.aload_n 0, 1) := by decide +kernel
theorem dX11_evening_14 : decode cX11_evening 14 = .ok (.iconst (-1), 1) := by decide +kernel
theorem dX11_evening_15 : decode cX11_evening 15 = .ok (.invokevirtual 72, 3) := by decide +kernel
theorem dX11_evening_18 : decode cX11_evening 18 = .ok (.isub, 1) := by decide +kernel
theorem dX11_evening_19 : decode cX11_evening 19 = .ok (.ireturn, 1) := by decide +kernel
theorem dX11_evening_20 : decode cX11_evening 20 = .ok (.iload_n 1, 1) := by decide +kernel
theorem dX11_evening_21 : decode cX11_evening 21 = .ok (.iconst 1, 1) := by decide +kernel
theorem dX11_evening_22 : decode cX11_evening 22 = .ok (.if_icmp .ge 13, 3) := by decide +kernel
theorem dX11_evening_25 : decode cX11_evening 25 = .ok (.ldc 254, 2) := by decide +kernel
theorem dX11_evening_27 : decode cX11_evening 27 = .ok (.aload_n 0, 1) := by decide +kernel
theorem dX11_evening_28 : decode cX11_evening 28 = .ok (.bipush (-4), 2) := by decide +kernel
theorem dX11_evening_30 : decode cX11_evening 30 = .ok (.invokevirtual 72, 3) := by decide +kernel
theorem dX11_evening_33 : decode cX11_evening 33 = .ok (.isub, 1) := by decide +kernel
theorem dX11_evening_34 : decode cX11_evening 34 = .ok (.ireturn, 1) := by decide +kernel
theorem dX11_evening_35 : decode cX11_evening 35 = .ok (.iload_n 1, 1) := by decide +kernel
theorem dX11_evening_36 : decode cX11_evening 36 = .ok (.bipush 20, 2) := by decide +kernel
theorem dX11_evening_38 : decode cX11_evening 38 = .ok (.if_icmp .le 13, 3) := by decide +kernel
theorem dX11_evening_41 : decode cX11_evening 41 = .ok (.ldc 254, 2) := by decide +kernel
theorem dX11_evening_43 : decode cX11_evening 43 = .ok (.aload_n 0, 1) := by decide +kernel
theorem dX11_evening_44 : decode cX11_evening 44 = .ok (.bipush (-6), 2) := by decide +kernel
theorem dX11_evening_46 : decode cX11_evening 46 = .ok (.invokevirtual 72, 3) := by decide +kernel
theorem dX11_evening_49 : decode cX11_evening 49 = .ok (.isub, 1) := by decide +kernel
theorem dX11_evening_50 : decode cX11_evening 50 = .ok (.ireturn, 1) := by decide +kernel
theorem dX11_evening_51 : decode cX11_evening 51 = .ok (.aload_n 0, 1) := by decide +kernel
theorem dX11_evening_52 : decode cX11_evening 52 = .ok (.getfield 59, 3) := by decide +kernel
theorem dX11_evening_55 : decode cX11_evening 55 = .ok (.invokevirtual 136, 3) := by decide +kernel
theorem dX11_evening_58 : decode cX11_evening 58 = .ok (.ifCond .ne 13, 3) := by decide +kernel
theorem dX11_evening_61 : decode cX11_evening 61 = .ok (.ldc 254, 2) := by decide +kernel
theorem dX11_evening_63 : decode cX11_evening 63 = .ok (.aload_n 0, 1) := by decide +kernel
theorem dX11_evening_64 : decode cX11_evening 64 = .ok (.bipush (-3), 2) := by decide +kernel
theorem dX11_evening_66 : decode cX11_evening 66 = .ok (.invokevirtual 72, 3) := by decide +kernel
theorem dX11_evening_69 : decode cX11_evening 69 = .ok (.isub, 1) := by decide +kernel
theorem dX11_evening_70 : decode cX11_evening 70 = .ok (.ireturn, 1) := by decide +kernel
theorem dX11_evening_71 : decode cX11_evening 71 = .ok (.aload_n 0, 1) := by decide +kernel
theorem dX11_evening_72 : decode cX11_evening 72 = .ok (.getfield 68, 3) := by decide +kernel
theorem dX11_evening_75 : decode cX11_evening 75 = .ok (.invokevirtual 178, 3) := by decide +kernel
theorem dX11_evening_78 : decode cX11_evening 78 = .ok (.aload_n 0, 1) := by decide +kernel
theorem dX11_evening_79 : decode cX11_evening 79 = .ok (.getfield 68, 3) := by decide +kernel
theorem dX11_evening_82 : decode cX11_evening 82 = .ok (.iload_n 2, 1) := by decide +kernel
theorem dX11_evening_83 : decode cX11_evening 83 = .ok (.putfield 255, 3) := by decide +kernel
theorem dX11_evening_86 : decode cX11_evening 86 = .ok (.iconst 0, 1) := by decide +kernel
theorem dX11_evening_87 : decode cX11_evening 87 = .ok (.istore 4, 2) := by decide +kernel
theorem dX11_evening_89 : decode cX11_evening 89 = .ok (.iconst 0, 1) := by decide +kernel
theorem dX11_evening_90 : decode cX11_evening 90 = .ok (.istore 5, 2) := by decide +kernel
theorem dX11_evening_92 : decode cX11_evening 92 = .ok (.iload 5, 2) := by decide +kernel
theorem dX11_evening_94 : decode cX11_evening 94 = .ok (.iload_n 1, 1) := by decide +kernel
theorem dX11_evening_95 : decode cX11_evening 95 = .ok (.if_icmp .ge 36, 3) := by decide +kernel
theorem dX11_evening_98 : decode cX11_evening 98 = .ok (.aload_n 0, 1) := by decide +kernel
theorem dX11_evening_99 : decode cX11_evening 99 = .ok (.getfield 68, 3) := by decide +kernel
theorem dX11_evening_102 : decode cX11_evening 102 = .ok (.aload_n 0, 1) := by decide +kernel
theorem dX11_evening_103 : decode cX11_evening 103 = .ok (.getfield 68, 3) := by decide +kernel
theorem dX11_evening_106 : decode cX11_evening 106 = .ok (.invokevirtual 258, 3) := by decide +kernel
theorem dX11_evening_109 : decode cX11_evening 109 = .ok (.invokevirtual 187, 3) := by decide +kernel
theorem dX11_evening_112 : decode cX11_evening 112 = .ok (.iload 4, 2) := by decide +kernel
theorem dX11_evening_114 : decode cX11_evening 114 = .ok (.aload_n 0, 1) := by decide +kernel
theorem dX11_evening_115 : decode cX11_evening 115 = .ok (.getfield 68, 3) := by decide +kernel
theorem dX11_evening_118 : decode cX11_evening 118 = .ok (.iload_n 3, 1) := by decide +kernel
theorem dX11_evening_119 : decode cX11_evening 119 = .ok (.invokevirtual 261, 3) := by decide +kernel
theorem dX11_evening_122 : decode cX11_evening 122 = .ok (.iadd, 1) := by decide +kernel
theorem dX11_evening_123 : decode cX11_evening 123 = .ok (.istore 4, 2) := by decide +kernel
theorem dX11_evening_125 : decode cX11_evening 125 = .ok (.iinc 5 1, 3) := by decide +kernel
theorem dX11_evening_128 : decode cX11_evening 128 = .ok (.goto (-36), 3) := by decide +kernel
theorem dX11_evening_131 : decode cX11_evening 131 = .ok (.iload 4, 2) := by decide +kernel
theorem dX11_evening_133 : decode cX11_evening 133 = .ok (.ireturn, 1) := by decide +kernel
set_option maxRecDepth 20000 in
theorem ggX11_row_X11_refuse : GoodIn wsX11_row wsX11_refuse := goodIn_r _ [7, 8, 9, 10, 11, 12, 13, 14, 15, 16, 17, 18, 19, 20, 21] (by decide +kernel) (by decide +kernel)
set_option maxRecDepth 20000 in
theorem gX11_row_X11_refuse : GoodIn wsX11_row (wsV RX11 72 RX11 yX11_refuse wsX11_refuse) := goodIn_app (goodIn_of _ (by decide +kernel)) ggX11_row_X11_refuse
theorem dX11_row_0 : decode cX11_row 0 = .ok (.iload_n 1, 1) := by decide +kernel
theorem dX11_row_1 : decode cX11_row 1 = .ok (.ifCond .ge 10, 3) := by decide +kernel
theorem dX11_row_4 : decode cX11_row 4 = .ok (.aload_n 0, 1) := by decide +kernel
theorem dX11_row_5 : decode cX11_row 5 = .ok (.bipush (-4), 2) := by decide +kernel
theorem dX11_row_7 : decode cX11_row 7 = .ok (.invokevirtual 72, 3) := by decide +kernel
theorem dX11_row_10 : decode cX11_row 10 = .ok (.ireturn, 1) := by decide +kernel
theorem dX11_row_11 : decode cX11_row 11 = .ok (.iload_n 1, 1) := by decide +kernel
theorem dX11_row_12 : decode cX11_row 12 = .ok (.bipush 9, 2) := by decide +kernel
theorem dX11_row_14 : decode cX11_row 14 = .ok (.if_icmp .gt 19, 3) := by decide +kernel
theorem dX11_row_17 : decode cX11_row 17 = .ok (.aload_n 0, 1) := by decide +kernel
theorem dX11_row_18 : decode cX11_row 18 = .ok (.getfield 27, 3) := by decide +kernel
theorem dX11_row_21 : decode cX11_row 21 = .ok (.ifCond .lt 12, 3) := by decide +kernel
theorem dX11_row_24 : decode cX11_row 24 = .ok (.aload_n 0, 1) := by decide +kernel
theorem dX11_row_25 : decode cX11_row 25 = .ok (.getfield 27, 3) := by decide +kernel
theorem dX11_row_28 : decode cX11_row 28 = .ok (.bipush 20, 2) := by decide +kernel
theorem dX11_row_30 : decode cX11_row 30 = .ok (.if_icmp .lt 10, 3) := by decide +kernel
theorem dX11_row_33 : decode cX11_row 33 = .ok (.aload_n 0, 1) := by decide +kernel
theorem dX11_row_34 : decode cX11_row 34 = .ok (.bipush (-6), 2) := by decide +kernel
theorem dX11_row_36 : decode cX11_row 36 = .ok (.invokevirtual 72, 3) := by decide +kernel
theorem dX11_row_39 : decode cX11_row 39 = .ok (.ireturn, 1) := by decide +kernel
theorem dX11_row_40 : decode cX11_row 40 = .ok (.aload_n 0, 1) := by decide +kernel
theorem dX11_row_41 : decode cX11_row 41 = .ok (.getfield 23, 3) := by decide +kernel
theorem dX11_row_44 : decode cX11_row 44 = .ok (.aload_n 0, 1) := by decide +kernel
theorem dX11_row_45 : decode cX11_row 45 = .ok (.getfield 27, 3) := by decide +kernel
theorem dX11_row_48 : decode cX11_row 48 = .ok (.iload_n 1, 1) := by decide +kernel
theorem dX11_row_49 : decode cX11_row 49 = .ok (.iastore, 1) := by decide +kernel
theorem dX11_row_50 : decode cX11_row 50 = .ok (.aload_n 0, 1) := by decide +kernel
theorem dX11_row_51 : decode cX11_row 51 = .ok (.dup, 1) := by decide +kernel
theorem dX11_row_52 : decode cX11_row 52 = .ok (.getfield 27, 3) := by decide +kernel
theorem dX11_row_55 : decode cX11_row 55 = .ok (.iconst 1, 1) := by decide +kernel
theorem dX11_row_56 : decode cX11_row 56 = .ok (.iadd, 1) := by decide +kernel
theorem dX11_row_57 : decode cX11_row 57 = .ok (.putfield 27, 3) := by decide +kernel
theorem dX11_row_60 : decode cX11_row 60 = .ok (.aload_n 0, 1) := by decide +kernel
theorem dX11_row_61 : decode cX11_row 61 = .ok (.getfield 27, 3) := by decide +kernel
theorem dX11_row_64 : decode cX11_row 64 = .ok (.ireturn, 1) := by decide +kernel
set_option maxRecDepth 20000 in
theorem ggX11_judge_X10_isWhole : GoodIn wsX11_judge wsX10_isWhole := goodIn_r _ [11, 12, 227, 228, 229, 230, 231, 232, 233, 234, 235, 236, 237, 238, 239, 240, 241, 242] (by decide +kernel) (by decide +kernel)
set_option maxRecDepth 20000 in
theorem gX11_judge_X10_isWhole : GoodIn wsX11_judge (wsV RX11 136 RX10 yX10_isWhole wsX10_isWhole) := goodIn_app (goodIn_of _ (by decide +kernel)) ggX11_judge_X10_isWhole
set_option maxRecDepth 20000 in
theorem ggX11_judge_X11_refuse : GoodIn wsX11_judge wsX11_refuse := goodIn_r _ [17, 18, 197, 198, 199, 200, 201, 202, 203, 204, 205, 206, 207, 208, 209] (by decide +kernel) (by decide +kernel)
set_option maxRecDepth 20000 in
theorem gX11_judge_X11_refuse : GoodIn wsX11_judge (wsV RX11 72 RX11 yX11_refuse wsX11_refuse) := goodIn_app (goodIn_of _ (by decide +kernel)) ggX11_judge_X11_refuse
set_option maxRecDepth 20000 in
theorem ggX11_judge_X6_prepare : GoodIn wsX11_judge wsX6_prepare := goodIn_r _ [23, 24, 25, 26, 27, 28, 29, 30, 31, 32, 33, 10, 34, 35, 36, 37, 38, 39, 22, 40, 41, 42, 43, 44, 45, 46, 47, 48, 49, 50, 51, 52, 53, 54, 55, 56, 57, 58, 59, 60, 61, 62, 63, 64, 65, 66, 67, 68, 69, 70, 71, 72, 73, 74, 75, 76, 77, 78, 79, 80, 81, 82, 83, 84, 85, 86, 87, 88, 89, 90, 91, 92, 93, 94, 95, 96, 97, 98, 99, 100, 101, 102, 103, 104, 105, 106, 107, 108, 109, 110, 111, 112, 113, 114, 115, 116, 117, 118, 119, 120, 121, 122, 123, 124, 125, 126, 127, 128, 129, 130, 131, 132, 210, 211, 212, 213, 214, 215, 216, 217, 218, 219, 220, 221, 222, 223, 224, 225, 226, 243, 244, 245, 246, 247, 248, 249, 250, 251, 252, 253, 254, 255, 256, 257, 258, 259, 260, 261, 262, 227, 228, 229, 230, 231, 232, 233, 234, 235, 236, 237, 238, 239, 240, 241, 242] (by decide +kernel) (by decide +kernel)
set_option maxRecDepth 20000 in
theorem gX11_judge_X6_prepare : GoodIn wsX11_judge (wsV RX11 178 RX6 yX6_prepare wsX6_prepare) := goodIn_app (goodIn_of _ (by decide +kernel)) ggX11_judge_X6_prepare
set_option maxRecDepth 20000 in
theorem ggX11_judge_X6_drawEnd : GoodIn wsX11_judge wsX6_drawEnd := goodIn_r _ [136, 27, 137, 138, 139, 10, 140, 141, 68, 54, 55, 56, 35, 142, 143, 144, 145, 146, 147, 148, 149, 22, 150, 151, 152, 153, 154, 155, 156, 157, 158, 61, 159, 210, 211, 212, 213, 214, 215, 216, 217, 218, 219, 220, 221, 222, 223, 224, 225, 226, 227, 228, 229, 230, 231, 232, 233, 234, 235, 236, 237, 238, 239, 240, 241, 242] (by decide +kernel) (by decide +kernel)
set_option maxRecDepth 20000 in
theorem gX11_judge_X6_drawEnd : GoodIn wsX11_judge (wsV RX11 258 RX6 yX6_drawEnd wsX6_drawEnd) := goodIn_app (goodIn_of _ (by decide +kernel)) ggX11_judge_X6_drawEnd
set_option maxRecDepth 20000 in
theorem ggX11_judge_X6_runTo : GoodIn wsX11_judge wsX6_runTo := goodIn_r _ [163, 164, 165, 166, 167, 168, 24, 169, 29, 30, 27, 170, 171, 172, 10, 173, 174, 68, 54, 55, 56, 35, 175, 176, 177, 22, 178, 25, 179, 180, 181, 182, 183, 28, 52, 184, 185, 186, 187, 63, 64, 65, 66, 67, 188, 189, 190, 191, 119, 192, 193, 194, 195, 196, 210, 211, 212, 213, 214, 215, 216, 217, 218, 219, 220, 221, 222, 223, 224, 225, 226, 227, 228, 229, 230, 231, 232, 233, 234, 235, 236, 237, 238, 239, 240, 241, 242, 243, 244, 245, 246, 247, 248, 249, 250, 251, 252, 253, 254, 255, 256, 257, 258, 259, 260, 261, 262] (by decide +kernel) (by decide +kernel)
set_option maxRecDepth 20000 in
theorem gX11_judge_X6_runTo : GoodIn wsX11_judge (wsV RX11 187 RX6 yX6_runTo wsX6_runTo) := goodIn_app (goodIn_of _ (by decide +kernel)) ggX11_judge_X6_runTo
theorem dX11_judge_0 : decode cX11_judge 0 = .ok (.aload_n 0, 1) := by decide +kernel
theorem dX11_judge_1 : decode cX11_judge 1 = .ok (.getfield 59, 3) := by decide +kernel
theorem dX11_judge_4 : decode cX11_judge 4 = .ok (.invokevirtual 136, 3) := by decide +kernel
theorem dX11_judge_7 : decode cX11_judge 7 = .ok (.ifCond .ne 10, 3) := by decide +kernel
theorem dX11_judge_10 : decode cX11_judge 10 = .ok (.aload_n 0, 1) := by decide +kernel
theorem dX11_judge_11 : decode cX11_judge 11 = .ok (.bipush (-3), 2) := by decide +kernel
theorem dX11_judge_13 : decode cX11_judge 13 = .ok (.invokevirtual 72, 3) := by decide +kernel
theorem dX11_judge_16 : decode cX11_judge 16 = .ok (.ireturn, 1) := by decide +kernel
theorem dX11_judge_17 : decode cX11_judge 17 = .ok (.aload_n 0, 1) := by decide +kernel
theorem dX11_judge_18 : decode cX11_judge 18 = .ok (.getfield 68, 3) := by decide +kernel
theorem dX11_judge_21 : decode cX11_judge 21 = .ok (.invokevirtual 178, 3) := by decide +kernel
theorem dX11_judge_24 : decode cX11_judge 24 = .ok (.aload_n 0, 1) := by decide +kernel
theorem dX11_judge_25 : decode cX11_judge 25 = .ok (.getfield 68, 3) := by decide +kernel
theorem dX11_judge_28 : decode cX11_judge 28 = .ok (.iload_n 1, 1) := by decide +kernel
theorem dX11_judge_29 : decode cX11_judge 29 = .ok (.putfield 255, 3) := by decide +kernel
theorem dX11_judge_32 : decode cX11_judge 32 = .ok (.bipush (-9), 2) := by decide +kernel
theorem dX11_judge_34 : decode cX11_judge 34 = .ok (.istore_n 2, 1) := by decide +kernel
theorem dX11_judge_35 : decode cX11_judge 35 = .ok (.iconst 0, 1) := by decide +kernel
theorem dX11_judge_36 : decode cX11_judge 36 = .ok (.istore_n 3, 1) := by decide +kernel
theorem dX11_judge_37 : decode cX11_judge 37 = .ok (.iload_n 3, 1) := by decide +kernel
theorem dX11_judge_38 : decode cX11_judge 38 = .ok (.bipush 20, 2) := by decide +kernel
theorem dX11_judge_40 : decode cX11_judge 40 = .ok (.if_icmp .ge 76, 3) := by decide +kernel
theorem dX11_judge_43 : decode cX11_judge 43 = .ok (.iload_n 3, 1) := by decide +kernel
theorem dX11_judge_44 : decode cX11_judge 44 = .ok (.aload_n 0, 1) := by decide +kernel
theorem dX11_judge_45 : decode cX11_judge 45 = .ok (.getfield 27, 3) := by decide +kernel
theorem dX11_judge_48 : decode cX11_judge 48 = .ok (.if_icmp .ge 68, 3) := by decide +kernel
theorem dX11_judge_51 : decode cX11_judge 51 = .ok (.iload_n 2, 1) := by decide +kernel
theorem dX11_judge_52 : decode cX11_judge 52 = .ok (.bipush (-9), 2) := by decide +kernel
theorem dX11_judge_54 : decode cX11_judge 54 = .ok (.if_icmp .ne 62, 3) := by decide +kernel
theorem dX11_judge_57 : decode cX11_judge 57 = .ok (.aload_n 0, 1) := by decide +kernel
theorem dX11_judge_58 : decode cX11_judge 58 = .ok (.getfield 68, 3) := by decide +kernel
theorem dX11_judge_61 : decode cX11_judge 61 = .ok (.aload_n 0, 1) := by decide +kernel
theorem dX11_judge_62 : decode cX11_judge 62 = .ok (.getfield 68, 3) := by decide +kernel
theorem dX11_judge_65 : decode cX11_judge 65 = .ok (.invokevirtual 258, 3) := by decide +kernel
theorem dX11_judge_68 : decode cX11_judge 68 = .ok (.invokevirtual 187, 3) := by decide +kernel
theorem dX11_judge_71 : decode cX11_judge 71 = .ok (.aload_n 0, 1) := by decide +kernel
theorem dX11_judge_72 : decode cX11_judge 72 = .ok (.getfield 68, 3) := by decide +kernel
theorem dX11_judge_75 : decode cX11_judge 75 = .ok (.getfield 264, 3) := by decide +kernel
theorem dX11_judge_78 : decode cX11_judge 78 = .ok (.bipush (-9), 2) := by decide +kernel
theorem dX11_judge_80 : decode cX11_judge 80 = .ok (.if_icmp .ne 8, 3) := by decide +kernel
theorem dX11_judge_83 : decode cX11_judge 83 = .ok (.bipush 9, 2) := by decide +kernel
theorem dX11_judge_85 : decode cX11_judge 85 = .ok (.goto 10, 3) := by decide +kernel
theorem dX11_judge_88 : decode cX11_judge 88 = .ok (.aload_n 0, 1) := by decide +kernel
theorem dX11_judge_89 : decode cX11_judge 89 = .ok (.getfield 68, 3) := by decide +kernel
theorem dX11_judge_92 : decode cX11_judge 92 = .ok (.getfield 264, 3) := by decide +kernel
theorem dX11_judge_95 : decode cX11_judge 95 = .ok (.istore 4, 2) := by decide +kernel
theorem dX11_judge_97 : decode cX11_judge 97 = .ok (.iload 4, 2) := by decide +kernel
theorem dX11_judge_99 : decode cX11_judge 99 = .ok (.aload_n 0, 1) := by decide +kernel
theorem dX11_judge_100 : decode cX11_judge 100 = .ok (.getfield 23, 3) := by decide +kernel
theorem dX11_judge_103 : decode cX11_judge 103 = .ok (.iload_n 3, 1) := by decide +kernel
theorem dX11_judge_104 : decode cX11_judge 104 = .ok (.iaload, 1) := by decide +kernel
theorem dX11_judge_105 : decode cX11_judge 105 = .ok (.if_icmp .eq 5, 3) := by decide +kernel
theorem dX11_judge_108 : decode cX11_judge 108 = .ok (.iload_n 3, 1) := by decide +kernel
theorem dX11_judge_109 : decode cX11_judge 109 = .ok (.istore_n 2, 1) := by decide +kernel
theorem dX11_judge_110 : decode cX11_judge 110 = .ok (.iinc 3 1, 3) := by decide +kernel
theorem dX11_judge_113 : decode cX11_judge 113 = .ok (.goto (-76), 3) := by decide +kernel
theorem dX11_judge_116 : decode cX11_judge 116 = .ok (.aload_n 0, 1) := by decide +kernel
theorem dX11_judge_117 : decode cX11_judge 117 = .ok (.iconst 0, 1) := by decide +kernel
theorem dX11_judge_118 : decode cX11_judge 118 = .ok (.putfield 27, 3) := by decide +kernel
theorem dX11_judge_121 : decode cX11_judge 121 = .ok (.iload_n 2, 1) := by decide +kernel
theorem dX11_judge_122 : decode cX11_judge 122 = .ok (.ireturn, 1) := by decide +kernel
set_option maxRecDepth 20000 in
theorem ggX11_image_X10_size : GoodIn wsX11_image wsX10_size := goodIn_r _ [14, 15, 67, 68, 69, 70, 71, 72, 73, 74, 75, 76, 77, 78, 79, 80, 81, 82] (by decide +kernel) (by decide +kernel)
set_option maxRecDepth 20000 in
theorem gX11_image_X10_size : GoodIn wsX11_image (wsV RX11 267 RX10 yX10_size wsX10_size) := goodIn_app (goodIn_of _ (by decide +kernel)) ggX11_image_X10_size
set_option maxRecDepth 20000 in
theorem ggX11_image_X6_size : GoodIn wsX11_image wsX6_size := goodIn_r _ [20, 21, 83, 84, 85, 86, 87, 88, 89, 90, 91, 92, 93, 94, 95, 96, 97, 98, 99] (by decide +kernel) (by decide +kernel)
set_option maxRecDepth 20000 in
theorem gX11_image_X6_size : GoodIn wsX11_image (wsV RX11 268 RX6 yX6_size wsX6_size) := goodIn_app (goodIn_of _ (by decide +kernel)) ggX11_image_X6_size
set_option maxRecDepth 20000 in
theorem ggX11_image_X3_size : GoodIn wsX11_image wsX3_size := goodIn_r _ [26, 27, 100, 101, 102, 103, 104] (by decide +kernel) (by decide +kernel)
set_option maxRecDepth 20000 in
theorem gX11_image_X3_size : GoodIn wsX11_image (wsV RX11 237 RX3 yX3_size wsX3_size) := goodIn_app (goodIn_of _ (by decide +kernel)) ggX11_image_X3_size
set_option maxRecDepth 20000 in
theorem ggX11_image_X6_pointOf : GoodIn wsX11_image wsX6_pointOf := goodIn_r _ [31, 32, 83, 84, 85, 86, 87, 88, 89, 90, 91, 92, 93, 94, 95, 96, 97, 98, 99] (by decide +kernel) (by decide +kernel)
set_option maxRecDepth 20000 in
theorem gX11_image_X6_pointOf : GoodIn wsX11_image (wsV RX11 165 RX6 yX6_pointOf wsX6_pointOf) := goodIn_app (goodIn_of _ (by decide +kernel)) ggX11_image_X6_pointOf
set_option maxRecDepth 20000 in
theorem ggX11_image_X6_playerAt : GoodIn wsX11_image wsX6_playerAt := goodIn_r _ [36, 21, 37, 83, 84, 85, 86, 87, 88, 89, 90, 91, 92, 93, 94, 95, 96, 97, 98, 99] (by decide +kernel) (by decide +kernel)
set_option maxRecDepth 20000 in
theorem gX11_image_X6_playerAt : GoodIn wsX11_image (wsV RX11 115 RX6 yX6_playerAt wsX6_playerAt) := goodIn_app (goodIn_of _ (by decide +kernel)) ggX11_image_X6_playerAt
set_option maxRecDepth 20000 in
theorem ggX11_image_X9_toldSet : GoodIn wsX11_image wsX9_toldSet := goodIn_r _ [44, 45, 105, 106, 107, 108, 109, 110, 111, 112] (by decide +kernel) (by decide +kernel)
set_option maxRecDepth 20000 in
theorem gX11_image_X9_toldSet_u133X0 : GoodIn wsX11_image (va_wsO RX11 133 RX0 "BeforeTheEnd$Player" ⟨"BeforeTheEnd$Player", "toldSet", "()I"⟩ yX9_toldSet wsX9_toldSet) := goodIn_app (goodIn_of _ (by decide +kernel)) ggX11_image_X9_toldSet
set_option maxRecDepth 20000 in
theorem ggX11_image_X5_toldSet : GoodIn wsX11_image wsX5_toldSet := goodIn_r _ [46] (by decide +kernel) (by decide +kernel)
set_option maxRecDepth 20000 in
theorem gX11_image_X5_toldSet_u133X1 : GoodIn wsX11_image (va_wsU RX11 133 RX1 "BeforeTheEnd$Player" ⟨"BeforeTheEnd$Player", "toldSet", "()I"⟩ yX5_toldSet wsX5_toldSet) := goodIn_app (goodIn_of _ (by decide +kernel)) ggX11_image_X5_toldSet
set_option maxRecDepth 20000 in
theorem gX11_image_X5_toldSet_u133X2 : GoodIn wsX11_image (va_wsU RX11 133 RX2 "BeforeTheEnd$Player" ⟨"BeforeTheEnd$Player", "toldSet", "()I"⟩ yX5_toldSet wsX5_toldSet) := goodIn_app (goodIn_of _ (by decide +kernel)) ggX11_image_X5_toldSet
set_option maxRecDepth 20000 in
theorem gX11_image_X5_toldSet_u133X4 : GoodIn wsX11_image (va_wsU RX11 133 RX4 "BeforeTheEnd$Player" ⟨"BeforeTheEnd$Player", "toldSet", "()I"⟩ yX5_toldSet wsX5_toldSet) := goodIn_app (goodIn_of _ (by decide +kernel)) ggX11_image_X5_toldSet
set_option maxRecDepth 20000 in
theorem gX11_image_X5_toldSet_u133X7 : GoodIn wsX11_image (va_wsU RX11 133 RX7 "BeforeTheEnd$Player" ⟨"BeforeTheEnd$Player", "toldSet", "()I"⟩ yX5_toldSet wsX5_toldSet) := goodIn_app (goodIn_of _ (by decide +kernel)) ggX11_image_X5_toldSet
set_option maxRecDepth 20000 in
theorem gX11_image_X9_toldSet_u133X9 : GoodIn wsX11_image (va_wsO RX11 133 RX9 "BeforeTheEnd$Player" ⟨"BeforeTheEnd$Player", "toldSet", "()I"⟩ yX9_toldSet wsX9_toldSet) := goodIn_app (goodIn_of _ (by decide +kernel)) ggX11_image_X9_toldSet
theorem dX11_image_0 : decode cX11_image 0 = .ok (.aload_n 0, 1) := by decide +kernel
theorem dX11_image_1 : decode cX11_image 1 = .ok (.iconst 1, 1) := by decide +kernel
theorem dX11_image_2 : decode cX11_image 2 = .ok (.putfield 34, 3) := by decide +kernel
theorem dX11_image_5 : decode cX11_image 5 = .ok (.aload_n 0, 1) := by decide +kernel
theorem dX11_image_6 : decode cX11_image 6 = .ok (.aload_n 0, 1) := by decide +kernel
theorem dX11_image_7 : decode cX11_image 7 = .ok (.getfield 59, 3) := by decide +kernel
theorem dX11_image_10 : decode cX11_image 10 = .ok (.invokevirtual 267, 3) := by decide +kernel
theorem dX11_image_13 : decode cX11_image 13 = .ok (.putfield 38, 3) := by decide +kernel
theorem dX11_image_16 : decode cX11_image 16 = .ok (.aload_n 0, 1) := by decide +kernel
theorem dX11_image_17 : decode cX11_image 17 = .ok (.aload_n 0, 1) := by decide +kernel
theorem dX11_image_18 : decode cX11_image 18 = .ok (.getfield 68, 3) := by decide +kernel
theorem dX11_image_21 : decode cX11_image 21 = .ok (.invokevirtual 268, 3) := by decide +kernel
theorem dX11_image_24 : decode cX11_image 24 = .ok (.putfield 41, 3) := by decide +kernel
theorem dX11_image_27 : decode cX11_image 27 = .ok (.aload_n 0, 1) := by decide +kernel
theorem dX11_image_28 : decode cX11_image 28 = .ok (.aload_n 0, 1) := by decide +kernel
theorem dX11_image_29 : decode cX11_image 29 = .ok (.getfield 19, 3) := by decide +kernel
theorem dX11_image_32 : decode cX11_image 32 = .ok (.invokevirtual 237, 3) := by decide +kernel
theorem dX11_image_35 : decode cX11_image 35 = .ok (.putfield 44, 3) := by decide +kernel
theorem dX11_image_38 : decode cX11_image 38 = .ok (.iconst 0, 1) := by decide +kernel
theorem dX11_image_39 : decode cX11_image 39 = .ok (.istore_n 1, 1) := by decide +kernel
theorem dX11_image_40 : decode cX11_image 40 = .ok (.iload_n 1, 1) := by decide +kernel
theorem dX11_image_41 : decode cX11_image 41 = .ok (.aload_n 0, 1) := by decide +kernel
theorem dX11_image_42 : decode cX11_image 42 = .ok (.getfield 50, 3) := by decide +kernel
theorem dX11_image_45 : decode cX11_image 45 = .ok (.arraylength, 1) := by decide +kernel
theorem dX11_image_46 : decode cX11_image 46 = .ok (.if_icmp .ge 23, 3) := by decide +kernel
theorem dX11_image_49 : decode cX11_image 49 = .ok (.aload_n 0, 1) := by decide +kernel
theorem dX11_image_50 : decode cX11_image 50 = .ok (.getfield 50, 3) := by decide +kernel
theorem dX11_image_53 : decode cX11_image 53 = .ok (.iload_n 1, 1) := by decide +kernel
theorem dX11_image_54 : decode cX11_image 54 = .ok (.aload_n 0, 1) := by decide +kernel
theorem dX11_image_55 : decode cX11_image 55 = .ok (.getfield 68, 3) := by decide +kernel
theorem dX11_image_58 : decode cX11_image 58 = .ok (.iload_n 1, 1) := by decide +kernel
theorem dX11_image_59 : decode cX11_image 59 = .ok (.invokevirtual 165, 3) := by decide +kernel
theorem dX11_image_62 : decode cX11_image 62 = .ok (.iastore, 1) := by decide +kernel
theorem dX11_image_63 : decode cX11_image 63 = .ok (.iinc 1 1, 3) := by decide +kernel
theorem dX11_image_66 : decode cX11_image 66 = .ok (.goto (-26), 3) := by decide +kernel
theorem dX11_image_69 : decode cX11_image 69 = .ok (.iconst 0, 1) := by decide +kernel
theorem dX11_image_70 : decode cX11_image 70 = .ok (.istore_n 1, 1) := by decide +kernel
theorem dX11_image_71 : decode cX11_image 71 = .ok (.iload_n 1, 1) := by decide +kernel
theorem dX11_image_72 : decode cX11_image 72 = .ok (.iconst 4, 1) := by decide +kernel
theorem dX11_image_73 : decode cX11_image 73 = .ok (.if_icmp .ge 36, 3) := by decide +kernel
theorem dX11_image_76 : decode cX11_image 76 = .ok (.aload_n 0, 1) := by decide +kernel
theorem dX11_image_77 : decode cX11_image 77 = .ok (.getfield 68, 3) := by decide +kernel
theorem dX11_image_80 : decode cX11_image 80 = .ok (.iload_n 1, 1) := by decide +kernel
theorem dX11_image_81 : decode cX11_image 81 = .ok (.invokevirtual 115, 3) := by decide +kernel
theorem dX11_image_84 : decode cX11_image 84 = .ok (.astore_n 2, 1) := by decide +kernel
theorem dX11_image_85 : decode cX11_image 85 = .ok (.aload_n 0, 1) := by decide +kernel
theorem dX11_image_86 : decode cX11_image 86 = .ok (.getfield 53, 3) := by decide +kernel
theorem dX11_image_89 : decode cX11_image 89 = .ok (.iload_n 1, 1) := by decide +kernel
theorem dX11_image_90 : decode cX11_image 90 = .ok (.aload_n 2, 1) := by decide +kernel
theorem dX11_image_91 : decode cX11_image 91 = .ok (.ifnonnull 7, 3) := by decide +kernel
theorem dX11_image_94 : decode cX11_image 94 = .ok (.iconst 0, 1) := by decide +kernel
theorem dX11_image_95 : decode cX11_image 95 = .ok (.goto 7, 3) := by decide +kernel
theorem dX11_image_98 : decode cX11_image 98 = .ok (.aload_n 2, 1) := by decide +kernel
theorem dX11_image_99 : decode cX11_image 99 = .ok (.invokevirtual 133, 3) := by decide +kernel
theorem dX11_image_102 : decode cX11_image 102 = .ok (.iastore, 1) := by decide +kernel
theorem dX11_image_103 : decode cX11_image 103 = .ok (.iinc 1 1, 3) := by decide +kernel
theorem dX11_image_106 : decode cX11_image 106 = .ok (.goto (-35), 3) := by decide +kernel
theorem dX11_image_109 : decode cX11_image 109 = .ok (.aload_n 0, 1) := by decide +kernel
theorem dX11_image_110 : decode cX11_image 110 = .ok (.getfield 59, 3) := by decide +kernel
theorem dX11_image_113 : decode cX11_image 113 = .ok (.invokevirtual 267, 3) := by decide +kernel
theorem dX11_image_116 : decode cX11_image 116 = .ok (.ireturn, 1) := by decide +kernel
set_option maxRecDepth 20000 in
theorem ggX11_on_X11_refuse : GoodIn wsX11_on wsX11_refuse := goodIn_r _ [14, 15, 107, 108, 109, 110, 111, 112, 113, 114, 115, 116, 117, 118, 119] (by decide +kernel) (by decide +kernel)
set_option maxRecDepth 20000 in
theorem gX11_on_X11_refuse : GoodIn wsX11_on (wsV RX11 72 RX11 yX11_refuse wsX11_refuse) := goodIn_app (goodIn_of _ (by decide +kernel)) ggX11_on_X11_refuse
set_option maxRecDepth 20000 in
theorem ggX11_on_X10_cutBack : GoodIn wsX11_on wsX10_cutBack := goodIn_r _ [20, 21, 120, 121, 122, 123, 124, 125, 126, 127, 128, 129, 130, 131, 132, 133, 134, 135] (by decide +kernel) (by decide +kernel)
set_option maxRecDepth 20000 in
theorem gX11_on_X10_cutBack : GoodIn wsX11_on (wsV RX11 269 RX10 yX10_cutBack wsX10_cutBack) := goodIn_app (goodIn_of _ (by decide +kernel)) ggX11_on_X10_cutBack
set_option maxRecDepth 20000 in
theorem ggX11_on_X10_settle : GoodIn wsX11_on wsX10_settle := goodIn_r _ [25, 26, 27, 21, 28, 29, 30, 19, 31, 32, 33, 34, 35, 36, 37, 38, 39, 40, 41, 42, 43, 44, 45, 46, 13, 47, 48, 49, 50, 51, 52, 53, 54, 55, 56, 57, 58, 59, 60, 61, 62, 63, 64, 120, 121, 122, 123, 124, 125, 126, 127, 128, 129, 130, 131, 132, 133, 134, 135] (by decide +kernel) (by decide +kernel)
set_option maxRecDepth 20000 in
theorem gX11_on_X10_settle : GoodIn wsX11_on (wsV RX11 93 RX10 yX10_settle wsX10_settle) := goodIn_app (goodIn_of _ (by decide +kernel)) ggX11_on_X10_settle
set_option maxRecDepth 20000 in
theorem ggX11_on_X6_cutBack : GoodIn wsX11_on wsX6_cutBack := goodIn_r _ [69, 70, 136, 137, 138, 139, 140, 141, 142, 143, 144, 145, 146, 147, 148, 149, 150, 151, 152] (by decide +kernel) (by decide +kernel)
set_option maxRecDepth 20000 in
theorem gX11_on_X6_cutBack : GoodIn wsX11_on (wsV RX11 272 RX6 yX6_cutBack wsX6_cutBack) := goodIn_app (goodIn_of _ (by decide +kernel)) ggX11_on_X6_cutBack
set_option maxRecDepth 20000 in
theorem ggX11_on_X3_cutBack : GoodIn wsX11_on wsX3_cutBack := goodIn_r _ [75, 76, 153, 154, 155, 156, 157] (by decide +kernel) (by decide +kernel)
set_option maxRecDepth 20000 in
theorem gX11_on_X3_cutBack : GoodIn wsX11_on (wsV RX11 273 RX3 yX3_cutBack wsX3_cutBack) := goodIn_app (goodIn_of _ (by decide +kernel)) ggX11_on_X3_cutBack
set_option maxRecDepth 20000 in
theorem ggX11_on_X6_setPoint : GoodIn wsX11_on wsX6_setPoint := goodIn_r _ [80, 81, 136, 137, 138, 139, 140, 141, 142, 143, 144, 145, 146, 147, 148, 149, 150, 151, 152] (by decide +kernel) (by decide +kernel)
set_option maxRecDepth 20000 in
theorem gX11_on_X6_setPoint : GoodIn wsX11_on (wsV RX11 168 RX6 yX6_setPoint wsX6_setPoint) := goodIn_app (goodIn_of _ (by decide +kernel)) ggX11_on_X6_setPoint
set_option maxRecDepth 20000 in
theorem ggX11_on_X6_playerAt : GoodIn wsX11_on wsX6_playerAt := goodIn_r _ [85, 70, 86, 136, 137, 138, 139, 140, 141, 142, 143, 144, 145, 146, 147, 148, 149, 150, 151, 152] (by decide +kernel) (by decide +kernel)
set_option maxRecDepth 20000 in
theorem gX11_on_X6_playerAt : GoodIn wsX11_on (wsV RX11 115 RX6 yX6_playerAt wsX6_playerAt) := goodIn_app (goodIn_of _ (by decide +kernel)) ggX11_on_X6_playerAt
set_option maxRecDepth 20000 in
theorem ggX11_on_X9_tell : GoodIn wsX11_on wsX9_tell := goodIn_r _ [93, 94, 158, 159, 160, 161, 162, 163, 164, 165] (by decide +kernel) (by decide +kernel)
set_option maxRecDepth 20000 in
theorem gX11_on_X9_tell_u175X0 : GoodIn wsX11_on (va_wsO RX11 175 RX0 "BeforeTheEnd$Player" ⟨"BeforeTheEnd$Player", "tell", "(I)V"⟩ yX9_tell wsX9_tell) := goodIn_app (goodIn_of _ (by decide +kernel)) ggX11_on_X9_tell
set_option maxRecDepth 20000 in
theorem ggX11_on_X5_tell : GoodIn wsX11_on wsX5_tell := goodIn_r _ [95] (by decide +kernel) (by decide +kernel)
set_option maxRecDepth 20000 in
theorem gX11_on_X5_tell_u175X1 : GoodIn wsX11_on (va_wsU RX11 175 RX1 "BeforeTheEnd$Player" ⟨"BeforeTheEnd$Player", "tell", "(I)V"⟩ yX5_tell wsX5_tell) := goodIn_app (goodIn_of _ (by decide +kernel)) ggX11_on_X5_tell
set_option maxRecDepth 20000 in
theorem gX11_on_X5_tell_u175X2 : GoodIn wsX11_on (va_wsU RX11 175 RX2 "BeforeTheEnd$Player" ⟨"BeforeTheEnd$Player", "tell", "(I)V"⟩ yX5_tell wsX5_tell) := goodIn_app (goodIn_of _ (by decide +kernel)) ggX11_on_X5_tell
set_option maxRecDepth 20000 in
theorem gX11_on_X5_tell_u175X4 : GoodIn wsX11_on (va_wsU RX11 175 RX4 "BeforeTheEnd$Player" ⟨"BeforeTheEnd$Player", "tell", "(I)V"⟩ yX5_tell wsX5_tell) := goodIn_app (goodIn_of _ (by decide +kernel)) ggX11_on_X5_tell
set_option maxRecDepth 20000 in
theorem gX11_on_X5_tell_u175X7 : GoodIn wsX11_on (va_wsU RX11 175 RX7 "BeforeTheEnd$Player" ⟨"BeforeTheEnd$Player", "tell", "(I)V"⟩ yX5_tell wsX5_tell) := goodIn_app (goodIn_of _ (by decide +kernel)) ggX11_on_X5_tell
set_option maxRecDepth 20000 in
theorem gX11_on_X9_tell_u175X9 : GoodIn wsX11_on (va_wsO RX11 175 RX9 "BeforeTheEnd$Player" ⟨"BeforeTheEnd$Player", "tell", "(I)V"⟩ yX9_tell wsX9_tell) := goodIn_app (goodIn_of _ (by decide +kernel)) ggX11_on_X9_tell
set_option maxRecDepth 20000 in
theorem ggX11_on_X10_size : GoodIn wsX11_on wsX10_size := goodIn_r _ [106, 21, 120, 121, 122, 123, 124, 125, 126, 127, 128, 129, 130, 131, 132, 133, 134, 135] (by decide +kernel) (by decide +kernel)
set_option maxRecDepth 20000 in
theorem gX11_on_X10_size : GoodIn wsX11_on (wsV RX11 267 RX10 yX10_size wsX10_size) := goodIn_app (goodIn_of _ (by decide +kernel)) ggX11_on_X10_size
theorem dX11_on_0 : decode cX11_on 0 = .ok (.aload_n 0, 1) := by decide +kernel
theorem dX11_on_1 : decode cX11_on 1 = .ok (.getfield 34, 3) := by decide +kernel
theorem dX11_on_4 : decode cX11_on 4 = .ok (.ifCond .ne 10, 3) := by decide +kernel
theorem dX11_on_7 : decode cX11_on 7 = .ok (.aload_n 0, 1) := by decide +kernel
theorem dX11_on_8 : decode cX11_on 8 = .ok (.bipush (-3), 2) := by decide +kernel
theorem dX11_on_10 : decode cX11_on 10 = .ok (.invokevirtual 72, 3) := by decide +kernel
theorem dX11_on_13 : decode cX11_on 13 = .ok (.ireturn, 1) := by decide +kernel
theorem dX11_on_14 : decode cX11_on 14 = .ok (.aload_n 0, 1) := by decide +kernel
theorem dX11_on_15 : decode cX11_on 15 = .ok (.getfield 59, 3) := by decide +kernel
theorem dX11_on_18 : decode cX11_on 18 = .ok (.aload_n 0, 1) := by decide +kernel
theorem dX11_on_19 : decode cX11_on 19 = .ok (.getfield 38, 3) := by decide +kernel
theorem dX11_on_22 : decode cX11_on 22 = .ok (.invokevirtual 269, 3) := by decide +kernel
theorem dX11_on_25 : decode cX11_on 25 = .ok (.aload_n 0, 1) := by decide +kernel
theorem dX11_on_26 : decode cX11_on 26 = .ok (.getfield 59, 3) := by decide +kernel
theorem dX11_on_29 : decode cX11_on 29 = .ok (.invokevirtual 93, 3) := by decide +kernel
theorem dX11_on_32 : decode cX11_on 32 = .ok (.aload_n 0, 1) := by decide +kernel
theorem dX11_on_33 : decode cX11_on 33 = .ok (.getfield 68, 3) := by decide +kernel
theorem dX11_on_36 : decode cX11_on 36 = .ok (.aload_n 0, 1) := by decide +kernel
theorem dX11_on_37 : decode cX11_on 37 = .ok (.getfield 41, 3) := by decide +kernel
theorem dX11_on_40 : decode cX11_on 40 = .ok (.invokevirtual 272, 3) := by decide +kernel
theorem dX11_on_43 : decode cX11_on 43 = .ok (.aload_n 0, 1) := by decide +kernel
theorem dX11_on_44 : decode cX11_on 44 = .ok (.getfield 19, 3) := by decide +kernel
theorem dX11_on_47 : decode cX11_on 47 = .ok (.aload_n 0, 1) := by decide +kernel
theorem dX11_on_48 : decode cX11_on 48 = .ok (.getfield 44, 3) := by decide +kernel
theorem dX11_on_51 : decode cX11_on 51 = .ok (.invokevirtual 273, 3) := by decide +kernel
theorem dX11_on_54 : decode cX11_on 54 = .ok (.iconst 0, 1) := by decide +kernel
theorem dX11_on_55 : decode cX11_on 55 = .ok (.istore_n 1, 1) := by decide +kernel
theorem dX11_on_56 : decode cX11_on 56 = .ok (.iload_n 1, 1) := by decide +kernel
theorem dX11_on_57 : decode cX11_on 57 = .ok (.aload_n 0, 1) := by decide +kernel
theorem dX11_on_58 : decode cX11_on 58 = .ok (.getfield 50, 3) := by decide +kernel
theorem dX11_on_61 : decode cX11_on 61 = .ok (.arraylength, 1) := by decide +kernel
theorem dX11_on_62 : decode cX11_on 62 = .ok (.if_icmp .ge 23, 3) := by decide +kernel
theorem dX11_on_65 : decode cX11_on 65 = .ok (.aload_n 0, 1) := by decide +kernel
theorem dX11_on_66 : decode cX11_on 66 = .ok (.getfield 68, 3) := by decide +kernel
theorem dX11_on_69 : decode cX11_on 69 = .ok (.iload_n 1, 1) := by decide +kernel
theorem dX11_on_70 : decode cX11_on 70 = .ok (.aload_n 0, 1) := by decide +kernel
theorem dX11_on_71 : decode cX11_on 71 = .ok (.getfield 50, 3) := by decide +kernel
theorem dX11_on_74 : decode cX11_on 74 = .ok (.iload_n 1, 1) := by decide +kernel
theorem dX11_on_75 : decode cX11_on 75 = .ok (.iaload, 1) := by decide +kernel
theorem dX11_on_76 : decode cX11_on 76 = .ok (.invokevirtual 168, 3) := by decide +kernel
theorem dX11_on_79 : decode cX11_on 79 = .ok (.iinc 1 1, 3) := by decide +kernel
theorem dX11_on_82 : decode cX11_on 82 = .ok (.goto (-26), 3) := by decide +kernel
theorem dX11_on_85 : decode cX11_on 85 = .ok (.iconst 0, 1) := by decide +kernel
theorem dX11_on_86 : decode cX11_on 86 = .ok (.istore_n 1, 1) := by decide +kernel
theorem dX11_on_87 : decode cX11_on 87 = .ok (.iload_n 1, 1) := by decide +kernel
theorem dX11_on_88 : decode cX11_on 88 = .ok (.iconst 4, 1) := by decide +kernel
theorem dX11_on_89 : decode cX11_on 89 = .ok (.if_icmp .ge 32, 3) := by decide +kernel
theorem dX11_on_92 : decode cX11_on 92 = .ok (.aload_n 0, 1) := by decide +kernel
theorem dX11_on_93 : decode cX11_on 93 = .ok (.getfield 68, 3) := by decide +kernel
theorem dX11_on_96 : decode cX11_on 96 = .ok (.iload_n 1, 1) := by decide +kernel
theorem dX11_on_97 : decode cX11_on 97 = .ok (.invokevirtual 115, 3) := by decide +kernel
theorem dX11_on_100 : decode cX11_on 100 = .ok (.astore_n 2, 1) := by decide +kernel
theorem dX11_on_101 : decode cX11_on 101 = .ok (.aload_n 2, 1) := by decide +kernel
theorem dX11_on_102 : decode cX11_on 102 = .ok (.ifnull 13, 3) := by decide +kernel
theorem dX11_on_105 : decode cX11_on 105 = .ok (.aload_n 2, 1) := by decide +kernel
theorem dX11_on_106 : decode cX11_on 106 = .ok (.aload_n 0, 1) := by decide +kernel
theorem dX11_on_107 : decode cX11_on 107 = .ok (.getfield 53, 3) := by decide +kernel
theorem dX11_on_110 : decode cX11_on 110 = .ok (.iload_n 1, 1) := by decide +kernel
theorem dX11_on_111 : decode cX11_on 111 = .ok (.iaload, 1) := by decide +kernel
theorem dX11_on_112 : decode cX11_on 112 = .ok (.invokevirtual 175, 3) := by decide +kernel
theorem dX11_on_115 : decode cX11_on 115 = .ok (.iinc 1 1, 3) := by decide +kernel
theorem dX11_on_118 : decode cX11_on 118 = .ok (.goto (-31), 3) := by decide +kernel
theorem dX11_on_121 : decode cX11_on 121 = .ok (.aload_n 0, 1) := by decide +kernel
theorem dX11_on_122 : decode cX11_on 122 = .ok (.getfield 59, 3) := by decide +kernel
theorem dX11_on_125 : decode cX11_on 125 = .ok (.invokevirtual 267, 3) := by decide +kernel
theorem dX11_on_128 : decode cX11_on 128 = .ok (.ireturn, 1) := by decide +kernel
set_option maxRecDepth 20000 in
theorem ggX11_count_X10_size : GoodIn wsX11_count wsX10_size := goodIn_r _ [11, 12, 49, 50, 51, 52, 53, 54, 55, 56, 57, 58, 59, 60, 61, 62, 63, 64] (by decide +kernel) (by decide +kernel)
set_option maxRecDepth 20000 in
theorem gX11_count_X10_size : GoodIn wsX11_count (wsV RX11 267 RX10 yX10_size wsX10_size) := goodIn_app (goodIn_of _ (by decide +kernel)) ggX11_count_X10_size
set_option maxRecDepth 20000 in
theorem ggX11_count_X6_size : GoodIn wsX11_count wsX6_size := goodIn_r _ [17, 18, 65, 66, 67, 68, 69, 70, 71, 72, 73, 74, 75, 76, 77, 78, 79, 80, 81] (by decide +kernel) (by decide +kernel)
set_option maxRecDepth 20000 in
theorem gX11_count_X6_size : GoodIn wsX11_count (wsV RX11 268 RX6 yX6_size wsX6_size) := goodIn_app (goodIn_of _ (by decide +kernel)) ggX11_count_X6_size
set_option maxRecDepth 20000 in
theorem ggX11_count_X10_endsCount : GoodIn wsX11_count wsX10_endsCount := goodIn_r _ [22, 23, 49, 50, 51, 52, 53, 54, 55, 56, 57, 58, 59, 60, 61, 62, 63, 64] (by decide +kernel) (by decide +kernel)
set_option maxRecDepth 20000 in
theorem gX11_count_X10_endsCount : GoodIn wsX11_count (wsV RX11 274 RX10 yX10_endsCount wsX10_endsCount) := goodIn_app (goodIn_of _ (by decide +kernel)) ggX11_count_X10_endsCount
set_option maxRecDepth 20000 in
theorem ggX11_count_X3_size : GoodIn wsX11_count wsX3_size := goodIn_r _ [28, 29, 82, 83, 84, 85, 86] (by decide +kernel) (by decide +kernel)
set_option maxRecDepth 20000 in
theorem gX11_count_X3_size : GoodIn wsX11_count (wsV RX11 237 RX3 yX3_size wsX3_size) := goodIn_app (goodIn_of _ (by decide +kernel)) ggX11_count_X3_size
set_option maxRecDepth 20000 in
theorem ggX11_count_X8_size : GoodIn wsX11_count wsX8_size := goodIn_r _ [34, 35, 87, 88, 89, 90, 91, 92, 93, 94, 95, 96, 97, 98] (by decide +kernel) (by decide +kernel)
set_option maxRecDepth 20000 in
theorem gX11_count_X8_size : GoodIn wsX11_count (wsV RX11 76 RX8 yX8_size wsX8_size) := goodIn_app (goodIn_of _ (by decide +kernel)) ggX11_count_X8_size
theorem dX11_count_0 : decode cX11_count 0 = .ok (.iload_n 1, 1) := by decide +kernel
theorem dX11_count_1 : decode cX11_count 1 = .ok (.bipush 11, 2) := by decide +kernel
theorem dX11_count_3 : decode cX11_count 3 = .ok (.if_icmp .lt 31, 3) := by decide +kernel
theorem dX11_count_6 : decode cX11_count 6 = .ok (.iload_n 1, 1) := by decide +kernel
theorem dX11_count_7 : decode cX11_count 7 = .ok (.bipush 16, 2) := by decide +kernel
theorem dX11_count_9 : decode cX11_count 9 = .ok (.if_icmp .gt 25, 3) := by decide +kernel
theorem dX11_count_12 : decode cX11_count 12 = .ok (.iload_n 1, 1) := by decide +kernel
theorem dX11_count_13 : decode cX11_count 13 = .ok (.bipush 10, 2) := by decide +kernel
theorem dX11_count_15 : decode cX11_count 15 = .ok (.isub, 1) := by decide +kernel
theorem dX11_count_16 : decode cX11_count 16 = .ok (.aload_n 0, 1) := by decide +kernel
theorem dX11_count_17 : decode cX11_count 17 = .ok (.getfield 31, 3) := by decide +kernel
theorem dX11_count_20 : decode cX11_count 20 = .ok (.arraylength, 1) := by decide +kernel
theorem dX11_count_21 : decode cX11_count 21 = .ok (.if_icmp .ge 13, 3) := by decide +kernel
theorem dX11_count_24 : decode cX11_count 24 = .ok (.aload_n 0, 1) := by decide +kernel
theorem dX11_count_25 : decode cX11_count 25 = .ok (.getfield 31, 3) := by decide +kernel
theorem dX11_count_28 : decode cX11_count 28 = .ok (.iload_n 1, 1) := by decide +kernel
theorem dX11_count_29 : decode cX11_count 29 = .ok (.bipush 10, 2) := by decide +kernel
theorem dX11_count_31 : decode cX11_count 31 = .ok (.isub, 1) := by decide +kernel
theorem dX11_count_32 : decode cX11_count 32 = .ok (.iaload, 1) := by decide +kernel
theorem dX11_count_33 : decode cX11_count 33 = .ok (.ireturn, 1) := by decide +kernel
theorem dX11_count_34 : decode cX11_count 34 = .ok (.iload_n 1, 1) := by decide +kernel
theorem dX11_count_35 : decode cX11_count 35 = .ok (.tableswitch 82 0 5 #[37, 45, 53, 61, 69, 74], 37) := by decide +kernel
theorem dX11_count_72 : decode cX11_count 72 = .ok (.aload_n 0, 1) := by decide +kernel
theorem dX11_count_73 : decode cX11_count 73 = .ok (.getfield 59, 3) := by decide +kernel
theorem dX11_count_76 : decode cX11_count 76 = .ok (.invokevirtual 267, 3) := by decide +kernel
theorem dX11_count_79 : decode cX11_count 79 = .ok (.ireturn, 1) := by decide +kernel
theorem dX11_count_80 : decode cX11_count 80 = .ok (.aload_n 0, 1) := by decide +kernel
theorem dX11_count_81 : decode cX11_count 81 = .ok (.getfield 68, 3) := by decide +kernel
theorem dX11_count_84 : decode cX11_count 84 = .ok (.invokevirtual 268, 3) := by decide +kernel
theorem dX11_count_87 : decode cX11_count 87 = .ok (.ireturn, 1) := by decide +kernel
theorem dX11_count_88 : decode cX11_count 88 = .ok (.aload_n 0, 1) := by decide +kernel
theorem dX11_count_89 : decode cX11_count 89 = .ok (.getfield 59, 3) := by decide +kernel
theorem dX11_count_92 : decode cX11_count 92 = .ok (.invokevirtual 274, 3) := by decide +kernel
theorem dX11_count_95 : decode cX11_count 95 = .ok (.ireturn, 1) := by decide +kernel
theorem dX11_count_96 : decode cX11_count 96 = .ok (.aload_n 0, 1) := by decide +kernel
theorem dX11_count_97 : decode cX11_count 97 = .ok (.getfield 19, 3) := by decide +kernel
theorem dX11_count_100 : decode cX11_count 100 = .ok (.invokevirtual 237, 3) := by decide +kernel
theorem dX11_count_103 : decode cX11_count 103 = .ok (.ireturn, 1) := by decide +kernel
theorem dX11_count_104 : decode cX11_count 104 = .ok (.aload_n 0, 1) := by decide +kernel
theorem dX11_count_105 : decode cX11_count 105 = .ok (.getfield 27, 3) := by decide +kernel
theorem dX11_count_108 : decode cX11_count 108 = .ok (.ireturn, 1) := by decide +kernel
theorem dX11_count_109 : decode cX11_count 109 = .ok (.aload_n 0, 1) := by decide +kernel
theorem dX11_count_110 : decode cX11_count 110 = .ok (.getfield 10, 3) := by decide +kernel
theorem dX11_count_113 : decode cX11_count 113 = .ok (.invokevirtual 76, 3) := by decide +kernel
theorem dX11_count_116 : decode cX11_count 116 = .ok (.ireturn, 1) := by decide +kernel
theorem dX11_count_117 : decode cX11_count 117 = .ok (.bipush (-9), 2) := by decide +kernel
theorem dX11_count_119 : decode cX11_count 119 = .ok (.ireturn, 1) := by decide +kernel
theorem dX11_refuse_0 : decode cX11_refuse 0 = .ok (.iload_n 1, 1) := by decide +kernel
theorem dX11_refuse_1 : decode cX11_refuse 1 = .ok (.ineg, 1) := by decide +kernel
theorem dX11_refuse_2 : decode cX11_refuse 2 = .ok (.istore_n 2, 1) := by decide +kernel
theorem dX11_refuse_3 : decode cX11_refuse 3 = .ok (.iload_n 2, 1) := by decide +kernel
theorem dX11_refuse_4 : decode cX11_refuse 4 = .ok (.ifCond .lt 22, 3) := by decide +kernel
theorem dX11_refuse_7 : decode cX11_refuse 7 = .ok (.iload_n 2, 1) := by decide +kernel
theorem dX11_refuse_8 : decode cX11_refuse 8 = .ok (.aload_n 0, 1) := by decide +kernel
theorem dX11_refuse_9 : decode cX11_refuse 9 = .ok (.getfield 31, 3) := by decide +kernel
theorem dX11_refuse_12 : decode cX11_refuse 12 = .ok (.arraylength, 1) := by decide +kernel
theorem dX11_refuse_13 : decode cX11_refuse 13 = .ok (.if_icmp .ge 13, 3) := by decide +kernel
theorem dX11_refuse_16 : decode cX11_refuse 16 = .ok (.aload_n 0, 1) := by decide +kernel
theorem dX11_refuse_17 : decode cX11_refuse 17 = .ok (.getfield 31, 3) := by decide +kernel
theorem dX11_refuse_20 : decode cX11_refuse 20 = .ok (.iload_n 2, 1) := by decide +kernel
theorem dX11_refuse_21 : decode cX11_refuse 21 = .ok (.dup2, 1) := by decide +kernel
theorem dX11_refuse_22 : decode cX11_refuse 22 = .ok (.iaload, 1) := by decide +kernel
theorem dX11_refuse_23 : decode cX11_refuse 23 = .ok (.iconst 1, 1) := by decide +kernel
theorem dX11_refuse_24 : decode cX11_refuse 24 = .ok (.iadd, 1) := by decide +kernel
theorem dX11_refuse_25 : decode cX11_refuse 25 = .ok (.iastore, 1) := by decide +kernel
theorem dX11_refuse_26 : decode cX11_refuse 26 = .ok (.iload_n 1, 1) := by decide +kernel
theorem dX11_refuse_27 : decode cX11_refuse 27 = .ok (.ireturn, 1) := by decide +kernel
set_option maxRecDepth 20000 in
theorem ggX11_refuseLong_X11_refuse : GoodIn wsX11_refuseLong wsX11_refuse := goodIn_r _ [6, 7, 8, 9, 10, 11, 12, 13, 14, 15, 16, 17, 18, 19, 20] (by decide +kernel) (by decide +kernel)
set_option maxRecDepth 20000 in
theorem gX11_refuseLong_X11_refuse : GoodIn wsX11_refuseLong (wsV RX11 72 RX11 yX11_refuse wsX11_refuse) := goodIn_app (goodIn_of _ (by decide +kernel)) ggX11_refuseLong_X11_refuse
theorem dX11_refuseLong_0 : decode cX11_refuseLong 0 = .ok (.ldc2_w 277, 3) := by decide +kernel
theorem dX11_refuseLong_3 : decode cX11_refuseLong 3 = .ok (.aload_n 0, 1) := by decide +kernel
theorem dX11_refuseLong_4 : decode cX11_refuseLong 4 = .ok (.iload_n 1, 1) := by decide +kernel
theorem dX11_refuseLong_5 : decode cX11_refuseLong 5 = .ok (.invokevirtual 72, 3) := by decide +kernel
theorem dX11_refuseLong_8 : decode cX11_refuseLong 8 = .ok (.i2l, 1) := by decide +kernel
theorem dX11_refuseLong_9 : decode cX11_refuseLong 9 = .ok (.lsub, 1) := by decide +kernel
theorem dX11_refuseLong_10 : decode cX11_refuseLong 10 = .ok (.lreturn, 1) := by decide +kernel
set_option maxRecDepth 20000 in
theorem ggX11_meanOf_X6_playerAt : GoodIn wsX11_meanOf wsX6_playerAt := goodIn_r _ [7, 8, 9, 221, 222, 223, 224, 225, 226, 227, 228, 229, 230, 231, 232, 233, 234, 235, 236, 237] (by decide +kernel) (by decide +kernel)
set_option maxRecDepth 20000 in
theorem gX11_meanOf_X6_playerAt : GoodIn wsX11_meanOf (wsV RX11 115 RX6 yX6_playerAt wsX6_playerAt) := goodIn_app (goodIn_of _ (by decide +kernel)) ggX11_meanOf_X6_playerAt
set_option maxRecDepth 20000 in
theorem ggX11_meanOf_X11_refuseLong : GoodIn wsX11_meanOf wsX11_refuseLong := goodIn_r _ [14, 15, 16, 17, 18, 13, 19, 20, 208, 209, 210, 211, 212, 213, 214, 215, 216, 217, 218, 219, 220] (by decide +kernel) (by decide +kernel)
set_option maxRecDepth 20000 in
theorem gX11_meanOf_X11_refuseLong : GoodIn wsX11_meanOf (wsV RX11 143 RX11 yX11_refuseLong wsX11_refuseLong) := goodIn_app (goodIn_of _ (by decide +kernel)) ggX11_meanOf_X11_refuseLong
set_option maxRecDepth 20000 in
theorem ggX11_meanOf_X11_isNoPart : GoodIn wsX11_meanOf wsX11_isNoPart := goodIn_r _ [23] (by decide +kernel) (by decide +kernel)
set_option maxRecDepth 20000 in
theorem gX11_meanOf_X11_isNoPart : GoodIn wsX11_meanOf (va_wsS RX11 147 yX11_isNoPart wsX11_isNoPart) := goodIn_app (goodIn_of _ (by decide +kernel)) ggX11_meanOf_X11_isNoPart
set_option maxRecDepth 20000 in
theorem ggX11_meanOf_X10_isWhole : GoodIn wsX11_meanOf wsX10_isWhole := goodIn_r _ [28, 29, 238, 239, 240, 241, 242, 243, 244, 245, 246, 247, 248, 249, 250, 251, 252, 253] (by decide +kernel) (by decide +kernel)
set_option maxRecDepth 20000 in
theorem gX11_meanOf_X10_isWhole : GoodIn wsX11_meanOf (wsV RX11 136 RX10 yX10_isWhole wsX10_isWhole) := goodIn_app (goodIn_of _ (by decide +kernel)) ggX11_meanOf_X10_isWhole
set_option maxRecDepth 20000 in
theorem ggX11_meanOf_X6_prepare : GoodIn wsX11_meanOf wsX6_prepare := goodIn_r _ [33, 8, 9, 34, 35, 36, 37, 38, 39, 40, 41, 27, 42, 43, 44, 45, 46, 47, 6, 48, 49, 50, 51, 52, 53, 54, 55, 56, 57, 58, 59, 60, 61, 62, 63, 64, 65, 66, 67, 68, 69, 70, 71, 72, 73, 74, 75, 76, 77, 78, 79, 80, 81, 82, 83, 84, 85, 86, 87, 88, 89, 90, 91, 92, 93, 94, 95, 96, 97, 98, 99, 100, 101, 102, 103, 104, 105, 106, 107, 108, 109, 110, 111, 112, 113, 114, 115, 116, 117, 118, 119, 120, 121, 122, 123, 124, 125, 126, 127, 128, 129, 130, 131, 132, 133, 134, 135, 136, 137, 138, 139, 140, 221, 222, 223, 224, 225, 226, 227, 228, 229, 230, 231, 232, 233, 234, 235, 236, 237, 254, 255, 256, 257, 258, 259, 260, 261, 262, 263, 264, 265, 266, 267, 268, 269, 270, 271, 272, 273, 238, 239, 240, 241, 242, 243, 244, 245, 246, 247, 248, 249, 250, 251, 252, 253] (by decide +kernel) (by decide +kernel)
set_option maxRecDepth 20000 in
theorem gX11_meanOf_X6_prepare : GoodIn wsX11_meanOf (wsV RX11 178 RX6 yX6_prepare wsX6_prepare) := goodIn_app (goodIn_of _ (by decide +kernel)) ggX11_meanOf_X6_prepare
set_option maxRecDepth 20000 in
theorem ggX11_meanOf_X6_total : GoodIn wsX11_meanOf wsX6_total := goodIn_r _ [144, 35, 145, 146, 147, 148, 27, 149, 127, 76, 62, 63, 64, 43, 150, 151, 152, 6, 153, 154, 155, 156, 157, 8, 158, 37, 38, 159, 160, 161, 162, 163, 164, 165, 166, 167, 9, 168, 169, 170, 171, 172, 36, 60, 173, 4, 5, 7, 71, 72, 73, 74, 75, 174, 175, 176, 177, 178, 179, 180, 181, 182, 183, 184, 185, 186, 187, 188, 189, 190, 191, 221, 222, 223, 224, 225, 226, 227, 228, 229, 230, 231, 232, 233, 234, 235, 236, 237, 238, 239, 240, 241, 242, 243, 244, 245, 246, 247, 248, 249, 250, 251, 252, 253, 254, 255, 256, 257, 258, 259, 260, 261, 262, 263, 264, 265, 266, 267, 268, 269, 270, 271, 272, 273] (by decide +kernel) (by decide +kernel)
set_option maxRecDepth 20000 in
theorem gX11_meanOf_X6_total : GoodIn wsX11_meanOf (wsV RX11 208 RX6 yX6_total wsX6_total) := goodIn_app (goodIn_of _ (by decide +kernel)) ggX11_meanOf_X6_total
set_option maxRecDepth 20000 in
theorem ggX11_meanOf_X10_belowOf : GoodIn wsX11_meanOf wsX10_belowOf := goodIn_r _ [195, 82, 76, 62, 63, 27, 64, 43, 238, 239, 240, 241, 242, 243, 244, 245, 246, 247, 248, 249, 250, 251, 252, 253] (by decide +kernel) (by decide +kernel)
set_option maxRecDepth 20000 in
theorem gX11_meanOf_X10_belowOf : GoodIn wsX11_meanOf (wsV RX11 154 RX10 yX10_belowOf wsX10_belowOf) := goodIn_app (goodIn_of _ (by decide +kernel)) ggX11_meanOf_X10_belowOf
set_option maxRecDepth 20000 in
theorem ggX11_meanOf_X11_leastTerms : GoodIn wsX11_meanOf wsX11_leastTerms := goodIn_r _ [198, 199, 200, 13, 201, 202, 203, 99, 204, 205, 206, 207] (by decide +kernel) (by decide +kernel)
set_option maxRecDepth 20000 in
theorem gX11_meanOf_X11_leastTerms : GoodIn wsX11_meanOf (va_wsS RX11 157 yX11_leastTerms wsX11_leastTerms) := goodIn_app (goodIn_of _ (by decide +kernel)) ggX11_meanOf_X11_leastTerms
theorem dX11_meanOf_0 : decode cX11_meanOf 0 = .ok (.aload_n 0, 1) := by decide +kernel
theorem dX11_meanOf_1 : decode cX11_meanOf 1 = .ok (.getfield 68, 3) := by decide +kernel
theorem dX11_meanOf_4 : decode cX11_meanOf 4 = .ok (.iload_n 2, 1) := by decide +kernel
theorem dX11_meanOf_5 : decode cX11_meanOf 5 = .ok (.invokevirtual 115, 3) := by decide +kernel
theorem dX11_meanOf_8 : decode cX11_meanOf 8 = .ok (.ifnonnull 9, 3) := by decide +kernel
theorem dX11_meanOf_11 : decode cX11_meanOf 11 = .ok (.aload_n 0, 1) := by decide +kernel
theorem dX11_meanOf_12 : decode cX11_meanOf 12 = .ok (.iconst (-1), 1) := by decide +kernel
theorem dX11_meanOf_13 : decode cX11_meanOf 13 = .ok (.invokevirtual 143, 3) := by decide +kernel
theorem dX11_meanOf_16 : decode cX11_meanOf 16 = .ok (.lreturn, 1) := by decide +kernel
theorem dX11_meanOf_17 : decode cX11_meanOf 17 = .ok (.iload_n 3, 1) := by decide +kernel
theorem dX11_meanOf_18 : decode cX11_meanOf 18 = .ok (.invokestatic 147, 3) := by decide +kernel
theorem dX11_meanOf_21 : decode cX11_meanOf 21 = .ok (.ifCond .eq 10, 3) := by decide +kernel
theorem dX11_meanOf_24 : decode cX11_meanOf 24 = .ok (.aload_n 0, 1) := by decide +kernel
theorem dX11_meanOf_25 : decode cX11_meanOf 25 = .ok (.bipush (-2), 2) := by decide +kernel
theorem dX11_meanOf_27 : decode cX11_meanOf 27 = .ok (.invokevirtual 143, 3) := by decide +kernel
theorem dX11_meanOf_30 : decode cX11_meanOf 30 = .ok (.lreturn, 1) := by decide +kernel
theorem dX11_meanOf_31 : decode cX11_meanOf 31 = .ok (.aload_n 0, 1) := by decide +kernel
theorem dX11_meanOf_32 : decode cX11_meanOf 32 = .ok (.getfield 59, 3) := by decide +kernel
theorem dX11_meanOf_35 : decode cX11_meanOf 35 = .ok (.invokevirtual 136, 3) := by decide +kernel
theorem dX11_meanOf_38 : decode cX11_meanOf 38 = .ok (.ifCond .ne 10, 3) := by decide +kernel
theorem dX11_meanOf_41 : decode cX11_meanOf 41 = .ok (.aload_n 0, 1) := by decide +kernel
theorem dX11_meanOf_42 : decode cX11_meanOf 42 = .ok (.bipush (-3), 2) := by decide +kernel
theorem dX11_meanOf_44 : decode cX11_meanOf 44 = .ok (.invokevirtual 143, 3) := by decide +kernel
theorem dX11_meanOf_47 : decode cX11_meanOf 47 = .ok (.lreturn, 1) := by decide +kernel
theorem dX11_meanOf_48 : decode cX11_meanOf 48 = .ok (.aload_n 0, 1) := by decide +kernel
theorem dX11_meanOf_49 : decode cX11_meanOf 49 = .ok (.getfield 68, 3) := by decide +kernel
theorem dX11_meanOf_52 : decode cX11_meanOf 52 = .ok (.invokevirtual 178, 3) := by decide +kernel
theorem dX11_meanOf_55 : decode cX11_meanOf 55 = .ok (.aload_n 0, 1) := by decide +kernel
theorem dX11_meanOf_56 : decode cX11_meanOf 56 = .ok (.getfield 68, 3) := by decide +kernel
theorem dX11_meanOf_59 : decode cX11_meanOf 59 = .ok (.iload_n 1, 1) := by decide +kernel
theorem dX11_meanOf_60 : decode cX11_meanOf 60 = .ok (.iload_n 2, 1) := by decide +kernel
theorem dX11_meanOf_61 : decode cX11_meanOf 61 = .ok (.invokevirtual 208, 3) := by decide +kernel
theorem dX11_meanOf_64 : decode cX11_meanOf 64 = .ok (.aload_n 0, 1) := by decide +kernel
theorem dX11_meanOf_65 : decode cX11_meanOf 65 = .ok (.getfield 59, 3) := by decide +kernel
theorem dX11_meanOf_68 : decode cX11_meanOf 68 = .ok (.iconst 0, 1) := by decide +kernel
theorem dX11_meanOf_69 : decode cX11_meanOf 69 = .ok (.invokevirtual 154, 3) := by decide +kernel
theorem dX11_meanOf_72 : decode cX11_meanOf 72 = .ok (.iload_n 3, 1) := by decide +kernel
theorem dX11_meanOf_73 : decode cX11_meanOf 73 = .ok (.invokestatic 157, 3) := by decide +kernel
theorem dX11_meanOf_76 : decode cX11_meanOf 76 = .ok (.lreturn, 1) := by decide +kernel
theorem dX11_isNoPart_0 : decode cX11_isNoPart 0 = .ok (.iload_n 0, 1) := by decide +kernel
theorem dX11_isNoPart_1 : decode cX11_isNoPart 1 = .ok (.ifCond .eq 12, 3) := by decide +kernel
theorem dX11_isNoPart_4 : decode cX11_isNoPart 4 = .ok (.iload_n 0, 1) := by decide +kernel
theorem dX11_isNoPart_5 : decode cX11_isNoPart 5 = .ok (.iconst 1, 1) := by decide +kernel
theorem dX11_isNoPart_6 : decode cX11_isNoPart 6 = .ok (.if_icmp .eq 7, 3) := by decide +kernel
theorem dX11_isNoPart_9 : decode cX11_isNoPart 9 = .ok (.iconst 1, 1) := by decide +kernel
theorem dX11_isNoPart_10 : decode cX11_isNoPart 10 = .ok (.goto 4, 3) := by decide +kernel
theorem dX11_isNoPart_13 : decode cX11_isNoPart 13 = .ok (.iconst 0, 1) := by decide +kernel
theorem dX11_isNoPart_14 : decode cX11_isNoPart 14 = .ok (.ireturn, 1) := by decide +kernel
set_option maxRecDepth 20000 in
theorem ggX11_leastTerms_X11_commonDivisor : GoodIn wsX11_leastTerms wsX11_commonDivisor := goodIn_r _ [4, 5, 6, 7, 8] (by decide +kernel) (by decide +kernel)
set_option maxRecDepth 20000 in
theorem gX11_leastTerms_X11_commonDivisor : GoodIn wsX11_leastTerms (va_wsS RX11 279 yX11_commonDivisor wsX11_commonDivisor) := goodIn_app (goodIn_of _ (by decide +kernel)) ggX11_leastTerms_X11_commonDivisor
set_option maxRecDepth 20000 in
theorem ggX11_leastTerms_X11_parted : GoodIn wsX11_leastTerms wsX11_parted := goodIn_r _ [11] (by decide +kernel) (by decide +kernel)
set_option maxRecDepth 20000 in
theorem gX11_leastTerms_X11_parted : GoodIn wsX11_leastTerms (va_wsS RX11 283 yX11_parted wsX11_parted) := goodIn_app (goodIn_of _ (by decide +kernel)) ggX11_leastTerms_X11_parted
theorem dX11_leastTerms_0 : decode cX11_leastTerms 0 = .ok (.iload 4, 2) := by decide +kernel
theorem dX11_leastTerms_2 : decode cX11_leastTerms 2 = .ok (.ifCond .ne 7, 3) := by decide +kernel
theorem dX11_leastTerms_5 : decode cX11_leastTerms 5 = .ok (.lload_n 0, 1) := by decide +kernel
theorem dX11_leastTerms_6 : decode cX11_leastTerms 6 = .ok (.goto 4, 3) := by decide +kernel
theorem dX11_leastTerms_9 : decode cX11_leastTerms 9 = .ok (.lload_n 2, 1) := by decide +kernel
theorem dX11_leastTerms_10 : decode cX11_leastTerms 10 = .ok (.lload_n 0, 1) := by decide +kernel
theorem dX11_leastTerms_11 : decode cX11_leastTerms 11 = .ok (.lload_n 2, 1) := by decide +kernel
theorem dX11_leastTerms_12 : decode cX11_leastTerms 12 = .ok (.invokestatic 279, 3) := by decide +kernel
theorem dX11_leastTerms_15 : decode cX11_leastTerms 15 = .ok (.invokestatic 283, 3) := by decide +kernel
theorem dX11_leastTerms_18 : decode cX11_leastTerms 18 = .ok (.lreturn, 1) := by decide +kernel
theorem dX11_parted_0 : decode cX11_parted 0 = .ok (.lload_n 2, 1) := by decide +kernel
theorem dX11_parted_1 : decode cX11_parted 1 = .ok (.lconst 0, 1) := by decide +kernel
theorem dX11_parted_2 : decode cX11_parted 2 = .ok (.lcmp, 1) := by decide +kernel
theorem dX11_parted_3 : decode cX11_parted 3 = .ok (.ifCond .ne 7, 3) := by decide +kernel
theorem dX11_parted_6 : decode cX11_parted 6 = .ok (.lconst 0, 1) := by decide +kernel
theorem dX11_parted_7 : decode cX11_parted 7 = .ok (.goto 6, 3) := by decide +kernel
theorem dX11_parted_10 : decode cX11_parted 10 = .ok (.lload_n 0, 1) := by decide +kernel
theorem dX11_parted_11 : decode cX11_parted 11 = .ok (.lload_n 2, 1) := by decide +kernel
theorem dX11_parted_12 : decode cX11_parted 12 = .ok (.ldiv, 1) := by decide +kernel
theorem dX11_parted_13 : decode cX11_parted 13 = .ok (.lreturn, 1) := by decide +kernel
theorem dX11_commonDivisor_0 : decode cX11_commonDivisor 0 = .ok (.lload_n 0, 1) := by decide +kernel
theorem dX11_commonDivisor_1 : decode cX11_commonDivisor 1 = .ok (.invokestatic 286, 3) := by decide +kernel
theorem dX11_commonDivisor_4 : decode cX11_commonDivisor 4 = .ok (.lstore 4, 2) := by decide +kernel
theorem dX11_commonDivisor_6 : decode cX11_commonDivisor 6 = .ok (.lload_n 2, 1) := by decide +kernel
theorem dX11_commonDivisor_7 : decode cX11_commonDivisor 7 = .ok (.invokestatic 286, 3) := by decide +kernel
theorem dX11_commonDivisor_10 : decode cX11_commonDivisor 10 = .ok (.lstore 6, 2) := by decide +kernel
theorem dX11_commonDivisor_12 : decode cX11_commonDivisor 12 = .ok (.iconst 0, 1) := by decide +kernel
theorem dX11_commonDivisor_13 : decode cX11_commonDivisor 13 = .ok (.istore 8, 2) := by decide +kernel
theorem dX11_commonDivisor_15 : decode cX11_commonDivisor 15 = .ok (.iload 8, 2) := by decide +kernel
theorem dX11_commonDivisor_17 : decode cX11_commonDivisor 17 = .ok (.bipush 100, 2) := by decide +kernel
theorem dX11_commonDivisor_19 : decode cX11_commonDivisor 19 = .ok (.if_icmp .ge 31, 3) := by decide +kernel
theorem dX11_commonDivisor_22 : decode cX11_commonDivisor 22 = .ok (.lload 6, 2) := by decide +kernel
theorem dX11_commonDivisor_24 : decode cX11_commonDivisor 24 = .ok (.lconst 0, 1) := by decide +kernel
theorem dX11_commonDivisor_25 : decode cX11_commonDivisor 25 = .ok (.lcmp, 1) := by decide +kernel
theorem dX11_commonDivisor_26 : decode cX11_commonDivisor 26 = .ok (.ifCond .eq 24, 3) := by decide +kernel
theorem dX11_commonDivisor_29 : decode cX11_commonDivisor 29 = .ok (.lload 4, 2) := by decide +kernel
theorem dX11_commonDivisor_31 : decode cX11_commonDivisor 31 = .ok (.lload 6, 2) := by decide +kernel
theorem dX11_commonDivisor_33 : decode cX11_commonDivisor 33 = .ok (.lrem, 1) := by decide +kernel
theorem dX11_commonDivisor_34 : decode cX11_commonDivisor 34 = .ok (.lstore 9, 2) := by decide +kernel
theorem dX11_commonDivisor_36 : decode cX11_commonDivisor 36 = .ok (.lload 6, 2) := by decide +kernel
theorem dX11_commonDivisor_38 : decode cX11_commonDivisor 38 = .ok (.lstore 4, 2) := by decide +kernel
theorem dX11_commonDivisor_40 : decode cX11_commonDivisor 40 = .ok (.lload 9, 2) := by decide +kernel
theorem dX11_commonDivisor_42 : decode cX11_commonDivisor 42 = .ok (.lstore 6, 2) := by decide +kernel
theorem dX11_commonDivisor_44 : decode cX11_commonDivisor 44 = .ok (.iinc 8 1, 3) := by decide +kernel
theorem dX11_commonDivisor_47 : decode cX11_commonDivisor 47 = .ok (.goto (-32), 3) := by decide +kernel
theorem dX11_commonDivisor_50 : decode cX11_commonDivisor 50 = .ok (.lload 4, 2) := by decide +kernel
theorem dX11_commonDivisor_52 : decode cX11_commonDivisor 52 = .ok (.lreturn, 1) := by decide +kernel
theorem dJ11_isValidCodePoint_9a6ad_0 : decode cJ11_isValidCodePoint_9a6ad 0 = .ok (.iload_n 0, 1) := by decide +kernel
theorem dJ11_isValidCodePoint_9a6ad_1 : decode cJ11_isValidCodePoint_9a6ad 1 = .ok (.bipush 16, 2) := by decide +kernel
theorem dJ11_isValidCodePoint_9a6ad_3 : decode cJ11_isValidCodePoint_9a6ad 3 = .ok (.iushr, 1) := by decide +kernel
theorem dJ11_isValidCodePoint_9a6ad_4 : decode cJ11_isValidCodePoint_9a6ad 4 = .ok (.istore_n 1, 1) := by decide +kernel
theorem dJ11_isValidCodePoint_9a6ad_5 : decode cJ11_isValidCodePoint_9a6ad 5 = .ok (.iload_n 1, 1) := by decide +kernel
theorem dJ11_isValidCodePoint_9a6ad_6 : decode cJ11_isValidCodePoint_9a6ad 6 = .ok (.bipush 17, 2) := by decide +kernel
theorem dJ11_isValidCodePoint_9a6ad_8 : decode cJ11_isValidCodePoint_9a6ad 8 = .ok (.if_icmp .ge 7, 3) := by decide +kernel
theorem dJ11_isValidCodePoint_9a6ad_11 : decode cJ11_isValidCodePoint_9a6ad 11 = .ok (.iconst 1, 1) := by decide +kernel
theorem dJ11_isValidCodePoint_9a6ad_12 : decode cJ11_isValidCodePoint_9a6ad 12 = .ok (.goto 4, 3) := by decide +kernel
theorem dJ11_isValidCodePoint_9a6ad_15 : decode cJ11_isValidCodePoint_9a6ad 15 = .ok (.iconst 0, 1) := by decide +kernel
theorem dJ11_isValidCodePoint_9a6ad_16 : decode cJ11_isValidCodePoint_9a6ad 16 = .ok (.ireturn, 1) := by decide +kernel
theorem dJ11_highSurrogate_5068e_0 : decode cJ11_highSurrogate_5068e 0 = .ok (.iload_n 0, 1) := by decide +kernel
theorem dJ11_highSurrogate_5068e_1 : decode cJ11_highSurrogate_5068e 1 = .ok (.bipush 10, 2) := by decide +kernel
theorem dJ11_highSurrogate_5068e_3 : decode cJ11_highSurrogate_5068e 3 = .ok (.iushr, 1) := by decide +kernel
theorem dJ11_highSurrogate_5068e_4 : decode cJ11_highSurrogate_5068e 4 = .ok (.ldc 110, 2) := by decide +kernel
theorem dJ11_highSurrogate_5068e_6 : decode cJ11_highSurrogate_5068e 6 = .ok (.iadd, 1) := by decide +kernel
theorem dJ11_highSurrogate_5068e_7 : decode cJ11_highSurrogate_5068e 7 = .ok (.i2c, 1) := by decide +kernel
theorem dJ11_highSurrogate_5068e_8 : decode cJ11_highSurrogate_5068e 8 = .ok (.ireturn, 1) := by decide +kernel
theorem dJ11_lowSurrogate_5068e_0 : decode cJ11_lowSurrogate_5068e 0 = .ok (.iload_n 0, 1) := by decide +kernel
theorem dJ11_lowSurrogate_5068e_1 : decode cJ11_lowSurrogate_5068e 1 = .ok (.sipush 1023, 3) := by decide +kernel
theorem dJ11_lowSurrogate_5068e_4 : decode cJ11_lowSurrogate_5068e 4 = .ok (.iand, 1) := by decide +kernel
theorem dJ11_lowSurrogate_5068e_5 : decode cJ11_lowSurrogate_5068e 5 = .ok (.ldc 76, 2) := by decide +kernel
theorem dJ11_lowSurrogate_5068e_7 : decode cJ11_lowSurrogate_5068e 7 = .ok (.iadd, 1) := by decide +kernel
theorem dJ11_lowSurrogate_5068e_8 : decode cJ11_lowSurrogate_5068e 8 = .ok (.i2c, 1) := by decide +kernel
theorem dJ11_lowSurrogate_5068e_9 : decode cJ11_lowSurrogate_5068e 9 = .ok (.ireturn, 1) := by decide +kernel
theorem dJ6_bitCount_0f7a4_0 : decode cJ6_bitCount_0f7a4 0 = .ok (.iload_n 0, 1) := by decide +kernel
theorem dJ6_bitCount_0f7a4_1 : decode cJ6_bitCount_0f7a4 1 = .ok (.iload_n 0, 1) := by decide +kernel
theorem dJ6_bitCount_0f7a4_2 : decode cJ6_bitCount_0f7a4 2 = .ok (.iconst 1, 1) := by decide +kernel
theorem dJ6_bitCount_0f7a4_3 : decode cJ6_bitCount_0f7a4 3 = .ok (.iushr, 1) := by decide +kernel
theorem dJ6_bitCount_0f7a4_4 : decode cJ6_bitCount_0f7a4 4 = .ok (.ldc_w 265, 3) := by decide +kernel
theorem dJ6_bitCount_0f7a4_7 : decode cJ6_bitCount_0f7a4 7 = .ok (.iand, 1) := by decide +kernel
theorem dJ6_bitCount_0f7a4_8 : decode cJ6_bitCount_0f7a4 8 = .ok (.isub, 1) := by decide +kernel
theorem dJ6_bitCount_0f7a4_9 : decode cJ6_bitCount_0f7a4 9 = .ok (.istore_n 0, 1) := by decide +kernel
theorem dJ6_bitCount_0f7a4_10 : decode cJ6_bitCount_0f7a4 10 = .ok (.iload_n 0, 1) := by decide +kernel
theorem dJ6_bitCount_0f7a4_11 : decode cJ6_bitCount_0f7a4 11 = .ok (.ldc_w 266, 3) := by decide +kernel
theorem dJ6_bitCount_0f7a4_14 : decode cJ6_bitCount_0f7a4 14 = .ok (.iand, 1) := by decide +kernel
theorem dJ6_bitCount_0f7a4_15 : decode cJ6_bitCount_0f7a4 15 = .ok (.iload_n 0, 1) := by decide +kernel
theorem dJ6_bitCount_0f7a4_16 : decode cJ6_bitCount_0f7a4 16 = .ok (.iconst 2, 1) := by decide +kernel
theorem dJ6_bitCount_0f7a4_17 : decode cJ6_bitCount_0f7a4 17 = .ok (.iushr, 1) := by decide +kernel
theorem dJ6_bitCount_0f7a4_18 : decode cJ6_bitCount_0f7a4 18 = .ok (.ldc_w 266, 3) := by decide +kernel
theorem dJ6_bitCount_0f7a4_21 : decode cJ6_bitCount_0f7a4 21 = .ok (.iand, 1) := by decide +kernel
theorem dJ6_bitCount_0f7a4_22 : decode cJ6_bitCount_0f7a4 22 = .ok (.iadd, 1) := by decide +kernel
theorem dJ6_bitCount_0f7a4_23 : decode cJ6_bitCount_0f7a4 23 = .ok (.istore_n 0, 1) := by decide +kernel
theorem dJ6_bitCount_0f7a4_24 : decode cJ6_bitCount_0f7a4 24 = .ok (.iload_n 0, 1) := by decide +kernel
theorem dJ6_bitCount_0f7a4_25 : decode cJ6_bitCount_0f7a4 25 = .ok (.iload_n 0, 1) := by decide +kernel
theorem dJ6_bitCount_0f7a4_26 : decode cJ6_bitCount_0f7a4 26 = .ok (.iconst 4, 1) := by decide +kernel
theorem dJ6_bitCount_0f7a4_27 : decode cJ6_bitCount_0f7a4 27 = .ok (.iushr, 1) := by decide +kernel
theorem dJ6_bitCount_0f7a4_28 : decode cJ6_bitCount_0f7a4 28 = .ok (.iadd, 1) := by decide +kernel
theorem dJ6_bitCount_0f7a4_29 : decode cJ6_bitCount_0f7a4 29 = .ok (.ldc_w 267, 3) := by decide +kernel
theorem dJ6_bitCount_0f7a4_32 : decode cJ6_bitCount_0f7a4 32 = .ok (.iand, 1) := by decide +kernel
theorem dJ6_bitCount_0f7a4_33 : decode cJ6_bitCount_0f7a4 33 = .ok (.istore_n 0, 1) := by decide +kernel
theorem dJ6_bitCount_0f7a4_34 : decode cJ6_bitCount_0f7a4 34 = .ok (.iload_n 0, 1) := by decide +kernel
theorem dJ6_bitCount_0f7a4_35 : decode cJ6_bitCount_0f7a4 35 = .ok (.iload_n 0, 1) := by decide +kernel
theorem dJ6_bitCount_0f7a4_36 : decode cJ6_bitCount_0f7a4 36 = .ok (.bipush 8, 2) := by decide +kernel
theorem dJ6_bitCount_0f7a4_38 : decode cJ6_bitCount_0f7a4 38 = .ok (.iushr, 1) := by decide +kernel
theorem dJ6_bitCount_0f7a4_39 : decode cJ6_bitCount_0f7a4 39 = .ok (.iadd, 1) := by decide +kernel
theorem dJ6_bitCount_0f7a4_40 : decode cJ6_bitCount_0f7a4 40 = .ok (.istore_n 0, 1) := by decide +kernel
theorem dJ6_bitCount_0f7a4_41 : decode cJ6_bitCount_0f7a4 41 = .ok (.iload_n 0, 1) := by decide +kernel
theorem dJ6_bitCount_0f7a4_42 : decode cJ6_bitCount_0f7a4 42 = .ok (.iload_n 0, 1) := by decide +kernel
theorem dJ6_bitCount_0f7a4_43 : decode cJ6_bitCount_0f7a4 43 = .ok (.bipush 16, 2) := by decide +kernel
theorem dJ6_bitCount_0f7a4_45 : decode cJ6_bitCount_0f7a4 45 = .ok (.iushr, 1) := by decide +kernel
theorem dJ6_bitCount_0f7a4_46 : decode cJ6_bitCount_0f7a4 46 = .ok (.iadd, 1) := by decide +kernel
theorem dJ6_bitCount_0f7a4_47 : decode cJ6_bitCount_0f7a4 47 = .ok (.istore_n 0, 1) := by decide +kernel
theorem dJ6_bitCount_0f7a4_48 : decode cJ6_bitCount_0f7a4 48 = .ok (.iload_n 0, 1) := by decide +kernel
theorem dJ6_bitCount_0f7a4_49 : decode cJ6_bitCount_0f7a4 49 = .ok (.bipush 63, 2) := by decide +kernel
theorem dJ6_bitCount_0f7a4_51 : decode cJ6_bitCount_0f7a4 51 = .ok (.iand, 1) := by decide +kernel
theorem dJ6_bitCount_0f7a4_52 : decode cJ6_bitCount_0f7a4 52 = .ok (.ireturn, 1) := by decide +kernel
theorem dJ9_abs_067f4_0 : decode cJ9_abs_067f4 0 = .ok (.lload_n 0, 1) := by decide +kernel
theorem dJ9_abs_067f4_1 : decode cJ9_abs_067f4 1 = .ok (.lconst 0, 1) := by decide +kernel
theorem dJ9_abs_067f4_2 : decode cJ9_abs_067f4 2 = .ok (.lcmp, 1) := by decide +kernel
theorem dJ9_abs_067f4_3 : decode cJ9_abs_067f4 3 = .ok (.ifCond .ge 8, 3) := by decide +kernel
theorem dJ9_abs_067f4_6 : decode cJ9_abs_067f4 6 = .ok (.lload_n 0, 1) := by decide +kernel
theorem dJ9_abs_067f4_7 : decode cJ9_abs_067f4 7 = .ok (.lneg, 1) := by decide +kernel
theorem dJ9_abs_067f4_8 : decode cJ9_abs_067f4 8 = .ok (.goto 4, 3) := by decide +kernel
theorem dJ9_abs_067f4_11 : decode cJ9_abs_067f4 11 = .ok (.lload_n 0, 1) := by decide +kernel
theorem dJ9_abs_067f4_12 : decode cJ9_abs_067f4 12 = .ok (.lreturn, 1) := by decide +kernel
theorem dJ9_max_7cf53_0 : decode cJ9_max_7cf53 0 = .ok (.iload_n 0, 1) := by decide +kernel
theorem dJ9_max_7cf53_1 : decode cJ9_max_7cf53 1 = .ok (.iload_n 1, 1) := by decide +kernel
theorem dJ9_max_7cf53_2 : decode cJ9_max_7cf53 2 = .ok (.if_icmp .lt 7, 3) := by decide +kernel
theorem dJ9_max_7cf53_5 : decode cJ9_max_7cf53 5 = .ok (.iload_n 0, 1) := by decide +kernel
theorem dJ9_max_7cf53_6 : decode cJ9_max_7cf53 6 = .ok (.goto 4, 3) := by decide +kernel
theorem dJ9_max_7cf53_9 : decode cJ9_max_7cf53 9 = .ok (.iload_n 1, 1) := by decide +kernel
theorem dJ9_max_7cf53_10 : decode cJ9_max_7cf53 10 = .ok (.ireturn, 1) := by decide +kernel
theorem dJ9_min_7cf53_0 : decode cJ9_min_7cf53 0 = .ok (.iload_n 0, 1) := by decide +kernel
theorem dJ9_min_7cf53_1 : decode cJ9_min_7cf53 1 = .ok (.iload_n 1, 1) := by decide +kernel
theorem dJ9_min_7cf53_2 : decode cJ9_min_7cf53 2 = .ok (.if_icmp .gt 7, 3) := by decide +kernel
theorem dJ9_min_7cf53_5 : decode cJ9_min_7cf53 5 = .ok (.iload_n 0, 1) := by decide +kernel
theorem dJ9_min_7cf53_6 : decode cJ9_min_7cf53 6 = .ok (.goto 4, 3) := by decide +kernel
theorem dJ9_min_7cf53_9 : decode cJ9_min_7cf53 9 = .ok (.iload_n 1, 1) := by decide +kernel
theorem dJ9_min_7cf53_10 : decode cJ9_min_7cf53 10 = .ok (.ireturn, 1) := by decide +kernel
set_option maxRecDepth 20000 in
theorem ggJ0_length_8abf5_J0_coder_7d493 : GoodIn wsJ0_length_8abf5 wsJ0_coder_7d493 := goodIn_r _ [6, 7, 8] (by decide +kernel) (by decide +kernel)
set_option maxRecDepth 20000 in
theorem gJ0_length_8abf5_J0_coder_7d493 : GoodIn wsJ0_length_8abf5 (wsV RJ0 335 RJ0 yJ0_coder_7d493 wsJ0_coder_7d493) := goodIn_app (goodIn_of _ (by decide +kernel)) ggJ0_length_8abf5_J0_coder_7d493
theorem dJ0_length_8abf5_0 : decode cJ0_length_8abf5 0 = .ok (.aload_n 0, 1) := by decide +kernel
theorem dJ0_length_8abf5_1 : decode cJ0_length_8abf5 1 = .ok (.getfield 9, 3) := by decide +kernel
theorem dJ0_length_8abf5_4 : decode cJ0_length_8abf5 4 = .ok (.arraylength, 1) := by decide +kernel
theorem dJ0_length_8abf5_5 : decode cJ0_length_8abf5 5 = .ok (.aload_n 0, 1) := by decide +kernel
theorem dJ0_length_8abf5_6 : decode cJ0_length_8abf5 6 = .ok (.invokevirtual 335, 3) := by decide +kernel
theorem dJ0_length_8abf5_9 : decode cJ0_length_8abf5 9 = .ok (.ishr, 1) := by decide +kernel
theorem dJ0_length_8abf5_10 : decode cJ0_length_8abf5 10 = .ok (.ireturn, 1) := by decide +kernel
