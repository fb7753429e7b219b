set_option maxRecDepth 20000 in
theorem gX10_append_X10_has : GoodIn wsX10_append (wsV RX10 65 RX10 yX10_has wsX10_has) := goodIn_app (goodIn_of _ (by decide +kernel)) ggX10_append_X10_has
set_option maxRecDepth 20000 in
theorem ggX10_append_X10_isEnd : GoodIn wsX10_append wsX10_isEnd := goodIn_r _ [13, 4, 5, 6, 7, 8, 9, 1, 14, 15, 16, 17, 18, 19, 20, 21, 22, 23, 24, 25, 26, 27, 28, 29] (by decide +kernel) (by decide +kernel)
set_option maxRecDepth 20000 in
theorem gX10_append_X10_isEnd : GoodIn wsX10_append (wsV RX10 69 RX10 yX10_isEnd wsX10_isEnd) := goodIn_app (goodIn_of _ (by decide +kernel)) ggX10_append_X10_isEnd
theorem dX10_append_0 : decode cX10_append 0 = .ok (.aload_n 0, 1) := by decide +kernel
theorem dX10_append_1 : decode cX10_append 1 = .ok (.getfield 54, 3) := by decide +kernel
theorem dX10_append_4 : decode cX10_append 4 = .ok (.iconst 1, 1) := by decide +kernel
theorem dX10_append_5 : decode cX10_append 5 = .ok (.if_icmp .lt 28, 3) := by decide +kernel
theorem dX10_append_8 : decode cX10_append 8 = .ok (.aload_n 0, 1) := by decide +kernel
theorem dX10_append_9 : decode cX10_append 9 = .ok (.getfield 54, 3) := by decide +kernel
theorem dX10_append_12 : decode cX10_append 12 = .ok (.bipush 24, 2) := by decide +kernel
theorem dX10_append_14 : decode cX10_append 14 = .ok (.if_icmp .ge 19, 3) := by decide +kernel
theorem dX10_append_17 : decode cX10_append 17 = .ok (.aload_n 0, 1) := by decide +kernel
theorem dX10_append_18 : decode cX10_append 18 = .ok (.iload_n 1, 1) := by decide +kernel
theorem dX10_append_19 : decode cX10_append 19 = .ok (.invokevirtual 65, 3) := by decide +kernel
theorem dX10_append_22 : decode cX10_append 22 = .ok (.ifCond .eq 11, 3) := by decide +kernel
theorem dX10_append_25 : decode cX10_append 25 = .ok (.aload_n 0, 1) := by decide +kernel
theorem dX10_append_26 : decode cX10_append 26 = .ok (.iload_n 1, 1) := by decide +kernel
theorem dX10_append_27 : decode cX10_append 27 = .ok (.invokevirtual 69, 3) := by decide +kernel
theorem dX10_append_30 : decode cX10_append 30 = .ok (.ifCond .eq 5, 3) := by decide +kernel
theorem dX10_append_33 : decode cX10_append 33 = .ok (.iconst 0, 1) := by decide +kernel
theorem dX10_append_34 : decode cX10_append 34 = .ok (.ireturn, 1) := by decide +kernel
theorem dX10_append_35 : decode cX10_append 35 = .ok (.iload_n 2, 1) := by decide +kernel
theorem dX10_append_36 : decode cX10_append 36 = .ok (.iconst 1, 1) := by decide +kernel
theorem dX10_append_37 : decode cX10_append 37 = .ok (.if_icmp .lt 19, 3) := by decide +kernel
theorem dX10_append_40 : decode cX10_append 40 = .ok (.iload_n 2, 1) := by decide +kernel
theorem dX10_append_41 : decode cX10_append 41 = .ok (.bipush 9, 2) := by decide +kernel
theorem dX10_append_43 : decode cX10_append 43 = .ok (.if_icmp .gt 13, 3) := by decide +kernel
theorem dX10_append_46 : decode cX10_append 46 = .ok (.iload_n 3, 1) := by decide +kernel
theorem dX10_append_47 : decode cX10_append 47 = .ok (.ifCond .lt 9, 3) := by decide +kernel
theorem dX10_append_50 : decode cX10_append 50 = .ok (.iload_n 3, 1) := by decide +kernel
theorem dX10_append_51 : decode cX10_append 51 = .ok (.bipush 9, 2) := by decide +kernel
theorem dX10_append_53 : decode cX10_append 53 = .ok (.if_icmp .le 5, 3) := by decide +kernel
theorem dX10_append_56 : decode cX10_append 56 = .ok (.iconst 0, 1) := by decide +kernel
theorem dX10_append_57 : decode cX10_append 57 = .ok (.ireturn, 1) := by decide +kernel
theorem dX10_append_58 : decode cX10_append 58 = .ok (.aload_n 0, 1) := by decide +kernel
theorem dX10_append_59 : decode cX10_append 59 = .ok (.getfield 9, 3) := by decide +kernel
theorem dX10_append_62 : decode cX10_append 62 = .ok (.aload_n 0, 1) := by decide +kernel
theorem dX10_append_63 : decode cX10_append 63 = .ok (.getfield 54, 3) := by decide +kernel
theorem dX10_append_66 : decode cX10_append 66 = .ok (.iload_n 1, 1) := by decide +kernel
theorem dX10_append_67 : decode cX10_append 67 = .ok (.iastore, 1) := by decide +kernel
theorem dX10_append_68 : decode cX10_append 68 = .ok (.aload_n 0, 1) := by decide +kernel
theorem dX10_append_69 : decode cX10_append 69 = .ok (.getfield 15, 3) := by decide +kernel
theorem dX10_append_72 : decode cX10_append 72 = .ok (.aload_n 0, 1) := by decide +kernel
theorem dX10_append_73 : decode cX10_append 73 = .ok (.getfield 54, 3) := by decide +kernel
theorem dX10_append_76 : decode cX10_append 76 = .ok (.iload_n 2, 1) := by decide +kernel
theorem dX10_append_77 : decode cX10_append 77 = .ok (.iastore, 1) := by decide +kernel
theorem dX10_append_78 : decode cX10_append 78 = .ok (.aload_n 0, 1) := by decide +kernel
theorem dX10_append_79 : decode cX10_append 79 = .ok (.getfield 18, 3) := by decide +kernel
theorem dX10_append_82 : decode cX10_append 82 = .ok (.aload_n 0, 1) := by decide +kernel
theorem dX10_append_83 : decode cX10_append 83 = .ok (.getfield 54, 3) := by decide +kernel
theorem dX10_append_86 : decode cX10_append 86 = .ok (.iload_n 3, 1) := by decide +kernel
theorem dX10_append_87 : decode cX10_append 87 = .ok (.iastore, 1) := by decide +kernel
theorem dX10_append_88 : decode cX10_append 88 = .ok (.aload_n 0, 1) := by decide +kernel
theorem dX10_append_89 : decode cX10_append 89 = .ok (.dup, 1) := by decide +kernel
theorem dX10_append_90 : decode cX10_append 90 = .ok (.getfield 54, 3) := by decide +kernel
theorem dX10_append_93 : decode cX10_append 93 = .ok (.iconst 1, 1) := by decide +kernel
theorem dX10_append_94 : decode cX10_append 94 = .ok (.iadd, 1) := by decide +kernel
theorem dX10_append_95 : decode cX10_append 95 = .ok (.putfield 54, 3) := by decide +kernel
theorem dX10_append_98 : decode cX10_append 98 = .ok (.iconst 1, 1) := by decide +kernel
theorem dX10_append_99 : decode cX10_append 99 = .ok (.ireturn, 1) := by decide +kernel
theorem dX10_cutBack_0 : decode cX10_cutBack 0 = .ok (.iload_n 1, 1) := by decide +kernel
theorem dX10_cutBack_1 : decode cX10_cutBack 1 = .ok (.iconst 1, 1) := by decide +kernel
theorem dX10_cutBack_2 : decode cX10_cutBack 2 = .ok (.if_icmp .lt 16, 3) := by decide +kernel
theorem dX10_cutBack_5 : decode cX10_cutBack 5 = .ok (.iload_n 1, 1) := by decide +kernel
theorem dX10_cutBack_6 : decode cX10_cutBack 6 = .ok (.aload_n 0, 1) := by decide +kernel
theorem dX10_cutBack_7 : decode cX10_cutBack 7 = .ok (.getfield 54, 3) := by decide +kernel
theorem dX10_cutBack_10 : decode cX10_cutBack 10 = .ok (.if_icmp .ge 8, 3) := by decide +kernel
theorem dX10_cutBack_13 : decode cX10_cutBack 13 = .ok (.aload_n 0, 1) := by decide +kernel
theorem dX10_cutBack_14 : decode cX10_cutBack 14 = .ok (.iload_n 1, 1) := by decide +kernel
theorem dX10_cutBack_15 : decode cX10_cutBack 15 = .ok (.putfield 54, 3) := by decide +kernel
theorem dX10_cutBack_18 : decode cX10_cutBack 18 = .ok (.return_, 1) := by decide +kernel
set_option maxRecDepth 20000 in
theorem ggX10_settle_X10_lookBehind : GoodIn wsX10_settle wsX10_lookBehind := goodIn_r _ [8, 9, 10, 11, 12, 3, 13, 14, 15, 16, 17, 18, 1, 2, 19, 20, 21, 7, 22, 23, 24, 25, 26, 27, 28, 29, 30, 31, 32, 33, 34, 35, 43, 44, 45, 46, 47, 48, 49, 50, 51, 52, 53, 54, 55, 56, 57, 58] (by decide +kernel) (by decide +kernel)
set_option maxRecDepth 20000 in
theorem gX10_settle_X10_lookBehind : GoodIn wsX10_settle (wsV RX10 72 RX10 yX10_lookBehind wsX10_lookBehind) := goodIn_app (goodIn_of _ (by decide +kernel)) ggX10_settle_X10_lookBehind
set_option maxRecDepth 20000 in
theorem ggX10_settle_X10_lookAhead : GoodIn wsX10_settle wsX10_lookAhead := goodIn_r _ [39, 13, 40, 41, 42, 18, 19, 20, 21, 7, 22, 3, 43, 44, 45, 46, 47, 48, 49, 50, 51, 52, 53, 54, 55, 56, 57, 58] (by decide +kernel) (by decide +kernel)
set_option maxRecDepth 20000 in
theorem gX10_settle_X10_lookAhead : GoodIn wsX10_settle (wsV RX10 76 RX10 yX10_lookAhead wsX10_lookAhead) := goodIn_app (goodIn_of _ (by decide +kernel)) ggX10_settle_X10_lookAhead
theorem dX10_settle_0 : decode cX10_settle 0 = .ok (.aload_n 0, 1) := by decide +kernel
theorem dX10_settle_1 : decode cX10_settle 1 = .ok (.iconst 0, 1) := by decide +kernel
theorem dX10_settle_2 : decode cX10_settle 2 = .ok (.putfield 58, 3) := by decide +kernel
theorem dX10_settle_5 : decode cX10_settle 5 = .ok (.aload_n 0, 1) := by decide +kernel
theorem dX10_settle_6 : decode cX10_settle 6 = .ok (.iconst 1, 1) := by decide +kernel
theorem dX10_settle_7 : decode cX10_settle 7 = .ok (.putfield 61, 3) := by decide +kernel
theorem dX10_settle_10 : decode cX10_settle 10 = .ok (.bipush 23, 2) := by decide +kernel
theorem dX10_settle_12 : decode cX10_settle 12 = .ok (.istore_n 1, 1) := by decide +kernel
theorem dX10_settle_13 : decode cX10_settle 13 = .ok (.iload_n 1, 1) := by decide +kernel
theorem dX10_settle_14 : decode cX10_settle 14 = .ok (.ifCond .lt 22, 3) := by decide +kernel
theorem dX10_settle_17 : decode cX10_settle 17 = .ok (.iload_n 1, 1) := by decide +kernel
theorem dX10_settle_18 : decode cX10_settle 18 = .ok (.aload_n 0, 1) := by decide +kernel
theorem dX10_settle_19 : decode cX10_settle 19 = .ok (.getfield 54, 3) := by decide +kernel
theorem dX10_settle_22 : decode cX10_settle 22 = .ok (.if_icmp .ge 8, 3) := by decide +kernel
theorem dX10_settle_25 : decode cX10_settle 25 = .ok (.aload_n 0, 1) := by decide +kernel
theorem dX10_settle_26 : decode cX10_settle 26 = .ok (.iload_n 1, 1) := by decide +kernel
theorem dX10_settle_27 : decode cX10_settle 27 = .ok (.invokevirtual 72, 3) := by decide +kernel
theorem dX10_settle_30 : decode cX10_settle 30 = .ok (.iinc 1 (-1), 3) := by decide +kernel
theorem dX10_settle_33 : decode cX10_settle 33 = .ok (.goto (-20), 3) := by decide +kernel
theorem dX10_settle_36 : decode cX10_settle 36 = .ok (.iconst 1, 1) := by decide +kernel
theorem dX10_settle_37 : decode cX10_settle 37 = .ok (.istore_n 1, 1) := by decide +kernel
theorem dX10_settle_38 : decode cX10_settle 38 = .ok (.iload_n 1, 1) := by decide +kernel
theorem dX10_settle_39 : decode cX10_settle 39 = .ok (.bipush 24, 2) := by decide +kernel
theorem dX10_settle_41 : decode cX10_settle 41 = .ok (.if_icmp .ge 22, 3) := by decide +kernel
theorem dX10_settle_44 : decode cX10_settle 44 = .ok (.iload_n 1, 1) := by decide +kernel
theorem dX10_settle_45 : decode cX10_settle 45 = .ok (.aload_n 0, 1) := by decide +kernel
theorem dX10_settle_46 : decode cX10_settle 46 = .ok (.getfield 54, 3) := by decide +kernel
theorem dX10_settle_49 : decode cX10_settle 49 = .ok (.if_icmp .ge 14, 3) := by decide +kernel
theorem dX10_settle_52 : decode cX10_settle 52 = .ok (.aload_n 0, 1) := by decide +kernel
theorem dX10_settle_53 : decode cX10_settle 53 = .ok (.iload_n 1, 1) := by decide +kernel
theorem dX10_settle_54 : decode cX10_settle 54 = .ok (.invokevirtual 76, 3) := by decide +kernel
theorem dX10_settle_57 : decode cX10_settle 57 = .ok (.iinc 1 1, 3) := by decide +kernel
theorem dX10_settle_60 : decode cX10_settle 60 = .ok (.goto (-22), 3) := by decide +kernel
theorem dX10_settle_63 : decode cX10_settle 63 = .ok (.return_, 1) := by decide +kernel
set_option maxRecDepth 20000 in
theorem ggX10_lookBehind_X10_has : GoodIn wsX10_lookBehind wsX10_has := goodIn_r _ [18, 5, 32, 33, 34, 35, 36, 37, 38, 39, 40, 41, 42, 43, 44, 45, 46, 47] (by decide +kernel) (by decide +kernel)
set_option maxRecDepth 20000 in
theorem gX10_lookBehind_X10_has : GoodIn wsX10_lookBehind (wsV RX10 65 RX10 yX10_has wsX10_has) := goodIn_app (goodIn_of _ (by decide +kernel)) ggX10_lookBehind_X10_has
set_option maxRecDepth 20000 in
theorem ggX10_lookBehind_X11_commonDivisor : GoodIn wsX10_lookBehind wsX11_commonDivisor := goodIn_r _ [21, 22, 23, 24, 25] (by decide +kernel) (by decide +kernel)
set_option maxRecDepth 20000 in
theorem gX10_lookBehind_X11_commonDivisor_n79 : GoodIn wsX10_lookBehind (wsX11_commonDivisor) := ggX10_lookBehind_X11_commonDivisor
set_option maxRecDepth 20000 in
theorem ggX10_lookBehind_X11_parted : GoodIn wsX10_lookBehind wsX11_parted := goodIn_r _ [27] (by decide +kernel) (by decide +kernel)
set_option maxRecDepth 20000 in
theorem gX10_lookBehind_X11_parted_n83 : GoodIn wsX10_lookBehind (wsX11_parted) := ggX10_lookBehind_X11_parted
set_option maxRecDepth 20000 in
theorem ggX10_lookBehind_X10_addShares : GoodIn wsX10_lookBehind wsX10_addShares := goodIn_r _ [31, 9, 11, 10, 14, 15, 16, 17, 18, 5, 32, 33, 34, 35, 36, 37, 38, 39, 40, 41, 42, 43, 44, 45, 46, 47] (by decide +kernel) (by decide +kernel)
set_option maxRecDepth 20000 in
theorem gX10_lookBehind_X10_addShares : GoodIn wsX10_lookBehind (wsV RX10 86 RX10 yX10_addShares wsX10_addShares) := goodIn_app (goodIn_of _ (by decide +kernel)) ggX10_lookBehind_X10_addShares
theorem dX10_lookBehind_0 : decode cX10_lookBehind 0 = .ok (.aload_n 0, 1) := by decide +kernel
theorem dX10_lookBehind_1 : decode cX10_lookBehind 1 = .ok (.iload_n 1, 1) := by decide +kernel
theorem dX10_lookBehind_2 : decode cX10_lookBehind 2 = .ok (.invokevirtual 65, 3) := by decide +kernel
theorem dX10_lookBehind_5 : decode cX10_lookBehind 5 = .ok (.ifCond .ne 4, 3) := by decide +kernel
theorem dX10_lookBehind_8 : decode cX10_lookBehind 8 = .ok (.return_, 1) := by decide +kernel
theorem dX10_lookBehind_9 : decode cX10_lookBehind 9 = .ok (.lconst 0, 1) := by decide +kernel
theorem dX10_lookBehind_10 : decode cX10_lookBehind 10 = .ok (.lstore_n 2, 1) := by decide +kernel
theorem dX10_lookBehind_11 : decode cX10_lookBehind 11 = .ok (.lconst 1, 1) := by decide +kernel
theorem dX10_lookBehind_12 : decode cX10_lookBehind 12 = .ok (.lstore 4, 2) := by decide +kernel
theorem dX10_lookBehind_14 : decode cX10_lookBehind 14 = .ok (.aload_n 0, 1) := by decide +kernel
theorem dX10_lookBehind_15 : decode cX10_lookBehind 15 = .ok (.getfield 24, 3) := by decide +kernel
theorem dX10_lookBehind_18 : decode cX10_lookBehind 18 = .ok (.iload_n 1, 1) := by decide +kernel
theorem dX10_lookBehind_19 : decode cX10_lookBehind 19 = .ok (.iconst 0, 1) := by decide +kernel
theorem dX10_lookBehind_20 : decode cX10_lookBehind 20 = .ok (.iastore, 1) := by decide +kernel
theorem dX10_lookBehind_21 : decode cX10_lookBehind 21 = .ok (.aload_n 0, 1) := by decide +kernel
theorem dX10_lookBehind_22 : decode cX10_lookBehind 22 = .ok (.getfield 27, 3) := by decide +kernel
theorem dX10_lookBehind_25 : decode cX10_lookBehind 25 = .ok (.iload_n 1, 1) := by decide +kernel
theorem dX10_lookBehind_26 : decode cX10_lookBehind 26 = .ok (.iconst 0, 1) := by decide +kernel
theorem dX10_lookBehind_27 : decode cX10_lookBehind 27 = .ok (.iastore, 1) := by decide +kernel
theorem dX10_lookBehind_28 : decode cX10_lookBehind 28 = .ok (.aload_n 0, 1) := by decide +kernel
theorem dX10_lookBehind_29 : decode cX10_lookBehind 29 = .ok (.getfield 30, 3) := by decide +kernel
theorem dX10_lookBehind_32 : decode cX10_lookBehind 32 = .ok (.iload_n 1, 1) := by decide +kernel
theorem dX10_lookBehind_33 : decode cX10_lookBehind 33 = .ok (.aload_n 0, 1) := by decide +kernel
theorem dX10_lookBehind_34 : decode cX10_lookBehind 34 = .ok (.getfield 18, 3) := by decide +kernel
theorem dX10_lookBehind_37 : decode cX10_lookBehind 37 = .ok (.iload_n 1, 1) := by decide +kernel
theorem dX10_lookBehind_38 : decode cX10_lookBehind 38 = .ok (.iaload, 1) := by decide +kernel
theorem dX10_lookBehind_39 : decode cX10_lookBehind 39 = .ok (.ifCond .le 14, 3) := by decide +kernel
theorem dX10_lookBehind_42 : decode cX10_lookBehind 42 = .ok (.iconst 1, 1) := by decide +kernel
theorem dX10_lookBehind_43 : decode cX10_lookBehind 43 = .ok (.aload_n 0, 1) := by decide +kernel
theorem dX10_lookBehind_44 : decode cX10_lookBehind 44 = .ok (.getfield 18, 3) := by decide +kernel
theorem dX10_lookBehind_47 : decode cX10_lookBehind 47 = .ok (.iload_n 1, 1) := by decide +kernel
theorem dX10_lookBehind_48 : decode cX10_lookBehind 48 = .ok (.iaload, 1) := by decide +kernel
theorem dX10_lookBehind_49 : decode cX10_lookBehind 49 = .ok (.ishl, 1) := by decide +kernel
theorem dX10_lookBehind_50 : decode cX10_lookBehind 50 = .ok (.goto 4, 3) := by decide +kernel
theorem dX10_lookBehind_53 : decode cX10_lookBehind 53 = .ok (.iconst 0, 1) := by decide +kernel
theorem dX10_lookBehind_54 : decode cX10_lookBehind 54 = .ok (.iastore, 1) := by decide +kernel
theorem dX10_lookBehind_55 : decode cX10_lookBehind 55 = .ok (.iload_n 1, 1) := by decide +kernel
theorem dX10_lookBehind_56 : decode cX10_lookBehind 56 = .ok (.iconst 1, 1) := by decide +kernel
theorem dX10_lookBehind_57 : decode cX10_lookBehind 57 = .ok (.iadd, 1) := by decide +kernel
theorem dX10_lookBehind_58 : decode cX10_lookBehind 58 = .ok (.istore 6, 2) := by decide +kernel
theorem dX10_lookBehind_60 : decode cX10_lookBehind 60 = .ok (.iload 6, 2) := by decide +kernel
theorem dX10_lookBehind_62 : decode cX10_lookBehind 62 = .ok (.bipush 24, 2) := by decide +kernel
theorem dX10_lookBehind_64 : decode cX10_lookBehind 64 = .ok (.if_icmp .ge 114, 3) := by decide +kernel
theorem dX10_lookBehind_67 : decode cX10_lookBehind 67 = .ok (.iload 6, 2) := by decide +kernel
theorem dX10_lookBehind_69 : decode cX10_lookBehind 69 = .ok (.aload_n 0, 1) := by decide +kernel
theorem dX10_lookBehind_70 : decode cX10_lookBehind 70 = .ok (.getfield 54, 3) := by decide +kernel
theorem dX10_lookBehind_73 : decode cX10_lookBehind 73 = .ok (.if_icmp .ge 105, 3) := by decide +kernel
theorem dX10_lookBehind_76 : decode cX10_lookBehind 76 = .ok (.aload_n 0, 1) := by decide +kernel
theorem dX10_lookBehind_77 : decode cX10_lookBehind 77 = .ok (.getfield 9, 3) := by decide +kernel
theorem dX10_lookBehind_80 : decode cX10_lookBehind 80 = .ok (.iload 6, 2) := by decide +kernel
theorem dX10_lookBehind_82 : decode cX10_lookBehind 82 = .ok (.iaload, 1) := by decide +kernel
theorem dX10_lookBehind_83 : decode cX10_lookBehind 83 = .ok (.iload_n 1, 1) := by decide +kernel
theorem dX10_lookBehind_84 : decode cX10_lookBehind 84 = .ok (.if_icmp .eq 6, 3) := by decide +kernel
theorem dX10_lookBehind_87 : decode cX10_lookBehind 87 = .ok (.goto 85, 3) := by decide +kernel
theorem dX10_lookBehind_90 : decode cX10_lookBehind 90 = .ok (.aload_n 0, 1) := by decide +kernel
theorem dX10_lookBehind_91 : decode cX10_lookBehind 91 = .ok (.getfield 24, 3) := by decide +kernel
theorem dX10_lookBehind_94 : decode cX10_lookBehind 94 = .ok (.iload_n 1, 1) := by decide +kernel
theorem dX10_lookBehind_95 : decode cX10_lookBehind 95 = .ok (.dup2, 1) := by decide +kernel
theorem dX10_lookBehind_96 : decode cX10_lookBehind 96 = .ok (.iaload, 1) := by decide +kernel
theorem dX10_lookBehind_97 : decode cX10_lookBehind 97 = .ok (.iconst 1, 1) := by decide +kernel
theorem dX10_lookBehind_98 : decode cX10_lookBehind 98 = .ok (.iadd, 1) := by decide +kernel
theorem dX10_lookBehind_99 : decode cX10_lookBehind 99 = .ok (.iastore, 1) := by decide +kernel
theorem dX10_lookBehind_100 : decode cX10_lookBehind 100 = .ok (.aload_n 0, 1) := by decide +kernel
theorem dX10_lookBehind_101 : decode cX10_lookBehind 101 = .ok (.getfield 27, 3) := by decide +kernel
theorem dX10_lookBehind_104 : decode cX10_lookBehind 104 = .ok (.iload_n 1, 1) := by decide +kernel
theorem dX10_lookBehind_105 : decode cX10_lookBehind 105 = .ok (.dup2, 1) := by decide +kernel
theorem dX10_lookBehind_106 : decode cX10_lookBehind 106 = .ok (.iaload, 1) := by decide +kernel
theorem dX10_lookBehind_107 : decode cX10_lookBehind 107 = .ok (.aload_n 0, 1) := by decide +kernel
theorem dX10_lookBehind_108 : decode cX10_lookBehind 108 = .ok (.getfield 15, 3) := by decide +kernel
theorem dX10_lookBehind_111 : decode cX10_lookBehind 111 = .ok (.iload 6, 2) := by decide +kernel
theorem dX10_lookBehind_113 : decode cX10_lookBehind 113 = .ok (.iaload, 1) := by decide +kernel
theorem dX10_lookBehind_114 : decode cX10_lookBehind 114 = .ok (.iadd, 1) := by decide +kernel
theorem dX10_lookBehind_115 : decode cX10_lookBehind 115 = .ok (.iastore, 1) := by decide +kernel
theorem dX10_lookBehind_116 : decode cX10_lookBehind 116 = .ok (.aload_n 0, 1) := by decide +kernel
theorem dX10_lookBehind_117 : decode cX10_lookBehind 117 = .ok (.getfield 30, 3) := by decide +kernel
theorem dX10_lookBehind_120 : decode cX10_lookBehind 120 = .ok (.iload_n 1, 1) := by decide +kernel
theorem dX10_lookBehind_121 : decode cX10_lookBehind 121 = .ok (.dup2, 1) := by decide +kernel
theorem dX10_lookBehind_122 : decode cX10_lookBehind 122 = .ok (.iaload, 1) := by decide +kernel
theorem dX10_lookBehind_123 : decode cX10_lookBehind 123 = .ok (.aload_n 0, 1) := by decide +kernel
theorem dX10_lookBehind_124 : decode cX10_lookBehind 124 = .ok (.getfield 30, 3) := by decide +kernel
theorem dX10_lookBehind_127 : decode cX10_lookBehind 127 = .ok (.iload 6, 2) := by decide +kernel
theorem dX10_lookBehind_129 : decode cX10_lookBehind 129 = .ok (.iaload, 1) := by decide +kernel
theorem dX10_lookBehind_130 : decode cX10_lookBehind 130 = .ok (.ior, 1) := by decide +kernel
theorem dX10_lookBehind_131 : decode cX10_lookBehind 131 = .ok (.iastore, 1) := by decide +kernel
theorem dX10_lookBehind_132 : decode cX10_lookBehind 132 = .ok (.lload_n 2, 1) := by decide +kernel
theorem dX10_lookBehind_133 : decode cX10_lookBehind 133 = .ok (.aload_n 0, 1) := by decide +kernel
theorem dX10_lookBehind_134 : decode cX10_lookBehind 134 = .ok (.getfield 15, 3) := by decide +kernel
theorem dX10_lookBehind_137 : decode cX10_lookBehind 137 = .ok (.iload 6, 2) := by decide +kernel
theorem dX10_lookBehind_139 : decode cX10_lookBehind 139 = .ok (.iaload, 1) := by decide +kernel
theorem dX10_lookBehind_140 : decode cX10_lookBehind 140 = .ok (.i2l, 1) := by decide +kernel
theorem dX10_lookBehind_141 : decode cX10_lookBehind 141 = .ok (.invokestatic 79, 3) := by decide +kernel
theorem dX10_lookBehind_144 : decode cX10_lookBehind 144 = .ok (.lstore_n 2, 1) := by decide +kernel
theorem dX10_lookBehind_145 : decode cX10_lookBehind 145 = .ok (.lload 4, 2) := by decide +kernel
theorem dX10_lookBehind_147 : decode cX10_lookBehind 147 = .ok (.lload 4, 2) := by decide +kernel
theorem dX10_lookBehind_149 : decode cX10_lookBehind 149 = .ok (.aload_n 0, 1) := by decide +kernel
theorem dX10_lookBehind_150 : decode cX10_lookBehind 150 = .ok (.getfield 36, 3) := by decide +kernel
theorem dX10_lookBehind_153 : decode cX10_lookBehind 153 = .ok (.iload 6, 2) := by decide +kernel
theorem dX10_lookBehind_155 : decode cX10_lookBehind 155 = .ok (.laload, 1) := by decide +kernel
theorem dX10_lookBehind_156 : decode cX10_lookBehind 156 = .ok (.invokestatic 79, 3) := by decide +kernel
theorem dX10_lookBehind_159 : decode cX10_lookBehind 159 = .ok (.invokestatic 83, 3) := by decide +kernel
theorem dX10_lookBehind_162 : decode cX10_lookBehind 162 = .ok (.aload_n 0, 1) := by decide +kernel
theorem dX10_lookBehind_163 : decode cX10_lookBehind 163 = .ok (.getfield 36, 3) := by decide +kernel
theorem dX10_lookBehind_166 : decode cX10_lookBehind 166 = .ok (.iload 6, 2) := by decide +kernel
theorem dX10_lookBehind_168 : decode cX10_lookBehind 168 = .ok (.laload, 1) := by decide +kernel
theorem dX10_lookBehind_169 : decode cX10_lookBehind 169 = .ok (.lmul, 1) := by decide +kernel
theorem dX10_lookBehind_170 : decode cX10_lookBehind 170 = .ok (.lstore 4, 2) := by decide +kernel
theorem dX10_lookBehind_172 : decode cX10_lookBehind 172 = .ok (.iinc 6 1, 3) := by decide +kernel
theorem dX10_lookBehind_175 : decode cX10_lookBehind 175 = .ok (.goto (-115), 3) := by decide +kernel
theorem dX10_lookBehind_178 : decode cX10_lookBehind 178 = .ok (.aload_n 0, 1) := by decide +kernel
theorem dX10_lookBehind_179 : decode cX10_lookBehind 179 = .ok (.getfield 36, 3) := by decide +kernel
theorem dX10_lookBehind_182 : decode cX10_lookBehind 182 = .ok (.iload_n 1, 1) := by decide +kernel
theorem dX10_lookBehind_183 : decode cX10_lookBehind 183 = .ok (.aload_n 0, 1) := by decide +kernel
theorem dX10_lookBehind_184 : decode cX10_lookBehind 184 = .ok (.getfield 24, 3) := by decide +kernel
theorem dX10_lookBehind_187 : decode cX10_lookBehind 187 = .ok (.iload_n 1, 1) := by decide +kernel
theorem dX10_lookBehind_188 : decode cX10_lookBehind 188 = .ok (.iaload, 1) := by decide +kernel
theorem dX10_lookBehind_189 : decode cX10_lookBehind 189 = .ok (.ifCond .ne 7, 3) := by decide +kernel
theorem dX10_lookBehind_192 : decode cX10_lookBehind 192 = .ok (.lconst 1, 1) := by decide +kernel
theorem dX10_lookBehind_193 : decode cX10_lookBehind 193 = .ok (.goto 17, 3) := by decide +kernel
theorem dX10_lookBehind_196 : decode cX10_lookBehind 196 = .ok (.aload_n 0, 1) := by decide +kernel
theorem dX10_lookBehind_197 : decode cX10_lookBehind 197 = .ok (.getfield 27, 3) := by decide +kernel
theorem dX10_lookBehind_200 : decode cX10_lookBehind 200 = .ok (.iload_n 1, 1) := by decide +kernel
theorem dX10_lookBehind_201 : decode cX10_lookBehind 201 = .ok (.iaload, 1) := by decide +kernel
theorem dX10_lookBehind_202 : decode cX10_lookBehind 202 = .ok (.i2l, 1) := by decide +kernel
theorem dX10_lookBehind_203 : decode cX10_lookBehind 203 = .ok (.lload_n 2, 1) := by decide +kernel
theorem dX10_lookBehind_204 : decode cX10_lookBehind 204 = .ok (.invokestatic 83, 3) := by decide +kernel
theorem dX10_lookBehind_207 : decode cX10_lookBehind 207 = .ok (.lload 4, 2) := by decide +kernel
theorem dX10_lookBehind_209 : decode cX10_lookBehind 209 = .ok (.lmul, 1) := by decide +kernel
theorem dX10_lookBehind_210 : decode cX10_lookBehind 210 = .ok (.lastore, 1) := by decide +kernel
theorem dX10_lookBehind_211 : decode cX10_lookBehind 211 = .ok (.iconst 0, 1) := by decide +kernel
theorem dX10_lookBehind_212 : decode cX10_lookBehind 212 = .ok (.istore 6, 2) := by decide +kernel
theorem dX10_lookBehind_214 : decode cX10_lookBehind 214 = .ok (.iload 6, 2) := by decide +kernel
theorem dX10_lookBehind_216 : decode cX10_lookBehind 216 = .ok (.bipush 10, 2) := by decide +kernel
theorem dX10_lookBehind_218 : decode cX10_lookBehind 218 = .ok (.if_icmp .ge 49, 3) := by decide +kernel
theorem dX10_lookBehind_221 : decode cX10_lookBehind 221 = .ok (.aload_n 0, 1) := by decide +kernel
theorem dX10_lookBehind_222 : decode cX10_lookBehind 222 = .ok (.getfield 48, 3) := by decide +kernel
theorem dX10_lookBehind_225 : decode cX10_lookBehind 225 = .ok (.iload_n 1, 1) := by decide +kernel
theorem dX10_lookBehind_226 : decode cX10_lookBehind 226 = .ok (.aaload, 1) := by decide +kernel
theorem dX10_lookBehind_227 : decode cX10_lookBehind 227 = .ok (.iload 6, 2) := by decide +kernel
theorem dX10_lookBehind_229 : decode cX10_lookBehind 229 = .ok (.iload 6, 2) := by decide +kernel
theorem dX10_lookBehind_231 : decode cX10_lookBehind 231 = .ok (.ifCond .le 18, 3) := by decide +kernel
theorem dX10_lookBehind_234 : decode cX10_lookBehind 234 = .ok (.iload 6, 2) := by decide +kernel
theorem dX10_lookBehind_236 : decode cX10_lookBehind 236 = .ok (.aload_n 0, 1) := by decide +kernel
theorem dX10_lookBehind_237 : decode cX10_lookBehind 237 = .ok (.getfield 18, 3) := by decide +kernel
theorem dX10_lookBehind_240 : decode cX10_lookBehind 240 = .ok (.iload_n 1, 1) := by decide +kernel
theorem dX10_lookBehind_241 : decode cX10_lookBehind 241 = .ok (.iaload, 1) := by decide +kernel
theorem dX10_lookBehind_242 : decode cX10_lookBehind 242 = .ok (.if_icmp .ne 7, 3) := by decide +kernel
theorem dX10_lookBehind_245 : decode cX10_lookBehind 245 = .ok (.lconst 1, 1) := by decide +kernel
theorem dX10_lookBehind_246 : decode cX10_lookBehind 246 = .ok (.goto 4, 3) := by decide +kernel
theorem dX10_lookBehind_249 : decode cX10_lookBehind 249 = .ok (.lconst 0, 1) := by decide +kernel
theorem dX10_lookBehind_250 : decode cX10_lookBehind 250 = .ok (.lastore, 1) := by decide +kernel
theorem dX10_lookBehind_251 : decode cX10_lookBehind 251 = .ok (.aload_n 0, 1) := by decide +kernel
theorem dX10_lookBehind_252 : decode cX10_lookBehind 252 = .ok (.getfield 51, 3) := by decide +kernel
theorem dX10_lookBehind_255 : decode cX10_lookBehind 255 = .ok (.iload_n 1, 1) := by decide +kernel
theorem dX10_lookBehind_256 : decode cX10_lookBehind 256 = .ok (.aaload, 1) := by decide +kernel
theorem dX10_lookBehind_257 : decode cX10_lookBehind 257 = .ok (.iload 6, 2) := by decide +kernel
theorem dX10_lookBehind_259 : decode cX10_lookBehind 259 = .ok (.lconst 0, 1) := by decide +kernel
theorem dX10_lookBehind_260 : decode cX10_lookBehind 260 = .ok (.lastore, 1) := by decide +kernel
theorem dX10_lookBehind_261 : decode cX10_lookBehind 261 = .ok (.iinc 6 1, 3) := by decide +kernel
theorem dX10_lookBehind_264 : decode cX10_lookBehind 264 = .ok (.goto (-50), 3) := by decide +kernel
theorem dX10_lookBehind_267 : decode cX10_lookBehind 267 = .ok (.iload_n 1, 1) := by decide +kernel
theorem dX10_lookBehind_268 : decode cX10_lookBehind 268 = .ok (.iconst 1, 1) := by decide +kernel
theorem dX10_lookBehind_269 : decode cX10_lookBehind 269 = .ok (.iadd, 1) := by decide +kernel
theorem dX10_lookBehind_270 : decode cX10_lookBehind 270 = .ok (.istore 6, 2) := by decide +kernel
theorem dX10_lookBehind_272 : decode cX10_lookBehind 272 = .ok (.iload 6, 2) := by decide +kernel
theorem dX10_lookBehind_274 : decode cX10_lookBehind 274 = .ok (.bipush 24, 2) := by decide +kernel
theorem dX10_lookBehind_276 : decode cX10_lookBehind 276 = .ok (.if_icmp .ge 71, 3) := by decide +kernel
theorem dX10_lookBehind_279 : decode cX10_lookBehind 279 = .ok (.iload 6, 2) := by decide +kernel
theorem dX10_lookBehind_281 : decode cX10_lookBehind 281 = .ok (.aload_n 0, 1) := by decide +kernel
theorem dX10_lookBehind_282 : decode cX10_lookBehind 282 = .ok (.getfield 54, 3) := by decide +kernel
theorem dX10_lookBehind_285 : decode cX10_lookBehind 285 = .ok (.if_icmp .ge 62, 3) := by decide +kernel
theorem dX10_lookBehind_288 : decode cX10_lookBehind 288 = .ok (.aload_n 0, 1) := by decide +kernel
theorem dX10_lookBehind_289 : decode cX10_lookBehind 289 = .ok (.getfield 9, 3) := by decide +kernel
theorem dX10_lookBehind_292 : decode cX10_lookBehind 292 = .ok (.iload 6, 2) := by decide +kernel
theorem dX10_lookBehind_294 : decode cX10_lookBehind 294 = .ok (.iaload, 1) := by decide +kernel
theorem dX10_lookBehind_295 : decode cX10_lookBehind 295 = .ok (.iload_n 1, 1) := by decide +kernel
theorem dX10_lookBehind_296 : decode cX10_lookBehind 296 = .ok (.if_icmp .eq 6, 3) := by decide +kernel
theorem dX10_lookBehind_299 : decode cX10_lookBehind 299 = .ok (.goto 42, 3) := by decide +kernel
theorem dX10_lookBehind_302 : decode cX10_lookBehind 302 = .ok (.aload_n 0, 1) := by decide +kernel
theorem dX10_lookBehind_303 : decode cX10_lookBehind 303 = .ok (.getfield 40, 3) := by decide +kernel
theorem dX10_lookBehind_306 : decode cX10_lookBehind 306 = .ok (.iload 6, 2) := by decide +kernel
theorem dX10_lookBehind_308 : decode cX10_lookBehind 308 = .ok (.aload_n 0, 1) := by decide +kernel
theorem dX10_lookBehind_309 : decode cX10_lookBehind 309 = .ok (.getfield 15, 3) := by decide +kernel
theorem dX10_lookBehind_312 : decode cX10_lookBehind 312 = .ok (.iload 6, 2) := by decide +kernel
theorem dX10_lookBehind_314 : decode cX10_lookBehind 314 = .ok (.iaload, 1) := by decide +kernel
theorem dX10_lookBehind_315 : decode cX10_lookBehind 315 = .ok (.i2l, 1) := by decide +kernel
theorem dX10_lookBehind_316 : decode cX10_lookBehind 316 = .ok (.lload_n 2, 1) := by decide +kernel
theorem dX10_lookBehind_317 : decode cX10_lookBehind 317 = .ok (.invokestatic 83, 3) := by decide +kernel
theorem dX10_lookBehind_320 : decode cX10_lookBehind 320 = .ok (.lload 4, 2) := by decide +kernel
theorem dX10_lookBehind_322 : decode cX10_lookBehind 322 = .ok (.aload_n 0, 1) := by decide +kernel
theorem dX10_lookBehind_323 : decode cX10_lookBehind 323 = .ok (.getfield 36, 3) := by decide +kernel
theorem dX10_lookBehind_326 : decode cX10_lookBehind 326 = .ok (.iload 6, 2) := by decide +kernel
theorem dX10_lookBehind_328 : decode cX10_lookBehind 328 = .ok (.laload, 1) := by decide +kernel
theorem dX10_lookBehind_329 : decode cX10_lookBehind 329 = .ok (.invokestatic 83, 3) := by decide +kernel
theorem dX10_lookBehind_332 : decode cX10_lookBehind 332 = .ok (.lmul, 1) := by decide +kernel
theorem dX10_lookBehind_333 : decode cX10_lookBehind 333 = .ok (.lastore, 1) := by decide +kernel
theorem dX10_lookBehind_334 : decode cX10_lookBehind 334 = .ok (.aload_n 0, 1) := by decide +kernel
theorem dX10_lookBehind_335 : decode cX10_lookBehind 335 = .ok (.iload_n 1, 1) := by decide +kernel
theorem dX10_lookBehind_336 : decode cX10_lookBehind 336 = .ok (.iload 6, 2) := by decide +kernel
theorem dX10_lookBehind_338 : decode cX10_lookBehind 338 = .ok (.invokevirtual 86, 3) := by decide +kernel
theorem dX10_lookBehind_341 : decode cX10_lookBehind 341 = .ok (.iinc 6 1, 3) := by decide +kernel
theorem dX10_lookBehind_344 : decode cX10_lookBehind 344 = .ok (.goto (-72), 3) := by decide +kernel
theorem dX10_lookBehind_347 : decode cX10_lookBehind 347 = .ok (.aload_n 0, 1) := by decide +kernel
theorem dX10_lookBehind_348 : decode cX10_lookBehind 348 = .ok (.getfield 18, 3) := by decide +kernel
theorem dX10_lookBehind_351 : decode cX10_lookBehind 351 = .ok (.iload_n 1, 1) := by decide +kernel
theorem dX10_lookBehind_352 : decode cX10_lookBehind 352 = .ok (.iaload, 1) := by decide +kernel
theorem dX10_lookBehind_353 : decode cX10_lookBehind 353 = .ok (.ifCond .le 16, 3) := by decide +kernel
theorem dX10_lookBehind_356 : decode cX10_lookBehind 356 = .ok (.aload_n 0, 1) := by decide +kernel
theorem dX10_lookBehind_357 : decode cX10_lookBehind 357 = .ok (.dup, 1) := by decide +kernel
theorem dX10_lookBehind_358 : decode cX10_lookBehind 358 = .ok (.getfield 58, 3) := by decide +kernel
theorem dX10_lookBehind_361 : decode cX10_lookBehind 361 = .ok (.iconst 1, 1) := by decide +kernel
theorem dX10_lookBehind_362 : decode cX10_lookBehind 362 = .ok (.iadd, 1) := by decide +kernel
theorem dX10_lookBehind_363 : decode cX10_lookBehind 363 = .ok (.putfield 58, 3) := by decide +kernel
theorem dX10_lookBehind_366 : decode cX10_lookBehind 366 = .ok (.goto 17, 3) := by decide +kernel
theorem dX10_lookBehind_369 : decode cX10_lookBehind 369 = .ok (.aload_n 0, 1) := by decide +kernel
theorem dX10_lookBehind_370 : decode cX10_lookBehind 370 = .ok (.getfield 24, 3) := by decide +kernel
theorem dX10_lookBehind_373 : decode cX10_lookBehind 373 = .ok (.iload_n 1, 1) := by decide +kernel
theorem dX10_lookBehind_374 : decode cX10_lookBehind 374 = .ok (.iaload, 1) := by decide +kernel
theorem dX10_lookBehind_375 : decode cX10_lookBehind 375 = .ok (.ifCond .ne 8, 3) := by decide +kernel
theorem dX10_lookBehind_378 : decode cX10_lookBehind 378 = .ok (.aload_n 0, 1) := by decide +kernel
theorem dX10_lookBehind_379 : decode cX10_lookBehind 379 = .ok (.iconst 0, 1) := by decide +kernel
theorem dX10_lookBehind_380 : decode cX10_lookBehind 380 = .ok (.putfield 61, 3) := by decide +kernel
theorem dX10_lookBehind_383 : decode cX10_lookBehind 383 = .ok (.return_, 1) := by decide +kernel
set_option maxRecDepth 20000 in
theorem ggX10_addShares_X10_has : GoodIn wsX10_addShares wsX10_has := goodIn_r _ [8, 9, 10, 11, 12, 13, 14, 15, 16, 17, 18, 19, 20, 21, 22, 23, 24, 25] (by decide +kernel) (by decide +kernel)
set_option maxRecDepth 20000 in
theorem gX10_addShares_X10_has : GoodIn wsX10_addShares (wsV RX10 65 RX10 yX10_has wsX10_has) := goodIn_app (goodIn_of _ (by decide +kernel)) ggX10_addShares_X10_has
theorem dX10_addShares_0 : decode cX10_addShares 0 = .ok (.aload_n 0, 1) := by decide +kernel
theorem dX10_addShares_1 : decode cX10_addShares 1 = .ok (.iload_n 1, 1) := by decide +kernel
theorem dX10_addShares_2 : decode cX10_addShares 2 = .ok (.invokevirtual 65, 3) := by decide +kernel
theorem dX10_addShares_5 : decode cX10_addShares 5 = .ok (.ifCond .eq 11, 3) := by decide +kernel
theorem dX10_addShares_8 : decode cX10_addShares 8 = .ok (.aload_n 0, 1) := by decide +kernel
theorem dX10_addShares_9 : decode cX10_addShares 9 = .ok (.iload_n 2, 1) := by decide +kernel
theorem dX10_addShares_10 : decode cX10_addShares 10 = .ok (.invokevirtual 65, 3) := by decide +kernel
theorem dX10_addShares_13 : decode cX10_addShares 13 = .ok (.ifCond .ne 4, 3) := by decide +kernel
theorem dX10_addShares_16 : decode cX10_addShares 16 = .ok (.return_, 1) := by decide +kernel
theorem dX10_addShares_17 : decode cX10_addShares 17 = .ok (.iconst 1, 1) := by decide +kernel
theorem dX10_addShares_18 : decode cX10_addShares 18 = .ok (.istore_n 3, 1) := by decide +kernel
theorem dX10_addShares_19 : decode cX10_addShares 19 = .ok (.iload_n 3, 1) := by decide +kernel
theorem dX10_addShares_20 : decode cX10_addShares 20 = .ok (.bipush 10, 2) := by decide +kernel
theorem dX10_addShares_22 : decode cX10_addShares 22 = .ok (.if_icmp .ge 70, 3) := by decide +kernel
theorem dX10_addShares_25 : decode cX10_addShares 25 = .ok (.aload_n 0, 1) := by decide +kernel
theorem dX10_addShares_26 : decode cX10_addShares 26 = .ok (.getfield 48, 3) := by decide +kernel
theorem dX10_addShares_29 : decode cX10_addShares 29 = .ok (.iload_n 1, 1) := by decide +kernel
theorem dX10_addShares_30 : decode cX10_addShares 30 = .ok (.aaload, 1) := by decide +kernel
theorem dX10_addShares_31 : decode cX10_addShares 31 = .ok (.iload_n 3, 1) := by decide +kernel
theorem dX10_addShares_32 : decode cX10_addShares 32 = .ok (.dup2, 1) := by decide +kernel
theorem dX10_addShares_33 : decode cX10_addShares 33 = .ok (.laload, 1) := by decide +kernel
theorem dX10_addShares_34 : decode cX10_addShares 34 = .ok (.aload_n 0, 1) := by decide +kernel
theorem dX10_addShares_35 : decode cX10_addShares 35 = .ok (.getfield 40, 3) := by decide +kernel
theorem dX10_addShares_38 : decode cX10_addShares 38 = .ok (.iload_n 2, 1) := by decide +kernel
theorem dX10_addShares_39 : decode cX10_addShares 39 = .ok (.laload, 1) := by decide +kernel
theorem dX10_addShares_40 : decode cX10_addShares 40 = .ok (.aload_n 0, 1) := by decide +kernel
theorem dX10_addShares_41 : decode cX10_addShares 41 = .ok (.getfield 48, 3) := by decide +kernel
theorem dX10_addShares_44 : decode cX10_addShares 44 = .ok (.iload_n 2, 1) := by decide +kernel
theorem dX10_addShares_45 : decode cX10_addShares 45 = .ok (.aaload, 1) := by decide +kernel
theorem dX10_addShares_46 : decode cX10_addShares 46 = .ok (.iload_n 3, 1) := by decide +kernel
theorem dX10_addShares_47 : decode cX10_addShares 47 = .ok (.laload, 1) := by decide +kernel
theorem dX10_addShares_48 : decode cX10_addShares 48 = .ok (.lmul, 1) := by decide +kernel
theorem dX10_addShares_49 : decode cX10_addShares 49 = .ok (.ladd, 1) := by decide +kernel
theorem dX10_addShares_50 : decode cX10_addShares 50 = .ok (.lastore, 1) := by decide +kernel
theorem dX10_addShares_51 : decode cX10_addShares 51 = .ok (.aload_n 0, 1) := by decide +kernel
theorem dX10_addShares_52 : decode cX10_addShares 52 = .ok (.getfield 51, 3) := by decide +kernel
theorem dX10_addShares_55 : decode cX10_addShares 55 = .ok (.iload_n 1, 1) := by decide +kernel
theorem dX10_addShares_56 : decode cX10_addShares 56 = .ok (.aaload, 1) := by decide +kernel
theorem dX10_addShares_57 : decode cX10_addShares 57 = .ok (.iload_n 3, 1) := by decide +kernel
theorem dX10_addShares_58 : decode cX10_addShares 58 = .ok (.dup2, 1) := by decide +kernel
theorem dX10_addShares_59 : decode cX10_addShares 59 = .ok (.laload, 1) := by decide +kernel
theorem dX10_addShares_60 : decode cX10_addShares 60 = .ok (.aload_n 0, 1) := by decide +kernel
theorem dX10_addShares_61 : decode cX10_addShares 61 = .ok (.getfield 40, 3) := by decide +kernel
theorem dX10_addShares_64 : decode cX10_addShares 64 = .ok (.iload_n 2, 1) := by decide +kernel
theorem dX10_addShares_65 : decode cX10_addShares 65 = .ok (.laload, 1) := by decide +kernel
theorem dX10_addShares_66 : decode cX10_addShares 66 = .ok (.aload_n 0, 1) := by decide +kernel
theorem dX10_addShares_67 : decode cX10_addShares 67 = .ok (.getfield 51, 3) := by decide +kernel
theorem dX10_addShares_70 : decode cX10_addShares 70 = .ok (.iload_n 2, 1) := by decide +kernel
theorem dX10_addShares_71 : decode cX10_addShares 71 = .ok (.aaload, 1) := by decide +kernel
theorem dX10_addShares_72 : decode cX10_addShares 72 = .ok (.iload_n 3, 1) := by decide +kernel
theorem dX10_addShares_73 : decode cX10_addShares 73 = .ok (.laload, 1) := by decide +kernel
theorem dX10_addShares_74 : decode cX10_addShares 74 = .ok (.aload_n 0, 1) := by decide +kernel
theorem dX10_addShares_75 : decode cX10_addShares 75 = .ok (.getfield 48, 3) := by decide +kernel
theorem dX10_addShares_78 : decode cX10_addShares 78 = .ok (.iload_n 2, 1) := by decide +kernel
theorem dX10_addShares_79 : decode cX10_addShares 79 = .ok (.aaload, 1) := by decide +kernel
theorem dX10_addShares_80 : decode cX10_addShares 80 = .ok (.iload_n 3, 1) := by decide +kernel
theorem dX10_addShares_81 : decode cX10_addShares 81 = .ok (.laload, 1) := by decide +kernel
theorem dX10_addShares_82 : decode cX10_addShares 82 = .ok (.ladd, 1) := by decide +kernel
theorem dX10_addShares_83 : decode cX10_addShares 83 = .ok (.lmul, 1) := by decide +kernel
theorem dX10_addShares_84 : decode cX10_addShares 84 = .ok (.ladd, 1) := by decide +kernel
theorem dX10_addShares_85 : decode cX10_addShares 85 = .ok (.lastore, 1) := by decide +kernel
theorem dX10_addShares_86 : decode cX10_addShares 86 = .ok (.iinc 3 1, 3) := by decide +kernel
theorem dX10_addShares_89 : decode cX10_addShares 89 = .ok (.goto (-70), 3) := by decide +kernel
theorem dX10_addShares_92 : decode cX10_addShares 92 = .ok (.return_, 1) := by decide +kernel
set_option maxRecDepth 20000 in
theorem ggX10_lookAhead_X10_has : GoodIn wsX10_lookAhead wsX10_has := goodIn_r _ [10, 11, 12, 13, 14, 15, 16, 17, 18, 19, 20, 21, 22, 23, 24, 25, 26, 27] (by decide +kernel) (by decide +kernel)
set_option maxRecDepth 20000 in
theorem gX10_lookAhead_X10_has : GoodIn wsX10_lookAhead (wsV RX10 65 RX10 yX10_has wsX10_has) := goodIn_app (goodIn_of _ (by decide +kernel)) ggX10_lookAhead_X10_has
theorem dX10_lookAhead_0 : decode cX10_lookAhead 0 = .ok (.aload_n 0, 1) := by decide +kernel
theorem dX10_lookAhead_1 : decode cX10_lookAhead 1 = .ok (.iload_n 1, 1) := by decide +kernel
theorem dX10_lookAhead_2 : decode cX10_lookAhead 2 = .ok (.invokevirtual 65, 3) := by decide +kernel
theorem dX10_lookAhead_5 : decode cX10_lookAhead 5 = .ok (.ifCond .eq 16, 3) := by decide +kernel
theorem dX10_lookAhead_8 : decode cX10_lookAhead 8 = .ok (.aload_n 0, 1) := by decide +kernel
theorem dX10_lookAhead_9 : decode cX10_lookAhead 9 = .ok (.aload_n 0, 1) := by decide +kernel
theorem dX10_lookAhead_10 : decode cX10_lookAhead 10 = .ok (.getfield 9, 3) := by decide +kernel
theorem dX10_lookAhead_13 : decode cX10_lookAhead 13 = .ok (.iload_n 1, 1) := by decide +kernel
theorem dX10_lookAhead_14 : decode cX10_lookAhead 14 = .ok (.iaload, 1) := by decide +kernel
theorem dX10_lookAhead_15 : decode cX10_lookAhead 15 = .ok (.invokevirtual 65, 3) := by decide +kernel
theorem dX10_lookAhead_18 : decode cX10_lookAhead 18 = .ok (.ifCond .ne 4, 3) := by decide +kernel
theorem dX10_lookAhead_21 : decode cX10_lookAhead 21 = .ok (.return_, 1) := by decide +kernel
theorem dX10_lookAhead_22 : decode cX10_lookAhead 22 = .ok (.aload_n 0, 1) := by decide +kernel
theorem dX10_lookAhead_23 : decode cX10_lookAhead 23 = .ok (.getfield 21, 3) := by decide +kernel
theorem dX10_lookAhead_26 : decode cX10_lookAhead 26 = .ok (.iload_n 1, 1) := by decide +kernel
theorem dX10_lookAhead_27 : decode cX10_lookAhead 27 = .ok (.aload_n 0, 1) := by decide +kernel
theorem dX10_lookAhead_28 : decode cX10_lookAhead 28 = .ok (.getfield 21, 3) := by decide +kernel
theorem dX10_lookAhead_31 : decode cX10_lookAhead 31 = .ok (.aload_n 0, 1) := by decide +kernel
theorem dX10_lookAhead_32 : decode cX10_lookAhead 32 = .ok (.getfield 9, 3) := by decide +kernel
theorem dX10_lookAhead_35 : decode cX10_lookAhead 35 = .ok (.iload_n 1, 1) := by decide +kernel
theorem dX10_lookAhead_36 : decode cX10_lookAhead 36 = .ok (.iaload, 1) := by decide +kernel
theorem dX10_lookAhead_37 : decode cX10_lookAhead 37 = .ok (.iaload, 1) := by decide +kernel
theorem dX10_lookAhead_38 : decode cX10_lookAhead 38 = .ok (.iconst 1, 1) := by decide +kernel
theorem dX10_lookAhead_39 : decode cX10_lookAhead 39 = .ok (.iadd, 1) := by decide +kernel
theorem dX10_lookAhead_40 : decode cX10_lookAhead 40 = .ok (.iastore, 1) := by decide +kernel
theorem dX10_lookAhead_41 : decode cX10_lookAhead 41 = .ok (.aload_n 0, 1) := by decide +kernel
theorem dX10_lookAhead_42 : decode cX10_lookAhead 42 = .ok (.getfield 33, 3) := by decide +kernel
theorem dX10_lookAhead_45 : decode cX10_lookAhead 45 = .ok (.iload_n 1, 1) := by decide +kernel
theorem dX10_lookAhead_46 : decode cX10_lookAhead 46 = .ok (.aload_n 0, 1) := by decide +kernel
theorem dX10_lookAhead_47 : decode cX10_lookAhead 47 = .ok (.getfield 33, 3) := by decide +kernel
theorem dX10_lookAhead_50 : decode cX10_lookAhead 50 = .ok (.aload_n 0, 1) := by decide +kernel
theorem dX10_lookAhead_51 : decode cX10_lookAhead 51 = .ok (.getfield 9, 3) := by decide +kernel
theorem dX10_lookAhead_54 : decode cX10_lookAhead 54 = .ok (.iload_n 1, 1) := by decide +kernel
theorem dX10_lookAhead_55 : decode cX10_lookAhead 55 = .ok (.iaload, 1) := by decide +kernel
theorem dX10_lookAhead_56 : decode cX10_lookAhead 56 = .ok (.iaload, 1) := by decide +kernel
theorem dX10_lookAhead_57 : decode cX10_lookAhead 57 = .ok (.iconst 1, 1) := by decide +kernel
theorem dX10_lookAhead_58 : decode cX10_lookAhead 58 = .ok (.iload_n 1, 1) := by decide +kernel
theorem dX10_lookAhead_59 : decode cX10_lookAhead 59 = .ok (.ishl, 1) := by decide +kernel
theorem dX10_lookAhead_60 : decode cX10_lookAhead 60 = .ok (.ior, 1) := by decide +kernel
theorem dX10_lookAhead_61 : decode cX10_lookAhead 61 = .ok (.iastore, 1) := by decide +kernel
theorem dX10_lookAhead_62 : decode cX10_lookAhead 62 = .ok (.aload_n 0, 1) := by decide +kernel
theorem dX10_lookAhead_63 : decode cX10_lookAhead 63 = .ok (.getfield 43, 3) := by decide +kernel
theorem dX10_lookAhead_66 : decode cX10_lookAhead 66 = .ok (.iload_n 1, 1) := by decide +kernel
theorem dX10_lookAhead_67 : decode cX10_lookAhead 67 = .ok (.aload_n 0, 1) := by decide +kernel
theorem dX10_lookAhead_68 : decode cX10_lookAhead 68 = .ok (.getfield 43, 3) := by decide +kernel
theorem dX10_lookAhead_71 : decode cX10_lookAhead 71 = .ok (.aload_n 0, 1) := by decide +kernel
theorem dX10_lookAhead_72 : decode cX10_lookAhead 72 = .ok (.getfield 9, 3) := by decide +kernel
theorem dX10_lookAhead_75 : decode cX10_lookAhead 75 = .ok (.iload_n 1, 1) := by decide +kernel
theorem dX10_lookAhead_76 : decode cX10_lookAhead 76 = .ok (.iaload, 1) := by decide +kernel
theorem dX10_lookAhead_77 : decode cX10_lookAhead 77 = .ok (.laload, 1) := by decide +kernel
theorem dX10_lookAhead_78 : decode cX10_lookAhead 78 = .ok (.aload_n 0, 1) := by decide +kernel
theorem dX10_lookAhead_79 : decode cX10_lookAhead 79 = .ok (.getfield 40, 3) := by decide +kernel
theorem dX10_lookAhead_82 : decode cX10_lookAhead 82 = .ok (.iload_n 1, 1) := by decide +kernel
theorem dX10_lookAhead_83 : decode cX10_lookAhead 83 = .ok (.laload, 1) := by decide +kernel
theorem dX10_lookAhead_84 : decode cX10_lookAhead 84 = .ok (.lmul, 1) := by decide +kernel
theorem dX10_lookAhead_85 : decode cX10_lookAhead 85 = .ok (.lastore, 1) := by decide +kernel
theorem dX10_lookAhead_86 : decode cX10_lookAhead 86 = .ok (.return_, 1) := by decide +kernel
set_option maxRecDepth 20000 in
theorem ggX10_guessAt_X10_has : GoodIn wsX10_guessAt wsX10_has := goodIn_r _ [6, 7, 8, 9, 10, 11, 12, 13, 14, 15, 16, 17, 18, 19, 20, 21, 22, 23] (by decide +kernel) (by decide +kernel)
set_option maxRecDepth 20000 in
theorem gX10_guessAt_X10_has : GoodIn wsX10_guessAt (wsV RX10 65 RX10 yX10_has wsX10_has) := goodIn_app (goodIn_of _ (by decide +kernel)) ggX10_guessAt_X10_has
theorem dX10_guessAt_0 : decode cX10_guessAt 0 = .ok (.aload_n 0, 1) := by decide +kernel
theorem dX10_guessAt_1 : decode cX10_guessAt 1 = .ok (.iload_n 1, 1) := by decide +kernel
theorem dX10_guessAt_2 : decode cX10_guessAt 2 = .ok (.invokevirtual 65, 3) := by decide +kernel
theorem dX10_guessAt_5 : decode cX10_guessAt 5 = .ok (.ifCond .ne 5, 3) := by decide +kernel
theorem dX10_guessAt_8 : decode cX10_guessAt 8 = .ok (.iconst 0, 1) := by decide +kernel
theorem dX10_guessAt_9 : decode cX10_guessAt 9 = .ok (.ireturn, 1) := by decide +kernel
theorem dX10_guessAt_10 : decode cX10_guessAt 10 = .ok (.iconst 0, 1) := by decide +kernel
theorem dX10_guessAt_11 : decode cX10_guessAt 11 = .ok (.istore_n 3, 1) := by decide +kernel
theorem dX10_guessAt_12 : decode cX10_guessAt 12 = .ok (.lconst 0, 1) := by decide +kernel
theorem dX10_guessAt_13 : decode cX10_guessAt 13 = .ok (.lstore 4, 2) := by decide +kernel
theorem dX10_guessAt_15 : decode cX10_guessAt 15 = .ok (.iconst 1, 1) := by decide +kernel
theorem dX10_guessAt_16 : decode cX10_guessAt 16 = .ok (.istore 6, 2) := by decide +kernel
theorem dX10_guessAt_18 : decode cX10_guessAt 18 = .ok (.iload 6, 2) := by decide +kernel
theorem dX10_guessAt_20 : decode cX10_guessAt 20 = .ok (.bipush 10, 2) := by decide +kernel
theorem dX10_guessAt_22 : decode cX10_guessAt 22 = .ok (.if_icmp .ge 48, 3) := by decide +kernel
theorem dX10_guessAt_25 : decode cX10_guessAt 25 = .ok (.iload_n 2, 1) := by decide +kernel
theorem dX10_guessAt_26 : decode cX10_guessAt 26 = .ok (.iload 6, 2) := by decide +kernel
theorem dX10_guessAt_28 : decode cX10_guessAt 28 = .ok (.ishr, 1) := by decide +kernel
theorem dX10_guessAt_29 : decode cX10_guessAt 29 = .ok (.iconst 1, 1) := by decide +kernel
theorem dX10_guessAt_30 : decode cX10_guessAt 30 = .ok (.iand, 1) := by decide +kernel
theorem dX10_guessAt_31 : decode cX10_guessAt 31 = .ok (.iconst 1, 1) := by decide +kernel
theorem dX10_guessAt_32 : decode cX10_guessAt 32 = .ok (.if_icmp .ne 32, 3) := by decide +kernel
theorem dX10_guessAt_35 : decode cX10_guessAt 35 = .ok (.aload_n 0, 1) := by decide +kernel
theorem dX10_guessAt_36 : decode cX10_guessAt 36 = .ok (.getfield 48, 3) := by decide +kernel
theorem dX10_guessAt_39 : decode cX10_guessAt 39 = .ok (.iload_n 1, 1) := by decide +kernel
theorem dX10_guessAt_40 : decode cX10_guessAt 40 = .ok (.aaload, 1) := by decide +kernel
theorem dX10_guessAt_41 : decode cX10_guessAt 41 = .ok (.iload 6, 2) := by decide +kernel
theorem dX10_guessAt_43 : decode cX10_guessAt 43 = .ok (.laload, 1) := by decide +kernel
theorem dX10_guessAt_44 : decode cX10_guessAt 44 = .ok (.lload 4, 2) := by decide +kernel
theorem dX10_guessAt_46 : decode cX10_guessAt 46 = .ok (.lcmp, 1) := by decide +kernel
theorem dX10_guessAt_47 : decode cX10_guessAt 47 = .ok (.ifCond .le 17, 3) := by decide +kernel
theorem dX10_guessAt_50 : decode cX10_guessAt 50 = .ok (.aload_n 0, 1) := by decide +kernel
theorem dX10_guessAt_51 : decode cX10_guessAt 51 = .ok (.getfield 48, 3) := by decide +kernel
theorem dX10_guessAt_54 : decode cX10_guessAt 54 = .ok (.iload_n 1, 1) := by decide +kernel
theorem dX10_guessAt_55 : decode cX10_guessAt 55 = .ok (.aaload, 1) := by decide +kernel
theorem dX10_guessAt_56 : decode cX10_guessAt 56 = .ok (.iload 6, 2) := by decide +kernel
theorem dX10_guessAt_58 : decode cX10_guessAt 58 = .ok (.laload, 1) := by decide +kernel
theorem dX10_guessAt_59 : decode cX10_guessAt 59 = .ok (.lstore 4, 2) := by decide +kernel
theorem dX10_guessAt_61 : decode cX10_guessAt 61 = .ok (.iload 6, 2) := by decide +kernel
theorem dX10_guessAt_63 : decode cX10_guessAt 63 = .ok (.istore_n 3, 1) := by decide +kernel
theorem dX10_guessAt_64 : decode cX10_guessAt 64 = .ok (.iinc 6 1, 3) := by decide +kernel
theorem dX10_guessAt_67 : decode cX10_guessAt 67 = .ok (.goto (-49), 3) := by decide +kernel
theorem dX10_guessAt_70 : decode cX10_guessAt 70 = .ok (.iload_n 3, 1) := by decide +kernel
theorem dX10_guessAt_71 : decode cX10_guessAt 71 = .ok (.ireturn, 1) := by decide +kernel
theorem dX10_guessBits_0 : decode cX10_guessBits 0 = .ok (.iconst 0, 1) := by decide +kernel
theorem dX10_guessBits_1 : decode cX10_guessBits 1 = .ok (.istore_n 2, 1) := by decide +kernel
theorem dX10_guessBits_2 : decode cX10_guessBits 2 = .ok (.iconst 1, 1) := by decide +kernel
theorem dX10_guessBits_3 : decode cX10_guessBits 3 = .ok (.istore_n 3, 1) := by decide +kernel
theorem dX10_guessBits_4 : decode cX10_guessBits 4 = .ok (.iload_n 3, 1) := by decide +kernel
theorem dX10_guessBits_5 : decode cX10_guessBits 5 = .ok (.bipush 24, 2) := by decide +kernel
theorem dX10_guessBits_7 : decode cX10_guessBits 7 = .ok (.if_icmp .ge 34, 3) := by decide +kernel
theorem dX10_guessBits_10 : decode cX10_guessBits 10 = .ok (.iload_n 3, 1) := by decide +kernel
theorem dX10_guessBits_11 : decode cX10_guessBits 11 = .ok (.aload_n 0, 1) := by decide +kernel
theorem dX10_guessBits_12 : decode cX10_guessBits 12 = .ok (.getfield 54, 3) := by decide +kernel
theorem dX10_guessBits_15 : decode cX10_guessBits 15 = .ok (.if_icmp .ge 26, 3) := by decide +kernel
theorem dX10_guessBits_18 : decode cX10_guessBits 18 = .ok (.aload_n 0, 1) := by decide +kernel
theorem dX10_guessBits_19 : decode cX10_guessBits 19 = .ok (.getfield 30, 3) := by decide +kernel
theorem dX10_guessBits_22 : decode cX10_guessBits 22 = .ok (.iload_n 3, 1) := by decide +kernel
theorem dX10_guessBits_23 : decode cX10_guessBits 23 = .ok (.iaload, 1) := by decide +kernel
theorem dX10_guessBits_24 : decode cX10_guessBits 24 = .ok (.iload_n 1, 1) := by decide +kernel
theorem dX10_guessBits_25 : decode cX10_guessBits 25 = .ok (.iand, 1) := by decide +kernel
theorem dX10_guessBits_26 : decode cX10_guessBits 26 = .ok (.ifCond .eq 9, 3) := by decide +kernel
theorem dX10_guessBits_29 : decode cX10_guessBits 29 = .ok (.iload_n 2, 1) := by decide +kernel
theorem dX10_guessBits_30 : decode cX10_guessBits 30 = .ok (.iconst 1, 1) := by decide +kernel
theorem dX10_guessBits_31 : decode cX10_guessBits 31 = .ok (.iload_n 3, 1) := by decide +kernel
theorem dX10_guessBits_32 : decode cX10_guessBits 32 = .ok (.ishl, 1) := by decide +kernel
theorem dX10_guessBits_33 : decode cX10_guessBits 33 = .ok (.ior, 1) := by decide +kernel
theorem dX10_guessBits_34 : decode cX10_guessBits 34 = .ok (.istore_n 2, 1) := by decide +kernel
theorem dX10_guessBits_35 : decode cX10_guessBits 35 = .ok (.iinc 3 1, 3) := by decide +kernel
theorem dX10_guessBits_38 : decode cX10_guessBits 38 = .ok (.goto (-34), 3) := by decide +kernel
theorem dX10_guessBits_41 : decode cX10_guessBits 41 = .ok (.iload_n 2, 1) := by decide +kernel
theorem dX10_guessBits_42 : decode cX10_guessBits 42 = .ok (.ireturn, 1) := by decide +kernel
theorem dX10_endBits_0 : decode cX10_endBits 0 = .ok (.iconst 0, 1) := by decide +kernel
theorem dX10_endBits_1 : decode cX10_endBits 1 = .ok (.istore_n 1, 1) := by decide +kernel
theorem dX10_endBits_2 : decode cX10_endBits 2 = .ok (.iconst 1, 1) := by decide +kernel
theorem dX10_endBits_3 : decode cX10_endBits 3 = .ok (.istore_n 2, 1) := by decide +kernel
theorem dX10_endBits_4 : decode cX10_endBits 4 = .ok (.iload_n 2, 1) := by decide +kernel
theorem dX10_endBits_5 : decode cX10_endBits 5 = .ok (.bipush 24, 2) := by decide +kernel
theorem dX10_endBits_7 : decode cX10_endBits 7 = .ok (.if_icmp .ge 32, 3) := by decide +kernel
theorem dX10_endBits_10 : decode cX10_endBits 10 = .ok (.iload_n 2, 1) := by decide +kernel
theorem dX10_endBits_11 : decode cX10_endBits 11 = .ok (.aload_n 0, 1) := by decide +kernel
theorem dX10_endBits_12 : decode cX10_endBits 12 = .ok (.getfield 54, 3) := by decide +kernel
theorem dX10_endBits_15 : decode cX10_endBits 15 = .ok (.if_icmp .ge 24, 3) := by decide +kernel
theorem dX10_endBits_18 : decode cX10_endBits 18 = .ok (.aload_n 0, 1) := by decide +kernel
theorem dX10_endBits_19 : decode cX10_endBits 19 = .ok (.getfield 18, 3) := by decide +kernel
theorem dX10_endBits_22 : decode cX10_endBits 22 = .ok (.iload_n 2, 1) := by decide +kernel
theorem dX10_endBits_23 : decode cX10_endBits 23 = .ok (.iaload, 1) := by decide +kernel
theorem dX10_endBits_24 : decode cX10_endBits 24 = .ok (.ifCond .le 9, 3) := by decide +kernel
theorem dX10_endBits_27 : decode cX10_endBits 27 = .ok (.iload_n 1, 1) := by decide +kernel
theorem dX10_endBits_28 : decode cX10_endBits 28 = .ok (.iconst 1, 1) := by decide +kernel
theorem dX10_endBits_29 : decode cX10_endBits 29 = .ok (.iload_n 2, 1) := by decide +kernel
theorem dX10_endBits_30 : decode cX10_endBits 30 = .ok (.ishl, 1) := by decide +kernel
theorem dX10_endBits_31 : decode cX10_endBits 31 = .ok (.ior, 1) := by decide +kernel
theorem dX10_endBits_32 : decode cX10_endBits 32 = .ok (.istore_n 1, 1) := by decide +kernel
theorem dX10_endBits_33 : decode cX10_endBits 33 = .ok (.iinc 2 1, 3) := by decide +kernel
theorem dX10_endBits_36 : decode cX10_endBits 36 = .ok (.goto (-32), 3) := by decide +kernel
theorem dX10_endBits_39 : decode cX10_endBits 39 = .ok (.iload_n 1, 1) := by decide +kernel
theorem dX10_endBits_40 : decode cX10_endBits 40 = .ok (.ireturn, 1) := by decide +kernel
set_option maxRecDepth 20000 in
theorem ggX10_sureBits_X10_guessAt : GoodIn wsX10_sureBits wsX10_guessAt := goodIn_r _ [8, 9, 10, 11, 12, 7, 13, 1, 18, 19, 20, 21, 22, 23, 24, 25, 26, 27, 28, 29, 30, 31, 32, 33] (by decide +kernel) (by decide +kernel)
set_option maxRecDepth 20000 in
theorem gX10_sureBits_X10_guessAt : GoodIn wsX10_sureBits (wsV RX10 90 RX10 yX10_guessAt wsX10_guessAt) := goodIn_app (goodIn_of _ (by decide +kernel)) ggX10_sureBits_X10_guessAt
set_option maxRecDepth 20000 in
theorem ggX10_sureBits_X10_shareOf : GoodIn wsX10_sureBits wsX10_shareOf := goodIn_r _ [17, 9, 10, 11, 12, 7, 13, 1, 18, 19, 20, 21, 22, 23, 24, 25, 26, 27, 28, 29, 30, 31, 32, 33] (by decide +kernel) (by decide +kernel)
set_option maxRecDepth 20000 in
theorem gX10_sureBits_X10_shareOf : GoodIn wsX10_sureBits (wsV RX10 94 RX10 yX10_shareOf wsX10_shareOf) := goodIn_app (goodIn_of _ (by decide +kernel)) ggX10_sureBits_X10_shareOf
theorem dX10_sureBits_0 : decode cX10_sureBits 0 = .ok (.iconst 0, 1) := by decide +kernel
theorem dX10_sureBits_1 : decode cX10_sureBits 1 = .ok (.istore_n 3, 1) := by decide +kernel
theorem dX10_sureBits_2 : decode cX10_sureBits 2 = .ok (.iconst 1, 1) := by decide +kernel
theorem dX10_sureBits_3 : decode cX10_sureBits 3 = .ok (.istore 4, 2) := by decide +kernel
theorem dX10_sureBits_5 : decode cX10_sureBits 5 = .ok (.iload 4, 2) := by decide +kernel
theorem dX10_sureBits_7 : decode cX10_sureBits 7 = .ok (.bipush 24, 2) := by decide +kernel
theorem dX10_sureBits_9 : decode cX10_sureBits 9 = .ok (.if_icmp .ge 65, 3) := by decide +kernel
theorem dX10_sureBits_12 : decode cX10_sureBits 12 = .ok (.iload 4, 2) := by decide +kernel
theorem dX10_sureBits_14 : decode cX10_sureBits 14 = .ok (.aload_n 0, 1) := by decide +kernel
theorem dX10_sureBits_15 : decode cX10_sureBits 15 = .ok (.getfield 54, 3) := by decide +kernel
theorem dX10_sureBits_18 : decode cX10_sureBits 18 = .ok (.if_icmp .ge 56, 3) := by decide +kernel
theorem dX10_sureBits_21 : decode cX10_sureBits 21 = .ok (.aload_n 0, 1) := by decide +kernel
theorem dX10_sureBits_22 : decode cX10_sureBits 22 = .ok (.iload 4, 2) := by decide +kernel
theorem dX10_sureBits_24 : decode cX10_sureBits 24 = .ok (.iload_n 1, 1) := by decide +kernel
theorem dX10_sureBits_25 : decode cX10_sureBits 25 = .ok (.invokevirtual 90, 3) := by decide +kernel
theorem dX10_sureBits_28 : decode cX10_sureBits 28 = .ok (.istore 5, 2) := by decide +kernel
theorem dX10_sureBits_30 : decode cX10_sureBits 30 = .ok (.iload 5, 2) := by decide +kernel
theorem dX10_sureBits_32 : decode cX10_sureBits 32 = .ok (.ifCond .le 36, 3) := by decide +kernel
theorem dX10_sureBits_35 : decode cX10_sureBits 35 = .ok (.aload_n 0, 1) := by decide +kernel
theorem dX10_sureBits_36 : decode cX10_sureBits 36 = .ok (.iload 4, 2) := by decide +kernel
theorem dX10_sureBits_38 : decode cX10_sureBits 38 = .ok (.iload 5, 2) := by decide +kernel
theorem dX10_sureBits_40 : decode cX10_sureBits 40 = .ok (.invokevirtual 94, 3) := by decide +kernel
theorem dX10_sureBits_43 : decode cX10_sureBits 43 = .ok (.ldc2_w 98, 3) := by decide +kernel
theorem dX10_sureBits_46 : decode cX10_sureBits 46 = .ok (.lmul, 1) := by decide +kernel
theorem dX10_sureBits_47 : decode cX10_sureBits 47 = .ok (.iload_n 2, 1) := by decide +kernel
theorem dX10_sureBits_48 : decode cX10_sureBits 48 = .ok (.i2l, 1) := by decide +kernel
theorem dX10_sureBits_49 : decode cX10_sureBits 49 = .ok (.aload_n 0, 1) := by decide +kernel
theorem dX10_sureBits_50 : decode cX10_sureBits 50 = .ok (.getfield 36, 3) := by decide +kernel
theorem dX10_sureBits_53 : decode cX10_sureBits 53 = .ok (.iload 4, 2) := by decide +kernel
theorem dX10_sureBits_55 : decode cX10_sureBits 55 = .ok (.laload, 1) := by decide +kernel
theorem dX10_sureBits_56 : decode cX10_sureBits 56 = .ok (.lmul, 1) := by decide +kernel
theorem dX10_sureBits_57 : decode cX10_sureBits 57 = .ok (.lcmp, 1) := by decide +kernel
theorem dX10_sureBits_58 : decode cX10_sureBits 58 = .ok (.ifCond .lt 10, 3) := by decide +kernel
theorem dX10_sureBits_61 : decode cX10_sureBits 61 = .ok (.iload_n 3, 1) := by decide +kernel
theorem dX10_sureBits_62 : decode cX10_sureBits 62 = .ok (.iconst 1, 1) := by decide +kernel
theorem dX10_sureBits_63 : decode cX10_sureBits 63 = .ok (.iload 4, 2) := by decide +kernel
theorem dX10_sureBits_65 : decode cX10_sureBits 65 = .ok (.ishl, 1) := by decide +kernel
theorem dX10_sureBits_66 : decode cX10_sureBits 66 = .ok (.ior, 1) := by decide +kernel
theorem dX10_sureBits_67 : decode cX10_sureBits 67 = .ok (.istore_n 3, 1) := by decide +kernel
theorem dX10_sureBits_68 : decode cX10_sureBits 68 = .ok (.iinc 4 1, 3) := by decide +kernel
theorem dX10_sureBits_71 : decode cX10_sureBits 71 = .ok (.goto (-66), 3) := by decide +kernel
theorem dX10_sureBits_74 : decode cX10_sureBits 74 = .ok (.iload_n 3, 1) := by decide +kernel
theorem dX10_sureBits_75 : decode cX10_sureBits 75 = .ok (.ireturn, 1) := by decide +kernel
theorem dX10_meanNext_0 : decode cX10_meanNext 0 = .ok (.lconst 0, 1) := by decide +kernel
theorem dX10_meanNext_1 : decode cX10_meanNext 1 = .ok (.lstore_n 3, 1) := by decide +kernel
theorem dX10_meanNext_2 : decode cX10_meanNext 2 = .ok (.iconst 1, 1) := by decide +kernel
theorem dX10_meanNext_3 : decode cX10_meanNext 3 = .ok (.istore 5, 2) := by decide +kernel
theorem dX10_meanNext_5 : decode cX10_meanNext 5 = .ok (.iload 5, 2) := by decide +kernel
theorem dX10_meanNext_7 : decode cX10_meanNext 7 = .ok (.bipush 24, 2) := by decide +kernel
theorem dX10_meanNext_9 : decode cX10_meanNext 9 = .ok (.if_icmp .ge 51, 3) := by decide +kernel
theorem dX10_meanNext_12 : decode cX10_meanNext 12 = .ok (.iload 5, 2) := by decide +kernel
theorem dX10_meanNext_14 : decode cX10_meanNext 14 = .ok (.aload_n 0, 1) := by decide +kernel
theorem dX10_meanNext_15 : decode cX10_meanNext 15 = .ok (.getfield 54, 3) := by decide +kernel
theorem dX10_meanNext_18 : decode cX10_meanNext 18 = .ok (.if_icmp .ge 42, 3) := by decide +kernel
theorem dX10_meanNext_21 : decode cX10_meanNext 21 = .ok (.iload 5, 2) := by decide +kernel
theorem dX10_meanNext_23 : decode cX10_meanNext 23 = .ok (.aload_n 1, 1) := by decide +kernel
theorem dX10_meanNext_24 : decode cX10_meanNext 24 = .ok (.arraylength, 1) := by decide +kernel
theorem dX10_meanNext_25 : decode cX10_meanNext 25 = .ok (.if_icmp .ge 35, 3) := by decide +kernel
theorem dX10_meanNext_28 : decode cX10_meanNext 28 = .ok (.aload_n 0, 1) := by decide +kernel
theorem dX10_meanNext_29 : decode cX10_meanNext 29 = .ok (.getfield 9, 3) := by decide +kernel
theorem dX10_meanNext_32 : decode cX10_meanNext 32 = .ok (.iload 5, 2) := by decide +kernel
theorem dX10_meanNext_34 : decode cX10_meanNext 34 = .ok (.iaload, 1) := by decide +kernel
theorem dX10_meanNext_35 : decode cX10_meanNext 35 = .ok (.iload_n 2, 1) := by decide +kernel
theorem dX10_meanNext_36 : decode cX10_meanNext 36 = .ok (.if_icmp .ne 18, 3) := by decide +kernel
theorem dX10_meanNext_39 : decode cX10_meanNext 39 = .ok (.lload_n 3, 1) := by decide +kernel
theorem dX10_meanNext_40 : decode cX10_meanNext 40 = .ok (.aload_n 0, 1) := by decide +kernel
theorem dX10_meanNext_41 : decode cX10_meanNext 41 = .ok (.getfield 40, 3) := by decide +kernel
theorem dX10_meanNext_44 : decode cX10_meanNext 44 = .ok (.iload 5, 2) := by decide +kernel
theorem dX10_meanNext_46 : decode cX10_meanNext 46 = .ok (.laload, 1) := by decide +kernel
theorem dX10_meanNext_47 : decode cX10_meanNext 47 = .ok (.aload_n 1, 1) := by decide +kernel
theorem dX10_meanNext_48 : decode cX10_meanNext 48 = .ok (.iload 5, 2) := by decide +kernel
theorem dX10_meanNext_50 : decode cX10_meanNext 50 = .ok (.laload, 1) := by decide +kernel
theorem dX10_meanNext_51 : decode cX10_meanNext 51 = .ok (.lmul, 1) := by decide +kernel
theorem dX10_meanNext_52 : decode cX10_meanNext 52 = .ok (.ladd, 1) := by decide +kernel
theorem dX10_meanNext_53 : decode cX10_meanNext 53 = .ok (.lstore_n 3, 1) := by decide +kernel
theorem dX10_meanNext_54 : decode cX10_meanNext 54 = .ok (.iinc 5 1, 3) := by decide +kernel
theorem dX10_meanNext_57 : decode cX10_meanNext 57 = .ok (.goto (-52), 3) := by decide +kernel
theorem dX10_meanNext_60 : decode cX10_meanNext 60 = .ok (.lload_n 3, 1) := by decide +kernel
theorem dX10_meanNext_61 : decode cX10_meanNext 61 = .ok (.lreturn, 1) := by decide +kernel
set_option maxRecDepth 20000 in
theorem ggX10_pressValue_X10_has : GoodIn wsX10_pressValue wsX10_has := goodIn_r _ [8, 9, 10, 11, 12, 13, 14, 15, 16, 17, 18, 19, 20, 21, 22, 23, 24, 25] (by decide +kernel) (by decide +kernel)
set_option maxRecDepth 20000 in
theorem gX10_pressValue_X10_has : GoodIn wsX10_pressValue (wsV RX10 65 RX10 yX10_has wsX10_has) := goodIn_app (goodIn_of _ (by decide +kernel)) ggX10_pressValue_X10_has
theorem dX10_pressValue_0 : decode cX10_pressValue 0 = .ok (.aload_n 0, 1) := by decide +kernel
theorem dX10_pressValue_1 : decode cX10_pressValue 1 = .ok (.iload_n 1, 1) := by decide +kernel
theorem dX10_pressValue_2 : decode cX10_pressValue 2 = .ok (.invokevirtual 65, 3) := by decide +kernel
theorem dX10_pressValue_5 : decode cX10_pressValue 5 = .ok (.ifCond .eq 14, 3) := by decide +kernel
theorem dX10_pressValue_8 : decode cX10_pressValue 8 = .ok (.iload_n 2, 1) := by decide +kernel
theorem dX10_pressValue_9 : decode cX10_pressValue 9 = .ok (.iconst 1, 1) := by decide +kernel
theorem dX10_pressValue_10 : decode cX10_pressValue 10 = .ok (.if_icmp .lt 9, 3) := by decide +kernel
theorem dX10_pressValue_13 : decode cX10_pressValue 13 = .ok (.iload_n 2, 1) := by decide +kernel
theorem dX10_pressValue_14 : decode cX10_pressValue 14 = .ok (.bipush 10, 2) := by decide +kernel
theorem dX10_pressValue_16 : decode cX10_pressValue 16 = .ok (.if_icmp .lt 5, 3) := by decide +kernel
theorem dX10_pressValue_19 : decode cX10_pressValue 19 = .ok (.lconst 0, 1) := by decide +kernel
theorem dX10_pressValue_20 : decode cX10_pressValue 20 = .ok (.lreturn, 1) := by decide +kernel
theorem dX10_pressValue_21 : decode cX10_pressValue 21 = .ok (.iload_n 3, 1) := by decide +kernel
theorem dX10_pressValue_22 : decode cX10_pressValue 22 = .ok (.i2l, 1) := by decide +kernel
theorem dX10_pressValue_23 : decode cX10_pressValue 23 = .ok (.aload_n 0, 1) := by decide +kernel
theorem dX10_pressValue_24 : decode cX10_pressValue 24 = .ok (.getfield 48, 3) := by decide +kernel
theorem dX10_pressValue_27 : decode cX10_pressValue 27 = .ok (.iload_n 1, 1) := by decide +kernel
theorem dX10_pressValue_28 : decode cX10_pressValue 28 = .ok (.aaload, 1) := by decide +kernel
theorem dX10_pressValue_29 : decode cX10_pressValue 29 = .ok (.iload_n 2, 1) := by decide +kernel
theorem dX10_pressValue_30 : decode cX10_pressValue 30 = .ok (.laload, 1) := by decide +kernel
theorem dX10_pressValue_31 : decode cX10_pressValue 31 = .ok (.lmul, 1) := by decide +kernel
theorem dX10_pressValue_32 : decode cX10_pressValue 32 = .ok (.iload 5, 2) := by decide +kernel
theorem dX10_pressValue_34 : decode cX10_pressValue 34 = .ok (.i2l, 1) := by decide +kernel
theorem dX10_pressValue_35 : decode cX10_pressValue 35 = .ok (.aload_n 0, 1) := by decide +kernel
theorem dX10_pressValue_36 : decode cX10_pressValue 36 = .ok (.getfield 51, 3) := by decide +kernel
theorem dX10_pressValue_39 : decode cX10_pressValue 39 = .ok (.iload_n 1, 1) := by decide +kernel
theorem dX10_pressValue_40 : decode cX10_pressValue 40 = .ok (.aaload, 1) := by decide +kernel
theorem dX10_pressValue_41 : decode cX10_pressValue 41 = .ok (.iload_n 2, 1) := by decide +kernel
theorem dX10_pressValue_42 : decode cX10_pressValue 42 = .ok (.laload, 1) := by decide +kernel
theorem dX10_pressValue_43 : decode cX10_pressValue 43 = .ok (.lmul, 1) := by decide +kernel
theorem dX10_pressValue_44 : decode cX10_pressValue 44 = .ok (.ladd, 1) := by decide +kernel
theorem dX10_pressValue_45 : decode cX10_pressValue 45 = .ok (.iload 4, 2) := by decide +kernel
theorem dX10_pressValue_47 : decode cX10_pressValue 47 = .ok (.i2l, 1) := by decide +kernel
theorem dX10_pressValue_48 : decode cX10_pressValue 48 = .ok (.aload_n 0, 1) := by decide +kernel
theorem dX10_pressValue_49 : decode cX10_pressValue 49 = .ok (.getfield 36, 3) := by decide +kernel
theorem dX10_pressValue_52 : decode cX10_pressValue 52 = .ok (.iload_n 1, 1) := by decide +kernel
theorem dX10_pressValue_53 : decode cX10_pressValue 53 = .ok (.laload, 1) := by decide +kernel
theorem dX10_pressValue_54 : decode cX10_pressValue 54 = .ok (.aload_n 0, 1) := by decide +kernel
theorem dX10_pressValue_55 : decode cX10_pressValue 55 = .ok (.getfield 48, 3) := by decide +kernel
theorem dX10_pressValue_58 : decode cX10_pressValue 58 = .ok (.iload_n 1, 1) := by decide +kernel
theorem dX10_pressValue_59 : decode cX10_pressValue 59 = .ok (.aaload, 1) := by decide +kernel
theorem dX10_pressValue_60 : decode cX10_pressValue 60 = .ok (.iload_n 2, 1) := by decide +kernel
theorem dX10_pressValue_61 : decode cX10_pressValue 61 = .ok (.laload, 1) := by decide +kernel
theorem dX10_pressValue_62 : decode cX10_pressValue 62 = .ok (.lsub, 1) := by decide +kernel
theorem dX10_pressValue_63 : decode cX10_pressValue 63 = .ok (.lmul, 1) := by decide +kernel
theorem dX10_pressValue_64 : decode cX10_pressValue 64 = .ok (.lsub, 1) := by decide +kernel
theorem dX10_pressValue_65 : decode cX10_pressValue 65 = .ok (.lreturn, 1) := by decide +kernel
theorem dX10_nextBy_0 : decode cX10_nextBy 0 = .ok (.iconst 0, 1) := by decide +kernel
theorem dX10_nextBy_1 : decode cX10_nextBy 1 = .ok (.istore_n 3, 1) := by decide +kernel
theorem dX10_nextBy_2 : decode cX10_nextBy 2 = .ok (.iconst 1, 1) := by decide +kernel
theorem dX10_nextBy_3 : decode cX10_nextBy 3 = .ok (.istore 4, 2) := by decide +kernel
theorem dX10_nextBy_5 : decode cX10_nextBy 5 = .ok (.iload 4, 2) := by decide +kernel
theorem dX10_nextBy_7 : decode cX10_nextBy 7 = .ok (.bipush 24, 2) := by decide +kernel
theorem dX10_nextBy_9 : decode cX10_nextBy 9 = .ok (.if_icmp .ge 50, 3) := by decide +kernel
theorem dX10_nextBy_12 : decode cX10_nextBy 12 = .ok (.iload 4, 2) := by decide +kernel
theorem dX10_nextBy_14 : decode cX10_nextBy 14 = .ok (.aload_n 0, 1) := by decide +kernel
theorem dX10_nextBy_15 : decode cX10_nextBy 15 = .ok (.getfield 54, 3) := by decide +kernel
theorem dX10_nextBy_18 : decode cX10_nextBy 18 = .ok (.if_icmp .ge 41, 3) := by decide +kernel
theorem dX10_nextBy_21 : decode cX10_nextBy 21 = .ok (.aload_n 0, 1) := by decide +kernel
theorem dX10_nextBy_22 : decode cX10_nextBy 22 = .ok (.getfield 9, 3) := by decide +kernel
theorem dX10_nextBy_25 : decode cX10_nextBy 25 = .ok (.iload 4, 2) := by decide +kernel
theorem dX10_nextBy_27 : decode cX10_nextBy 27 = .ok (.iaload, 1) := by decide +kernel
theorem dX10_nextBy_28 : decode cX10_nextBy 28 = .ok (.iload_n 1, 1) := by decide +kernel
theorem dX10_nextBy_29 : decode cX10_nextBy 29 = .ok (.if_icmp .eq 6, 3) := by decide +kernel
theorem dX10_nextBy_32 : decode cX10_nextBy 32 = .ok (.goto 21, 3) := by decide +kernel
theorem dX10_nextBy_35 : decode cX10_nextBy 35 = .ok (.iload_n 3, 1) := by decide +kernel
theorem dX10_nextBy_36 : decode cX10_nextBy 36 = .ok (.aload_n 0, 1) := by decide +kernel
theorem dX10_nextBy_37 : decode cX10_nextBy 37 = .ok (.getfield 15, 3) := by decide +kernel
theorem dX10_nextBy_40 : decode cX10_nextBy 40 = .ok (.iload 4, 2) := by decide +kernel
theorem dX10_nextBy_42 : decode cX10_nextBy 42 = .ok (.iaload, 1) := by decide +kernel
theorem dX10_nextBy_43 : decode cX10_nextBy 43 = .ok (.iadd, 1) := by decide +kernel
theorem dX10_nextBy_44 : decode cX10_nextBy 44 = .ok (.istore_n 3, 1) := by decide +kernel
theorem dX10_nextBy_45 : decode cX10_nextBy 45 = .ok (.iload_n 3, 1) := by decide +kernel
theorem dX10_nextBy_46 : decode cX10_nextBy 46 = .ok (.iload_n 2, 1) := by decide +kernel
theorem dX10_nextBy_47 : decode cX10_nextBy 47 = .ok (.if_icmp .le 6, 3) := by decide +kernel
theorem dX10_nextBy_50 : decode cX10_nextBy 50 = .ok (.iload 4, 2) := by decide +kernel
theorem dX10_nextBy_52 : decode cX10_nextBy 52 = .ok (.ireturn, 1) := by decide +kernel
theorem dX10_nextBy_53 : decode cX10_nextBy 53 = .ok (.iinc 4 1, 3) := by decide +kernel
theorem dX10_nextBy_56 : decode cX10_nextBy 56 = .ok (.goto (-51), 3) := by decide +kernel
theorem dX10_nextBy_59 : decode cX10_nextBy 59 = .ok (.iconst 0, 1) := by decide +kernel
theorem dX10_nextBy_60 : decode cX10_nextBy 60 = .ok (.ireturn, 1) := by decide +kernel
set_option maxRecDepth 20000 in
theorem ggX11_init_X8_init : GoodIn wsX11_init wsX8_init := goodIn_r _ [32, 33, 2, 3, 12, 34, 35, 36, 37, 38, 39, 40, 41, 42, 43, 44, 45, 98, 99, 100, 101, 102, 103, 104, 105, 106, 107, 108, 109] (by decide +kernel) (by decide +kernel)
set_option maxRecDepth 20000 in
theorem gX11_init_X8_init_n9 : GoodIn wsX11_init (wsX8_init) := ggX11_init_X8_init
set_option maxRecDepth 20000 in
theorem ggX11_init_X3_init : GoodIn wsX11_init wsX3_init := goodIn_r _ [47, 48, 2, 3, 12, 49, 50, 51, 52, 53, 123, 124, 125, 126, 127] (by decide +kernel) (by decide +kernel)
set_option maxRecDepth 20000 in
theorem gX11_init_X3_init_n18 : GoodIn wsX11_init (wsX3_init) := ggX11_init_X3_init
set_option maxRecDepth 20000 in
theorem ggX11_init_X10_init : GoodIn wsX11_init wsX10_init := goodIn_r _ [56, 57, 2, 3, 12, 58, 59, 60, 61, 62, 63, 64, 65, 66, 67, 68, 69, 70, 71, 72, 73, 74, 75, 128, 129, 130, 131, 132, 133, 134, 135, 136, 137, 138, 139, 140, 141, 142, 143] (by decide +kernel) (by decide +kernel)
set_option maxRecDepth 20000 in
theorem gX11_init_X10_init : GoodIn wsX11_init (wsX10_init) := ggX11_init_X10_init
set_option maxRecDepth 20000 in
theorem ggX11_init_X6_init : GoodIn wsX11_init wsX6_init := goodIn_r _ [78, 79, 2, 3, 80, 81, 82, 12, 83, 84, 85, 86, 87, 88, 89, 90, 91, 92, 66, 93, 94, 95, 96, 97, 144, 145, 146, 147, 148, 149, 150, 151, 152, 153, 154, 155, 156, 157, 158, 159, 160] (by decide +kernel) (by decide +kernel)
set_option maxRecDepth 20000 in
theorem gX11_init_X6_init : GoodIn wsX11_init (wsX6_init) := ggX11_init_X6_init
theorem dX11_init_0 : decode cX11_init 0 = .ok (.aload_n 0, 1) := by decide +kernel
theorem dX11_init_1 : decode cX11_init 1 = .ok (.invokespecial 1, 3) := by decide +kernel
theorem dX11_init_4 : decode cX11_init 4 = .ok (.aload_n 0, 1) := by decide +kernel
theorem dX11_init_5 : decode cX11_init 5 = .ok (.new 7, 3) := by decide +kernel
theorem dX11_init_8 : decode cX11_init 8 = .ok (.dup, 1) := by decide +kernel
theorem dX11_init_9 : decode cX11_init 9 = .ok (.invokespecial 9, 3) := by decide +kernel
theorem dX11_init_12 : decode cX11_init 12 = .ok (.putfield 10, 3) := by decide +kernel
theorem dX11_init_15 : decode cX11_init 15 = .ok (.aload_n 0, 1) := by decide +kernel
theorem dX11_init_16 : decode cX11_init 16 = .ok (.new 16, 3) := by decide +kernel
theorem dX11_init_19 : decode cX11_init 19 = .ok (.dup, 1) := by decide +kernel
theorem dX11_init_20 : decode cX11_init 20 = .ok (.invokespecial 18, 3) := by decide +kernel
theorem dX11_init_23 : decode cX11_init 23 = .ok (.putfield 19, 3) := by decide +kernel
theorem dX11_init_26 : decode cX11_init 26 = .ok (.aload_n 0, 1) := by decide +kernel
theorem dX11_init_27 : decode cX11_init 27 = .ok (.bipush 20, 2) := by decide +kernel
theorem dX11_init_29 : decode cX11_init 29 = .ok (.newarray .int, 2) := by decide +kernel
theorem dX11_init_31 : decode cX11_init 31 = .ok (.putfield 23, 3) := by decide +kernel
theorem dX11_init_34 : decode cX11_init 34 = .ok (.aload_n 0, 1) := by decide +kernel
theorem dX11_init_35 : decode cX11_init 35 = .ok (.iconst 0, 1) := by decide +kernel
theorem dX11_init_36 : decode cX11_init 36 = .ok (.putfield 27, 3) := by decide +kernel
theorem dX11_init_39 : decode cX11_init 39 = .ok (.aload_n 0, 1) := by decide +kernel
theorem dX11_init_40 : decode cX11_init 40 = .ok (.bipush 7, 2) := by decide +kernel
theorem dX11_init_42 : decode cX11_init 42 = .ok (.newarray .int, 2) := by decide +kernel
theorem dX11_init_44 : decode cX11_init 44 = .ok (.putfield 31, 3) := by decide +kernel
theorem dX11_init_47 : decode cX11_init 47 = .ok (.aload_n 0, 1) := by decide +kernel
theorem dX11_init_48 : decode cX11_init 48 = .ok (.iconst 0, 1) := by decide +kernel
theorem dX11_init_49 : decode cX11_init 49 = .ok (.putfield 34, 3) := by decide +kernel
theorem dX11_init_52 : decode cX11_init 52 = .ok (.aload_n 0, 1) := by decide +kernel
theorem dX11_init_53 : decode cX11_init 53 = .ok (.iconst 0, 1) := by decide +kernel
theorem dX11_init_54 : decode cX11_init 54 = .ok (.putfield 38, 3) := by decide +kernel
theorem dX11_init_57 : decode cX11_init 57 = .ok (.aload_n 0, 1) := by decide +kernel
theorem dX11_init_58 : decode cX11_init 58 = .ok (.iconst 0, 1) := by decide +kernel
theorem dX11_init_59 : decode cX11_init 59 = .ok (.putfield 41, 3) := by decide +kernel
theorem dX11_init_62 : decode cX11_init 62 = .ok (.aload_n 0, 1) := by decide +kernel
theorem dX11_init_63 : decode cX11_init 63 = .ok (.iconst 0, 1) := by decide +kernel
theorem dX11_init_64 : decode cX11_init 64 = .ok (.putfield 44, 3) := by decide +kernel
theorem dX11_init_67 : decode cX11_init 67 = .ok (.aload_n 0, 1) := by decide +kernel
theorem dX11_init_68 : decode cX11_init 68 = .ok (.getstatic 47, 3) := by decide +kernel
theorem dX11_init_71 : decode cX11_init 71 = .ok (.arraylength, 1) := by decide +kernel
theorem dX11_init_72 : decode cX11_init 72 = .ok (.newarray .int, 2) := by decide +kernel
theorem dX11_init_74 : decode cX11_init 74 = .ok (.putfield 50, 3) := by decide +kernel
theorem dX11_init_77 : decode cX11_init 77 = .ok (.aload_n 0, 1) := by decide +kernel
theorem dX11_init_78 : decode cX11_init 78 = .ok (.iconst 4, 1) := by decide +kernel
theorem dX11_init_79 : decode cX11_init 79 = .ok (.newarray .int, 2) := by decide +kernel
theorem dX11_init_81 : decode cX11_init 81 = .ok (.putfield 53, 3) := by decide +kernel
theorem dX11_init_84 : decode cX11_init 84 = .ok (.aload_n 0, 1) := by decide +kernel
theorem dX11_init_85 : decode cX11_init 85 = .ok (.new 56, 3) := by decide +kernel
theorem dX11_init_88 : decode cX11_init 88 = .ok (.dup, 1) := by decide +kernel
theorem dX11_init_89 : decode cX11_init 89 = .ok (.invokespecial 58, 3) := by decide +kernel
theorem dX11_init_92 : decode cX11_init 92 = .ok (.putfield 59, 3) := by decide +kernel
theorem dX11_init_95 : decode cX11_init 95 = .ok (.aload_n 0, 1) := by decide +kernel
theorem dX11_init_96 : decode cX11_init 96 = .ok (.new 63, 3) := by decide +kernel
theorem dX11_init_99 : decode cX11_init 99 = .ok (.dup, 1) := by decide +kernel
theorem dX11_init_100 : decode cX11_init 100 = .ok (.aload_n 0, 1) := by decide +kernel
theorem dX11_init_101 : decode cX11_init 101 = .ok (.getfield 59, 3) := by decide +kernel
theorem dX11_init_104 : decode cX11_init 104 = .ok (.invokespecial 65, 3) := by decide +kernel
theorem dX11_init_107 : decode cX11_init 107 = .ok (.putfield 68, 3) := by decide +kernel
theorem dX11_init_110 : decode cX11_init 110 = .ok (.return_, 1) := by decide +kernel
set_option maxRecDepth 20000 in
theorem ggX11_feed_X11_refuse : GoodIn wsX11_feed wsX11_refuse := goodIn_r _ [7, 8, 20, 21, 22, 23, 24, 25, 26, 27, 28, 29, 30, 31, 32] (by decide +kernel) (by decide +kernel)
set_option maxRecDepth 20000 in
theorem gX11_feed_X11_refuse : GoodIn wsX11_feed (wsV RX11 72 RX11 yX11_refuse wsX11_refuse) := goodIn_app (goodIn_of _ (by decide +kernel)) ggX11_feed_X11_refuse
set_option maxRecDepth 20000 in
theorem ggX11_feed_X8_size : GoodIn wsX11_feed wsX8_size := goodIn_r _ [13, 14, 33, 34, 35, 36, 37, 38, 39, 40, 41, 42, 43, 44] (by decide +kernel) (by decide +kernel)
set_option maxRecDepth 20000 in
theorem gX11_feed_X8_size : GoodIn wsX11_feed (wsV RX11 76 RX8 yX8_size wsX8_size) := goodIn_app (goodIn_of _ (by decide +kernel)) ggX11_feed_X8_size
set_option maxRecDepth 20000 in
theorem ggX11_feed_X8_append : GoodIn wsX11_feed wsX8_append := goodIn_r _ [18, 14, 19, 33, 34, 35, 36, 37, 38, 39, 40, 41, 42, 43, 44] (by decide +kernel) (by decide +kernel)
set_option maxRecDepth 20000 in
theorem gX11_feed_X8_append : GoodIn wsX11_feed (wsV RX11 82 RX8 yX8_append wsX8_append) := goodIn_app (goodIn_of _ (by decide +kernel)) ggX11_feed_X8_append
theorem dX11_feed_0 : decode cX11_feed 0 = .ok (.iload_n 1, 1) := by decide +kernel
theorem dX11_feed_1 : decode cX11_feed 1 = .ok (.iconst 1, 1) := by decide +kernel
theorem dX11_feed_2 : decode cX11_feed 2 = .ok (.if_icmp .ge 10, 3) := by decide +kernel
theorem dX11_feed_5 : decode cX11_feed 5 = .ok (.aload_n 0, 1) := by decide +kernel
theorem dX11_feed_6 : decode cX11_feed 6 = .ok (.bipush (-4), 2) := by decide +kernel
theorem dX11_feed_8 : decode cX11_feed 8 = .ok (.invokevirtual 72, 3) := by decide +kernel
theorem dX11_feed_11 : decode cX11_feed 11 = .ok (.ireturn, 1) := by decide +kernel
theorem dX11_feed_12 : decode cX11_feed 12 = .ok (.iload_n 1, 1) := by decide +kernel
theorem dX11_feed_13 : decode cX11_feed 13 = .ok (.bipush 8, 2) := by decide +kernel
theorem dX11_feed_15 : decode cX11_feed 15 = .ok (.if_icmp .gt 17, 3) := by decide +kernel
theorem dX11_feed_18 : decode cX11_feed 18 = .ok (.aload_n 0, 1) := by decide +kernel
theorem dX11_feed_19 : decode cX11_feed 19 = .ok (.getfield 10, 3) := by decide +kernel
theorem dX11_feed_22 : decode cX11_feed 22 = .ok (.invokevirtual 76, 3) := by decide +kernel
theorem dX11_feed_25 : decode cX11_feed 25 = .ok (.iload_n 1, 1) := by decide +kernel
theorem dX11_feed_26 : decode cX11_feed 26 = .ok (.iadd, 1) := by decide +kernel
theorem dX11_feed_27 : decode cX11_feed 27 = .ok (.bipush 64, 2) := by decide +kernel
theorem dX11_feed_29 : decode cX11_feed 29 = .ok (.if_icmp .le 10, 3) := by decide +kernel
theorem dX11_feed_32 : decode cX11_feed 32 = .ok (.aload_n 0, 1) := by decide +kernel
theorem dX11_feed_33 : decode cX11_feed 33 = .ok (.bipush (-6), 2) := by decide +kernel
theorem dX11_feed_35 : decode cX11_feed 35 = .ok (.invokevirtual 72, 3) := by decide +kernel
theorem dX11_feed_38 : decode cX11_feed 38 = .ok (.ireturn, 1) := by decide +kernel
theorem dX11_feed_39 : decode cX11_feed 39 = .ok (.iconst 0, 1) := by decide +kernel
theorem dX11_feed_40 : decode cX11_feed 40 = .ok (.istore 4, 2) := by decide +kernel
theorem dX11_feed_42 : decode cX11_feed 42 = .ok (.iload 4, 2) := by decide +kernel
theorem dX11_feed_44 : decode cX11_feed 44 = .ok (.iload_n 1, 1) := by decide +kernel
theorem dX11_feed_45 : decode cX11_feed 45 = .ok (.if_icmp .ge 35, 3) := by decide +kernel
theorem dX11_feed_48 : decode cX11_feed 48 = .ok (.iload 4, 2) := by decide +kernel
theorem dX11_feed_50 : decode cX11_feed 50 = .ok (.bipush 8, 2) := by decide +kernel
theorem dX11_feed_52 : decode cX11_feed 52 = .ok (.if_icmp .ge 28, 3) := by decide +kernel
theorem dX11_feed_55 : decode cX11_feed 55 = .ok (.aload_n 0, 1) := by decide +kernel
theorem dX11_feed_56 : decode cX11_feed 56 = .ok (.getfield 10, 3) := by decide +kernel
theorem dX11_feed_59 : decode cX11_feed 59 = .ok (.lload_n 2, 1) := by decide +kernel
theorem dX11_feed_60 : decode cX11_feed 60 = .ok (.bipush 8, 2) := by decide +kernel
theorem dX11_feed_62 : decode cX11_feed 62 = .ok (.iload 4, 2) := by decide +kernel
theorem dX11_feed_64 : decode cX11_feed 64 = .ok (.imul, 1) := by decide +kernel
theorem dX11_feed_65 : decode cX11_feed 65 = .ok (.lshr, 1) := by decide +kernel
theorem dX11_feed_66 : decode cX11_feed 66 = .ok (.ldc2_w 80, 3) := by decide +kernel
theorem dX11_feed_69 : decode cX11_feed 69 = .ok (.land, 1) := by decide +kernel
theorem dX11_feed_70 : decode cX11_feed 70 = .ok (.l2i, 1) := by decide +kernel
theorem dX11_feed_71 : decode cX11_feed 71 = .ok (.invokevirtual 82, 3) := by decide +kernel
theorem dX11_feed_74 : decode cX11_feed 74 = .ok (.iinc 4 1, 3) := by decide +kernel
theorem dX11_feed_77 : decode cX11_feed 77 = .ok (.goto (-35), 3) := by decide +kernel
theorem dX11_feed_80 : decode cX11_feed 80 = .ok (.aload_n 0, 1) := by decide +kernel
theorem dX11_feed_81 : decode cX11_feed 81 = .ok (.getfield 10, 3) := by decide +kernel
theorem dX11_feed_84 : decode cX11_feed 84 = .ok (.invokevirtual 76, 3) := by decide +kernel
theorem dX11_feed_87 : decode cX11_feed 87 = .ok (.ireturn, 1) := by decide +kernel
set_option maxRecDepth 20000 in
theorem ggX11_quiz_X8_takeQuiz : GoodIn wsX11_quiz wsX8_takeQuiz := goodIn_r _ [8, 9, 10, 11, 12, 13, 7, 14, 15, 16, 17, 18, 19, 20, 21, 22, 23, 24, 25, 26, 27, 28, 29, 30, 31, 32, 33, 34, 35, 36, 37, 38, 39, 40, 41, 42, 43, 44, 45, 46, 47, 48, 49, 50, 51, 52, 53, 54, 55, 56, 57, 58, 59, 60, 61, 62, 63, 64, 65, 66, 67, 68, 69, 70, 71, 72, 73, 74, 75, 76, 77, 78, 79, 80, 81, 82, 83, 84, 85, 86, 87, 88, 89, 90, 91, 92, 93, 94, 95, 96, 97, 98, 99, 100, 101, 102, 103, 104, 105, 106, 107, 108, 109, 110, 111, 112, 113, 114, 115, 116, 117, 118, 119, 120, 121, 122, 123, 124, 125, 126, 127, 128, 129, 130, 131, 132, 133, 134, 135, 136, 137, 138, 139, 140, 141, 142, 143, 144, 145, 146, 147, 148, 149, 150, 151, 152, 153, 154, 155, 156, 157, 158, 159, 160, 161, 162, 163, 164, 165, 166, 167, 168, 169, 170, 171, 172, 173, 174, 175, 176, 177, 178, 179, 180, 181, 182, 183, 184, 185, 186, 187, 188, 189, 190, 191, 192, 193, 194, 195, 196, 197, 198, 199, 200, 201, 202, 203, 204, 205, 206, 207, 208, 209, 210, 211, 212, 213, 214, 215, 216, 217, 218, 219, 220, 221, 222, 223, 224, 225, 226, 227, 228, 229, 230, 231, 232, 233, 234, 235, 236, 237, 238, 239, 240, 241, 242, 243, 244, 298, 299, 300, 301, 302, 303, 304, 305, 306, 307, 308, 309, 310, 311, 312, 313, 314, 315, 316, 317, 318, 319, 320, 321, 322, 323, 324, 325, 326, 327, 328, 329, 330, 331, 332, 333, 334, 335, 336, 337, 338, 339, 340, 341, 342, 343, 344, 345, 346, 347, 348, 349, 350, 351, 352, 353, 354, 355, 356, 357, 358, 359, 360, 361, 362] (by decide +kernel) (by decide +kernel)
set_option maxRecDepth 20000 in
theorem gX11_quiz_X8_takeQuiz : GoodIn wsX11_quiz (wsV RX11 86 RX8 yX8_takeQuiz wsX8_takeQuiz) := goodIn_app (goodIn_of _ (by decide +kernel)) ggX11_quiz_X8_takeQuiz
set_option maxRecDepth 20000 in
theorem ggX11_quiz_X8_clear : GoodIn wsX11_quiz wsX8_clear := goodIn_r _ [248, 10, 298, 299, 300, 301, 302, 303, 304, 305, 306, 307, 308, 309] (by decide +kernel) (by decide +kernel)
set_option maxRecDepth 20000 in
theorem gX11_quiz_X8_clear : GoodIn wsX11_quiz (wsV RX11 90 RX8 yX8_clear wsX8_clear) := goodIn_app (goodIn_of _ (by decide +kernel)) ggX11_quiz_X8_clear
set_option maxRecDepth 20000 in
theorem ggX11_quiz_X10_settle : GoodIn wsX11_quiz wsX10_settle := goodIn_r _ [252, 253, 254, 151, 255, 256, 257, 149, 258, 259, 260, 261, 168, 166, 167, 262, 263, 264, 265, 169, 170, 171, 172, 266, 267, 268, 269, 270, 81, 271, 272, 273, 274, 275, 276, 277, 278, 279, 280, 281, 282, 283, 284, 310, 311, 312, 313, 314, 315, 316, 317, 318, 319, 320, 321, 322, 323, 324, 325] (by decide +kernel) (by decide +kernel)
set_option maxRecDepth 20000 in
theorem gX11_quiz_X10_settle : GoodIn wsX11_quiz (wsV RX11 93 RX10 yX10_settle wsX10_settle) := goodIn_app (goodIn_of _ (by decide +kernel)) ggX11_quiz_X10_settle
theorem dX11_quiz_0 : decode cX11_quiz 0 = .ok (.aload_n 0, 1) := by decide +kernel
theorem dX11_quiz_1 : decode cX11_quiz 1 = .ok (.getfield 10, 3) := by decide +kernel
theorem dX11_quiz_4 : decode cX11_quiz 4 = .ok (.aload_n 0, 1) := by decide +kernel
theorem dX11_quiz_5 : decode cX11_quiz 5 = .ok (.getfield 59, 3) := by decide +kernel
theorem dX11_quiz_8 : decode cX11_quiz 8 = .ok (.aload_n 0, 1) := by decide +kernel
theorem dX11_quiz_9 : decode cX11_quiz 9 = .ok (.getfield 68, 3) := by decide +kernel
theorem dX11_quiz_12 : decode cX11_quiz 12 = .ok (.invokevirtual 86, 3) := by decide +kernel
theorem dX11_quiz_15 : decode cX11_quiz 15 = .ok (.istore_n 1, 1) := by decide +kernel
theorem dX11_quiz_16 : decode cX11_quiz 16 = .ok (.aload_n 0, 1) := by decide +kernel
theorem dX11_quiz_17 : decode cX11_quiz 17 = .ok (.getfield 10, 3) := by decide +kernel
theorem dX11_quiz_20 : decode cX11_quiz 20 = .ok (.invokevirtual 90, 3) := by decide +kernel
theorem dX11_quiz_23 : decode cX11_quiz 23 = .ok (.aload_n 0, 1) := by decide +kernel
theorem dX11_quiz_24 : decode cX11_quiz 24 = .ok (.getfield 59, 3) := by decide +kernel
theorem dX11_quiz_27 : decode cX11_quiz 27 = .ok (.invokevirtual 93, 3) := by decide +kernel
theorem dX11_quiz_30 : decode cX11_quiz 30 = .ok (.iload_n 1, 1) := by decide +kernel
theorem dX11_quiz_31 : decode cX11_quiz 31 = .ok (.ireturn, 1) := by decide +kernel
set_option maxRecDepth 20000 in
theorem ggX11_word_X10_has : GoodIn wsX11_word wsX10_has := goodIn_r _ [6, 7, 53, 54, 55, 56, 57, 58, 59, 60, 61, 62, 63, 64, 65, 66, 67, 68] (by decide +kernel) (by decide +kernel)
set_option maxRecDepth 20000 in
theorem gX11_word_X10_has : GoodIn wsX11_word (wsV RX11 96 RX10 yX10_has wsX10_has) := goodIn_app (goodIn_of _ (by decide +kernel)) ggX11_word_X10_has
set_option maxRecDepth 20000 in
theorem ggX11_word_X11_refuse : GoodIn wsX11_word wsX11_refuse := goodIn_r _ [12, 13, 40, 41, 42, 43, 44, 45, 46, 47, 48, 49, 50, 51, 52] (by decide +kernel) (by decide +kernel)
set_option maxRecDepth 20000 in
theorem gX11_word_X11_refuse : GoodIn wsX11_word (wsV RX11 72 RX11 yX11_refuse wsX11_refuse) := goodIn_app (goodIn_of _ (by decide +kernel)) ggX11_word_X11_refuse
set_option maxRecDepth 20000 in
theorem ggX11_word_X10_parentOf : GoodIn wsX11_word wsX10_parentOf := goodIn_r _ [17, 18, 19, 3, 4, 5, 6, 7, 53, 54, 55, 56, 57, 58, 59, 60, 61, 62, 63, 64, 65, 66, 67, 68] (by decide +kernel) (by decide +kernel)
set_option maxRecDepth 20000 in
theorem gX11_word_X10_parentOf : GoodIn wsX11_word (wsV RX11 100 RX10 yX10_parentOf wsX10_parentOf) := goodIn_app (goodIn_of _ (by decide +kernel)) ggX11_word_X10_parentOf
set_option maxRecDepth 20000 in
theorem ggX11_word_X10_weightOf : GoodIn wsX11_word wsX10_weightOf := goodIn_r _ [23, 24, 19, 3, 4, 5, 6, 7, 53, 54, 55, 56, 57, 58, 59, 60, 61, 62, 63, 64, 65, 66, 67, 68] (by decide +kernel) (by decide +kernel)
set_option maxRecDepth 20000 in
theorem gX11_word_X10_weightOf : GoodIn wsX11_word (wsV RX11 103 RX10 yX10_weightOf wsX10_weightOf) := goodIn_app (goodIn_of _ (by decide +kernel)) ggX11_word_X10_weightOf
set_option maxRecDepth 20000 in
theorem ggX11_word_X10_answerOf : GoodIn wsX11_word wsX10_answerOf := goodIn_r _ [28, 29, 19, 3, 4, 5, 6, 7, 53, 54, 55, 56, 57, 58, 59, 60, 61, 62, 63, 64, 65, 66, 67, 68] (by decide +kernel) (by decide +kernel)
set_option maxRecDepth 20000 in
theorem gX11_word_X10_answerOf : GoodIn wsX11_word (wsV RX11 106 RX10 yX10_answerOf wsX10_answerOf) := goodIn_app (goodIn_of _ (by decide +kernel)) ggX11_word_X10_answerOf
set_option maxRecDepth 20000 in
theorem ggX11_word_X10_lengthOf : GoodIn wsX11_word wsX10_lengthOf := goodIn_r _ [33, 34, 19, 3, 4, 5, 6, 7, 53, 54, 55, 56, 57, 58, 59, 60, 61, 62, 63, 64, 65, 66, 67, 68] (by decide +kernel) (by decide +kernel)
set_option maxRecDepth 20000 in
theorem gX11_word_X10_lengthOf : GoodIn wsX11_word (wsV RX11 109 RX10 yX10_lengthOf wsX10_lengthOf) := goodIn_app (goodIn_of _ (by decide +kernel)) ggX11_word_X10_lengthOf
set_option maxRecDepth 20000 in
theorem ggX11_word_X10_nextsOf : GoodIn wsX11_word wsX10_nextsOf := goodIn_r _ [38, 39, 19, 3, 4, 5, 6, 7, 53, 54, 55, 56, 57, 58, 59, 60, 61, 62, 63, 64, 65, 66, 67, 68] (by decide +kernel) (by decide +kernel)
set_option maxRecDepth 20000 in
theorem gX11_word_X10_nextsOf : GoodIn wsX11_word (wsV RX11 112 RX10 yX10_nextsOf wsX10_nextsOf) := goodIn_app (goodIn_of _ (by decide +kernel)) ggX11_word_X10_nextsOf
theorem dX11_word_0 : decode cX11_word 0 = .ok (.aload_n 0, 1) := by decide +kernel
theorem dX11_word_1 : decode cX11_word 1 = .ok (.getfield 59, 3) := by decide +kernel
theorem dX11_word_4 : decode cX11_word 4 = .ok (.iload_n 1, 1) := by decide +kernel
theorem dX11_word_5 : decode cX11_word 5 = .ok (.invokevirtual 96, 3) := by decide +kernel
theorem dX11_word_8 : decode cX11_word 8 = .ok (.ifCond .ne 9, 3) := by decide +kernel
theorem dX11_word_11 : decode cX11_word 11 = .ok (.aload_n 0, 1) := by decide +kernel
theorem dX11_word_12 : decode cX11_word 12 = .ok (.iconst (-1), 1) := by decide +kernel
theorem dX11_word_13 : decode cX11_word 13 = .ok (.invokevirtual 72, 3) := by decide +kernel
theorem dX11_word_16 : decode cX11_word 16 = .ok (.ireturn, 1) := by decide +kernel
theorem dX11_word_17 : decode cX11_word 17 = .ok (.iload_n 2, 1) := by decide +kernel
theorem dX11_word_18 : decode cX11_word 18 = .ok (.tableswitch 79 0 4 #[34, 43, 52, 61, 70], 34) := by decide +kernel
theorem dX11_word_52 : decode cX11_word 52 = .ok (.aload_n 0, 1) := by decide +kernel
theorem dX11_word_53 : decode cX11_word 53 = .ok (.getfield 59, 3) := by decide +kernel
theorem dX11_word_56 : decode cX11_word 56 = .ok (.iload_n 1, 1) := by decide +kernel
theorem dX11_word_57 : decode cX11_word 57 = .ok (.invokevirtual 100, 3) := by decide +kernel
theorem dX11_word_60 : decode cX11_word 60 = .ok (.ireturn, 1) := by decide +kernel
theorem dX11_word_61 : decode cX11_word 61 = .ok (.aload_n 0, 1) := by decide +kernel
